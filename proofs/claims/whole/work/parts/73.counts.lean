/-! counts, undone -/
section
variable {w A : Wd}
theorem zc_prep (hL : TLD w A) (hI : INV A) (hX : NCH A) (h0 : 0 < nLa A) : OK (f_X7_prepare w) (fun w' => RDY w' A ∧ w'.1 8 13 = w'.1 3 6 ∧ FX PP w w') := by
  have hI' := hI
  obtain ⟨hN, hW, -, -, -⟩ := hI
  have hL4 := hN.1.2
  have h8 := hN.2.2.1.2
  have tfr : ∀ v, FX PP w v → TLD v A := fun v h => hL.fr hN (PCS_t (PP_s h))
  have last : ∀ v, FX PP w v → PRA v A → v.1 8 9 = nI (lwX A (-1)) → RB (v.1 8 10) (usF A 0) → OK (X7_prepare_b60_L 0 v) (fun w' => RDY w' A ∧ w'.1 8 13 = w'.1 3 6 ∧ FX PP w w') := by
    intro v0 hF0 hp e9 h10
    refine lo2 (fun n y v => ∃ i, n = nTh A - i ∧ i ≤ nTh A ∧ y = nI i ∧ FX PP w v ∧ PRA v A ∧ v.1 8 9 = nI (lwX A (-1)) ∧ RB (v.1 8 10) (usF A i) ∧ ∀ t, t < i → v.1 13 t = nI (lwX A (nI t))) ?_ fu (nTh A - 0) 0 v0 (by rw [fu_eq]; omega) ⟨0, rfl, Nat.zero_le _, rfl, hF0, hp, e9, h10, fun t ht => by omega⟩
    rintro n k y v ⟨i, rfl, hi, rfl, hF, hp, e9, h10, ht⟩ hk
    have hLv := tfr v hF
    rw [X7_prepare_b60, hLv.1.1.2.2, hN.2.2.1.1]
    by_cases hin : i < nTh A
    · refine OK.f (nI_ge hin (by omega)) ?_
      obtain ⟨r, e, e1, -⟩ := zc_law2 hLv.1 hN hW h0 (x := nI i) (Or.inr ⟨i, hin, rfl⟩)
      have hlt := lwX_lt hW hN h0 (x := nI i) (Or.inr ⟨i, hin, rfl⟩)
      rw [e, cl_s]
      refine OK.t (z_inb (by omega) (by omega)) (OK.l (OK.t (z_inb (by omega) (by omega)) (OK.l ?_)))
      rw [nI_clamp (by omega), e1, wI_s]
      refine hk _ _ _ (by omega) ⟨i + 1, rfl, hin, nI_1 i, (hF.tr (FX.w v _ (by unfold PP; omega))).tr (FX.w _ _ (by unfold PP; omega)), fun l hl => (hp l hl).fr (fun k => ⟨fun _ => ?_, ?_⟩), ?_, ?_, fun t ht2 => ?_⟩
      · rw [wI_g, if_neg (by omega), wI_g, if_neg (by omega)]
      · rw [wI_g, if_neg (by omega), wI_g, if_neg (by omega)]
      · rw [wI_g, if_neg (by omega), wI_g, if_neg (by omega)]; exact e9
      · rw [wI_s, wI_g, if_neg (by omega)]
        exact h10.or (RB.one (by omega))
      · rw [wI_g, if_neg (by omega), wI_g]
        by_cases q : t = i
        · rw [if_pos ⟨rfl, q⟩, q]
        · rw [if_neg (fun h => q h.2)]; exact ht t (by omega)
    · have e : i = nTh A := by omega
      subst e
      refine OK.t (nI_le (Nat.le_refl _) (by omega)) (OK.l (OK.s ⟨⟨fun l hl => (hp l hl).fr (fun k => ⟨fun _ => ?_, ?_⟩), ?_, ?_, fun t ht2 => ?_⟩, ?_, hF.tr (FX.w v _ (by unfold PP; omega))⟩))
      · rw [wI_g, if_neg (by omega)]
      · rw [wI_g, if_neg (by omega)]
      · rw [wI_g, if_neg (by omega)]; exact e9
      · rw [wI_g, if_neg (by omega)]; exact h10
      · rw [wI_g, if_neg (by omega)]; exact ht t ht2
      · rw [wI_s, wI_g, if_neg (by omega)]
  unfold f_X7_prepare
  refine lo2 (fun n y v => ∃ i, n = nLa A - i ∧ i ≤ nLa A ∧ y = nI i ∧ FX PP w v ∧ ∀ l, l < i → PRS v A (84 + 3 * l) (gdA A l) (uaA A) l) ?_ fu (nLa A - 0) 0 w (by rw [fu_eq]; omega) ⟨0, rfl, Nat.zero_le _, rfl, FX.rf _ w, fun l hl => by omega⟩
  rintro n k y v ⟨i, rfl, hi, rfl, hF, hp⟩ hk
  have hLv := tfr v hF
  rw [X7_prepare_b10, hLv.1.1.1, hN.1.1]
  by_cases hin : i < nLa A
  · refine OK.f (nI_ge hin (by omega)) (OK.t (z_inb (by omega) (by omega)) ?_)
    rw [nI_clamp (by omega)]
    refine OK.v ((zc_setLaw hLv hI' hX (s := 84 + 3 * i) (by omega) hin).m ?_)
    rintro v2 ⟨hR2, hF2⟩
    refine hk _ _ _ (by omega) ⟨i + 1, rfl, hin, nI_1 i, hF.tr (hF2.mo (fun a k q => by unfold PL at q; unfold PP; omega)), fun l hl => ?_⟩
    by_cases q : l = i
    · rw [q]; exact hR2
    · exact (hp l (by omega)).fr (fun k => ⟨fun _ => hF2.2 _ _ (by unfold PL; omega), hF2.2 _ _ (by unfold PL; omega)⟩)
  · have e : i = nLa A := by omega
    subst e
    refine OK.t (nI_le (Nat.le_refl _) (by omega)) ?_
    obtain ⟨r, e, e1, -⟩ := zc_law2 hLv.1 hN hW h0 (x := -1) (Or.inl rfl)
    have hlt := lwX_lt hW hN h0 (x := -1) (Or.inl rfl)
    rw [e, cl_s]
    refine OK.l (OK.l ?_)
    rw [e1, wI_s]
    refine last _ ((hF.tr (FX.w v _ (by unfold PP; omega))).tr (FX.w _ _ (by unfold PP; omega))) (fun l hl => (hp l hl).fr (fun k => ⟨fun _ => ?_, ?_⟩)) ?_ ?_
    · rw [wI_g, if_neg (by omega), wI_g, if_neg (by omega)]
    · rw [wI_g, if_neg (by omega), wI_g, if_neg (by omega)]
    · rw [wI_g, if_neg (by omega), wI_s]
    · rw [wI_s]; exact RB.one (by omega)
theorem zc_ready (hL : TLD w A) (hI : INV A) (hX : NCH A) (h0 : 0 < nLa A) (hp : PRP w A) : OK (f_X7_makeReady w) (fun w' => RDY w' A ∧ w'.1 8 13 = w'.1 3 6 ∧ FX PP w w') := by
  unfold f_X7_makeReady
  by_cases c : w.1 8 13 = w.1 3 6
  · exact OK.t c (OK.s ⟨hp.1 c, c, FX.rf _ w⟩)
  · refine OK.f c (OK.v ((zc_prep hL hI hX h0).m ?_))
    intro v h
    exact OK.s h
theorem zc_setWay {way : Nat} (hw : way < 2 ^ 31) : f_X7_setWay (nI way) w = some (wI (wI w 8 11 (nI (way / 8))) 8 12 (nI (way % 8))) := by
  unfold f_X7_setWay
  rw [k8, pk_rem hw (by omega) (by omega), pk_div hw (by omega) (by omega)]; rfl
theorem zc_standIn (hL : TLD w A) (hI : INV A) (hr : RDY w A) {way l : Nat} (hw : way < nWy A) (hl : l < nLa A) : OK (f_X7_standingIn (nI way) (nI l) w) (fun p => p.1 = 84 + 3 * l ∧ STC (84 + 3 * l) p.2 (RU A l way) ∧ RB (p.2.1 (84 + 3 * l) 1) (cnS A (RU A l way).1) ∧ FX PQ w p.2) := by
  have hI' := hI
  obtain ⟨hN, -, -, -, -⟩ := hI
  have hL4 := hN.1.2
  have hww := nWy_le hN
  obtain ⟨ho, -⟩ := nWy_or hw
  unfold f_X7_standingIn
  rw [zc_setWay (by omega), cv_s]
  have hF1 : FX PQ w (wI (wI w 8 11 (nI (way / 8))) 8 12 (nI (way % 8))) := (FX.w w _ (by unfold PQ; omega)).tr (FX.w _ _ (by unfold PQ; omega))
  have e11 : (wI (wI w 8 11 (nI (way / 8))) 8 12 (nI (way % 8))).1 8 11 = nI (way / 8) := by rw [wI_g, if_neg (by omega), wI_s]
  have e12 : (wI (wI w 8 11 (nI (way / 8))) 8 12 (nI (way % 8))).1 8 12 = nI (way % 8) := wI_s _ _ _ _
  generalize wI (wI w 8 11 (nI (way / 8))) 8 12 (nI (way % 8)) = w1 at hF1 e11 e12 ⊢
  refine OK.t (z_inb (by omega) (by omega)) ?_
  rw [nI_clamp (by omega), e11, e12]
  refine OK.v ((zc_run (hL.fr hN (PCS_t (PQ_s hF1))) hI' (by omega) ((hr.fq hN hF1).1 l hl) (fun i hi => ?_) ho (f := way % 8) (by omega)).m ?_)
  · unfold gdA at hi
    rw [Bool.and_eq_true] at hi
    exact of_decide_eq_true hi.1
  · rintro v ⟨h1, h2, h3⟩
    exact OK.t (z_inb (by omega) (by omega)) (OK.s ⟨rfl, h1, h2, hF1.tr (PS_q (by omega) h3)⟩)
end
/-- two answers alike, worlds changed in their scratch alone -/
def QQ (wc wm A : Wd) (fc fm : Option (Int32 × Wd)) : Prop := ∃ r wc1 wm1, fc = some (r, wc1) ∧ fm = some (r, wm1) ∧ FX PCS wc wc1 ∧ PRP wc1 A ∧ FX PMS wm wm1
theorem QQ.rf {wc wm A : Wd} {r : Int32} (h : PRP wc A) : QQ wc wm A (some (r, wc)) (some (r, wm)) := ⟨r, wc, wm, rfl, rfl, FX.rf _ _, h, FX.rf _ _⟩
section
variable {wc wm A : Wd}
theorem q_counts (hL : TLD wc A) (hI : INV A) (hX : NCH A) (hp : PRP wc A) (hT : tol wm = A) (a b : Int32) : QQ wc wm A (f_X11_counts a b wc) (f_X12_counts a b wm) := by
  have hN := hI.1
  have hL4 := hN.1.2
  have hww := nWy_le hN
  unfold f_X11_counts f_X12_counts
  rw [zc_isWay hL.1 hL.2.2.1 hN, zm_isWay hT hN, cl_s, cl_s, if_b0, if_b0]
  by_cases h1 : rng a (nI (nWy A)) = false
  · rw [if_pos h1, if_pos h1]; exact QQ.rf hp
  rw [if_neg h1, if_neg h1, zc_isLand, zm_isLand hT, hL.1.1.1, hN.1.1, cl_s, cl_s, if_b0, if_b0]
  by_cases h2 : rng b (nI (nLa A)) = false
  · rw [if_pos h2, if_pos h2]; exact QQ.rf hp
  rw [if_neg h2, if_neg h2]
  rw [Bool.not_eq_false] at h1 h2
  obtain ⟨way, hw, rfl⟩ := rng_ex (by omega) h1
  obtain ⟨l, hl, rfl⟩ := rng_ex (by omega) h2
  obtain ⟨ho, h0⟩ := nWy_or hw
  obtain ⟨w1, e1, hr1, hc1, hF1⟩ := zc_ready hL hI hX h0 hp
  obtain ⟨⟨r2, w2⟩, e2, hr2, hM2, hk2, hF2⟩ := zc_standIn (hL.fr hN (PCS_t (PP_s hF1))) hI hr1 hw hl
  dsimp only at hr2 hM2 hk2 hF2
  subst hr2
  rw [e1, cv_s, e2, cl_s]
  obtain ⟨m1, f1, hM, hFm⟩ := zm_bring hT hI ho (f := way % 8) (by omega) hl
  obtain ⟨⟨r3, m2⟩, f2, hk, hm2⟩ := zm_count (hFm.tol hT) hI hM.1
  dsimp only at hk hm2
  subst hm2
  rw [k8, pk_rem (by omega) (by omega) (by omega), pk_div (by omega) (by omega) (by omega), f1, cv_s, f2, cl_s]
  refine ⟨r3, w2, m2, ?_, rfl, (PP_s hF1).tr (PQ_s hF2), hp.q hN hr1 hc1 hF1 hF2, PG_s hFm.x⟩
  rw [hk2.eq hk]
theorem q_undone (hL : TLD wc A) (hI : INV A) (hX : NCH A) (hp : PRP wc A) (hT : tol wm = A) (x a b : Int32) : QQ wc wm A (f_X11_undone x a b wc) (f_X12_undone x a b wm) := by
  have hN := hI.1
  have hL4 := hN.1.2
  have h4 := hN.2.2.2.1.2
  have hww := nWy_le hN
  unfold f_X11_undone f_X12_undone
  rw [zc_isPaper, zm_isPaper hT, hL.2.1.1, hN.2.2.2.1.1, cl_s, cl_s, if_b0, if_b0]
  by_cases h0 : rng x (nI (nPa A)) = false
  · rw [if_pos h0, if_pos h0]; exact QQ.rf hp
  rw [if_neg h0, if_neg h0, zc_isWay hL.1 hL.2.2.1 hN, zm_isWay hT hN, cl_s, cl_s, if_b0, if_b0]
  by_cases h1 : rng a (nI (nWy A)) = false
  · rw [if_pos h1, if_pos h1]; exact QQ.rf hp
  rw [if_neg h1, if_neg h1, zc_isLand, zm_isLand hT, hL.1.1.1, hN.1.1, cl_s, cl_s, if_b0, if_b0]
  by_cases h2 : rng b (nI (nLa A)) = false
  · rw [if_pos h2, if_pos h2]; exact QQ.rf hp
  rw [if_neg h2, if_neg h2]
  rw [Bool.not_eq_false] at h0 h1 h2
  obtain ⟨p, hpp, rfl⟩ := rng_ex (by omega) h0
  obtain ⟨way, hw, rfl⟩ := rng_ex (by omega) h1
  obtain ⟨l, hl, rfl⟩ := rng_ex (by omega) h2
  obtain ⟨ho, h0⟩ := nWy_or hw
  obtain ⟨w1, e1, hr1, hc1, hF1⟩ := zc_ready hL hI hX h0 hp
  obtain ⟨⟨r2, w2⟩, e2, hr2, hM2, hk2, hF2⟩ := zc_standIn (hL.fr hN (PCS_t (PP_s hF1))) hI hr1 hw hl
  dsimp only at hr2 hM2 hk2 hF2
  subst hr2
  rw [e1, cv_s, e2, cl_s]
  obtain ⟨m1, f1, hM, hFm⟩ := zm_bring hT hI ho (f := way % 8) (by omega) hl
  rw [k8, pk_rem (by omega) (by omega) (by omega), pk_div (by omega) (by omega) (by omega), f1, cv_s, z_inb (by omega) (by omega), if_pos rfl, if_pos rfl, nI_clamp (by omega), hM.2.2.2 p hpp, hM2.2.2.2 p (by omega)]
  exact ⟨_, w2, m1, rfl, rfl, (PP_s hF1).tr (PQ_s hF2), hp.q hN hr1 hc1 hF1 hF2, PG_s hFm.x⟩
end
