/-! money, the reference's side -/
def PMo (a k : Nat) : Prop := (a = 0 ∧ k = 79) ∨ (48 ≤ a ∧ a ≤ 50)
theorem PMo_t {w w' A : Wd} (h : FX PMo w w') (hT : tol w = A) : tol w' = A := h.ot hT (fun k hk => by unfold PMo; omega) (fun o k ho => by unfold PMo; omega)
theorem PMo_48 {w w' : Wd} (h : FX (PO 48) w w') : FX PMo w w' := h.mo (fun a k q => by unfold PO at q; unfold PMo; omega)
def HO (u : Wd) (L : List Nat) : Prop := ∀ k, k < L.length → u.1 50 k = nI (gdL L k)
theorem pd_bump {A : Wd} {L : List Nat} {k i : Nat} (hk : k < L.length) : pdF A L (fun j => owS A L j + if j < k + 1 then 1 else 0) L.length i = pdF A L (fun j => owS A L j + if j < k then 1 else 0) L.length i + (if toS A (gdL L k) = i then 1 else 0) := by
  have h1 := sm_one (fun j => if toS A (gdL L j) = i then 1 else 0) k L.length
  rw [if_pos hk] at h1
  rw [← h1]
  unfold pdF
  rw [← fb_sm_add]
  refine fb_sm_cong (fun j hj => ?_)
  by_cases c : toS A (gdL L j) = i
  · rw [if_pos c, if_pos c, if_pos c]
    try dsimp only
    by_cases e : k = j
    · subst e; simp
    · by_cases h : j < k
      · simp [e, h, show j < k + 1 by omega]
      · simp [e, h, show ¬ j < k + 1 by omega]
  · rw [if_neg c, if_neg c, if_neg c]
    split <;> rfl
theorem zm_there {w A : Wd} (hT : tol w = A) (hPe : PEI A) : f_X12_moneyThere w = some (nI (thM A), w) := by
  obtain ⟨a, ha, ea⟩ := hPe.2.2.2.1
  obtain ⟨b, hb, eb⟩ := hPe.2.2.2.2.1
  have hth : thM A = a - b := by unfold thM; rw [ea, eb, nI_clamp (by omega), nI_clamp (by omega)]
  unfold f_X12_moneyThere
  rw [tol_0 hT 14 rfl, tol_0 hT 15 rfl, ea, eb, hth]
  by_cases c : b < a
  · rw [pk_sub (by omega), if_pos (show (0 : Int32) < nI (a - b) from nI_lt (a := 0) (by omega) (by omega))]
  · have h1 := pk_sub_toInt (a := a) (b := b) (by omega) (by omega)
    rw [if_neg (fun h => by rw [z_lt, h1] at h; have z : (0 : Int32).toInt = 0 := rfl; omega), show a - b = 0 by omega]; rfl
theorem zm_money {w A : Wd} (hT : tol w = A) (hI : INV A) (hPe : PEI A) (h0l : 0 < nLa A) {o f : Nat} {cn vo : Nat → Bool} (hM : MV' w cn vo (lwX A (-1))) (ho : o < nOr A) (hw : w.1 0 88 = nI o) (hf : w.1 0 89 = nI f) : OK (f_X12_goMoney w) (fun w' => PV w' 49 (pdS A (pyP A (lwX A (-1)) cn vo f o (nIt A))) ∧ PV w' 48 (fun i => plV A (lwX A (-1)) cn vo o (thM A - alS A (pyP A (lwX A (-1)) cn vo f o (nIt A))) i + pdS A (pyP A (lwX A (-1)) cn vo f o (nIt A)) i) ∧ FX PMo w w') := by
  have hN := hI.1
  have h4 := hN.2.2.2.1.2
  have h8 := hN.2.1.2
  have hL4 := hN.1.2
  have h6 : nIt A ≤ 6 := hN.2.2.2.2.2.1
  have hor := hN.2.2.2.2.2.2.1.2
  have hl := lwX_lt hI.2.1 hN h0l (x := -1) (Or.inl rfl)
  have hth : thM A < 100000 := by
    obtain ⟨a, ha, ea⟩ := hPe.2.2.2.1
    unfold thM; rw [ea, nI_clamp (by omega)]; omega
  unfold f_X12_goMoney
  rw [zm_lawFor hT hN hI.2.1 h0l (x := -1) (Or.inl rfl), cl_s, zm_there ((tol_w0 w 79 _ rfl).trans hT) hPe, cl_s, zm_noParts, cv_s]
  generalize lwX A (-1) = l at hM hl ⊢
  have hF1 : FX PMo w (wC (wI w 0 79 (bI (rgX A (-1)))) 48 (fun k => if k < 8 then 0 else (wI w 0 79 (bI (rgX A (-1)))).1 48 k)) := (FX.w w _ (by unfold PMo; omega)).tr (FX.c _ _ (fun k => by unfold PMo; omega))
  have hz : PV (wC (wI w 0 79 (bI (rgX A (-1)))) 48 (fun k => if k < 8 then 0 else (wI w 0 79 (bI (rgX A (-1)))).1 48 k)) 48 (fun _ => 0) := fun i hi => by rw [wC_g, if_pos rfl, if_pos hi]; rfl
  generalize wC (wI w 0 79 (bI (rgX A (-1)))) 48 (fun k => if k < 8 then 0 else (wI w 0 79 (bI (rgX A (-1)))).1 48 k) = w1 at hF1 hz ⊢
  have at1 : ∀ u, FX PMo w u → tol u = A ∧ MV' u cn vo l ∧ u.1 0 88 = nI o ∧ u.1 0 89 = nI f := fun u h => ⟨PMo_t h hT, ⟨by rw [h.2 _ _ (by unfold PMo; omega)]; exact hM.1, by rw [h.2 _ _ (by unfold PMo; omega)]; exact hM.2⟩, by rw [h.2 _ _ (by unfold PMo; omega)]; exact hw, by rw [h.2 _ _ (by unfold PMo; omega)]; exact hf⟩
  -- the whole list
  have rest : ∀ L, PYL A L → L.length ≤ 32 → ∀ u, FX PMo w u → HO u L → PV u 48 (fun _ => 0) → OK (X12_goMoney_b148_L (nI l) (nI (thM A)) (nI L.length) (lN (alS A L)) 0 u) (fun w' => PV w' 49 (pdS A L) ∧ PV w' 48 (fun i => plV A l cn vo o (thM A - alS A L) i + pdS A L i) ∧ FX PMo w w') := by
    intro L hL hL32 u0 hFu0 hHO0 hz0
    have hal : alS A L ≤ 3199968 := by
      have := su_le hI hL L.length (Nat.le_refl _)
      unfold alS; omega
    have b339 : ∀ u v, FX PMo w u → PV u 49 (pdS A L) → PV u 48 v → OK (X12_goMoney_b339_L 0 u) (fun w' => PV w' 49 (pdS A L) ∧ PV w' 48 (fun i => v i + pdS A L i) ∧ FX PMo w w') := by
      intro u v hFu h49 h48
      refine lo2 (fun n y x => ∃ i, n = nPe A - i ∧ i ≤ nPe A ∧ y = nI i ∧ FX PMo w x ∧ PV x 49 (pdS A L) ∧ ∀ j, j < 8 → x.1 48 j = nI (v j + if j < i then pdS A L j else 0)) ?_ fu (nPe A - 0) 0 u (by rw [fu_eq]; omega) ⟨0, rfl, Nat.zero_le _, rfl, hFu, h49, fun j hj => by rw [if_neg (by omega), Nat.add_zero]; exact h48 j hj⟩
      rintro n k y x ⟨i, rfl, hi, rfl, hFx, hx49, hx48⟩ hk
      rw [X12_goMoney_b339, tol_0 (at1 x hFx).1 11 rfl, hN.2.1.1]
      by_cases hin : i < nPe A
      · refine OK.f (nI_ge hin (by omega)) (OK.t (z_inb (by omega) (by omega)) (OK.t (z_inb (by omega) (by omega)) (OK.t (z_inb (by omega) (by omega)) (OK.l ?_))))
        rw [nI_clamp (by omega), hx48 i (by omega), hx49 i (by omega), nI_add, if_neg (show ¬ i < i by omega), Nat.add_zero]
        refine hk _ _ _ (by omega) ⟨i + 1, rfl, hin, nI_1 i, hFx.tr (FX.w x _ (by unfold PMo; omega)), fun j hj => ?_, fun j hj => ?_⟩
        · try dsimp only
          rw [wI_g, if_neg (by omega)]; exact hx49 j hj
        · try dsimp only
          rw [wI_g]
          by_cases e : j = i
          · rw [if_pos ⟨rfl, e⟩, if_pos (by omega), e]
          · rw [if_neg (fun h => e h.2), hx48 j hj]
            by_cases h : j < i
            · rw [if_pos h, if_pos (by omega)]
            · rw [if_neg h, if_neg (by omega)]
      · have e : i = nPe A := by omega
        subst e
        refine OK.t (nI_le (Nat.le_refl _) (by omega)) (OK.s ⟨hx49, fun j hj => ?_, hFx⟩)
        rw [hx48 j hj]
        by_cases h : j < nPe A
        · rw [if_pos h]
        · have hp0 : pdS A L j = 0 := pd_hi hI hL (by omega) _ (Nat.le_refl _)
          rw [if_neg h]
          dsimp only
          rw [hp0]
    have b313 : ∀ u, FX PMo w u → PV u 49 (pdS A L) → PV u 48 (fun _ => 0) → OK (X12_goMoney_b313 (nI l) (nI (thM A - alS A L)) u) (fun w' => PV w' 49 (pdS A L) ∧ PV w' 48 (fun i => plV A l cn vo o (thM A - alS A L) i + pdS A L i) ∧ FX PMo w w') := by
      intro u hFu h49 h48
      obtain ⟨hTu, hMu, hwu, -⟩ := at1 u hFu
      unfold X12_goMoney_b313
      by_cases c : thM A - alS A L = 0
      · rw [c]
        refine OK.t (by decide) ((b339 u (fun _ => 0) hFu h49 h48).m ?_)
        rintro x ⟨q1, q2, q3⟩
        refine ⟨q1, fun i hi => ?_, q3⟩
        dsimp only
        rw [plV_0]; exact q2 i hi
      · refine OK.f (nI_nle (by omega) (by omega)) (OK.c ((zm_leave hTu hI hMu hl ho hwu (m := thM A - alS A L) (by omega) h48).m ?_))
        rintro ⟨r, u2⟩ hu2
        dsimp only at hu2 ⊢
        unfold plV
        rcases hu2 with ⟨hn, rfl, rfl⟩ | ⟨set, hs, rfl, g1, g2⟩
        · rw [hn]
          dsimp only
          refine OK.t rfl (OK.c ((zm_byKin hTu hI hPe hl (m := thM A - alS A L) (by omega) h48).m ?_))
          rintro ⟨r3, u3⟩ hu3
          dsimp only at hu3 ⊢
          rcases hu3 with ⟨c1, c2, -, rfl⟩ | ⟨hor2, -, g1, g2⟩
          · rw [c1, c2]
            exact b339 _ _ hFu h49 h48
          · have hor3 : (hwS A || hsK A) = true := by
              rcases hor2 with h | h
              · rw [h, Bool.true_or]
              · rw [h, Bool.or_true]
            simp only [hor3, if_true]
            refine (b339 _ (fun i => kvS A l (thM A - alS A L) i) (hFu.tr (PMo_48 g2)) (fun i hi => ?_) (fun i hi => ?_)).m (fun x hx => hx)
            · rw [g2.2 _ _ (by unfold PO; omega)]; exact h49 i hi
            · have := g1 i hi
              dsimp only at this
              rw [Nat.zero_add] at this
              exact this
        · rw [hs]
          dsimp only
          refine OK.f (by decide) ((b339 _ (fun i => eqP set (thM A - alS A L) i) (hFu.tr (PMo_48 g2)) (fun i hi => ?_) (fun i hi => ?_)).m (fun x hx => hx))
          · rw [g2.2 _ _ (by unfold PO; omega)]; exact h49 i hi
          · have := g1 i hi
            dsimp only at this
            rw [Nat.zero_add] at this
            exact this
    have hcmp : (lg_cmp (lN (alS A L)) (Int32.toInt64 (nI (thM A))) ≤ 0) ↔ alS A L ≤ thM A := by
      rw [lg_cmp_le, nI_l (by omega), lN_le (by omega) (by omega)]
    have b264 : ∀ u, FX PMo w u → HO u L → PV u 49 (pdF A L (owS A L) L.length) → PV u 48 (fun _ => 0) → OK (X12_goMoney_b264_L (nI l) (nI (thM A)) (nI L.length) (lN (alS A L)) (nI (ovS A L)) 0 u) (fun w' => PV w' 49 (pdS A L) ∧ PV w' 48 (fun i => plV A l cn vo o (thM A - alS A L) i + pdS A L i) ∧ FX PMo w w') := by
      intro u hFu hHO h49 h48
      have hov : ovS A L < 100000 := by unfold ovS; omega
      by_cases c : alS A L ≤ thM A
      · have ho2 : ovS A L = thM A - alS A L := by
          unfold ovS
          rw [show owF A L L.length = alS A L from fb_sm_cong (fun j hj => by unfold owS; rw [if_pos c])]
        have hpd : ∀ i, pdF A L (owS A L) L.length i = pdS A L i := fun i => fb_sm_cong (fun j hj => by
          have e : amS A L j = owS A L j := by unfold amS; rw [if_neg (show ¬ (¬ alS A L ≤ thM A ∧ j < ovS A L) from fun h => h.1 c), Nat.add_zero]
          rw [e])
        have hone : X12_goMoney_b264_L (nI l) (nI (thM A)) (nI L.length) (lN (alS A L)) (nI (ovS A L)) 0 u = X12_goMoney_b313 (nI l) (nI (ovS A L)) u := by
          unfold X12_goMoney_b264_L
          rw [lp_fu]
          show X12_goMoney_b264 (lp 19999 _ _) (nI l) (nI (thM A)) (nI L.length) (lN (alS A L)) (nI (ovS A L)) 0 u = _
          rw [X12_goMoney_b264]
          by_cases e : nI L.length ≤ 0
          · rw [if_pos e]
          · rw [if_neg e, if_pos (hcmp.mpr c)]
        rw [hone, ho2]
        exact b313 u hFu (fun i hi => by rw [h49 i hi, hpd i]) h48
      · have hovl := ov_le L c
        refine lo7 (fun n y1 y2 y3 y4 y6 y7 x => ∃ k, n = L.length - k ∧ k ≤ ovS A L ∧ y1 = nI l ∧ y2 = nI (thM A) ∧ y3 = nI L.length ∧ y4 = lN (alS A L) ∧ y6 = nI (ovS A L - k) ∧ y7 = nI k ∧ FX PMo w x ∧ HO x L ∧ PV x 49 (pdF A L (fun j => owS A L j + if j < k then 1 else 0) L.length) ∧ PV x 48 (fun _ => 0)) ?_ fu (L.length - 0) (nI l) (nI (thM A)) (nI L.length) (lN (alS A L)) (nI (ovS A L)) 0 u (by rw [fu_eq]; omega) ⟨0, rfl, Nat.zero_le _, rfl, rfl, rfl, rfl, rfl, rfl, hFu, hHO, fun i hi => by rw [h49 i hi]; rfl, h48⟩
        rintro n kk a1 a2 a3 a4 a6 a7 x ⟨k, rfl, hk, rfl, rfl, rfl, rfl, rfl, rfl, hFx, hHx, hx49, hx48⟩ hkk
        rw [X12_goMoney_b264]
        have fin : k = ovS A L → OK (X12_goMoney_b313 (nI l) (nI (ovS A L - k)) x) (fun w' => PV w' 49 (pdS A L) ∧ PV w' 48 (fun i => plV A l cn vo o (thM A - alS A L) i + pdS A L i) ∧ FX PMo w w') := by
          intro e
          rw [e, Nat.sub_self]
          have hm0 : thM A - alS A L = 0 := by omega
          have := b313 x hFx (fun i hi => by
            rw [hx49 i hi, e]
            congr 1
            refine fb_sm_cong (fun j hj => ?_)
            have e3 : amS A L j = owS A L j + if j < ovS A L then 1 else 0 := by
              unfold amS
              by_cases h : j < ovS A L
              · rw [if_pos h, if_pos (show ¬ alS A L ≤ thM A ∧ j < ovS A L from ⟨c, h⟩)]
              · rw [if_neg h, if_neg (show ¬ (¬ alS A L ≤ thM A ∧ j < ovS A L) from fun q => h q.2)]
            rw [e3]) hx48
          rw [hm0] at this ⊢
          exact this
        by_cases hin : k < L.length
        · refine OK.f (nI_ge hin (by omega)) (OK.f (fun h => c (hcmp.mp h)) ?_)
          by_cases e : k = ovS A L
          · exact OK.t (by rw [e, Nat.sub_self]; decide) (fin e)
          · obtain ⟨-, -, -, p4, p5, p6⟩ := pm_e hI hL hin
            refine OK.f (nI_nle (by omega) (by omega)) (OK.t (z_inb (by omega) (by omega)) ?_)
            rw [nI_clamp (n := k) (by omega), hHx k hin]
            refine OK.t (z_inb (by omega) (by omega)) ?_
            rw [nI_clamp (n := gdL L k) (by omega), tol_g (at1 x hFx).1 34 _ (by omega) p6, p4]
            refine OK.t (z_inb (by omega) (by omega)) (OK.t (z_inb (by omega) (by omega)) (OK.l ?_))
            rw [nI_clamp (by omega), hx49 _ (by omega), nI_1 (pdF A L _ _ _)]
            refine hkk _ _ _ _ _ _ _ _ (by omega) ⟨k + 1, rfl, by omega, rfl, rfl, rfl, rfl, ?_, nI_1 k, hFx.tr (FX.w x _ (by unfold PMo; omega)), fun j hj => ?_, fun j hj => ?_, fun j hj => ?_⟩
            · rw [show ovS A L - k = (ovS A L - (k + 1)) + 1 by omega, pk_m1]
            · try dsimp only
              rw [wI_g, if_neg (by omega)]; exact hHx j hj
            · try dsimp only
              rw [wI_g, pd_bump hin]
              by_cases q : j = toS A (gdL L k)
              · rw [if_pos ⟨rfl, q⟩, if_pos q.symm, q]
              · rw [if_neg (fun h => q h.2), if_neg (fun h => q h.symm), Nat.add_zero]; exact hx49 j hj
            · try dsimp only
              rw [wI_g, if_neg (by omega)]; exact hx48 j hj
        · exact OK.t (nI_le (by omega) (by omega)) (fin (by omega))
    have b175 : ∀ u, FX PMo w u → HO u L → PV u 49 (fun _ => 0) → PV u 48 (fun _ => 0) → OK (X12_goMoney_b175_L (nI l) (nI (thM A)) (nI L.length) (lN (alS A L)) (nI (thM A)) 0 u) (fun w' => PV w' 49 (pdS A L) ∧ PV w' 48 (fun i => plV A l cn vo o (thM A - alS A L) i + pdS A L i) ∧ FX PMo w w') := by
      intro u hFu hHO h49 h48
      refine lo7 (fun n y1 y2 y3 y4 y6 y7 x => ∃ k, n = L.length - k ∧ k ≤ L.length ∧ y1 = nI l ∧ y2 = nI (thM A) ∧ y3 = nI L.length ∧ y4 = lN (alS A L) ∧ y6 = nI (thM A - owF A L k) ∧ y7 = nI k ∧ FX PMo w x ∧ HO x L ∧ PV x 49 (pdF A L (owS A L) k) ∧ PV x 48 (fun _ => 0)) ?_ fu (L.length - 0) (nI l) (nI (thM A)) (nI L.length) (lN (alS A L)) (nI (thM A)) 0 u (by rw [fu_eq]; omega) ⟨0, rfl, Nat.zero_le _, rfl, rfl, rfl, rfl, rfl, rfl, hFu, hHO, h49, h48⟩
      rintro n kk a1 a2 a3 a4 a6 a7 x ⟨k, rfl, hk, rfl, rfl, rfl, rfl, rfl, rfl, hFx, hHx, hx49, hx48⟩ hkk
      rw [X12_goMoney_b175]
      by_cases hin : k < L.length
      · obtain ⟨p1, p2, p3, p4, p5, p6⟩ := pm_e hI hL hin
        have hTx := (at1 x hFx).1
        have hows : owF A L (k + 1) = owF A L k + owS A L k := rfl
        have hol := ow_le (A := A) L (k + 1) (by omega)
        refine OK.f (nI_ge hin (by omega)) ?_
        rw [nI_clamp (n := k) (by omega), hHx k hin, nI_clamp (n := gdL L k) (by omega), tol_g hTx 33 _ (by omega) p6, p1]
        have stp : ∀ t0 : Int32, t0 = nI (owS A L k) → OK (X12_goMoney_b224 kk (nI l) (nI (thM A)) (nI L.length) (lN (alS A L)) (nI (thM A - owF A L k)) (nI k) t0 x) (fun w' => PV w' 49 (pdS A L) ∧ PV w' 48 (fun i => plV A l cn vo o (thM A - alS A L) i + pdS A L i) ∧ FX PMo w w') := by
          intro t0 ht
          unfold X12_goMoney_b224
          refine OK.t (z_inb (by omega) (by omega)) ?_
          rw [nI_clamp (n := k) (by omega), hHx k hin]
          refine OK.t (z_inb (by omega) (by omega)) ?_
          rw [nI_clamp (n := gdL L k) (by omega), tol_g hTx 34 _ (by omega) p6, p4]
          refine OK.t (z_inb (by omega) (by omega)) (OK.t (z_inb (by omega) (by omega)) (OK.l (OK.l ?_)))
          rw [nI_clamp (by omega), hx49 _ (by omega), ht, nI_add, pk_sub (by omega)]
          refine hkk _ _ _ _ _ _ _ _ (by omega) ⟨k + 1, rfl, hin, rfl, rfl, rfl, rfl, ?_, nI_1 k, hFx.tr (FX.w x _ (by unfold PMo; omega)), fun j hj => ?_, fun j hj => ?_, fun j hj => ?_⟩
          · rw [hows]; congr 1; omega
          · try dsimp only
            rw [wI_g, if_neg (by omega)]; exact hHx j hj
          · have hp : pdF A L (owS A L) (k + 1) j = pdF A L (owS A L) k j + (if toS A (gdL L k) = j then owS A L k else 0) := rfl
            rw [wI_g, hp]
            by_cases q : j = toS A (gdL L k)
            · rw [if_pos ⟨rfl, q⟩, if_pos q.symm, q]
            · rw [if_neg (fun h => q h.2), if_neg (fun h => q h.symm), Nat.add_zero]; exact hx49 j hj
          · try dsimp only
            rw [wI_g, if_neg (by omega)]; exact hx48 j hj
        by_cases c : alS A L ≤ thM A
        · refine OK.t (hcmp.mpr c) (OK.t (z_inb (by omega) (by omega)) (OK.t (z_inb (by omega) (by omega)) (stp _ ?_)))
          unfold owS; rw [if_pos c]
        · refine OK.f (fun h => c (hcmp.mp h)) (OK.t (z_inb (by omega) (by omega)) (OK.t (z_inb (by omega) (by omega)) ?_))
          have hne : ¬ lN (alS A L) = 0 := fun h => by
            have : lN (alS A L) = lN 0 := h
            rw [lN_eq (by omega) (by omega)] at this
            omega
          refine OK.f hne (stp _ ?_)
          have hb : pmS A (gdL L k) * thM A < 2 ^ 63 := by
            have : pmS A (gdL L k) * thM A ≤ 99999 * 100000 := Nat.mul_le_mul p3 (by omega)
            omega
          rw [nI_l (by omega), nI_l (by omega), lN_mul, pk_lDiv hb (by omega) (by omega), lN_i]
          unfold owS; rw [if_neg c]
      · have e : k = L.length := by omega
        subst e
        exact OK.t (nI_le (Nat.le_refl _) (by omega)) (b264 x hFx hHx hx49 hx48)
    refine lo6 (fun n y1 y2 y3 y4 y6 x => ∃ i, n = 8 - i ∧ i ≤ 8 ∧ y1 = nI l ∧ y2 = nI (thM A) ∧ y3 = nI L.length ∧ y4 = lN (alS A L) ∧ y6 = nI i ∧ FX PMo w x ∧ HO x L ∧ (∀ j, j < i → x.1 49 j = nI 0) ∧ PV x 48 (fun _ => 0)) ?_ fu (8 - 0) (nI l) (nI (thM A)) (nI L.length) (lN (alS A L)) 0 u0 (by rw [fu_eq]; omega) ⟨0, rfl, by omega, rfl, rfl, rfl, rfl, rfl, hFu0, hHO0, fun j hj => by omega, hz0⟩
    rintro n kk a1 a2 a3 a4 a6 x ⟨i, rfl, hi, rfl, rfl, rfl, rfl, rfl, hFx, hHx, hx49, hx48⟩ hkk
    rw [X12_goMoney_b148, k8]
    by_cases hin : i < 8
    · refine OK.f (nI_ge hin (by omega)) (OK.t (z_inb (by omega) (by omega)) (OK.l ?_))
      rw [nI_clamp (by omega)]
      refine hkk _ _ _ _ _ _ _ (by omega) ⟨i + 1, rfl, hin, rfl, rfl, rfl, rfl, nI_1 i, hFx.tr (FX.w x _ (by unfold PMo; omega)), fun j hj => ?_, fun j hj => ?_, fun j hj => ?_⟩
      · try dsimp only
        rw [wI_g, if_neg (by omega)]; exact hHx j hj
      · try dsimp only
        rw [wI_g]
        by_cases q : j = i
        · rw [if_pos ⟨rfl, q⟩]; rfl
        · rw [if_neg (fun h => q h.2)]; exact hx49 j (by omega)
      · try dsimp only
        rw [wI_g, if_neg (by omega)]; exact hx48 j hj
    · have e : i = 8 := by omega
      subst e
      exact OK.t (nI_le (Nat.le_refl _) (by omega)) (b175 x hFx hHx hx49 hx48)
  refine lo6 (fun n y1 y2 y3 y4 y6 u => ∃ i, n = nIt A - i ∧ i ≤ nIt A ∧ y1 = nI l ∧ y2 = nI (thM A) ∧ y3 = nI (pyP A l cn vo f o i).length ∧ y4 = lN (alS A (pyP A l cn vo f o i)) ∧ y6 = nI i ∧ FX PMo w u ∧ HO u (pyP A l cn vo f o i) ∧ PV u 48 (fun _ => 0)) ?_ fu (nIt A - 0) (nI l) (nI (thM A)) 0 0 0 w1 (by rw [fu_eq]; omega) ⟨0, rfl, Nat.zero_le _, rfl, rfl, rfl, rfl, rfl, hF1, fun k hk => absurd hk (Nat.not_lt_zero k), hz⟩
  rintro n kk a1 a2 a3 a4 a6 u ⟨i, rfl, hi, rfl, rfl, rfl, rfl, rfl, hFu, hHu, hu48⟩ hkk
  obtain ⟨hTu, hMu, hwu, hfu⟩ := at1 u hFu
  rw [X12_goMoney_b23, zm_items hTu hN, cl_s]
  by_cases hin : i < nIt A
  · have hx := ((hI.2.2.2.2 o ho).1 i hin).e (by omega)
    have hit : itS A o i < nIt A := hx.2
    have hxe : A.1 43 (6 * o + i) = nI (itS A o i) := hx.1
    refine OK.f (nI_ge hin (by omega)) ?_
    rw [hwu, ix6, nI_clamp (by omega), tol_a hTu 43 _ (by omega), hxe]
    refine OK.t (z_inb (by omega) (by omega)) (OK.l ?_)
    have hnext : pyP A l cn vo f o (i + 1) = pyP A l cn vo f o i ++ (if itS A o i < nPa A ∧ cn (itS A o i) = true then pgP A l vo f (itS A o i) (nGi A (itS A o i)) else []) := rfl
    have hroom : itS A o i < nPa A → ∀ g, g < nGi A (itS A o i) → (pyP A l cn vo f o i ++ pgP A l vo f (itS A o i) g).length < 32 := fun c g hg => py_room hI ho hin c hg
    generalize itS A o i = it at hit hnext hroom ⊢
    by_cases c : it < nPa A
    · have hgi : A.1 23 it = nI (nGi A it) ∧ nGi A it < 9 := (hI.2.2.1 it c).1.1.e (by omega)
      have hpy := py_PYL (A := A) (l := l) (cn := cn) (vo := vo) (f := f) (o := o) i
      refine lo8 (fun n y1 y2 y3 y4 y6 y7 y8 x => ∃ g, n = nGi A it - g ∧ g ≤ nGi A it ∧ y1 = nI l ∧ y2 = nI (thM A) ∧ y3 = nI (pyP A l cn vo f o i ++ (if cn it = true then pgP A l vo f it g else [])).length ∧ y4 = lN (alS A (pyP A l cn vo f o i ++ (if cn it = true then pgP A l vo f it g else []))) ∧ y6 = nI i ∧ y7 = nI it ∧ y8 = nI g ∧ FX PMo w x ∧ HO x (pyP A l cn vo f o i ++ (if cn it = true then pgP A l vo f it g else [])) ∧ PV x 48 (fun _ => 0)) ?_ fu (nGi A it - 0) (nI l) (nI (thM A)) (nI (pyP A l cn vo f o i).length) (lN (alS A (pyP A l cn vo f o i))) (nI i) (nI it) 0 u (by rw [fu_eq]; omega) ⟨0, rfl, Nat.zero_le _, rfl, rfl, ?_, ?_, rfl, rfl, rfl, hFu, ?_, hu48⟩
      · rintro n k2 b1 b2 b3 b4 b6 b7 b8 x ⟨g, rfl, hg, rfl, rfl, rfl, rfl, rfl, rfl, rfl, hFx, hHx, hx48⟩ hk2
        obtain ⟨hTx, hMx, hwx, hfx⟩ := at1 x hFx
        rw [X12_goMoney_b52, tol_0 hTx 49 rfl, hN.2.2.2.1.1, nI_clamp (n := it) (by omega), tol_p hTx 23 it (by omega) c, hgi.1]
        refine OK.f (nI_ge c (by omega)) (OK.t (z_inb (by omega) (by omega)) ?_)
        by_cases hgn : g < nGi A it
        · refine OK.f (nI_ge hgn (by omega)) (OK.l ?_)
          rw [ix8, nI_clamp (n := 8 * it + g) (by omega), tol_g hTx 32 _ (by omega) (by omega)]
          refine OK.t (z_inb (by omega) (by omega)) ?_
          have hps : pgP A l vo f it (g + 1) = pgP A l vo f it g ++ (if A.1 32 (8 * it + g) = -1 ∧ hdS A l vo f it (8 * it + g) = true then [8 * it + g] else []) := rfl
          have skip : (cn it = true → ¬ (A.1 32 (8 * it + g) = -1 ∧ hdS A l vo f it (8 * it + g) = true)) → OK (k2 (nI l) (nI (thM A)) (nI (pyP A l cn vo f o i ++ (if cn it = true then pgP A l vo f it g else [])).length) (lN (alS A (pyP A l cn vo f o i ++ (if cn it = true then pgP A l vo f it g else [])))) (nI i) (nI it) (nI g + 1) x) (fun w' => PV w' 49 (pdS A (pyP A l cn vo f o (nIt A))) ∧ PV w' 48 (fun i => plV A l cn vo o (thM A - alS A (pyP A l cn vo f o (nIt A))) i + pdS A (pyP A l cn vo f o (nIt A)) i) ∧ FX PMo w w') := by
            intro h
            have e : (if cn it = true then pgP A l vo f it (g + 1) else []) = (if cn it = true then pgP A l vo f it g else []) := by
              by_cases cc : cn it = true
              · rw [if_pos cc, if_pos cc, hps, if_neg (h cc), List.append_nil]
              · rw [if_neg cc, if_neg cc]
            refine hk2 _ _ _ _ _ _ _ _ _ (by omega) ⟨g + 1, rfl, hgn, rfl, rfl, ?_, ?_, rfl, rfl, nI_1 g, hFx, ?_, hx48⟩
            · rw [e]
            · rw [e]
            · rw [e]; exact hHx
          by_cases e1 : A.1 32 (8 * it + g) = -1
          · refine OK.t e1 ?_
            rw [zm_holds hTx hI hPe hMx hl c hgn hfx, cl_s, if_b0]
            by_cases e2 : (cn it && hdS A l vo f it (8 * it + g)) = false
            · refine OK.t e2 (skip (fun cc h => ?_))
              rw [cc, h.2] at e2; exact absurd e2 (by decide)
            · rw [Bool.not_eq_false] at e2
              have e3 := e2
              rw [Bool.and_eq_true] at e3
              refine OK.f (by rw [e2]; decide) ?_
              rw [if_pos e3.1] at hHx ⊢
              have hlen := hroom c g hgn
              have hpl : PYL A (pyP A l cn vo f o i ++ pgP A l vo f it g) := pg_PYL c hpy g hg
              have e : (if cn it = true then pgP A l vo f it (g + 1) else []) = pgP A l vo f it g ++ [8 * it + g] := by
                rw [if_pos e3.1, hps, if_pos ⟨e1, e3.2⟩]
              generalize hLg : pyP A l cn vo f o i ++ pgP A l vo f it g = Lg at hHx hlen hpl ⊢
              have hL2 : pyP A l cn vo f o i ++ (if cn it = true then pgP A l vo f it (g + 1) else []) = Lg ++ [8 * it + g] := by rw [e, ← List.append_assoc, hLg]
              refine OK.t (z_inb (by omega) (by omega)) (OK.l (OK.t (z_inb (by omega) (by omega)) (OK.l ?_)))
              have hpm := pm_e hI (hpl.ap ⟨it, g, c, hgn, rfl, e1⟩) (k := Lg.length) (by rw [List.length_append, List.length_singleton]; omega)
              rw [gd_e] at hpm
              rw [nI_clamp (n := Lg.length) (by omega), show (wI x 50 Lg.length (nI (8 * it + g))).1 33 (8 * it + g) = nI (pmS A (8 * it + g)) by rw [wI_g, if_neg (by omega), tol_g hTx 33 _ (by omega) (by omega)]; exact hpm.1, nI_l (by omega), lN_add]
              refine hk2 _ _ _ _ _ _ _ _ _ (by omega) ⟨g + 1, rfl, hgn, rfl, rfl, ?_, ?_, rfl, rfl, nI_1 g, hFx.tr (FX.w x _ (by unfold PMo; omega)), ?_, fun j hj => ?_⟩
              · rw [hL2, List.length_append, List.length_singleton, nI_1]
              · rw [hL2]
                unfold alS
                rw [List.length_append, List.length_singleton, su_end]
              · rw [hL2]
                intro k hk
                rw [List.length_append, List.length_singleton] at hk
                try dsimp only
                rw [wI_g]
                by_cases q : k = Lg.length
                · rw [if_pos ⟨rfl, q⟩, q, gd_e]
                · rw [if_neg (fun h => q h.2), gd_l (by omega)]; exact hHx k (by omega)
              · try dsimp only
                rw [wI_g, if_neg (by omega)]; exact hx48 j hj
          · exact OK.f e1 (skip (fun _ h => e1 h.1))
        · have e : g = nGi A it := by omega
          subst e
          refine OK.t (nI_le (Nat.le_refl _) (by omega)) ?_
          have e : pyP A l cn vo f o (i + 1) = pyP A l cn vo f o i ++ (if cn it = true then pgP A l vo f it (nGi A it) else []) := by
            rw [hnext]
            by_cases cc : cn it = true
            · rw [if_pos ⟨c, cc⟩, if_pos cc]
            · rw [if_neg (fun h => cc h.2), if_neg cc]
          rw [← e] at hHx ⊢
          exact hkk _ _ _ _ _ _ _ (by omega) ⟨i + 1, rfl, hin, rfl, rfl, rfl, rfl, nI_1 i, hFx, hHx, hx48⟩
      · show _ = nI (pyP A l cn vo f o i ++ (if cn it = true then [] else [])).length
        rw [ite_self, List.append_nil]
      · show _ = lN (alS A (pyP A l cn vo f o i ++ (if cn it = true then [] else [])))
        rw [ite_self, List.append_nil]
      · show HO u (pyP A l cn vo f o i ++ (if cn it = true then [] else []))
        rw [ite_self, List.append_nil]; exact hHu
    · have e : pyP A l cn vo f o (i + 1) = pyP A l cn vo f o i := by rw [hnext, if_neg (fun h => c h.1), List.append_nil]
      have hone : X12_goMoney_b52_L kk (nI l) (nI (thM A)) (nI (pyP A l cn vo f o i).length) (lN (alS A (pyP A l cn vo f o i))) (nI i) (nI it) 0 u = kk (nI l) (nI (thM A)) (nI (pyP A l cn vo f o i).length) (lN (alS A (pyP A l cn vo f o i))) (nI i + 1) u := by
        unfold X12_goMoney_b52_L
        rw [lp_fu]
        show X12_goMoney_b52 kk (lp 19999 _ _) (nI l) (nI (thM A)) (nI (pyP A l cn vo f o i).length) (lN (alS A (pyP A l cn vo f o i))) (nI i) (nI it) 0 u = _
        rw [X12_goMoney_b52, tol_0 hTu 49 rfl, hN.2.2.2.1.1, if_pos (nI_le (by omega) (by omega))]
      rw [hone]
      refine hkk _ _ _ _ _ _ _ (by omega) ⟨i + 1, rfl, hin, rfl, rfl, ?_, ?_, nI_1 i, hFu, ?_, hu48⟩
      · rw [e]
      · rw [e]
      · rw [e]; exact hHu
  · have e : i = nIt A := by omega
    subst e
    exact OK.t (nI_le (Nat.le_refl _) (by omega)) (rest _ (py_PYL _) (py_32 hI ho) u hFu hHu hu48)
