/-! the desk's run: papers, all items, what counts -/
section
variable {w A : Wd} {s : Nat}
theorem zc_put (hL : TLD w A) (hI : INV A) (hs : 84 ≤ s) {gd ua : Nat → Bool} {l : Nat} (hR : PRS w A s gd ua l) (hgd : ∀ i, gd i = true → i < nPa A) {S : SS} (hM : STC s w S) (hS : SI A S) {p : Nat} (hp : p < nPa A) (hu : S.2.2.2 p = -1) : OK (f_X8_putPaper s (nI p) w) (fun w' => STC s w' (putP gd (ua p) (bt (A.1 25 p)) (bt (A.1 26 p)) p S) ∧ FX (PS s) w w') := by
  obtain ⟨hN, -, hP, -, -⟩ := hI
  have h4 := hN.2.2.2.1.2
  obtain ⟨⟨-, -, -, -, -, f5, f6, -⟩, -⟩ := hL.2.2.2.1 p hp
  unfold f_X8_putPaper
  refine OK.l (OK.l ?_)
  have hF1 : FX (PS s) w (wI w s 8 (w.1 s 8 ||| 1 <<< (nI p &&& 31))) := FX.w w _ (by unfold PS; omega)
  have hM1 : STC s (wI w s 8 (w.1 s 8 ||| 1 <<< (nI p &&& 31))) (camP p S) := by
    refine ⟨?_, ?_, ?_, fun j hj => ?_⟩
    · rw [wI_g, if_neg (by omega)]; exact hM.1
    · rw [wI_s]; exact hM.2.1.or (RB.one (by omega))
    · rw [wI_g, if_neg (by omega)]; exact hM.2.2.1
    · rw [wI_g, if_neg (by omega)]; exact hM.2.2.2 j hj
  have hR1 := hR.fs hF1 (Or.inl rfl)
  have hL1 := hL.fr hN (PS_t hs hF1)
  generalize wI w s 8 (w.1 s 8 ||| 1 <<< (nI p &&& 31)) = w1 at hF1 hM1 hR1 hL1 ⊢
  rw [if_ts (by omega), hR1.1 p (by omega)]
  unfold putP
  by_cases g : gd p = false
  · rw [if_neg (show ¬ gd p = true by rw [g]; decide)]
    exact OK.t g (OK.s ⟨hM1, hF1⟩)
  refine OK.f g (OK.l (OK.t (z_inb (by omega) (by omega)) ?_))
  rw [Bool.not_eq_false] at g
  rw [if_pos g, nI_clamp (by omega)]
  have hF2 : FX (PS s) w1 (wI w1 s 9 (w1.1 s 9 ||| 1 <<< (nI p &&& 31))) := FX.w w1 _ (by unfold PS; omega)
  have hM2 : STC s (wI w1 s 9 (w1.1 s 9 ||| 1 <<< (nI p &&& 31))) (risP (camP p S) (fun i => decide (i = p))) := by
    refine ⟨?_, ?_, ?_, fun j hj => ?_⟩
    · rw [wI_s]; exact hM1.1.or (RB.one (by omega))
    · rw [wI_g, if_neg (by omega)]; exact hM1.2.1
    · rw [wI_g, if_neg (by omega)]; exact hM1.2.2.1
    · rw [wI_g, if_neg (by omega), hM1.2.2.2 j hj]
      show S.2.2.2 j = if decide (j = p) = true then -1 else S.2.2.2 j
      by_cases e : j = p
      · rw [decide_eq_true e, if_pos rfl, e]; exact hu
      · rw [decide_eq_false e, if_neg (by decide)]
  have hR2 := hR1.fs hF2 (Or.inl rfl)
  have hL2 := hL1.fr hN (PS_t hs hF2)
  have hS2 : SI A (risP (camP p S) (fun i => decide (i = p))) := SI_ris (SI_cam hS hp) (fun i hi => by
    show (S.2.1 i || decide (i = p)) = true
    have hi : decide (i = p) = true := hi
    rw [hi, Bool.or_true])
  generalize wI w1 s 9 (w1.1 s 9 ||| 1 <<< (nI p &&& 31)) = w2 at hF2 hM2 hR2 hL2 ⊢
  obtain ⟨⟨-, -, -, -, -, g5, g6, -⟩, -⟩ := hL2.2.2.2.1 p hp
  have fin : ∀ x : Int32, RB x (fun i => if ua p = true then !decide (i = p) else bt (A.1 25 p) i) → OK (X8_putPaper_b64 s (nI p) (57 + 6 * p) x s w2) (fun w' => STC s w' (risP (undP (risP (camP p S) (fun i => decide (i = p))) (fun i => if ua p = true then !decide (i = p) else bt (A.1 25 p) i) (nI p)) (fun i => bt (A.1 26 p) i && gd i && (camP p S).2.1 i)) ∧ FX (PS s) w w') := by
    intro x hx
    unfold X8_putPaper_b64
    refine OK.v ((zc_undo hM2 (fun i hi => by have := hS2.lt hi; omega) (b := nI p) hx).m ?_)
    rintro w3 ⟨hM3, hF3⟩
    have hR3 := hR2.fs hF3 (Or.inl rfl)
    have hL3 := hL2.fr hN (PS_t hs hF3)
    obtain ⟨⟨-, -, -, -, -, -, e6, -⟩, -⟩ := hL3.2.2.2.1 p hp
    rw [e6]
    refine OK.v ((zc_raise hM3 (((RB.self (A.1 26 p)).and hR3.1).and hM3.2.1) (fun i hi => ?_)).m ?_)
    · rw [Bool.and_eq_true, Bool.and_eq_true] at hi
      have := hgd i hi.1.2
      omega
    · rintro w4 ⟨hM4, hF4⟩
      exact OK.s ⟨hM4, ((hF1.tr hF2).tr hF3).tr hF4⟩
  rw [if_ts (by omega), hR2.2.1 p (by omega)]
  by_cases c : ua p = false
  · refine OK.t c (fin _ ?_)
    rw [g5]
    refine (RB.self _).cg (fun i _ => ?_)
    rw [c, if_neg (by decide)]
  · refine OK.f c (fin _ ?_)
    rw [Bool.not_eq_false] at c
    refine (RB.one (p := p) (by omega)).not.cg (fun i _ => ?_)
    rw [c, if_pos rfl]
theorem zc_count (hL : TLD w A) (hI : INV A) (hs : 84 ≤ s) {S : SS} (hM : STC s w S) : OK (f_X8_findCounting s w) (fun w' => STC s w' S ∧ RB (w'.1 s 1) (cnS A S.1) ∧ FX (PS s) w w') := by
  obtain ⟨hN, -, hP, -, -⟩ := hI
  have h4 := hN.2.2.2.1.2
  unfold f_X8_findCounting
  refine OK.l ?_
  have hF0 : FX (PS s) w (wI w s 1 0) := FX.w w _ (by unfold PS; omega)
  refine lo3 (fun n y0 y1 v => ∃ i, n = nPa A - i ∧ i ≤ nPa A ∧ y0 = s ∧ y1 = nI i ∧ FX (PS s) w v ∧ STC s v S ∧ RB (v.1 s 1) (cnF A S.1 i)) ?_ fu (nPa A - 0) s 0 (wI w s 1 0) (by rw [fu_eq]; omega) ⟨0, rfl, Nat.zero_le _, rfl, rfl, hF0, ?_, ?_⟩
  · rintro n k a0 a1 v ⟨i, rfl, hi, rfl, rfl, hF, hMv, hy⟩ hk
    have hLv := hL.fr hN (PS_t hs hF)
    rw [X8_findCounting_b7, hLv.2.1.1, hN.2.2.2.1.1]
    by_cases hin : i < nPa A
    · obtain ⟨⟨-, -, -, -, -, -, -, f7, -⟩, -⟩ := hLv.2.2.2.1 i hin
      refine OK.f (nI_ge hin (by omega)) (OK.t (z_inb (by omega) (by omega)) (OK.l ?_))
      rw [nI_clamp (by omega), f7, if_bt (by omega), hMv.1 i (by omega)]
      have put : (S.1 i && (decide (A.1 27 i = -1) || cnF A S.1 i (A.1 27 i).toNatClampNeg)) = true → OK (X8_findCounting_b57 k a0 (nI i) v) (fun w' => STC a0 w' S ∧ RB (w'.1 a0 1) (cnS A S.1) ∧ FX (PS a0) w w') := by
        intro h
        unfold X8_findCounting_b57
        refine OK.l (hk _ _ _ _ (by omega) ⟨i + 1, rfl, hin, rfl, nI_1 i, hF.tr (FX.w v _ (by unfold PS; omega)), ⟨?_, ?_, ?_, fun j hj => ?_⟩, ?_⟩)
        · rw [wI_g, if_neg (by omega)]; exact hMv.1
        · rw [wI_g, if_neg (by omega)]; exact hMv.2.1
        · rw [wI_g, if_neg (by omega)]; exact hMv.2.2.1
        · rw [wI_g, if_neg (by omega)]; exact hMv.2.2.2 j hj
        · rw [wI_s]
          refine (hy.or (RB.one (by omega))).cg (fun j hj => ?_)
          show (cnF A S.1 i j || decide (j = i)) = if j = i then _ else cnF A S.1 i j
          by_cases e : j = i
          · rw [if_pos e, h, decide_eq_true e, Bool.or_true]
          · rw [if_neg e, decide_eq_false e, Bool.or_false]
      have skip : (S.1 i && (decide (A.1 27 i = -1) || cnF A S.1 i (A.1 27 i).toNatClampNeg)) = false → OK (k a0 (nI i + 1) v) (fun w' => STC a0 w' S ∧ RB (w'.1 a0 1) (cnS A S.1) ∧ FX (PS a0) w w') := by
        intro h
        refine hk _ _ _ _ (by omega) ⟨i + 1, rfl, hin, rfl, nI_1 i, hF, hMv, hy.cg (fun j hj => ?_)⟩
        show cnF A S.1 i j = if j = i then _ else cnF A S.1 i j
        by_cases e : j = i
        · rw [if_pos e, h, e, cnF_hi i i (Nat.le_refl i)]
        · rw [if_neg e]
      by_cases c : S.1 i = false
      · refine OK.t c (skip ?_)
        rw [c, Bool.false_and]
      · refine OK.f c ?_
        rw [Bool.not_eq_false] at c
        by_cases c1 : A.1 27 i = -1
        · refine OK.t (by rw [c1]; decide) (put ?_)
          rw [c, decide_eq_true c1]; rfl
        · have hq := ((hP i hin).2.2.2.1.resolve_left c1).e (by omega)
          rw [hq.1]
          refine OK.f (nI_pos (by omega)) ?_
          rw [if_bt (by omega), hy _ (by omega)]
          by_cases c2 : cnF A S.1 i (A.1 27 i).toNatClampNeg = false
          · refine OK.t c2 (skip ?_)
            rw [c, c2, decide_eq_false c1]; rfl
          · refine OK.f c2 (put ?_)
            rw [Bool.not_eq_false] at c2
            rw [c, c2, Bool.or_true]; rfl
    · have e : i = nPa A := by omega
      subst e
      exact OK.t (nI_le (Nat.le_refl _) (by omega)) (OK.s ⟨hMv, hy, hF⟩)
  · refine ⟨?_, ?_, ?_, fun j hj => ?_⟩
    · rw [wI_g, if_neg (by omega)]; exact hM.1
    · rw [wI_g, if_neg (by omega)]; exact hM.2.1
    · rw [wI_g, if_neg (by omega)]; exact hM.2.2.1
    · rw [wI_g, if_neg (by omega)]; exact hM.2.2.2 j hj
  · rw [wI_s]; exact RB.z
theorem zc_run (hL : TLD w A) (hI : INV A) (hs : 84 ≤ s) {gd ua : Nat → Bool} {l : Nat} (hR : PRS w A s gd ua l) (hgd : ∀ i, gd i = true → i < nPa A) {o f : Nat} (ho : o < nOr A) (hf : f < 8) : OK (f_X8_run s (nI o) (nI f) w) (fun w' => STC s w' (runS A gd ua l f o) ∧ RB (w'.1 s 1) (cnS A (runS A gd ua l f o).1) ∧ FX (PS s) w w') := by
  have hI' := hI
  obtain ⟨hN, -, hP, hV, hO⟩ := hI
  have h4 := hN.2.2.2.1.2
  have h3 := hN.2.2.2.2.1.2
  have h6 : nIt A ≤ 6 := hN.2.2.2.2.2.1
  have hor := hN.2.2.2.2.2.2.1.2
  unfold f_X8_run
  refine OK.l (OK.l (OK.l ?_))
  have hF3 : FX (PS s) w (wI (wI (wI w s 8 0) s 9 0) s 10 0) := ((FX.w w _ (by unfold PS; omega)).tr (FX.w _ _ (by unfold PS; omega))).tr (FX.w _ _ (by unfold PS; omega))
  have g8 : (wI (wI (wI w s 8 0) s 9 0) s 10 0).1 s 8 = 0 := by rw [wI_g, if_neg (by omega), wI_g, if_neg (by omega), wI_s]
  have g9 : (wI (wI (wI w s 8 0) s 9 0) s 10 0).1 s 9 = 0 := by rw [wI_g, if_neg (by omega), wI_s]
  have g10 : (wI (wI (wI w s 8 0) s 9 0) s 10 0).1 s 10 = 0 := by rw [wI_s]
  generalize wI (wI (wI w s 8 0) s 9 0) s 10 0 = w3 at hF3 g8 g9 g10 ⊢
  rw [zc_fill (by omega), cv_s]
  have hF4 : FX (PS s) w (wC w3 (s + 1) (fun k => if k < 4 then -1 else w3.1 (s + 1) k)) := hF3.tr (FX.c w3 _ (fun k => by unfold PS; omega))
  have hM4 : STC s (wC w3 (s + 1) (fun k => if k < 4 then -1 else w3.1 (s + 1) k)) s0 := by
    refine ⟨?_, ?_, ?_, fun j hj => ?_⟩
    · rw [wC_g, if_neg (by omega), g9]; exact RB.z
    · rw [wC_g, if_neg (by omega), g8]; exact RB.z
    · rw [wC_g, if_neg (by omega), g10]; exact RB.z
    · rw [wC_g, if_pos rfl, if_pos hj]; rfl
  generalize wC w3 (s + 1) (fun k => if k < 4 then -1 else w3.1 (s + 1) k) = w4 at hF4 hM4 ⊢
  have hL4 := hL.fr hN (PS_t hs hF4)
  rw [zc_items hL4.2.1 hN, hL4.2.1.1, hN.2.2.2.1.1]
  refine OK.l ?_
  rw [cl_s]
  refine lo7 (fun n y0 y1 y2 y3 y4 y5 v => ∃ i, n = nIt A - i ∧ i ≤ nIt A ∧ y0 = s ∧ y1 = nI o ∧ y2 = nI f ∧ y3 = nI (nPa A) ∧ y4 = nI (nIt A) ∧ y5 = nI i ∧ FX (PS s) w v ∧ STC s v (runF A gd ua l f o i)) ?_ fu (nIt A - 0) s (nI o) (nI f) (nI (nPa A)) (nI (nIt A)) 0 w4 (by rw [fu_eq]; omega) ⟨0, rfl, Nat.zero_le _, rfl, rfl, rfl, rfl, rfl, rfl, hF4, hM4⟩
  rintro n k a0 a1 a2 a3 a4 a5 v ⟨i, rfl, hi, rfl, rfl, rfl, rfl, rfl, rfl, hF, hM⟩ hk
  have hLv := hL.fr hN (PS_t hs hF)
  have hRv := hR.fs hF (Or.inl rfl)
  have hS := SI_run hN hV hO gd ua l f ho i hi
  rw [X8_run_b43]
  by_cases hin : i < nIt A
  · have hx := ((hO o ho).1 i hin).e (by omega)
    have hit : itS A o i < nIt A := hx.2
    have hxe : A.1 43 (6 * o + i) = nI (itS A o i) := hx.1
    refine OK.f (nI_ge hin (by omega)) ?_
    rw [zc_itemAt hLv.2.2.1 hN ho hin, cl_s, hxe]
    have hstep : runF A gd ua l f o (i + 1) = stepS A gd ua l f (itS A o i) (runF A gd ua l f o i) := rfl
    have hnc : (runF A gd ua l f o i).2.1 (itS A o i) = false := by
      cases hc : (runF A gd ua l f o i).2.1 (itS A o i)
      · rfl
      · obtain ⟨j, hj, e⟩ := came_no hN hO gd ua l f ho i hi _ hc
        have hy := ((hO o ho).1 j (by omega)).e (by omega)
        exact absurd (by rw [hxe, ← e]; exact hy.1) ((hO o ho).2 j i hj hin)
    unfold stepS at hstep
    generalize itS A o i = it at hit hstep hnc ⊢
    by_cases c : it < nPa A
    · rw [if_pos c] at hstep
      have hun : (runF A gd ua l f o i).2.2.2 it = -1 := Classical.byContradiction (fun h => by
        have := hS.2.1 it h
        rw [hnc] at this; cases this)
      refine OK.f (nI_ge c (by omega)) (OK.v ((zc_put hLv hI' hs hRv hgd hM hS c hun).m ?_))
      rintro v2 ⟨hM2, hF2⟩
      refine hk _ _ _ _ _ _ _ _ (by omega) ⟨i + 1, rfl, hin, rfl, rfl, rfl, rfl, rfl, nI_1 i, hF.tr hF2, ?_⟩
      rw [hstep]; exact hM2
    · rw [if_neg c] at hstep
      have he : it - nPa A < nEv A := by unfold nIt at hit; omega
      obtain ⟨-, v1, -, -, v4⟩ := hLv.2.2.2.2 _ he
      refine OK.t (nI_le (by omega) (by omega)) ?_
      rw [pk_sub (by omega), nI_clamp (by omega)]
      refine OK.t (z_inb (by omega) (by omega)) ?_
      have hso : f_X1_isSo (81 + (it - nPa A)) (nI f) v = some (bI (evSo A (it - nPa A) f), v) := by
        unfold f_X1_isSo evSo
        rw [v4]
        by_cases c1 : A.1 42 (it - nPa A) = -1
        · rw [decide_eq_true c1, Bool.true_or, if_pos (by rw [c1]; decide)]; rfl
        · have hq := ((hV _ he).2.2.1.resolve_left c1).e (by omega)
          rw [decide_eq_false c1, Bool.false_or]
          have hlt : ¬ A.1 42 (it - nPa A) < 0 := by rw [hq.1]; exact nI_pos (by omega)
          rw [if_neg hlt]
          conv => lhs; rw [hq.1]
          rw [if_bt (by omega)]
          cases bt (nI f) (A.1 42 (it - nPa A)).toNatClampNeg <;> rfl
      rw [hso, cl_s, if_b0]
      by_cases c2 : evSo A (it - nPa A) f = false
      · rw [if_neg (show ¬ evSo A (it - nPa A) f = true by rw [c2]; decide)] at hstep
        refine OK.t c2 (hk _ _ _ _ _ _ _ _ (by omega) ⟨i + 1, rfl, hin, rfl, rfl, rfl, rfl, rfl, nI_1 i, hF, ?_⟩)
        rw [hstep]; exact hM
      · refine OK.f c2 (OK.t (z_inb (by omega) (by omega)) (OK.l ?_))
        rw [Bool.not_eq_false] at c2
        rw [if_pos c2] at hstep
        rw [hRv.2.2.2.2 _ he, v1]
        have heff : effS A l (it - nPa A) ≤ 3 := by unfold effS; split <;> (try split) <;> (try split) <;> (try split) <;> (try split) <;> omega
        by_cases d1 : effS A l (it - nPa A) = 1
        · refine OK.t (by rw [d1]; rfl) (OK.v ((zc_undo hM (fun i hi => by have := hS.lt hi; omega) hM.1).m ?_))
          rintro v2 ⟨hM2, hF2⟩
          refine hk _ _ _ _ _ _ _ _ (by omega) ⟨i + 1, rfl, hin, rfl, rfl, rfl, rfl, rfl, nI_1 i, hF.tr hF2, ?_⟩
          rw [hstep, d1]; exact hM2
        · refine OK.f (fun h => d1 ((nI_eq (b := 1) (by omega) (by omega)).mp h)) ?_
          by_cases d2 : effS A l (it - nPa A) = 2
          · refine OK.t (by rw [d2]; rfl) (OK.l (hk _ _ _ _ _ _ _ _ (by omega) ⟨i + 1, rfl, hin, rfl, rfl, rfl, rfl, rfl, nI_1 i, hF.tr (FX.w v _ (by unfold PS; omega)), ?_⟩))
            rw [hstep, d2]
            refine ⟨?_, ?_, ?_, fun j hj => ?_⟩
            · rw [wI_g, if_neg (by omega)]; exact hM.1
            · rw [wI_g, if_neg (by omega)]; exact hM.2.1
            · rw [wI_s]; exact hM.2.2.1.or hM.1
            · rw [wI_g, if_neg (by omega)]; exact hM.2.2.2 j hj
          · refine OK.f (fun h => d2 ((nI_eq (b := 2) (by omega) (by omega)).mp h)) ?_
            by_cases d3 : effS A l (it - nPa A) = 3
            · have hp := takP_clamp hV hN he l d3
              refine OK.t (by rw [d3]; rfl) (OK.t (z_inb (by omega) (by omega)) ?_)
              rw [hp.1]
              refine OK.v ((zc_tak (A := A) hM hS hN (by omega) (l := l) hRv.2.2.1 (nI it)).m ?_)
              rintro v2 ⟨hM2, hF2⟩
              refine hk _ _ _ _ _ _ _ _ (by omega) ⟨i + 1, rfl, hin, rfl, rfl, rfl, rfl, rfl, nI_1 i, hF.tr hF2, ?_⟩
              rw [hstep, d3]; exact hM2
            · refine OK.f (fun h => d3 ((nI_eq (b := 3) (by omega) (by omega)).mp h)) (hk _ _ _ _ _ _ _ _ (by omega) ⟨i + 1, rfl, hin, rfl, rfl, rfl, rfl, rfl, nI_1 i, hF, ?_⟩)
              rw [hstep, show effS A l (it - nPa A) = 0 by omega]; exact hM
  · have e : i = nIt A := by omega
    subst e
    refine OK.t (nI_le (Nat.le_refl _) (by omega)) (OK.v ((zc_count hLv hI' hs hM).m ?_))
    rintro v2 ⟨hM2, hc2, hF2⟩
    exact OK.s ⟨hM2, hc2, hF.tr hF2⟩
end
