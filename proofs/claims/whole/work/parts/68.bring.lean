/-! the reference's run: events, all items, what counts -/
theorem effS_e (A : Wd) (l e : Nat) : effS A l e = if A.1 38 e = 0 then (if A.1 2 (13 * l + 4) = 0 then 0 else 1) else if A.1 38 e = 1 then (if A.1 2 (13 * l + 5) = 0 then 0 else 2) else if A.1 38 e = 2 then 3 else if A.1 38 e = 3 then (if A.1 2 (13 * l + 6) = 0 then 0 else 3) else (if A.1 2 (13 * l + 8) = 0 then 0 else 3) := rfl
theorem lp_fu {τ : Type} (z : τ) (B : τ → τ) : lp fu z B = B (lp 19999 z B) := by
  rw [show fu = 19999 + 1 from rfl]; rfl
section
variable {w A : Wd}
theorem zm_tak (hT : tol w = A) (hI : INV A) {S : SS} (hM : STM w A S) (hS : SI A S) {p l : Nat} (hp : p < nPa A) (hl : l < nLa A) (it : Int32) (hit : ∀ q, q < nPa A → ¬ it = nI q) : OK (X12_bringEvent_b135 (nI l) (nI p) it 1 w) (fun w' => STM w' A (takP (wkS A l) p it S) ∧ FM w w') := by
  obtain ⟨hN, -, hP, -, -⟩ := hI
  have h4 := hN.2.2.2.1.2
  unfold X12_bringEvent_b135 takP
  rw [if_neg (by decide), if_bt (by omega), hM.1 p (by omega)]
  by_cases c : S.1 p = false
  · rw [if_neg (show ¬ S.1 p = true by rw [c]; decide)]
    exact OK.t c (OK.s ⟨hM, FM.rf w⟩)
  refine OK.f c (OK.v ((zm_undo hT hN hM hS (b := it) (RB.one (by omega))).m ?_))
  rw [Bool.not_eq_false] at c
  rw [if_pos c]
  rintro w1 ⟨hM1, hF1⟩
  have hT1 := hF1.tol hT
  have hS1 := SI_und hS (fun i => decide (i = p)) it
  generalize undP S (fun i => decide (i = p)) it = S1 at hM1 hS1 ⊢
  by_cases hw : wkS A l = true
  · rw [if_pos hw]
    refine lo4 (fun n y1 y2 y3 v => ∃ i, n = nPa A - i ∧ i ≤ nPa A ∧ y1 = nI l ∧ y2 = nI p ∧ y3 = nI i ∧ FM w1 v ∧ STM v A (risP S1 (fun q => decide (q < i) && decide (S1.2.2.2 q = nI p)))) ?_ fu (nPa A - 0) (nI l) (nI p) 0 w1 (by rw [fu_eq]; omega) ⟨0, rfl, Nat.zero_le _, rfl, rfl, rfl, FM.rf w1, ?_⟩
    · rintro n k a1 a2 a3 v ⟨i, rfl, hi, rfl, rfl, rfl, hF, hMv⟩ hk
      have hTv := hF.tol hT1
      rw [X12_bringEvent_b166, tol_0 hTv 49 rfl, hN.2.2.2.1.1]
      by_cases hin : i < nPa A
      · refine OK.f (nI_ge hin (by omega)) ?_
        rw [show (7 : Int32) = nI 7 from rfl, zm_has hTv hN hl (by omega), cl_s, if_b0]
        refine OK.f (by unfold wkS at hw; rw [hw]; decide) ?_
        rw [if_bt (by omega), hMv.1 i (by omega), nI_clamp (by omega), hMv.2.2.2 i hin]
        have eS : (risP S1 (fun q => decide (q < i) && decide (S1.2.2.2 q = nI p))).1 i = S1.1 i := by
          show (S1.1 i || (decide (i < i) && decide (S1.2.2.2 i = nI p))) = S1.1 i
          rw [decide_eq_false (by omega), Bool.false_and, Bool.or_false]
        have eU : (risP S1 (fun q => decide (q < i) && decide (S1.2.2.2 q = nI p))).2.2.2 i = S1.2.2.2 i := by
          show (if (decide (i < i) && decide (S1.2.2.2 i = nI p)) = true then -1 else S1.2.2.2 i) = S1.2.2.2 i
          rw [decide_eq_false (by omega), Bool.false_and, if_neg (by decide)]
        rw [eS, eU]
        have same : ¬ S1.2.2.2 i = nI p → STM v A (risP S1 (fun q => decide (q < i + 1) && decide (S1.2.2.2 q = nI p))) := by
          intro hz
          have e : (fun q => decide (q < i + 1) && decide (S1.2.2.2 q = nI p)) = (fun q => decide (q < i) && decide (S1.2.2.2 q = nI p)) := by
            funext q
            by_cases e : q = i
            · subst e; rw [decide_eq_false hz, Bool.and_false, Bool.and_false]
            · rw [show decide (q < i + 1) = decide (q < i) from decide_eq_decide.mpr (by omega)]
          rw [e]; exact hMv
        by_cases c1 : S1.1 i = false
        · refine OK.t c1 (OK.t (z_inb (by omega) (by omega)) ?_)
          by_cases c2 : S1.2.2.2 i = nI p
          · refine OK.t c2 (OK.v ((zm_rise hN hMv hin).m ?_))
            rintro v2 ⟨hMv2, hFv2⟩
            refine hk _ _ _ _ _ (by omega) ⟨i + 1, rfl, hin, rfl, rfl, nI_1 i, hF.tr hFv2, ?_⟩
            have e : risP (risP S1 (fun q => decide (q < i) && decide (S1.2.2.2 q = nI p))) (fun j => decide (j = i)) = risP S1 (fun q => decide (q < i + 1) && decide (S1.2.2.2 q = nI p)) := by
              refine SS_ext (fun q => ?_) rfl rfl (fun q => ?_)
              · show ((S1.1 q || (decide (q < i) && decide (S1.2.2.2 q = nI p))) || decide (q = i)) = (S1.1 q || (decide (q < i + 1) && decide (S1.2.2.2 q = nI p)))
                by_cases e : q = i
                · subst e; rw [c2]; simp
                · rw [show decide (q < i + 1) = decide (q < i) from decide_eq_decide.mpr (by omega), decide_eq_false e, Bool.or_false]
              · show (if decide (q = i) = true then (-1 : Int32) else if (decide (q < i) && decide (S1.2.2.2 q = nI p)) = true then -1 else S1.2.2.2 q) = if (decide (q < i + 1) && decide (S1.2.2.2 q = nI p)) = true then -1 else S1.2.2.2 q
                by_cases e : q = i
                · subst e; rw [c2]; simp
                · rw [show decide (q < i + 1) = decide (q < i) from decide_eq_decide.mpr (by omega), decide_eq_false e, if_neg (by decide)]
            rw [← e]; exact hMv2
          · exact OK.f c2 (hk _ _ _ _ _ (by omega) ⟨i + 1, rfl, hin, rfl, rfl, nI_1 i, hF, same c2⟩)
        · refine OK.f c1 (hk _ _ _ _ _ (by omega) ⟨i + 1, rfl, hin, rfl, rfl, nI_1 i, hF, same ?_⟩)
          rw [Bool.not_eq_false] at c1
          rw [(hS1.1 i c1).2]
          exact fun e => nI_n1 (n := p) (by omega) e.symm
      · have e : i = nPa A := by omega
        subst e
        refine OK.t (nI_le (Nat.le_refl _) (by omega)) (OK.s ⟨?_, hF1.tr hF⟩)
        have e : (fun q => decide (q < nPa A) && decide (S1.2.2.2 q = nI p)) = (fun q => decide (q < 4) && decide (S1.2.2.2 q = nI p)) := by
          funext q
          by_cases e : S1.2.2.2 q = nI p
          · have h := hS1.2.2.1 q (hS1.2.1 q (by rw [e]; exact nI_n1 (by omega)))
            rw [decide_eq_true h, decide_eq_true (show q < 4 by omega)]
          · rw [decide_eq_false e, Bool.and_false, Bool.and_false]
        rw [← e]; exact hMv
    · have e : (fun q => decide (q < 0) && decide (S1.2.2.2 q = nI p)) = (fun _ => false) := by
        funext q; rw [decide_eq_false (by omega), Bool.false_and]
      rw [e]
      have e2 : risP S1 (fun _ => false) = S1 := SS_ext (fun q => Bool.or_false _) rfl rfl (fun q => rfl)
      rw [e2]; exact hM1
  · rw [if_neg hw]
    have : X12_bringEvent_b166_L (nI l) (nI p) 0 w1 = some w1 := by
      unfold X12_bringEvent_b166_L
      rw [lp_fu]
      show X12_bringEvent_b166 (lp 19999 _ _) (nI l) (nI p) (nI 0) w1 = some w1
      rw [X12_bringEvent_b166, tol_0 hT1 49 rfl, hN.2.2.2.1.1]
      by_cases h0 : 0 < nPa A
      · rw [if_neg (nI_ge h0 (by omega)), show (7 : Int32) = nI 7 from rfl, zm_has hT1 hN hl (by omega), cl_s, if_b0]
        unfold wkS at hw
        rw [Bool.not_eq_true] at hw
        rw [if_pos hw]
      · omega
    rw [this]; exact OK.s ⟨hM1, hF1⟩
theorem zm_ev (hT : tol w = A) (hI : INV A) {S : SS} (hM : STM w A S) (hS : SI A S) {e l : Nat} (he : e < nEv A) (hl : l < nLa A) : OK (f_X12_bringEvent (nI e) (nI l) w) (fun w' => STM w' A (evP (effS A l e) (wkS A l) (A.1 39 e).toNatClampNeg (nI (nPa A + e)) S) ∧ FM w w') := by
  have hI' := hI
  obtain ⟨hN, -, hP, hV, -⟩ := hI
  have h4 := hN.2.2.2.1.2
  have h3 := hN.2.2.2.2.1.2
  have hin : inb (nI e) 3 = true := z_inb (by omega) (by omega)
  have hcl : (nI e).toNatClampNeg = e := nI_clamp (by omega)
  unfold f_X12_bringEvent
  rw [hcl, hin, tol_a hT 38 e (by omega), tol_a hT 39 e (by omega), tol_0 hT 49 rfl, hN.2.2.2.1.1, nI_add]
  refine OK.t rfl (OK.l (OK.l (OK.t rfl (OK.l ?_))))
  have hit : ∀ q, q < nPa A → ¬ nI (nPa A + e) = nI q := fun q hq h => by
    rw [nI_eq (by omega) (by omega)] at h; omega
  have hE := effS_e A l e
  by_cases c0 : A.1 38 e = 0
  · refine OK.t c0 ?_
    rw [show (4 : Int32) = nI 4 from rfl, zm_has hT hN hl (by omega), cl_s, if_b0]
    rw [if_pos c0] at hE
    by_cases r : A.1 2 (13 * l + 4) = 0
    · rw [if_pos r] at hE
      rw [hE]
      exact OK.t (decide_eq_false (fun q => q r)) (OK.s ⟨hM, FM.rf w⟩)
    · rw [if_neg r] at hE
      rw [hE]
      refine OK.f (by rw [decide_eq_true r]; decide) (OK.v ((zm_undo hT hN hM hS hM.1).m ?_))
      rintro w1 h1
      exact OK.s h1
  refine OK.f c0 ?_
  rw [if_neg c0] at hE
  by_cases c1 : A.1 38 e = 1
  · refine OK.t c1 ?_
    rw [show (5 : Int32) = nI 5 from rfl, zm_has hT hN hl (by omega), cl_s, if_b0]
    rw [if_pos c1] at hE
    by_cases r : A.1 2 (13 * l + 5) = 0
    · rw [if_pos r] at hE
      rw [hE]
      exact OK.t (decide_eq_false (fun q => q r)) (OK.s ⟨hM, FM.rf w⟩)
    · rw [if_neg r] at hE
      rw [hE]
      refine OK.f (by rw [decide_eq_true r]; decide) (OK.l (OK.s ⟨⟨?_, ?_, ?_, ?_⟩, FM.w0 w (by omega) _⟩))
      · rw [wI_g, if_neg (by omega)]; exact hM.1
      · rw [wI_g, if_neg (by omega)]; exact hM.2.1
      · rw [wI_s]; exact hM.2.2.1.or hM.1
      · intro j hj; rw [wI_g, if_neg (by omega)]; exact hM.2.2.2 j hj
  refine OK.f c1 (OK.t rfl ?_)
  rw [if_neg c1] at hE
  have hp := ((hV e he).2.1 c0 c1).e (n := nPa A) (by omega)
  have tk : effS A l e = 3 → OK (X12_bringEvent_b135 (nI l) (A.1 39 e) (nI (nPa A + e)) 1 w) (fun w' => STM w' A (evP (effS A l e) (wkS A l) (A.1 39 e).toNatClampNeg (nI (nPa A + e)) S) ∧ FM w w') := by
    intro h
    rw [h, hp.1]
    have := zm_tak hT hI' hM hS hp.2 hl (nI (nPa A + e)) hit
    rw [nI_clamp (by omega)]
    exact this
  have nt : effS A l e = 0 → OK (X12_bringEvent_b135 (nI l) (A.1 39 e) (nI (nPa A + e)) 0 w) (fun w' => STM w' A (evP (effS A l e) (wkS A l) (A.1 39 e).toNatClampNeg (nI (nPa A + e)) S) ∧ FM w w') := by
    intro h
    rw [h]
    unfold X12_bringEvent_b135
    exact OK.t rfl (OK.s ⟨hM, FM.rf w⟩)
  by_cases c2 : A.1 38 e = 2
  · rw [if_pos c2] at hE
    exact OK.t c2 (tk hE)
  refine OK.f c2 (OK.t rfl ?_)
  rw [if_neg c2] at hE
  unfold X12_bringEvent_b124
  by_cases c3 : A.1 38 e = 3
  · rw [if_pos c3] at hE
    refine OK.t c3 ?_
    rw [show (6 : Int32) = nI 6 from rfl, zm_has hT hN hl (by omega), cl_s, if_b0]
    by_cases r : A.1 2 (13 * l + 6) = 0
    · rw [if_pos r] at hE
      exact OK.t (decide_eq_false (fun q => q r)) (nt hE)
    · rw [if_neg r] at hE
      exact OK.f (by rw [decide_eq_true r]; decide) (tk hE)
  · rw [if_neg c3] at hE
    refine OK.f c3 ?_
    rw [show (8 : Int32) = nI 8 from rfl, zm_has hT hN hl (by omega), cl_s, if_b0]
    by_cases r : A.1 2 (13 * l + 8) = 0
    · rw [if_pos r] at hE
      exact OK.t (decide_eq_false (fun q => q r)) (nt hE)
    · rw [if_neg r] at hE
      exact OK.f (by rw [decide_eq_true r]; decide) (tk hE)
end
