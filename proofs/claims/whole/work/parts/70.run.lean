/-! the desk's run of a way -/
def PS (s a k : Nat) : Prop := (a = s ∧ (k = 1 ∨ k = 8 ∨ k = 9 ∨ k = 10)) ∨ a = s + 1
theorem PS_t {s : Nat} (hs : 84 ≤ s) {w w' : Wd} (h : FX (PS s) w w') : TFR w w' := ⟨h.1, fun a k ha => h.2 a k (by unfold PS; omega)⟩
def STC (s : Nat) (w : Wd) (S : SS) : Prop := RB (w.1 s 9) S.1 ∧ RB (w.1 s 8) S.2.1 ∧ RB (w.1 s 10) S.2.2.1 ∧ ∀ i, i < 4 → w.1 (s + 1) i = S.2.2.2 i
def PRS (w A : Wd) (s : Nat) (gd ua : Nat → Bool) (l : Nat) : Prop := RB (w.1 s 6) gd ∧ RB (w.1 s 7) ua ∧ w.1 s 4 = bI (wkS A l) ∧ w.1 s 5 = bI (decide (A.1 2 (13 * l + 3) = 2)) ∧ ∀ e, e < nEv A → w.1 (s + 2) e = nI (effS A l e)
theorem PRS.fr {w w' A : Wd} {s l : Nat} {gd ua : Nat → Bool} (h : PRS w A s gd ua l) (f : ∀ k, (4 ≤ k ∧ k ≤ 7 → w'.1 s k = w.1 s k) ∧ w'.1 (s + 2) k = w.1 (s + 2) k) : PRS w' A s gd ua l := by
  obtain ⟨h1, h2, h3, h4, h5⟩ := h
  refine ⟨?_, ?_, ?_, ?_, fun e he => ?_⟩
  · rw [(f 6).1 (by omega)]; exact h1
  · rw [(f 7).1 (by omega)]; exact h2
  · rw [(f 4).1 (by omega)]; exact h3
  · rw [(f 5).1 (by omega)]; exact h4
  · rw [(f e).2]; exact h5 e he
theorem PRS.fs {w w' A : Wd} {s s' l : Nat} {gd ua : Nat → Bool} (h : PRS w A s gd ua l) (f : FX (PS s') w w') (hs : s' = s ∨ s + 3 ≤ s' ∨ s' + 3 ≤ s) : PRS w' A s gd ua l :=
  h.fr (fun k => ⟨fun hk => f.2 _ _ (by unfold PS; omega), f.2 _ _ (by unfold PS; omega)⟩)
section
variable {w A : Wd} {s : Nat}
theorem zc_undo {S : SS} (hM : STC s w S) (hS : ∀ i, S.1 i = true → i < 4) {x b : Int32} {set : Nat → Bool} (hx : RB x set) : OK (f_X8_undo s x b w) (fun w' => STC s w' (undP S set b) ∧ FX (PS s) w w') := by
  unfold f_X8_undo
  refine lo5 (fun n y0 y1 y2 y3 v => ∃ i, n = 4 - i ∧ i ≤ 4 ∧ y0 = s ∧ y1 = x ∧ y2 = b ∧ y3 = nI i ∧ FX (PS s) w v ∧ RB (v.1 s 9) (fun j => S.1 j && !(decide (j < i) && set j)) ∧ v.1 s 8 = w.1 s 8 ∧ v.1 s 10 = w.1 s 10 ∧ ∀ j, j < 4 → v.1 (s + 1) j = if (decide (j < i) && (set j && S.1 j)) = true then b else S.2.2.2 j) ?_ fu (4 - 0) s x b 0 w (by rw [fu_eq]; omega) ⟨0, rfl, Nat.zero_le _, rfl, rfl, rfl, rfl, FX.rf _ w, hM.1.cg (fun j _ => ?_), rfl, rfl, fun j hj => ?_⟩
  · rintro n k a0 a1 a2 a3 v ⟨i, rfl, hi, rfl, rfl, rfl, rfl, hF, h9, e8, e10, hu⟩ hk
    rw [X8_undo_b2, k4]
    by_cases hin : i < 4
    · refine OK.f (nI_ge hin (by omega)) ?_
      rw [if_ts (by omega), b_and, hx i (by omega), h9 i (by omega)]
      have hc : (set i && (S.1 i && !(decide (i < i) && set i))) = (set i && S.1 i) := by
        rw [decide_eq_false (by omega), Bool.false_and, Bool.not_false, Bool.and_true]
      rw [hc]
      by_cases c : (set i && S.1 i) = false
      · refine OK.t c (hk _ _ _ _ _ _ (by omega) ⟨i + 1, rfl, hin, rfl, rfl, rfl, nI_1 i, hF, h9.cg (fun j _ => ?_), e8, e10, fun j hj => ?_⟩)
        · by_cases e : j = i
          · subst e
            rw [decide_eq_false (show ¬ j < j by omega), decide_eq_true (show j < j + 1 by omega)]
            revert c; cases set j <;> cases S.1 j <;> decide
          · rw [show decide (j < i + 1) = decide (j < i) from decide_eq_decide.mpr (by omega)]
        · rw [hu j hj]
          by_cases e : j = i
          · subst e; rw [c, Bool.and_false, Bool.and_false]
          · rw [show decide (j < i + 1) = decide (j < i) from decide_eq_decide.mpr (by omega)]
      · refine OK.f c (OK.t (z_inb (by omega) (by omega)) (OK.l (OK.l ?_)))
        rw [Bool.not_eq_false] at c
        rw [nI_clamp (by omega)]
        refine hk _ _ _ _ _ _ (by omega) ⟨i + 1, rfl, hin, rfl, rfl, rfl, nI_1 i, (hF.tr (FX.w v _ (by unfold PS; omega))).tr (FX.w _ _ (by unfold PS; omega)), ?_, ?_, ?_, fun j hj => ?_⟩
        · rw [wI_s, wI_g, if_neg (by omega)]
          refine (h9.and (RB.one (p := i) (by omega)).not).cg (fun j _ => ?_)
          by_cases e : j = i
          · subst e
            rw [decide_eq_false (show ¬ j < j by omega), decide_eq_true (show j < j + 1 by omega), decide_eq_true rfl]
            revert c; cases set j <;> cases S.1 j <;> decide
          · rw [show decide (j < i + 1) = decide (j < i) from decide_eq_decide.mpr (by omega), decide_eq_false e, Bool.not_false, Bool.and_true]
        · rw [wI_g, if_neg (by omega), wI_g, if_neg (by omega)]; exact e8
        · rw [wI_g, if_neg (by omega), wI_g, if_neg (by omega)]; exact e10
        · rw [wI_g, if_neg (by omega), wI_g, hu j hj]
          by_cases e : j = i
          · subst e; rw [if_pos ⟨rfl, rfl⟩, c, decide_eq_true (show j < j + 1 by omega), if_pos (by rfl)]
          · rw [if_neg (fun h => e h.2), show decide (j < i + 1) = decide (j < i) from decide_eq_decide.mpr (by omega)]
    · have e : i = 4 := by omega
      subst e
      refine OK.t (nI_le (Nat.le_refl _) (by omega)) (OK.s ⟨⟨h9.cg (fun j _ => ?_), ?_, ?_, fun j hj => ?_⟩, hF⟩)
      · show _ = (S.1 j && !set j)
        by_cases e : j < 4
        · rw [decide_eq_true e, Bool.true_and]
        · have : S.1 j = false := by
            cases h : S.1 j
            · rfl
            · exact absurd (hS j h) e
          rw [this, Bool.false_and, Bool.false_and]
      · rw [e8]; exact hM.2.1
      · rw [e10]; exact hM.2.2.1
      · rw [hu j hj, decide_eq_true hj, Bool.true_and]; rfl
  · rw [decide_eq_false (by omega), Bool.false_and, Bool.not_false, Bool.and_true]
  · rw [decide_eq_false (by omega), Bool.false_and, if_neg (by decide)]; exact hM.2.2.2 j hj
theorem zc_raise {S : SS} (hM : STC s w S) {x : Int32} {set : Nat → Bool} (hx : RB x set) (hs : ∀ i, set i = true → i < 4) : OK (f_X8_raise s x w) (fun w' => STC s w' (risP S set) ∧ FX (PS s) w w') := by
  unfold f_X8_raise
  refine lo4 (fun n y0 y1 y3 v => ∃ i, n = 4 - i ∧ i ≤ 4 ∧ y0 = s ∧ y1 = x ∧ y3 = nI i ∧ FX (PS s) w v ∧ RB (v.1 s 9) (fun j => S.1 j || (decide (j < i) && set j)) ∧ v.1 s 8 = w.1 s 8 ∧ v.1 s 10 = w.1 s 10 ∧ ∀ j, j < 4 → v.1 (s + 1) j = if (decide (j < i) && set j) = true then -1 else S.2.2.2 j) ?_ fu (4 - 0) s x 0 w (by rw [fu_eq]; omega) ⟨0, rfl, Nat.zero_le _, rfl, rfl, rfl, FX.rf _ w, hM.1.cg (fun j _ => ?_), rfl, rfl, fun j hj => ?_⟩
  · rintro n k a0 a1 a3 v ⟨i, rfl, hi, rfl, rfl, rfl, hF, h9, e8, e10, hu⟩ hk
    rw [X8_raise_b2, k4]
    by_cases hin : i < 4
    · refine OK.f (nI_ge hin (by omega)) ?_
      rw [if_bt (by omega), hx i (by omega)]
      by_cases c : set i = false
      · refine OK.t c (hk _ _ _ _ _ (by omega) ⟨i + 1, rfl, hin, rfl, rfl, nI_1 i, hF, h9.cg (fun j _ => ?_), e8, e10, fun j hj => ?_⟩)
        · by_cases e : j = i
          · subst e; rw [c, Bool.and_false, Bool.and_false]
          · rw [show decide (j < i + 1) = decide (j < i) from decide_eq_decide.mpr (by omega)]
        · rw [hu j hj]
          by_cases e : j = i
          · subst e; rw [c, Bool.and_false, Bool.and_false]
          · rw [show decide (j < i + 1) = decide (j < i) from decide_eq_decide.mpr (by omega)]
      · refine OK.f c (OK.t (z_inb (by omega) (by omega)) (OK.l (OK.l ?_)))
        rw [Bool.not_eq_false] at c
        rw [nI_clamp (by omega)]
        refine hk _ _ _ _ _ (by omega) ⟨i + 1, rfl, hin, rfl, rfl, nI_1 i, (hF.tr (FX.w v _ (by unfold PS; omega))).tr (FX.w _ _ (by unfold PS; omega)), ?_, ?_, ?_, fun j hj => ?_⟩
        · rw [wI_s, wI_g, if_neg (by omega)]
          refine (h9.or (RB.one (p := i) (by omega))).cg (fun j _ => ?_)
          by_cases e : j = i
          · subst e
            rw [c, decide_eq_true (show j < j + 1 by omega), decide_eq_true (show j = j from rfl)]; simp
          · rw [show decide (j < i + 1) = decide (j < i) from decide_eq_decide.mpr (by omega), decide_eq_false e, Bool.or_false]
        · rw [wI_g, if_neg (by omega), wI_g, if_neg (by omega)]; exact e8
        · rw [wI_g, if_neg (by omega), wI_g, if_neg (by omega)]; exact e10
        · rw [wI_g, if_neg (by omega), wI_g, hu j hj]
          by_cases e : j = i
          · subst e; rw [if_pos ⟨rfl, rfl⟩, c, decide_eq_true (show j < j + 1 by omega), if_pos (by rfl)]
          · rw [if_neg (fun h => e h.2), show decide (j < i + 1) = decide (j < i) from decide_eq_decide.mpr (by omega)]
    · have e : i = 4 := by omega
      subst e
      refine OK.t (nI_le (Nat.le_refl _) (by omega)) (OK.s ⟨⟨h9.cg (fun j _ => ?_), ?_, ?_, fun j hj => ?_⟩, hF⟩)
      · show _ = (S.1 j || set j)
        by_cases e : j < 4
        · rw [decide_eq_true e, Bool.true_and]
        · have : set j = false := by
            cases h : set j
            · rfl
            · exact absurd (hs j h) e
          rw [this, Bool.and_false]
      · rw [e8]; exact hM.2.1
      · rw [e10]; exact hM.2.2.1
      · rw [hu j hj, decide_eq_true hj, Bool.true_and]; rfl
  · rw [decide_eq_false (by omega), Bool.false_and, Bool.or_false]
  · rw [decide_eq_false (by omega), Bool.false_and, if_neg (by decide)]; exact hM.2.2.2 j hj
theorem zc_tak {S : SS} (hM : STC s w S) (hS : SI A S) (hN : NUM A) {p : Nat} (hp : p < 4) {l : Nat} (h4s : w.1 s 4 = bI (wkS A l)) (it : Int32) : OK (f_X8_takeAway s (nI p) it w) (fun w' => STC s w' (takP (wkS A l) p it S) ∧ FX (PS s) w w') := by
  have h4 := hN.2.2.2.1.2
  unfold f_X8_takeAway takP
  rw [if_bt (by omega), hM.1 p (by omega)]
  by_cases c : S.1 p = false
  · rw [if_neg (show ¬ S.1 p = true by rw [c]; decide)]
    exact OK.t c (OK.s ⟨hM, FX.rf _ w⟩)
  refine OK.f c (OK.v ((zc_undo hM (fun i hi => by have := hS.lt hi; omega) (b := it) (RB.one (by omega))).m ?_))
  rw [Bool.not_eq_false] at c
  rw [if_pos c]
  rintro w1 ⟨hM1, hF1⟩
  generalize undP S (fun i => decide (i = p)) it = S1 at hM1 ⊢
  rw [hF1.2 s 4 (by unfold PS; omega), h4s, if_b0]
  by_cases hw : wkS A l = false
  · rw [if_neg (show ¬ wkS A l = true by rw [hw]; decide)]
    exact OK.t hw (OK.s ⟨hM1, hF1⟩)
  refine OK.f hw ?_
  rw [Bool.not_eq_false] at hw
  rw [if_pos hw]
  refine lo5 (fun n y0 y1 y3 y4 v => ∃ i, n = 4 - i ∧ i ≤ 4 ∧ y0 = s ∧ y1 = nI p ∧ RB y3 (fun q => decide (q < i) && decide (S1.2.2.2 q = nI p)) ∧ y4 = nI i ∧ v = w1) ?_ fu (4 - 0) s (nI p) 0 0 w1 (by rw [fu_eq]; omega) ⟨0, rfl, Nat.zero_le _, rfl, rfl, RB.z.cg (fun q _ => ?_), rfl, rfl⟩
  · rintro n k a0 a1 y a4 v ⟨i, rfl, hi, rfl, rfl, hy, rfl, rfl⟩ hk
    rw [X8_takeAway_b33, k4]
    by_cases hin : i < 4
    · refine OK.f (nI_ge hin (by omega)) (OK.t (z_inb (by omega) (by omega)) ?_)
      rw [nI_clamp (by omega), hM1.2.2.2 i hin]
      by_cases c2 : S1.2.2.2 i = nI p
      · refine OK.t c2 (OK.l (hk _ _ _ _ _ _ (by omega) ⟨i + 1, rfl, hin, rfl, rfl, ?_, nI_1 i, rfl⟩))
        refine (hy.or (RB.one (p := i) (by omega))).cg (fun j _ => ?_)
        by_cases e : j = i
        · subst e; rw [c2, decide_eq_true (show j < j + 1 by omega), decide_eq_true (show j = j from rfl)]; simp
        · rw [show decide (j < i + 1) = decide (j < i) from decide_eq_decide.mpr (by omega), decide_eq_false e, Bool.or_false]
      · refine OK.f c2 (OK.l (hk _ _ _ _ _ _ (by omega) ⟨i + 1, rfl, hin, rfl, rfl, ?_, nI_1 i, rfl⟩))
        refine (hy.or RB.z).cg (fun j _ => ?_)
        rw [Bool.or_false]
        by_cases e : j = i
        · subst e; rw [decide_eq_false c2, Bool.and_false, Bool.and_false]
        · rw [show decide (j < i + 1) = decide (j < i) from decide_eq_decide.mpr (by omega)]
    · have e : i = 4 := by omega
      subst e
      refine OK.t (nI_le (Nat.le_refl _) (by omega)) (OK.v ((zc_raise hM1 hy (fun j hj => ?_)).m ?_))
      · rw [Bool.and_eq_true] at hj; exact of_decide_eq_true hj.1
      · rintro w2 ⟨hM2, hF2⟩
        exact OK.s ⟨hM2, hF1.tr hF2⟩
  · rw [decide_eq_false (by omega), Bool.false_and]
end
