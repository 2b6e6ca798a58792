/-! stems -/
theorem nI_m1 (j : Nat) : nI (j + 1) + (-1) = nI j := by
  rw [← nI_1, Int32.add_assoc, show (1 : Int32) + (-1) = 0 from rfl, Int32.add_zero]
section
variable {w A : Wd}
theorem st_u (h8 : nPe A ≤ 8) {p : Nat} (hp : p < nPe A) : stS A p = (!ddS A p || anyF (fun k => decide (p < k) && (decide (A.1 4 k = nI p) && stS A k)) (nPe A)) := by
  show (!ddS A p || anyF (fun k => decide (p < k) && (decide (A.1 4 k = nI p) && stF A 8 k)) (nPe A)) = _
  congr 1
  refine anyF_cg _ (fun k hk => ?_)
  by_cases c : p < k
  · rw [show stS A k = stF A 9 k from rfl, stF_st 8 9 k (by omega) (by omega)]
  · rw [decide_eq_false c, Bool.false_and, Bool.false_and]
def PFs (a k : Nat) : Prop := (a = 44 ∧ k = 9) ∨ a = 56
theorem zc_stems {P : Nat} (hP : nPe A = P) (hP8 : P ≤ 8) (h47 : w.1 47 1 = nI P) (hk : ∀ k, k < P → (w.1 52 k = A.1 3 k ∧ w.1 53 k = A.1 4 k ∧ bt (w.1 44 10) k = ddS A k ∧ w.1 56 k = 0) ∧ (A.1 4 k = -1 ∨ NN (A.1 4 k) k) ∧ (A.1 3 k = 1 → A.1 4 k = -1)) (h9 : w.1 44 9 = 0) : OK (f_X0_findStems w) (fun u => RB (u.1 44 9) (ssS A (-1)) ∧ (∀ k, k < P → RB (u.1 56 k) (ssS A (nI k))) ∧ FX PFs w u) := by
  unfold f_X0_findStems
  rw [h47]
  refine OK.l ?_
  have st : ∃ y0, nI P - 1 = y0 ∧ ((P = 0 ∧ y0 = -1) ∨ ∃ j, P = j + 1 ∧ y0 = nI j) := by
    refine ⟨_, rfl, ?_⟩
    cases P with
    | zero => exact Or.inl ⟨rfl, rfl⟩
    | succ j => exact Or.inr ⟨j, rfl, by rw [show (1 : Int32) = nI 1 from rfl, pk_sub (by omega)]; rfl⟩
  obtain ⟨y0, e0, hy0⟩ := st
  rw [e0]
  refine lo2 (fun n y v => ∃ i, n = i ∧ i ≤ P ∧ ((i = 0 ∧ y = -1) ∨ ∃ j, i = j + 1 ∧ y = nI j) ∧ RB (v.1 44 9) (fun j => decide (i ≤ j) && ssS A (-1) j) ∧ (∀ k, k < P → RB (v.1 56 k) (fun j => decide (i ≤ j) && ssS A (nI k) j)) ∧ FX PFs w v) ?_ fu P y0 w (by rw [fu_eq]; omega) ⟨P, rfl, Nat.le_refl _, hy0, ?_, fun k hkP => ?_, FX.rf _ _⟩
  · rintro n k y v ⟨i, rfl, hi, hy, hr9, hr56, hF⟩ hkk
    rw [X0_findStems_b10]
    rcases hy with ⟨rfl, rfl⟩ | ⟨p, rfl, rfl⟩
    · refine OK.t (by decide) (OK.s ⟨hr9.cg (fun j _ => ?_), fun k hkP => (hr56 k hkP).cg (fun j _ => ?_), hF⟩)
      · rw [decide_eq_true (Nat.zero_le j), Bool.true_and]
      · rw [decide_eq_true (Nat.zero_le j), Bool.true_and]
    · have hpP : p < P := by omega
      obtain ⟨⟨c52, c53, c10, c56⟩, hpar, hch⟩ := hk p hpP
      have v52 : v.1 52 p = A.1 3 p := by rw [hF.2 _ _ (by unfold PFs; omega)]; exact c52
      have v53 : v.1 53 p = A.1 4 p := by rw [hF.2 _ _ (by unfold PFs; omega)]; exact c53
      have v10 : bt (v.1 44 10) p = ddS A p := by rw [hF.2 _ _ (by unfold PFs; omega)]; exact c10
      refine OK.f (by rw [z_lt, nI_toInt (by omega)]; have : (0 : Int32).toInt = 0 := rfl; omega) ?_
      have nx : ∃ i', i' = p ∧ ((i' = 0 ∧ nI p + (-1) = -1) ∨ ∃ j, i' = j + 1 ∧ nI p + (-1) = nI j) := by
        refine ⟨p, rfl, ?_⟩
        cases p with
        | zero => exact Or.inl ⟨rfl, rfl⟩
        | succ j => exact Or.inr ⟨j, rfl, nI_m1 j⟩
      obtain ⟨i', ei', hnx⟩ := nx
      subst ei'
      -- a stem below: all kin are behind
      have hst : stS A i' = (!ddS A i' || decide (¬ v.1 56 i' = 0)) := by
        rw [st_u (by omega) (by omega)]
        congr 1
        cases ha : anyF (fun k => decide (i' < k) && (decide (A.1 4 k = nI i') && stS A k)) (nPe A) with
        | true =>
          obtain ⟨j, hj, ej⟩ := anyF_x ha
          rw [Bool.and_eq_true, Bool.and_eq_true] at ej
          have j1 := of_decide_eq_true ej.1
          have j2 := of_decide_eq_true ej.2.1
          symm
          refine decide_eq_true (fun q => ?_)
          have hb := hr56 i' hpP j (by omega)
          dsimp only at hb
          rw [q, b_0, decide_eq_true (show i' + 1 ≤ j by omega), Bool.true_and] at hb
          unfold ssS at hb
          rw [decide_eq_true hj, if_neg (nI_n1 (by omega)), decide_eq_true j2, ej.2.2] at hb
          cases hb
        | false =>
          symm
          refine decide_eq_false (fun q => q ?_)
          refine b_ext (fun j hj => ?_)
          rw [hr56 i' hpP j hj, b_0]
          dsimp only
          by_cases c1 : i' + 1 ≤ j
          · rw [decide_eq_true c1, Bool.true_and]
            unfold ssS
            by_cases c2 : j < nPe A
            · rw [if_neg (nI_n1 (by omega))]
              have : (decide (i' < j) && (decide (A.1 4 j = nI i') && stS A j)) = false := by
                cases hx : (decide (i' < j) && (decide (A.1 4 j = nI i') && stS A j)) with
                | false => rfl
                | true => rw [anyF_of (g := fun k => decide (i' < k) && (decide (A.1 4 k = nI i') && stS A k)) c2 hx] at ha; cases ha
              rw [decide_eq_true (show i' < j by omega), Bool.true_and] at this
              rw [this, Bool.and_false]
            · rw [decide_eq_false c2, Bool.false_and]
          · rw [decide_eq_false c1, Bool.false_and]
      -- the state when nothing is added
      have none' : stS A i' = false → OK (k (nI i' + (-1)) v) (fun u => RB (u.1 44 9) (ssS A (-1)) ∧ (∀ k, k < P → RB (u.1 56 k) (ssS A (nI k))) ∧ FX PFs w u) := by
        intro hs
        refine hkk _ _ _ (by omega) ⟨i', rfl, by omega, hnx, hr9.cg (fun j _ => ?_), fun k' hk' => (hr56 k' hk').cg (fun j _ => ?_), hF⟩
        · by_cases q : j = i'
          · subst q
            unfold ssS
            rw [hs, decide_eq_false (by omega), Bool.false_and, Bool.and_false, Bool.and_false, Bool.and_false]
          · rw [show decide (i' + 1 ≤ j) = decide (i' ≤ j) from decide_eq_decide.mpr (by omega)]
        · by_cases q : j = i'
          · subst q
            unfold ssS
            rw [hs, decide_eq_false (by omega), Bool.false_and, Bool.and_false, Bool.and_false, Bool.and_false]
          · rw [show decide (i' + 1 ≤ j) = decide (i' ≤ j) from decide_eq_decide.mpr (by omega)]
      have yes : stS A i' = true → OK (X0_findStems_b34 k (nI i') v) (fun u => RB (u.1 44 9) (ssS A (-1)) ∧ (∀ k, k < P → RB (u.1 56 k) (ssS A (nI k))) ∧ FX PFs w u) := by
        intro hs
        have s9 : ssS A (-1) i' = decide (A.1 3 i' = 1) := by
          unfold ssS
          rw [decide_eq_true (show i' < nPe A by omega), if_pos rfl, hs, Bool.and_true, Bool.true_and]
        have sk : ∀ x, x < P → ssS A (nI x) i' = decide (A.1 4 i' = nI x) := fun x hx => by
          unfold ssS
          rw [decide_eq_true (show i' < nPe A by omega), if_neg (nI_n1 (by omega)), hs, Bool.and_true, Bool.true_and]
        have gap : ∀ (f : Nat → Bool) (b : Bool), f i' = b → ∀ j, (decide (i' ≤ j) && f j) = ((decide (i' + 1 ≤ j) && f j) || (decide (j = i') && b)) := fun f b e j => by
          by_cases q : j = i'
          · rw [q, e, decide_eq_true (Nat.le_refl _), decide_eq_true rfl, decide_eq_false (show ¬ i' + 1 ≤ i' by omega), Bool.true_and, Bool.false_and, Bool.false_or]
          · rw [decide_eq_false q, Bool.false_and, Bool.or_false, show decide (i' + 1 ≤ j) = decide (i' ≤ j) from decide_eq_decide.mpr (by omega)]
        unfold X0_findStems_b34
        refine OK.t (z_inb (by omega) (by omega)) ?_
        rw [nI_clamp (n := i') (by omega), v53]
        refine OK.l (OK.t (z_inb (by omega) (by omega)) ?_)
        rw [v52]
        by_cases r1 : A.1 3 i' = 1
        · refine OK.t r1 (OK.l (hkk _ _ _ (by omega) ⟨i', rfl, by omega, hnx, ?_, fun x hx => ?_, hF.tr (FX.w _ _ (by unfold PFs; omega))⟩))
          · rw [wI_s]
            refine (hr9.or (RB.one (p := i') (by omega))).cg (fun j _ => ?_)
            rw [gap _ true (s9.trans (decide_eq_true r1)), Bool.and_true]
          · rw [wI_g, if_neg (by omega)]
            refine (hr56 x hx).cg (fun j _ => ?_)
            rw [gap _ false ((sk x hx).trans (decide_eq_false (by rw [hch r1]; exact fun q => nI_n1 (by omega) q.symm))), Bool.and_false, Bool.or_false]
        · have g9 : RB (v.1 44 9) (fun j => decide (i' ≤ j) && ssS A (-1) j) := hr9.cg (fun j _ => by
            rw [gap _ false (s9.trans (decide_eq_false r1)), Bool.and_false, Bool.or_false])
          refine OK.f r1 ?_
          rcases hpar with q | ⟨x, hx, q⟩
          · rw [q]
            refine OK.t (by decide) (hkk _ _ _ (by omega) ⟨i', rfl, by omega, hnx, g9, fun x hx => (hr56 x hx).cg (fun j _ => ?_), hF⟩)
            rw [gap _ false ((sk x hx).trans (decide_eq_false (by rw [q]; exact fun q => nI_n1 (by omega) q.symm))), Bool.and_false, Bool.or_false]
          · rw [q]
            refine OK.f (by rw [z_lt, nI_toInt (by omega)]; have : (0 : Int32).toInt = 0 := rfl; omega) (OK.f (nI_ge hx (by omega)) (OK.t (z_inb (by omega) (by omega)) (OK.t (z_inb (by omega) (by omega)) ?_)))
            rw [nI_clamp (n := x) (by omega)]
            refine OK.l (hkk _ _ _ (by omega) ⟨i', rfl, by omega, hnx, by rw [wI_g, if_neg (by omega)]; exact g9, fun z hz => ?_, hF.tr (FX.w _ _ (by unfold PFs; omega))⟩)
            by_cases e : z = x
            · subst e
              rw [wI_s]
              refine ((hr56 z hz).or (RB.one (p := i') (by omega))).cg (fun j _ => ?_)
              rw [gap _ true ((sk z hz).trans (decide_eq_true q)), Bool.and_true]
            · rw [wI_g, if_neg (by omega)]
              refine (hr56 z hz).cg (fun j _ => ?_)
              rw [gap _ false ((sk z hz).trans (decide_eq_false (by rw [q, nI_eq (by omega) (by omega)]; omega))), Bool.and_false, Bool.or_false]
      unfold f_X0_isDead
      rw [if_bt (show i' < 32 by omega), v10]
      by_cases dd : ddS A i' = false
      · rw [if_pos dd, cl_s, i01]
        exact yes (by rw [hst, dd]; rfl)
      · rw [if_neg dd, cl_s, i10]
        rw [Bool.not_eq_false] at dd
        refine OK.t (z_inb (by omega) (by omega)) ?_
        rw [nI_clamp (n := i') (by omega)]
        refine OK.i (fun z => none' ?_) (fun z => yes ?_)
        · rw [hst, dd, decide_eq_false (fun q => q z)]; rfl
        · rw [hst, dd, decide_eq_true z]; rfl
  · rw [h9]
    refine RB.z.cg (fun j _ => ?_)
    unfold ssS
    by_cases q : P ≤ j
    · rw [decide_eq_false (show ¬ j < nPe A by omega), Bool.false_and, Bool.and_false]
    · rw [decide_eq_false q, Bool.false_and]
  · rw [(hk k hkP).1.2.2.2]
    refine RB.z.cg (fun j _ => ?_)
    unfold ssS
    by_cases q : P ≤ j
    · rw [decide_eq_false (show ¬ j < nPe A by omega), Bool.false_and, Bool.and_false]
    · rw [decide_eq_false q, Bool.false_and]
theorem zc_fillU {m : Wd} (hD : DR w m) : ∃ u, f_X0_fillUntoldLands w = some u ∧ FX (fun a k => a = 44 ∧ 12 ≤ k ∧ k ≤ 14) w u ∧ (rL m = 0 → u = w) ∧ (0 < rL m → ∀ j, j < 3 → u.1 44 (12 + j) = m.1 0 (31 + j)) := by
  obtain ⟨d1, d2, d3, d4, d5, d6, d7, d8⟩ := hD
  have hL4 := d1.1.2.1
  have e45 : w.1 45 1 = nI (rL m) := d1.1.2.2.1.trans d1.1.1
  have vj : ∀ j, j < 3 → (if w.1 44 (12 + j) = -1 then 0 else w.1 44 (12 + j)) = m.1 0 (31 + j) := fun j hj => by
    obtain ⟨a1, a2, a3⟩ := d5 j hj
    cases hb : bt (m.1 0 36) j with
    | false => rw [(a3 hb).1, if_pos rfl, (a3 hb).2]
    | true =>
      obtain ⟨q1, q2⟩ := a2 hb
      rw [q1, if_neg]
      obtain ⟨i, hi, e⟩ := q2
      rw [e]; exact nI_n1 (by omega)
  unfold f_X0_fillUntoldLands
  rw [e45]
  by_cases c : rL m = 0
  · rw [c, if_pos (show nI 0 = 0 from rfl)]
    exact ⟨w, rfl, FX.rf _ _, fun _ => rfl, fun q => by omega⟩
  · rw [if_neg (show ¬ nI (rL m) = 0 from fun q => c ((nI_eq (b := 0) (by omega) (by omega)).mp q))]
    have h48 : ∀ t0 u, (∃ u', X0_fillUntoldLands_b48 t0 u = some u' ∧ u' = wI (wI u 44 13 t0) 44 14 (if u.1 44 14 = -1 then 0 else u.1 44 14)) := fun t0 u => by
      unfold X0_fillUntoldLands_b48
      have q14 : (wI u 44 13 t0).1 44 14 = u.1 44 14 := by rw [wI_g, if_neg (by omega)]
      rw [lt_s', q14]
      by_cases q : u.1 44 14 = -1
      · rw [if_pos q, lt_s', if_pos q]; exact ⟨_, rfl, rfl⟩
      · rw [if_neg q, lt_s', if_neg q]; exact ⟨_, rfl, rfl⟩
    have h28 : ∀ t0, ∃ u', X0_fillUntoldLands_b28 t0 w = some u' ∧ u' = wI (wI (wI w 44 12 t0) 44 13 (if w.1 44 13 = -1 then 0 else w.1 44 13)) 44 14 (if w.1 44 14 = -1 then 0 else w.1 44 14) := fun t0 => by
      unfold X0_fillUntoldLands_b28
      rw [lt_s']
      have q13 : (wI w 44 12 t0).1 44 13 = w.1 44 13 := by rw [wI_g, if_neg (by omega)]
      have q14 : (wI w 44 12 t0).1 44 14 = w.1 44 14 := by rw [wI_g, if_neg (by omega)]
      rw [q13]
      by_cases q : w.1 44 13 = -1
      · rw [if_pos q, if_pos q]
        obtain ⟨u', x1, x2⟩ := h48 0 (wI w 44 12 t0)
        rw [q14] at x2
        exact ⟨u', x1, x2⟩
      · rw [if_neg q, if_neg q]
        obtain ⟨u', x1, x2⟩ := h48 (w.1 44 13) (wI w 44 12 t0)
        rw [q14] at x2
        exact ⟨u', x1, x2⟩
    have fin : ∀ u', u' = wI (wI (wI w 44 12 (if w.1 44 12 = -1 then 0 else w.1 44 12)) 44 13 (if w.1 44 13 = -1 then 0 else w.1 44 13)) 44 14 (if w.1 44 14 = -1 then 0 else w.1 44 14) → FX (fun a k => a = 44 ∧ 12 ≤ k ∧ k ≤ 14) w u' ∧ (rL m = 0 → u' = w) ∧ (0 < rL m → ∀ j, j < 3 → u'.1 44 (12 + j) = m.1 0 (31 + j)) := by
      rintro u' rfl
      refine ⟨((FX.w w _ (by omega)).tr (FX.w _ _ (by omega))).tr (FX.w _ _ (by omega)), fun q => absurd q c, fun _ j hj => ?_⟩
      rcases (show j = 0 ∨ j = 1 ∨ j = 2 by omega) with rfl | rfl | rfl
      · rw [wI_g, if_neg (by omega), wI_g, if_neg (by omega), wI_s]; exact vj 0 (by omega)
      · rw [wI_g, if_neg (by omega), wI_s]; exact vj 1 (by omega)
      · rw [wI_s]; exact vj 2 (by omega)
    by_cases q : w.1 44 12 = -1
    · rw [if_pos q]
      obtain ⟨u', x1, x2⟩ := h28 0
      refine ⟨u', x1, fin u' ?_⟩
      rw [if_pos q]; exact x2
    · rw [if_neg q]
      obtain ⟨u', x1, x2⟩ := h28 (w.1 44 12)
      refine ⟨u', x1, fin u' ?_⟩
      rw [if_neg q]; exact x2
end
