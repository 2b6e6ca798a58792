/-! the desk's next row -/
def P7 (a _k : Nat) : Prop := a = 7
def RF (w : Wd) (n : Nat) (f : Nat → Nat) : Prop := ∀ i, i < n → w.1 7 i = nI (f i)
section
variable {w : Wd} {n : Nat}
theorem zc_swap {f : Nat → Nat} (hn : n ≤ 6) (hf : RF w n f) {a b : Nat} (ha : a < n) (hb : b < n) : f_X2_swapInRow (nI a) (nI b) w = some (wI (wI w 7 a (nI (f b))) 7 b (nI (f a))) ∧ RF (wI (wI w 7 a (nI (f b))) 7 b (nI (f a))) n (swF f a b) := by
  constructor
  · unfold f_X2_swapInRow
    rw [z_inb (by omega) (by omega), if_pos rfl, lt_s', z_inb (by omega) (by omega), if_pos rfl, if_pos rfl, lt_s', if_pos rfl, lt_s', nI_clamp (n := a) (by omega), nI_clamp (n := b) (by omega), hf a ha, hf b hb]
  · intro i hi
    unfold swF
    rw [wI_g]
    by_cases e : i = b
    · rw [if_pos ⟨rfl, e⟩, if_pos e]
    · rw [if_neg (fun h => e h.2), if_neg e, wI_g]
      by_cases e2 : i = a
      · rw [if_pos ⟨rfl, e2⟩, if_pos e2]
      · rw [if_neg (fun h => e2 h.2), if_neg e2]; exact hf i hi
theorem zc_step {f : Nat → Nat} (hn : n ≤ 6) (hf : RF w n f) (hf8 : ∀ i, i < n → f i < 8) : OK (f_X2_stepRow (nI n) w) (fun q => (nxF n f = none ∧ q.1 = 0 ∧ q.2 = w) ∨ ∃ g, nxF n f = some g ∧ q.1 = 1 ∧ RF q.2 n g ∧ FX P7 w q.2) := by
  have n1 : (1 : Int32).toInt = 1 := rfl
  have n2 : (2 : Int32).toInt = 2 := rfl
  have rev : ∀ (t : Nat) (f2 : Nat → Nat) (w2 : Wd), t + 1 < n → RF w2 n f2 → FX P7 w w2 → OK (X2_stepRow_b83_L (nI n) (nI t) (nI (n - 1 - t)) 0 w2) (fun q => q.1 = 1 ∧ RF q.2 n (rvF f2 t n ((n - 1 - t) / 2)) ∧ FX P7 w q.2) := by
    intro t f2 w2 ht hR hF
    refine lo5 (fun m y1 y2 y4 y5 u => ∃ i, m = (n - 1 - t) / 2 - i ∧ i ≤ (n - 1 - t) / 2 ∧ y1 = nI n ∧ y2 = nI t ∧ y4 = nI (n - 1 - t) ∧ y5 = nI i ∧ RF u n (rvF f2 t n i) ∧ FX P7 w u) ?_ fu ((n - 1 - t) / 2 - 0) (nI n) (nI t) (nI (n - 1 - t)) 0 w2 (by rw [fu_eq]; omega) ⟨0, rfl, Nat.zero_le _, rfl, rfl, rfl, rfl, hR, hF⟩
    rintro m k y1 y2 y4 y5 u ⟨i, rfl, hi, rfl, rfl, rfl, rfl, hRu, hFu⟩ hk
    rw [X2_stepRow_b83, show (2 : Int32) = nI 2 from rfl, pk_div (by omega) (by omega) (by omega)]
    by_cases hin : i < (n - 1 - t) / 2
    · refine OK.f (nI_ge hin (by omega)) ?_
      rw [nI_1, nI_add, show (1 : Int32) = nI 1 from rfl, pk_sub (by omega), pk_sub (by omega)]
      obtain ⟨e, hR2⟩ := zc_swap hn hRu (a := t + 1 + i) (b := n - 1 - i) (by omega) (by omega)
      rw [e, cv_s]
      exact hk _ _ _ _ _ _ (by omega) ⟨i + 1, rfl, hin, rfl, rfl, rfl, nI_1 i, hR2, (hFu.tr (FX.w u _ rfl)).tr (FX.w _ _ rfl)⟩
    · have e : i = (n - 1 - t) / 2 := by omega
      subst e
      exact OK.t (nI_le (Nat.le_refl _) (by omega)) (OK.s ⟨rfl, hRu, hFu⟩)
  have oth : ∀ t, t + 1 < n → OK (X2_stepRow_b41_L (nI n) (nI t) (nI (n - 1)) w) (fun q => q.1 = 1 ∧ RF q.2 n (rvF (swF f t (otF f t (n - 1))) t n ((n - 1 - t) / 2)) ∧ FX P7 w q.2) := by
    intro t ht
    have b67 : ∀ o, o < n → otF f t (n - 1) = o → OK (X2_stepRow_b67 (nI n) (nI t) (nI o) w) (fun q => q.1 = 1 ∧ RF q.2 n (rvF (swF f t (otF f t (n - 1))) t n ((n - 1 - t) / 2)) ∧ FX P7 w q.2) := by
      intro o ho e
      rw [e]
      unfold X2_stepRow_b67
      obtain ⟨e2, hR2⟩ := zc_swap hn hf (a := t) (b := o) (by omega) ho
      rw [e2, cv_s, lt_s', show (1 : Int32) = nI 1 from rfl, pk_sub (by omega), pk_sub (by omega)]
      exact rev t _ _ ht hR2 ((FX.w (P := P7) w _ rfl).tr (FX.w (P := P7) _ _ rfl))
    refine lo4 (fun m y1 y2 y3 u => ∃ j, m = j ∧ j < n ∧ t ≤ j ∧ y1 = nI n ∧ y2 = nI t ∧ y3 = nI j ∧ w = u ∧ otF f t (n - 1) = otF f t j) ?_ fu (n - 1) (nI n) (nI t) (nI (n - 1)) w (by rw [fu_eq]; omega) ⟨n - 1, rfl, by omega, by omega, rfl, rfl, rfl, rfl, rfl⟩
    rintro m k y1 y2 y3 u ⟨j, rfl, hj, htj, rfl, rfl, rfl, rfl, ho⟩ hk
    rw [X2_stepRow_b41]
    cases m with
    | zero =>
      refine OK.t (nI_le (by omega) (by omega)) (b67 0 (by omega) (ho.trans rfl))
    | succ j =>
      have hs : otF f t (j + 1) = if j + 1 ≤ t then j + 1 else if f (j + 1) < f t then otF f t j else j + 1 := rfl
      by_cases c : j + 1 ≤ t
      · rw [if_pos c] at hs
        exact OK.t (nI_le c (by omega)) (b67 _ hj (ho.trans hs))
      · rw [if_neg c] at hs
        refine OK.f (nI_ge (by omega) (by omega)) (OK.t (z_inb (by omega) (by omega)) (OK.t (z_inb (by omega) (by omega)) ?_))
        have h1 := hf8 t (by omega)
        have h2 := hf8 (j + 1) hj
        rw [nI_clamp (n := t) (by omega), nI_clamp (n := j + 1) (by omega), hf t (by omega), hf (j + 1) hj]
        by_cases c2 : f (j + 1) < f t
        · rw [if_pos c2] at hs
          refine OK.f (nI_ge c2 (by omega)) ?_
          rw [pk_m1]
          exact hk j _ _ _ _ (by omega) ⟨j, rfl, by omega, by omega, rfl, rfl, rfl, rfl, ho.trans hs⟩
        · rw [if_neg c2] at hs
          exact OK.t (nI_le (by omega) (by omega)) (b67 _ hj (ho.trans hs))
  unfold f_X2_stepRow
  refine OK.l ?_
  have hv : ∀ y : Int32, ∀ j : Nat, y.toInt = (j : Int) - 1 → tnF f (n - 1) = j → j < n ∨ j = 0 → OK (X2_stepRow_b31 (nI n) y w) (fun q => (nxF n f = none ∧ q.1 = 0 ∧ q.2 = w) ∨ ∃ g, nxF n f = some g ∧ q.1 = 1 ∧ RF q.2 n g ∧ FX P7 w q.2) := by
    intro y j hy hj hjn
    unfold X2_stepRow_b31 nxF
    rw [hj]
    cases j with
    | zero =>
      rw [if_pos rfl]
      refine OK.f (by rw [z_le, hy]; show ¬ (0 : Int) ≤ _; omega) (OK.s (Or.inl ⟨rfl, rfl, rfl⟩))
    | succ j =>
      rw [if_neg (show ¬ j + 1 = 0 by omega)]
      have hyj : y = nI j := by rw [z_of (x := y) (by omega), hy]; congr 1; omega
      rw [hyj]
      refine OK.t (nI_pos' (by omega)) (OK.l ?_)
      rw [show (1 : Int32) = nI 1 from rfl, pk_sub (by omega)]
      refine (oth j (by omega)).m ?_
      rintro q ⟨q1, q2, q3⟩
      exact Or.inr ⟨_, rfl, q1, q2, q3⟩
  by_cases h2 : n < 2
  · have hy : (nI n - 2).toInt = (n : Int) - 2 := by rw [z_sub (by rw [nI_toInt (by omega), n2]; omega) (by rw [nI_toInt (by omega), n2]; omega), nI_toInt (by omega), n2]
    have ht0 : tnF f (n - 1) = 0 := by rw [show n - 1 = 0 by omega]; rfl
    unfold X2_stepRow_b4_L
    rw [lp_fu]
    show OK (X2_stepRow_b4 (lp 19999 _ _) (nI n) (nI n - 2) w) _
    rw [X2_stepRow_b4]
    refine OK.t (by rw [z_lt0, hy]; omega) ?_
    unfold X2_stepRow_b31 nxF
    rw [ht0, if_pos rfl]
    exact OK.f (by rw [z_le, hy]; show ¬ (0 : Int) ≤ _; omega) (OK.s (Or.inl ⟨rfl, rfl, rfl⟩))
  · rw [show (2 : Int32) = nI 2 from rfl, pk_sub (by omega)]
    refine lo3 (fun m y1 y2 u => ∃ j, m = j ∧ j < n ∧ y1 = nI n ∧ y2.toInt = (j : Int) - 1 ∧ w = u ∧ tnF f (n - 1) = tnF f j) ?_ fu (n - 1) (nI n) (nI (n - 2)) w (by rw [fu_eq]; omega) ⟨n - 1, rfl, by omega, rfl, by rw [nI_toInt (by omega)]; omega, rfl, rfl⟩
    rintro m k y1 y u ⟨j, rfl, hj, rfl, hy, rfl, ht⟩ hk
    rw [X2_stepRow_b4]
    cases m with
    | zero => exact OK.t (by rw [z_lt0, hy]; omega) (hv y 0 hy (ht.trans rfl) (Or.inr rfl))
    | succ j =>
      have hyj : y = nI j := by rw [z_of (x := y) (by omega), hy]; congr 1; omega
      have hs : tnF f (j + 1) = if f (j + 1) < f j then tnF f j else j + 1 := rfl
      have h1 := hf8 j (by omega)
      have h2 := hf8 (j + 1) hj
      refine OK.f (by rw [hyj]; exact nI_pos (by omega)) ?_
      rw [hyj, nI_1]
      refine OK.t (z_inb (by omega) (by omega)) (OK.t (z_inb (by omega) (by omega)) ?_)
      rw [nI_clamp (n := j) (by omega), nI_clamp (n := j + 1) (by omega), hf j (by omega), hf (j + 1) hj]
      by_cases c : f (j + 1) < f j
      · rw [if_pos c] at hs
        refine OK.f (nI_ge c (by omega)) (hk j _ _ _ (by omega) ⟨j, rfl, by omega, rfl, ?_, rfl, ht.trans hs⟩)
        rw [z_m1 (by rw [nI_toInt (by omega)]; omega), nI_toInt (by omega)]
      · rw [if_neg c] at hs
        refine OK.t (nI_le (by omega) (by omega)) ?_
        rw [← hyj]
        exact hv y (j + 1) hy (ht.trans hs) (Or.inl hj)
end
