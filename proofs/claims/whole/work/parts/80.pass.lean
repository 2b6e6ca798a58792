/-! by kin: one pass comes to the same as the recursion -/
theorem eqP_z {set : Nat → Bool} {m i : Nat} (h : set i = false) : eqP set m i = 0 := by unfold eqP; rw [h, if_neg (by decide)]
theorem eqP_00 {set : Nat → Bool} {i : Nat} : eqP set 0 i = 0 := by
  unfold eqP
  split
  · rw [Nat.zero_div, Nat.zero_mod, if_neg (by omega)]
  · rfl
theorem vF_0 {A : Wd} : ∀ f of i, vF A f of 0 i = 0 := by
  intro f
  induction f with
  | zero => intro of i; rfl
  | succ f ih =>
    intro of i
    refine sm_0 (fun k _ => ?_)
    unfold vG
    rw [eqP_00]
    split
    · split
      · exact ih _ _
      · split <;> rfl
    · rfl
theorem vF_hi {A : Wd} : ∀ f of m i, nPe A ≤ i → vF A f of m i = 0 := by
  intro f
  induction f with
  | zero => intro of m i _; rfl
  | succ f ih =>
    intro of m i hi
    refine sm_0 (fun k hk => ?_)
    unfold vG
    split
    · split
      · exact ih _ _ _ hi
      · rw [if_neg (by omega)]
    · rfl
theorem vF_st {A : Wd} (hPe : PEI A) (h8 : nPe A ≤ 8) : ∀ f g p a i, p < nPe A → nPe A - p ≤ f → nPe A - p ≤ g → vF A f (nI p) a i = vF A g (nI p) a i := by
  intro f
  induction f with
  | zero => intro g p a i hp h; omega
  | succ f ih =>
    intro g p a i hp h h2
    obtain ⟨g, rfl⟩ : ∃ g', g = g' + 1 := ⟨g - 1, by omega⟩
    refine fb_sm_cong (fun k hk => ?_)
    unfold vG
    by_cases c : ssS A (nI p) k = true
    · rw [if_pos c, if_pos c]
      have := ss_kin hPe h8 hp c
      dsimp only
      rw [ih g k _ i hk (by omega) (by omega)]
    · rw [if_neg c, if_neg c]
def pj (A : Wd) (P : Nat → Nat) (j : Nat) : Nat → Nat := if ddS A j = true ∧ 0 < P j then fun i => (if i = j then 0 else P i) + eqP (ssS A (nI j)) (P j) i else P
def psF (A : Wd) (P : Nat → Nat) : Nat → Nat → Nat
  | 0 => P
  | j + 1 => pj A (psF A P j) j
def cK (A : Wd) (P : Nat → Nat) (j i k : Nat) : Nat := if ddS A k = true ∧ j ≤ k then vF A 9 (nI k) (P k) i else if i = k then P k else 0
theorem sm_one (f : Nat → Nat) (i : Nat) : ∀ n, fb_sm (fun k => if i = k then f k else 0) n = if i < n then f i else 0 := by
  intro n
  induction n with
  | zero => rw [if_neg (by omega)]; rfl
  | succ n ih =>
    rw [fb_sm_succ, ih]
    by_cases e : i = n
    · subst e; rw [if_neg (by omega), if_pos rfl, if_pos (by omega), Nat.zero_add]
    · rw [if_neg e, Nat.add_zero]
      by_cases h : i < n
      · rw [if_pos h, if_pos (by omega)]
      · rw [if_neg h, if_neg (by omega)]
theorem pass_step {A : Wd} (hPe : PEI A) (h8 : nPe A ≤ 8) {P : Nat → Nat} {j : Nat} (hj : j < nPe A) (hZ : ∀ k q, k < nPe A → ddS A k = true → A.1 4 k = nI q → j ≤ q → q < k → P k = 0) (i : Nat) : fb_sm (cK A (pj A P j) (j + 1) i) (nPe A) = fb_sm (cK A P j i) (nPe A) := by
  by_cases c : ddS A j = true ∧ 0 < P j
  · have hG : fb_sm (vG A (fun k a j => vF A 9 (nI k) a j) (nI j) (P j) i) (nPe A) = vF A 9 (nI j) (P j) i := by
      rw [vF_st hPe h8 9 10 j (P j) i hj (by omega) (by omega)]; rfl
    have hnew : ∀ k, k < nPe A → cK A (pj A P j) (j + 1) i k = (if k = j then 0 else cK A P j i k) + vG A (fun k a j => vF A 9 (nI k) a j) (nI j) (P j) i k := by
      intro k hk
      have hpj : pj A P j k = (if k = j then 0 else P k) + eqP (ssS A (nI j)) (P j) k := by unfold pj; rw [if_pos c]
      unfold cK
      rw [hpj]
      by_cases ek : k = j
      · subst ek
        have hns : ssS A (nI k) k = false := by
          cases q : ssS A (nI k) k
          · rfl
          · have := ss_kin hPe h8 hj q; omega
        rw [if_neg (show ¬ (ddS A k = true ∧ k + 1 ≤ k) by omega), if_pos rfl, if_pos rfl, eqP_z hns, vG_0 hns]
        split <;> rfl
      · rw [if_neg ek, if_neg ek]
        by_cases s : ssS A (nI j) k = true
        · have hjk := ss_kin hPe h8 hj s
          by_cases d : ddS A k = true
          · rw [if_pos (show ddS A k = true ∧ j + 1 ≤ k from ⟨d, by omega⟩), if_pos (show ddS A k = true ∧ j ≤ k from ⟨d, by omega⟩)]
            have hp : A.1 4 k = nI j := by
              unfold ssS at s
              rw [Bool.and_eq_true, Bool.and_eq_true, if_neg (nI_n1 (by omega))] at s
              exact of_decide_eq_true s.2.1
            rw [hZ k j hk d hp (Nat.le_refl _) hjk, vF_0, Nat.zero_add, Nat.zero_add]
            unfold vG; rw [if_pos s, if_pos d]
          · rw [if_neg (show ¬ (ddS A k = true ∧ j + 1 ≤ k) from fun h => d h.1), if_neg (show ¬ (ddS A k = true ∧ j ≤ k) from fun h => d h.1)]
            unfold vG
            rw [if_pos s, if_neg d]
            by_cases e : i = k
            · rw [if_pos e, if_pos e, if_pos e]
            · rw [if_neg e, if_neg e, if_neg e]
        · rw [Bool.not_eq_true] at s
          rw [eqP_z s, vG_0 s, Nat.add_zero, Nat.add_zero]
          by_cases d : ddS A k = true ∧ j ≤ k
          · rw [if_pos (show ddS A k = true ∧ j + 1 ≤ k from ⟨d.1, by omega⟩), if_pos d]; rfl
          · rw [if_neg (show ¬ (ddS A k = true ∧ j + 1 ≤ k) from fun h => d ⟨h.1, by omega⟩), if_neg d]; rfl
    rw [fb_sm_cong hnew, fb_sm_add, hG]
    have hu := fb_sm_upd (cK A P j i) 0 hj
    have hcj : cK A P j i j = vF A 9 (nI j) (P j) i := by unfold cK; rw [if_pos ⟨c.1, Nat.le_refl _⟩]
    rw [hcj] at hu
    omega
  · have hp : pj A P j = P := by unfold pj; rw [if_neg c]
    rw [hp]
    refine fb_sm_cong (fun k hk => ?_)
    unfold cK
    by_cases ek : k = j
    · subst ek
      by_cases d : ddS A k = true
      · have h0 : P k = 0 := by
          by_cases z : 0 < P k
          · exact absurd ⟨d, z⟩ c
          · omega
        rw [if_neg (show ¬ (ddS A k = true ∧ k + 1 ≤ k) by omega), if_pos (show ddS A k = true ∧ k ≤ k from ⟨d, Nat.le_refl _⟩), h0, vF_0]
        split <;> rfl
      · rw [if_neg (show ¬ (ddS A k = true ∧ k + 1 ≤ k) from fun h => d h.1), if_neg (show ¬ (ddS A k = true ∧ k ≤ k) from fun h => d h.1)]
    · by_cases d : ddS A k = true ∧ j ≤ k
      · rw [if_pos (show ddS A k = true ∧ j + 1 ≤ k from ⟨d.1, by omega⟩), if_pos d]
      · rw [if_neg (show ¬ (ddS A k = true ∧ j + 1 ≤ k) from fun h => d ⟨h.1, by omega⟩), if_neg d]
theorem pass_all {A : Wd} (hPe : PEI A) (h8 : nPe A ≤ 8) {P : Nat → Nat} (hZ : ∀ k q, k < nPe A → ddS A k = true → A.1 4 k = nI q → q < k → P k = 0) : ∀ j, j ≤ nPe A → (∀ i, fb_sm (cK A (psF A P j) j i) (nPe A) = fb_sm (cK A P 0 i) (nPe A)) ∧ ∀ k q, k < nPe A → ddS A k = true → A.1 4 k = nI q → j ≤ q → q < k → psF A P j k = 0 := by
  intro j
  induction j with
  | zero => intro _; exact ⟨fun i => rfl, fun k q hk d e _ h => hZ k q hk d e h⟩
  | succ j ih =>
    intro hj
    obtain ⟨h1, h2⟩ := ih (by omega)
    refine ⟨fun i => (pass_step hPe h8 (by omega) h2 i).trans (h1 i), fun k q hk d e hq hqk => ?_⟩
    show pj A (psF A P j) j k = 0
    have h0 := h2 k q hk d e (by omega) hqk
    unfold pj
    split
    · dsimp only
      have hns : ssS A (nI j) k = false := by
        cases s : ssS A (nI j) k
        · rfl
        · unfold ssS at s
          rw [Bool.and_eq_true, Bool.and_eq_true, if_neg (nI_n1 (by omega))] at s
          have := of_decide_eq_true s.2.1
          rw [e, nI_eq (by omega) (by omega)] at this
          omega
      rw [eqP_z hns, h0, Nat.add_zero]; split <;> rfl
    · exact h0
theorem ps_hi {A : Wd} {P : Nat → Nat} (hP : ∀ i, nPe A ≤ i → P i = 0) : ∀ j, j ≤ nPe A → ∀ i, nPe A ≤ i → psF A P j i = 0 := by
  intro j
  induction j with
  | zero => intro _ i hi; exact hP i hi
  | succ j ih =>
    intro hj i hi
    show pj A (psF A P j) j i = 0
    have h0 := ih (by omega) i hi
    unfold pj
    split
    · dsimp only
      have hns : ssS A (nI j) i = false := by
        cases s : ssS A (nI j) i
        · rfl
        · have := ss_lt s; omega
      rw [eqP_z hns, h0, Nat.add_zero]; split <;> rfl
    · exact h0
theorem ps_le {A : Wd} (h8 : nPe A ≤ 8) {P : Nat → Nat} {M : Nat} (hP : ∀ i, P i ≤ M) : ∀ j i, psF A P j i ≤ 2 ^ j * M := by
  intro j
  induction j with
  | zero => intro i; rw [Nat.pow_zero, Nat.one_mul]; exact hP i
  | succ j ih =>
    intro i
    show pj A (psF A P j) j i ≤ _
    have h1 := ih i
    have h2 := ih j
    have e : 2 ^ (j + 1) * M = 2 ^ j * M + 2 ^ j * M := by rw [Nat.pow_succ, Nat.mul_right_comm, Nat.mul_two]
    rw [e]
    unfold pj
    split
    · dsimp only
      have h3 := eqP_le (ss_8 h8 (of := nI j)) (m := psF A P j j) (i := i)
      split <;> omega
    · omega
/-- the pass gives what the recursion gives -/
def p0S (A : Wd) (l m i : Nat) : Nat := (if (hwS A && decide (nI i = A.1 0 19)) = true then hrsS A l m else 0) + eqP (ssS A (-1)) (m - hrsS A l m) i
theorem wf_d {A : Wd} (hPe : PEI A) (h8 : nPe A ≤ 8) {i : Nat} (hi : i < 8) (h : (hwS A && decide (nI i = A.1 0 19)) = true) : i < nPe A ∧ ddS A i = false := by
  rw [Bool.and_eq_true] at h
  obtain ⟨h1, h2⟩ := h
  have h2 := of_decide_eq_true h2
  unfold hwS at h1
  rw [Bool.and_eq_true] at h1
  obtain ⟨q, hq, e⟩ := hPe.2.1.resolve_left (of_decide_eq_true h1.1)
  have hiq : i = q := by rw [e, nI_eq (by omega) (by omega)] at h2; exact h2
  have hcl : (A.1 0 19).toNatClampNeg = q := by rw [e, nI_clamp (by omega)]
  rw [hcl] at h1
  rw [hiq]
  refine ⟨hq, ?_⟩
  cases d : ddS A q
  · rfl
  · rw [d] at h1; exact absurd h1.2 (by decide)
theorem pass_kv {A : Wd} (hPe : PEI A) (h8 : nPe A ≤ 8) (l m : Nat) {i : Nat} (hi : i < 8) : psF A (fun i => if i < 8 then p0S A l m i else 0) (nPe A) i = kvS A l m i := by
  have hP0 : ∀ k, k < 8 → (fun i => if i < 8 then p0S A l m i else 0) k = p0S A l m k := fun k hk => if_pos hk
  have hZ : ∀ k q, k < nPe A → ddS A k = true → A.1 4 k = nI q → q < k → (fun i => if i < 8 then p0S A l m i else 0) k = 0 := by
    intro k q hk d e hq
    rw [hP0 k (by omega)]
    unfold p0S
    have h1 : ¬ (hwS A && decide (nI k = A.1 0 19)) = true := fun h => by
      have := (wf_d hPe h8 (by omega) h).2
      rw [this] at d; cases d
    have h2 : ssS A (-1) k = false := by
      cases s : ssS A (-1) k
      · rfl
      · unfold ssS at s
        rw [Bool.and_eq_true, Bool.and_eq_true, if_pos rfl] at s
        have := (hPe.1 k hk).2.2.2 (of_decide_eq_true s.2.1)
        rw [e] at this
        exact absurd this (nI_n1 (by omega))
    rw [if_neg h1, eqP_z h2]
  have hhi : ∀ k, nPe A ≤ k → (fun i => if i < 8 then p0S A l m i else 0) k = 0 := by
    intro k hk
    by_cases c : k < 8
    · rw [hP0 k c]
      unfold p0S
      have h1 : ¬ (hwS A && decide (nI k = A.1 0 19)) = true := fun h => by
        have := (wf_d hPe h8 c h).1
        omega
      have h2 : ssS A (-1) k = false := by
        cases s : ssS A (-1) k
        · rfl
        · have := ss_lt s; omega
      rw [if_neg h1, eqP_z h2]
    · exact if_neg c
  have hall := (pass_all hPe h8 hZ (nPe A) (Nat.le_refl _)).1 i
  have hfin : fb_sm (cK A (psF A (fun i => if i < 8 then p0S A l m i else 0) (nPe A)) (nPe A) i) (nPe A) = if i < nPe A then psF A (fun i => if i < 8 then p0S A l m i else 0) (nPe A) i else 0 := by
    rw [← sm_one]
    refine fb_sm_cong (fun k hk => ?_)
    unfold cK
    rw [if_neg (by omega)]
  have hst : fb_sm (cK A (fun i => if i < 8 then p0S A l m i else 0) 0 i) (nPe A) = (if i < nPe A then (if (hwS A && decide (nI i = A.1 0 19)) = true then hrsS A l m else 0) else 0) + vF A 10 (-1) (m - hrsS A l m) i := by
    rw [← sm_one (fun k => if (hwS A && decide (nI k = A.1 0 19)) = true then hrsS A l m else 0)]
    show _ = _ + fb_sm (vG A (fun k a j => vF A 9 (nI k) a j) (-1) (m - hrsS A l m) i) (nPe A)
    rw [← fb_sm_add]
    refine fb_sm_cong (fun k hk => ?_)
    unfold cK
    rw [hP0 k (by omega)]
    unfold p0S vG
    by_cases d : ddS A k = true
    · have h1 : ¬ (hwS A && decide (nI k = A.1 0 19)) = true := fun h => by
        have := (wf_d hPe h8 (by omega) h).2
        rw [this] at d; cases d
      rw [if_pos ⟨d, Nat.zero_le _⟩, if_neg h1, Nat.zero_add]
      have hz : (if i = k then 0 else 0) = 0 := by split <;> rfl
      rw [hz, Nat.zero_add]
      by_cases s : ssS A (-1) k = true
      · rw [if_pos s, if_pos d]
      · rw [if_neg s]
        rw [Bool.not_eq_true] at s
        rw [eqP_z s, vF_0]
    · rw [if_neg (fun h => d h.1)]
      by_cases e : i = k
      · rw [if_pos e, if_pos e]
        congr 1
        by_cases s : ssS A (-1) k = true
        · rw [if_pos s, if_neg d, if_pos e]
        · rw [if_neg s]
          rw [Bool.not_eq_true] at s
          rw [eqP_z s]
      · simp [d, e]
  rw [hfin, hst] at hall
  unfold kvS
  by_cases c : i < nPe A
  · rw [if_pos c, if_pos c] at hall
    exact hall
  · rw [ps_hi hhi (nPe A) (Nat.le_refl _) i (by omega)]
    rw [if_neg c, if_neg c] at hall
    have h1 : ¬ (hwS A && decide (nI i = A.1 0 19)) = true := fun h => c (wf_d hPe h8 hi h).1
    rw [if_neg h1]
    exact hall
