/-! money: which pays hold, what each gets -/
def pgP (A : Wd) (l : Nat) (vo : Nat → Bool) (f p : Nat) : Nat → List Nat
  | 0 => []
  | g + 1 => pgP A l vo f p g ++ (if A.1 32 (8 * p + g) = -1 ∧ hdS A l vo f p (8 * p + g) = true then [8 * p + g] else [])
def pyP (A : Wd) (l : Nat) (cn vo : Nat → Bool) (f o : Nat) : Nat → List Nat
  | 0 => []
  | i + 1 => pyP A l cn vo f o i ++ (if itS A o i < nPa A ∧ cn (itS A o i) = true then pgP A l vo f (itS A o i) (nGi A (itS A o i)) else [])
def gdL (L : List Nat) (k : Nat) : Nat := L.getD k 0
theorem gd_l {L : List Nat} {n k : Nat} (h : k < L.length) : gdL (L ++ [n]) k = gdL L k := by
  unfold gdL; simp [List.getD, List.getElem?_append_left h]
theorem gd_e {L : List Nat} {n : Nat} : gdL (L ++ [n]) L.length = n := by
  unfold gdL; simp [List.getD]
def pmS (A : Wd) (n : Nat) : Nat := (A.1 33 n).toNatClampNeg
def suS (A : Wd) (L : List Nat) (k : Nat) : Nat := fb_sm (fun j => pmS A (gdL L j)) k
def thM (A : Wd) : Nat := (A.1 0 14).toNatClampNeg - (A.1 0 15).toNatClampNeg
/-- good places of a list of pays -/
def PYL (A : Wd) (L : List Nat) : Prop := ∀ k, k < L.length → ∃ p g, p < nPa A ∧ g < nGi A p ∧ gdL L k = 8 * p + g ∧ A.1 32 (8 * p + g) = -1
theorem PYL.ap {A : Wd} {L : List Nat} {n : Nat} (h : PYL A L) (hn : ∃ p g, p < nPa A ∧ g < nGi A p ∧ n = 8 * p + g ∧ A.1 32 (8 * p + g) = -1) : PYL A (L ++ [n]) := by
  intro k hk
  rw [List.length_append, List.length_singleton] at hk
  by_cases e : k < L.length
  · rw [gd_l e]; exact h k e
  · have e : k = L.length := by omega
    subst e
    rw [gd_e]; exact hn
theorem pm_e {A : Wd} (hI : INV A) {L : List Nat} (h : PYL A L) {k : Nat} (hk : k < L.length) : A.1 33 (gdL L k) = nI (pmS A (gdL L k)) ∧ 1 ≤ pmS A (gdL L k) ∧ pmS A (gdL L k) ≤ 99999 ∧ A.1 34 (gdL L k) = nI (toS A (gdL L k)) ∧ toS A (gdL L k) < nPe A ∧ gdL L k < 8 * nPa A := by
  obtain ⟨p, g, hp, hg, e, ht⟩ := h k hk
  have hgi : nGi A p < 9 := ((hI.2.2.1 p hp).1.1.e (by omega)).2
  have hto := toS_lt hI hp hg
  rw [e]
  obtain ⟨-, hq, -⟩ := (hI.2.2.1 p hp).2.2.2.2.1 g hg
  rcases hq with ⟨-, v, v1, v2, ev⟩ | ⟨hn, -⟩
  · refine ⟨?_, ?_, ?_, hto.1, hto.2, by omega⟩
    · unfold pmS; rw [ev, nI_clamp (by omega)]
    · unfold pmS; rw [ev, nI_clamp (by omega)]; exact v1
    · unfold pmS; rw [ev, nI_clamp (by omega)]; exact v2
  · obtain ⟨q, hq, eq⟩ := hn
    have h8 := hI.1.2.2.1.2
    rw [eq] at ht
    exact absurd ht (nI_n1 (by omega))
theorem su_app {A : Wd} {L : List Nat} {n k : Nat} (h : k ≤ L.length) : suS A (L ++ [n]) k = suS A L k := fb_sm_cong (fun j hj => by rw [gd_l (by omega)])
theorem su_end {A : Wd} {L : List Nat} {n : Nat} : suS A (L ++ [n]) (L.length + 1) = suS A L L.length + pmS A n := by
  unfold suS
  rw [fb_sm_succ, gd_e]
  congr 1
  exact fb_sm_cong (fun j hj => by rw [gd_l (by omega)])
theorem su_le {A : Wd} (hI : INV A) {L : List Nat} (h : PYL A L) : ∀ k, k ≤ L.length → suS A L k ≤ k * 99999 := by
  intro k hk
  unfold suS
  rw [← fb_sm_const]
  exact fb_sm_le (fun j hj => (pm_e hI h (by omega)).2.2.1)
/-! how many pays there can be -/
def cpF (A : Wd) (o i : Nat) : Nat := fb_ct (fun j => decide (itS A o j < nPa A)) i
theorem cp_le {A : Wd} (hI : INV A) {o : Nat} (ho : o < nOr A) : cpF A o (nIt A) ≤ nPa A := by
  have h6 : nIt A ≤ 6 := hI.1.2.2.2.2.2.1
  have hk : ∀ k, k < cpF A o (nIt A) → ∃ i, i < nIt A ∧ decide (itS A o i < nPa A) = true ∧ fb_ct (fun j => decide (itS A o j < nPa A)) i = k := fun k h => fb_ct_kth h
  refine fb_holes (nPa A) (cpF A o (nIt A)) (fun k => if h : k < cpF A o (nIt A) then itS A o (Classical.choose (hk k h)) else 0) (fun k h => ?_) (fun i j hij hj => ?_)
  · try dsimp only
    rw [dif_pos h]
    exact of_decide_eq_true (Classical.choose_spec (hk k h)).2.1
  · try dsimp only
    rw [dif_pos (show i < cpF A o (nIt A) by omega), dif_pos hj]
    have s1 := Classical.choose_spec (hk i (by omega))
    have s2 := Classical.choose_spec (hk j hj)
    generalize Classical.choose (hk i (by omega)) = a at s1 ⊢
    generalize Classical.choose (hk j hj) = b at s2 ⊢
    intro e
    have hne : a ≠ b := fun q => by rw [q] at s1; have := s1.2.2; have := s2.2.2; omega
    have ha := (((hI.2.2.2.2 o ho).1 a s1.1).e (by omega)).1
    have hb := (((hI.2.2.2.2 o ho).1 b s2.1).e (by omega)).1
    have e2 : A.1 43 (6 * o + a) = A.1 43 (6 * o + b) := by
      rw [ha, hb]; exact congrArg nI e
    rcases Nat.lt_or_ge a b with q | q
    · exact (hI.2.2.2.2 o ho).2 a b q s2.1 e2
    · exact (hI.2.2.2.2 o ho).2 b a (by omega) s1.1 e2.symm
theorem pg_len {A : Wd} {l : Nat} {vo : Nat → Bool} {f p : Nat} : ∀ g, (pgP A l vo f p g).length ≤ g := by
  intro g
  induction g with
  | zero => exact Nat.le_refl _
  | succ g ih =>
    show (pgP A l vo f p g ++ _).length ≤ _
    rw [List.length_append]
    split
    · rw [List.length_singleton]; omega
    · rw [List.length_nil]; omega
theorem py_len {A : Wd} (hI : INV A) {l : Nat} {cn vo : Nat → Bool} {f o : Nat} : ∀ i, (pyP A l cn vo f o i).length ≤ 8 * cpF A o i := by
  intro i
  induction i with
  | zero => exact Nat.le_refl _
  | succ i ih =>
    show (pyP A l cn vo f o i ++ _).length ≤ _
    have hs : cpF A o (i + 1) = cpF A o i + if decide (itS A o i < nPa A) then 1 else 0 := rfl
    rw [List.length_append, hs]
    split
    · rename_i h
      have h1 := pg_len (A := A) (l := l) (vo := vo) (f := f) (p := itS A o i) (nGi A (itS A o i))
      have h2 : nGi A (itS A o i) < 9 := ((hI.2.2.1 _ h.1).1.1.e (by omega)).2
      rw [decide_eq_true h.1, if_pos rfl]; omega
    · rw [List.length_nil]
      split <;> omega
/-- the room for one more pay -/
theorem py_room {A : Wd} (hI : INV A) {l : Nat} {cn vo : Nat → Bool} {f o i g : Nat} (ho : o < nOr A) (hi : i < nIt A) (hit : itS A o i < nPa A) (hg : g < nGi A (itS A o i)) : (pyP A l cn vo f o i ++ pgP A l vo f (itS A o i) g).length < 32 := by
  have h1 := py_len hI (l := l) (cn := cn) (vo := vo) (f := f) (o := o) i
  have h2 := pg_len (A := A) (l := l) (vo := vo) (f := f) (p := itS A o i) g
  have h3 := cp_le hI ho
  have h4 := hI.1.2.2.2.1.2
  have h5 : cpF A o (i + 1) ≤ cpF A o (nIt A) := fb_ct_mono _ (by omega)
  have h6 : cpF A o (i + 1) = cpF A o i + if decide (itS A o i < nPa A) then 1 else 0 := rfl
  have h7 : nGi A (itS A o i) < 9 := ((hI.2.2.1 _ hit).1.1.e (by omega)).2
  rw [decide_eq_true hit, if_pos rfl] at h6
  rw [List.length_append]
  omega
theorem py_32 {A : Wd} (hI : INV A) {l : Nat} {cn vo : Nat → Bool} {f o : Nat} (ho : o < nOr A) : (pyP A l cn vo f o (nIt A)).length ≤ 32 := by
  have h1 := py_len hI (l := l) (cn := cn) (vo := vo) (f := f) (o := o) (nIt A)
  have h3 := cp_le hI ho
  have h4 := hI.1.2.2.2.1.2
  omega
theorem pg_PYL {A : Wd} {l : Nat} {vo : Nat → Bool} {f p : Nat} (hp : p < nPa A) {L : List Nat} (h : PYL A L) : ∀ g, g ≤ nGi A p → PYL A (L ++ pgP A l vo f p g) := by
  intro g
  induction g with
  | zero => intro _; rw [show pgP A l vo f p 0 = [] from rfl, List.append_nil]; exact h
  | succ g ih =>
    intro hg
    show PYL A (L ++ (pgP A l vo f p g ++ _))
    rw [← List.append_assoc]
    split
    · rename_i c
      exact (ih (by omega)).ap ⟨p, g, hp, by omega, rfl, c.1⟩
    · rw [List.append_nil]; exact ih (by omega)
theorem py_PYL {A : Wd} {l : Nat} {cn vo : Nat → Bool} {f o : Nat} : ∀ i, PYL A (pyP A l cn vo f o i) := by
  intro i
  induction i with
  | zero => intro k hk; exact absurd hk (Nat.not_lt_zero k)
  | succ i ih =>
    show PYL A (pyP A l cn vo f o i ++ _)
    split
    · rename_i c
      exact pg_PYL c.1 ih _ (Nat.le_refl _)
    · rw [List.append_nil]; exact ih
/-! what each gets -/
def alS (A : Wd) (L : List Nat) : Nat := suS A L L.length
def owS (A : Wd) (L : List Nat) (k : Nat) : Nat := if alS A L ≤ thM A then pmS A (gdL L k) else pmS A (gdL L k) * thM A / alS A L
def owF (A : Wd) (L : List Nat) (k : Nat) : Nat := fb_sm (owS A L) k
def ovS (A : Wd) (L : List Nat) : Nat := thM A - owF A L L.length
def amS (A : Wd) (L : List Nat) (k : Nat) : Nat := owS A L k + (if ¬ alS A L ≤ thM A ∧ k < ovS A L then 1 else 0)
def pdF (A : Wd) (L : List Nat) (g : Nat → Nat) (n i : Nat) : Nat := fb_sm (fun k => if toS A (gdL L k) = i then g k else 0) n
def pdS (A : Wd) (L : List Nat) (i : Nat) : Nat := pdF A L (amS A L) L.length i
theorem ow_le {A : Wd} (L : List Nat) : ∀ k, k ≤ L.length → owF A L k ≤ thM A := by
  intro k hk
  have hmono : owF A L k ≤ owF A L L.length := by
    have := fb_sm_mono (owS A L) k (L.length - k)
    rw [show k + (L.length - k) = L.length by omega] at this
    exact this
  refine Nat.le_trans hmono ?_
  by_cases c : alS A L ≤ thM A
  · have : owF A L L.length = alS A L := fb_sm_cong (fun j hj => by unfold owS; rw [if_pos c])
    rw [this]; exact c
  · have h1 : ∀ n, alS A L * fb_sm (owS A L) n ≤ thM A * fb_sm (fun j => pmS A (gdL L j)) n := by
      intro n
      induction n with
      | zero => exact Nat.le_refl _
      | succ n ih =>
        rw [fb_sm_succ, fb_sm_succ, Nat.mul_add, Nat.mul_add]
        refine Nat.add_le_add ih ?_
        unfold owS
        rw [if_neg c, Nat.mul_comm (thM A)]
        exact Nat.mul_div_le _ _
    have h2 : alS A L * owF A L L.length ≤ alS A L * thM A := by
      have := h1 L.length
      rw [Nat.mul_comm (alS A L) (thM A)]
      exact this
    exact Nat.le_of_mul_le_mul_left h2 (by omega)
theorem ov_le {A : Wd} (L : List Nat) (c : ¬ alS A L ≤ thM A) : ovS A L ≤ L.length := by
  have h1 : ∀ n, thM A * fb_sm (fun j => pmS A (gdL L j)) n ≤ alS A L * fb_sm (owS A L) n + alS A L * n := by
    intro n
    induction n with
    | zero => exact Nat.zero_le _
    | succ n ih =>
      rw [fb_sm_succ, fb_sm_succ, Nat.mul_add, Nat.mul_add, Nat.mul_add]
      have h3 : thM A * pmS A (gdL L n) ≤ alS A L * owS A L n + alS A L * 1 := by
        unfold owS
        rw [if_neg c, Nat.mul_comm (thM A), Nat.mul_one]
        have h4 := Nat.div_add_mod (pmS A (gdL L n) * thM A) (alS A L)
        have h5 := Nat.mod_lt (pmS A (gdL L n) * thM A) (show 0 < alS A L by omega)
        omega
      omega
  have h2 := h1 L.length
  have e : fb_sm (fun j => pmS A (gdL L j)) L.length = alS A L := rfl
  rw [e, Nat.mul_comm (thM A), ← Nat.mul_add] at h2
  have h3 : thM A ≤ fb_sm (owS A L) L.length + L.length := Nat.le_of_mul_le_mul_left h2 (by omega)
  unfold ovS owF
  omega
theorem pd_hi {A : Wd} (hI : INV A) {L : List Nat} (h : PYL A L) {g : Nat → Nat} {i : Nat} (hi : nPe A ≤ i) : ∀ n, n ≤ L.length → pdF A L g n i = 0 := by
  intro n hn
  refine sm_0 (fun k hk => ?_)
  have := (pm_e hI h (k := k) (by omega)).2.2.2.2.1
  rw [if_neg (by omega)]
theorem plV_0 {A : Wd} {l : Nat} {cn vo : Nat → Bool} {o i : Nat} : plV A l cn vo o 0 i = 0 := by
  unfold plV
  split
  · exact eqP_00
  · split
    · have hz : hrsS A l 0 = 0 := by
        unfold hrsS
        split
        · split
          · rw [Nat.zero_mul, Nat.zero_div]
          · rfl
        · rfl
      unfold kvS
      rw [hz, Nat.sub_zero, vF_0]
      split <;> rfl
    · rfl
