/-! the next row -/
def tnF (f : Nat → Nat) : Nat → Nat
  | 0 => 0
  | j + 1 => if f (j + 1) < f j then tnF f j else j + 1
def otF (f : Nat → Nat) (t : Nat) : Nat → Nat
  | 0 => 0
  | j + 1 => if j + 1 ≤ t then j + 1 else if f (j + 1) < f t then otF f t j else j + 1
def swF (f : Nat → Nat) (a b : Nat) (i : Nat) : Nat := if i = b then f a else if i = a then f b else f i
def rvF (f : Nat → Nat) (t n : Nat) : Nat → Nat → Nat
  | 0 => f
  | i + 1 => swF (rvF f t n i) (t + 1 + i) (n - 1 - i)
def nxF (n : Nat) (f : Nat → Nat) : Option (Nat → Nat) := if tnF f (n - 1) = 0 then none else some (rvF (swF f (tnF f (n - 1) - 1) (otF f (tnF f (n - 1) - 1) (n - 1))) (tnF f (n - 1) - 1) n ((n - 1 - (tnF f (n - 1) - 1)) / 2))
def eqB (n : Nat) (a b : List Nat) : Bool := match nxF n (gdL a) with
  | some g => (List.range n).all (fun i => g i == gdL b i)
  | none => false
def chB (n : Nat) : List (List Nat) → Bool
  | [] => true
  | a :: t => (match t with
    | [] => (nxF n (gdL a)).isNone
    | b :: _ => eqB n a b) && chB n t
theorem ch_ok : ∀ n, n < 7 → chB n (allP n) = true ∧ ¬ (allP n).length = 0 ∧ (allP n).headD [] = List.range n := by decide +kernel
def pkF (t : List Nat) : Nat → Int32
  | 0 => 0
  | i + 1 => pkF t i ||| (nI (gdL t i) <<< (nI (3 * i) &&& 31))
theorem pk_ok : ∀ n, n < 7 → (allP n).all (fun t => (List.range n).all (fun i => decide ((pkF t n >>> (nI (3 * i) &&& 31)) &&& 7 = nI (gdL t i)))) = true := by decide +kernel
theorem ch_at {n : Nat} : ∀ (L : List (List Nat)) (t : Nat), chB n L = true → (t + 1 < L.length → ∃ g, nxF n (gdL (L.getD t [])) = some g ∧ ∀ i, i < n → g i = gdL (L.getD (t + 1) []) i) ∧ (t + 1 = L.length → nxF n (gdL (L.getD t [])) = none) := by
  intro L
  induction L with
  | nil => intro t _; exact ⟨fun h => absurd h (Nat.not_lt_zero _), fun h => by cases h⟩
  | cons a L ih =>
    intro t h
    cases L with
    | nil =>
      refine ⟨fun q => ?_, fun q => ?_⟩
      · exact absurd q (by simp)
      · have : t = 0 := by simpa using q
        subst this
        have h : ((nxF n (gdL a)).isNone && chB n []) = true := h
        rw [Bool.and_eq_true] at h
        exact Option.isNone_iff_eq_none.mp h.1
    | cons b L =>
      have h : (eqB n a b && chB n (b :: L)) = true := h
      rw [Bool.and_eq_true] at h
      cases t with
      | zero =>
        refine ⟨fun _ => ?_, fun q => by simp at q⟩
        have he := h.1
        unfold eqB at he
        cases e : nxF n (gdL a) with
        | none => rw [e] at he; cases he
        | some g =>
          rw [e] at he
          refine ⟨g, e, fun i hi => ?_⟩
          have := List.all_eq_true.mp he i (List.mem_range.mpr hi)
          exact eq_of_beq this
      | succ t =>
        obtain ⟨i1, i2⟩ := ih t h.2
        refine ⟨fun q => ?_, fun q => ?_⟩
        · exact i1 (by simpa using q)
        · exact i2 (by simpa using q)
