/-! orders: rows that can be -/
def fm (g : Nat → List (List Nat)) : Nat → List (List Nat)
  | 0 => []
  | i + 1 => fm g i ++ g i
theorem fm_cg {g h : Nat → List (List Nat)} : ∀ n, (∀ i, i < n → g i = h i) → fm g n = fm h n := by
  intro n
  induction n with
  | zero => intro _; rfl
  | succ n ih => intro e; show fm g n ++ g n = fm h n ++ h n; rw [ih (fun i hi => e i (by omega)), e n (by omega)]
theorem fm_fl {g : Nat → List (List Nat)} {p : List Nat → Bool} : ∀ n, (fm g n).filter p = fm (fun i => (g i).filter p) n := by
  intro n
  induction n with
  | zero => rfl
  | succ n ih => show (fm g n ++ g n).filter p = fm (fun i => (g i).filter p) n ++ (g n).filter p; rw [List.filter_append, ih]
theorem fm_mp {g : Nat → List (List Nat)} {f : List Nat → List Nat} : ∀ n, (fm g n).map f = fm (fun i => (g i).map f) n := by
  intro n
  induction n with
  | zero => rfl
  | succ n ih => show (fm g n ++ g n).map f = fm (fun i => (g i).map f) n ++ (g n).map f; rw [List.map_append, ih]
theorem fm_len {g : Nat → List (List Nat)} : ∀ n i, i < n → (fm g i).length + (g i).length ≤ (fm g n).length := by
  intro n
  induction n with
  | zero => intro i hi; omega
  | succ n ih =>
    intro i hi
    show _ ≤ (fm g n ++ g n).length
    rw [List.length_append]
    by_cases e : i = n
    · subst e; omega
    · have := ih i (by omega); omega
def hasB (l : List Nat) (i : Nat) : Bool := l.contains i
def okF (fD lD : Nat → Nat) : Nat → List Nat → Bool
  | _, [] => true
  | day, i :: t => decide (max day (fD i) ≤ lD i) && okF fD lD (max day (fD i)) t
def prS (n : Nat) : Nat → List Nat → List (List Nat)
  | 0, _ => [[]]
  | j + 1, pre => fm (fun i => if hasB pre i = true then [] else (prS n j (i :: pre)).map (fun t => i :: t)) n
def cpS (fD lD : Nat → Nat) (n : Nat) : Nat → List Nat → Nat → List (List Nat)
  | 0, _, _ => [[]]
  | j + 1, pre, day => fm (fun i => if hasB pre i = true ∨ ¬ max day (fD i) ≤ lD i then [] else (cpS fD lD n j (i :: pre) (max day (fD i))).map (fun t => i :: t)) n
theorem cp_eq {fD lD : Nat → Nat} {n : Nat} : ∀ j pre day, cpS fD lD n j pre day = (prS n j pre).filter (okF fD lD day) := by
  intro j
  induction j with
  | zero => intro pre day; rfl
  | succ j ih =>
    intro pre day
    show fm _ n = (fm _ n).filter _
    rw [fm_fl]
    refine fm_cg n (fun i hi => ?_)
    by_cases c : hasB pre i = true
    · rw [if_pos (Or.inl c), if_pos c]; rfl
    · rw [if_neg c, List.filter_map]
      by_cases d : max day (fD i) ≤ lD i
      · rw [if_neg (fun h => h.elim c (fun q => q d)), ih]
        congr 2
        funext t
        show okF fD lD (max day (fD i)) t = (decide (max day (fD i) ≤ lD i) && okF fD lD (max day (fD i)) t)
        rw [decide_eq_true d, Bool.true_and]
      · rw [if_pos (Or.inr d)]
        have : (prS n j (i :: pre)).filter (okF fD lD day ∘ fun t => i :: t) = [] := by
          refine List.filter_eq_nil_iff.mpr (fun t _ => ?_)
          show ¬ (decide (max day (fD i) ≤ lD i) && okF fD lD (max day (fD i)) t) = true
          rw [decide_eq_false d, Bool.false_and]; decide
        rw [this]; rfl
/-- all rows of n items, as they come -/
def allP (n : Nat) : List (List Nat) := prS n n []
def ndB : List Nat → Bool
  | [] => true
  | i :: t => !t.contains i && ndB t
def rowB (n : Nat) (t : List Nat) : Bool := t.length == n && t.all (fun i => decide (i < n)) && ndB t
theorem all_ok : ∀ n, n < 7 → ((allP n).length ≤ 720 ∧ (allP n).all (rowB n) = true) := by decide +kernel
