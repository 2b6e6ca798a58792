/-! events, orders; frames -/
def EVT (w A : Wd) : Prop := ∀ e, e < nEv A → w.1 (81 + e) 0 = A.1 38 e ∧ w.1 (81 + e) 1 = A.1 39 e ∧ w.1 (81 + e) 2 = A.1 40 e ∧ w.1 (81 + e) 3 = A.1 41 e ∧ w.1 (81 + e) 4 = A.1 42 e
def EVI (A : Wd) : Prop := ∀ e, e < nEv A → NN (A.1 38 e) 5 ∧ (¬ A.1 38 e = 0 → ¬ A.1 38 e = 1 → NN (A.1 39 e) (nPa A)) ∧ (A.1 42 e = -1 ∨ NN (A.1 42 e) 3) ∧ NN (A.1 40 e) 10000 ∧ NN (A.1 41 e) 10000
def itS (A : Wd) (o i : Nat) : Nat := (A.1 43 (6 * o + i)).toNatClampNeg
def ORI (A : Wd) : Prop := ∀ o, o < nOr A → (∀ i, i < nIt A → NN (A.1 43 (6 * o + i)) (nIt A)) ∧ ∀ i j, i < j → j < nIt A → ¬ A.1 43 (6 * o + i) = A.1 43 (6 * o + j)
def TLD (w A : Wd) : Prop := EST w A ∧ CNT w A ∧ ORD w A ∧ PAP w A ∧ EVT w A
def INV (A : Wd) : Prop := NUM A ∧ LWI A ∧ PAPI A ∧ EVI A ∧ ORI A
/-- nothing of what is told is changed in the desk's world -/
def TFR (w w' : Wd) : Prop := w'.2 = w.2 ∧ ∀ a k, (a = 3 ∨ a = 6 ∨ 31 ≤ a ∧ a ≤ 83) → w'.1 a k = w.1 a k
theorem TFR.rf (w : Wd) : TFR w w := ⟨rfl, fun _ _ _ => rfl⟩
theorem TFR.tr {w w1 w2 : Wd} (h : TFR w w1) (k : TFR w1 w2) : TFR w w2 := ⟨k.1.trans h.1, fun a j ha => (k.2 a j ha).trans (h.2 a j ha)⟩
theorem EST.fr {w w' A : Wd} (h : EST w A) (f : TFR w w') : EST w' A := by
  obtain ⟨f2, f⟩ := f
  unfold EST at h ⊢
  simp (disch := omega) only [f, f2]
  exact h
theorem PAP1.fr {w w' A : Wd} {c p : Nat} (h : PAP1 w A c p) (h1 : 31 ≤ c) (h2 : c + 5 ≤ 83) (f : TFR w w') : PAP1 w' A c p := by
  obtain ⟨f2, f⟩ := f
  unfold PAP1 PIF at h ⊢
  simp (disch := omega) only [f]
  exact h
theorem TLD.fr {w w' A : Wd} (h : TLD w A) (hN : NUM A) (f : TFR w w') : TLD w' A := by
  obtain ⟨h1, h2, h3, h4, h5⟩ := h
  have n4 := hN.2.2.2.1.2
  have n3 := hN.2.2.2.2.1.2
  refine ⟨h1.fr f, ?_, ?_, ?_, ?_⟩
  · exact ⟨(f.2 3 3 (by omega)).trans h2.1, (f.2 3 4 (by omega)).trans h2.2⟩
  · exact ⟨(f.2 3 5 (by omega)).trans h3.1, fun o ho i hi => by rw [f.2 6 o (by omega)]; exact h3.2 o ho i hi⟩
  · exact fun p hp => (h4 p hp).fr (by omega) (by omega) f
  · intro e he
    obtain ⟨a1, a2, a3, a4, a5⟩ := h5 e he
    exact ⟨(f.2 _ _ (by omega)).trans a1, (f.2 _ _ (by omega)).trans a2, (f.2 _ _ (by omega)).trans a3, (f.2 _ _ (by omega)).trans a4, (f.2 _ _ (by omega)).trans a5⟩
/-! tests of bits -/
theorem z_ts {y : Int32} {i : Nat} (hi : i < 32) : (y &&& (1 <<< (nI i &&& 31)) = 0) ↔ bt y i = false := by
  constructor
  · intro h
    have := congrArg (fun z => bt z i) h
    simp only [b_and, z_one hi hi, b_0, decide_true, Bool.and_true] at this
    exact this
  · intro h
    apply b_ext
    intro j hj
    rw [b_and, z_one hi hj, b_0]
    by_cases e : j = i
    · subst e; rw [h]; rfl
    · rw [decide_eq_false e, Bool.and_false]
theorem if_ts {α : Type} {y : Int32} {i : Nat} (hi : i < 32) {a b : α} : (if y &&& (1 <<< (nI i &&& 31)) = 0 then a else b) = if bt y i = false then a else b := by
  by_cases h : bt y i = false
  · rw [if_pos h, if_pos ((z_ts hi).mpr h)]
  · rw [if_neg h, if_neg (mt (z_ts hi).mp h)]
theorem if_bt {α : Type} {y : Int32} {i : Nat} (hi : i < 32) {a b : α} : (if (y >>> (nI i &&& 31)) &&& 1 = 0 then a else b) = if bt y i = false then a else b := by
  rw [z_bit hi, if_b0]
theorem if_bt1 {α : Type} {y : Int32} {i : Nat} (hi : i < 32) {a b : α} : (if (y >>> (nI i &&& 31)) &&& 1 = 1 then a else b) = if bt y i = true then a else b := by
  rw [z_bit hi, if_b1]
def RB (x : Int32) (f : Nat → Bool) : Prop := ∀ i, i < 32 → bt x i = f i
theorem RB.eq {x y : Int32} {f : Nat → Bool} (h : RB x f) (k : RB y f) : x = y := b_ext (fun i hi => (h i hi).trans (k i hi).symm)
theorem RB.z : RB 0 (fun _ => false) := fun i _ => b_0 i
theorem RB.or {x y : Int32} {f g : Nat → Bool} (h : RB x f) (k : RB y g) : RB (x ||| y) (fun i => f i || g i) := fun i hi => by rw [b_or, h i hi, k i hi]
theorem RB.and {x y : Int32} {f g : Nat → Bool} (h : RB x f) (k : RB y g) : RB (x &&& y) (fun i => f i && g i) := fun i hi => by rw [b_and, h i hi, k i hi]
theorem RB.not {x : Int32} {f : Nat → Bool} (h : RB x f) : RB (x ^^^ (-1)) (fun i => !f i) := fun i hi => by rw [z_not hi, h i hi]
theorem RB.one {p : Nat} (hp : p < 32) : RB (1 <<< (nI p &&& 31)) (fun i => decide (i = p)) := fun i hi => z_one hp hi
theorem RB.self (x : Int32) : RB x (bt x) := fun _ _ => rfl
theorem RB.cg {x : Int32} {f g : Nat → Bool} (h : RB x f) (e : ∀ i, i < 32 → f i = g i) : RB x g := fun i hi => (h i hi).trans (e i hi)
/-! filling -/
theorem zc_fill {o n : Nat} (hn : n < 20000) (v : Int32) (w : Wd) : f_J7_fill_53178 o n v w = some (wC w o (fun k => if k < n then v else w.1 o k)) := by
  have e0 : wC w o (fun k => if k < 0 then v else w.1 o k) = w := by
    refine Prod.ext (funext fun a => ?_) rfl
    rw [wC_g]
    by_cases h : a = o
    · subst h; rw [if_pos rfl]; funext k; rw [if_neg (by omega)]
    · rw [if_neg h]
  have hu := up6 (B := fun k5 => J7_fill_53178_b5 k5) (z := fun _ _ _ _ _ _ => none) (fun i => (o, n, v, nI i, nI n, wC w o (fun k => if k < i then v else w.1 o k))) (fun _ => some (wC w o (fun k => if k < n then v else w.1 o k))) n ?_ ?_ fu 0 (by omega) (by rw [fu_eq]; omega)
  · dsimp only at hu
    rw [e0] at hu
    exact hu
  · intro i k hi hk
    dsimp only at hk ⊢
    rw [J7_fill_53178_b5, if_neg (nI_ge hi (by omega)), z_inb hi (by omega), if_pos rfl, lt_s', nI_clamp (by omega), nI_1, wI_c, wC_c, ← hk]
    congr 2
    funext j
    rw [wC_g, if_pos rfl]
    unfold upd
    by_cases h : j = i
    · rw [if_pos h, if_pos (by omega)]
    · rw [if_neg h]
      dsimp only
      by_cases h2 : j < i
      · rw [if_pos h2, if_pos (by omega)]
      · rw [if_neg h2, if_neg (by omega)]
  · intro k
    dsimp only
    rw [J7_fill_53178_b5, if_pos (nI_le (Nat.le_refl _) (by omega))]
