/-! which papers stand -/
abbrev SS : Type := (Nat → Bool) × (Nat → Bool) × (Nat → Bool) × (Nat → Int32)
def undP (S : SS) (set : Nat → Bool) (b : Int32) : SS := (fun i => S.1 i && !set i, S.2.1, S.2.2.1, fun i => if (set i && S.1 i) = true then b else S.2.2.2 i)
def risP (S : SS) (set : Nat → Bool) : SS := (fun i => S.1 i || set i, S.2.1, S.2.2.1, fun i => if set i = true then -1 else S.2.2.2 i)
def camP (p : Nat) (S : SS) : SS := (S.1, fun i => S.2.1 i || decide (i = p), S.2.2.1, S.2.2.2)
def putP (gd : Nat → Bool) (ua : Bool) (un wk : Nat → Bool) (p : Nat) (S : SS) : SS := if gd p = true then risP (undP (risP (camP p S) (fun i => decide (i = p))) (fun i => if ua = true then !decide (i = p) else un i) (nI p)) (fun i => wk i && gd i && (camP p S).2.1 i) else camP p S
def takP (wk : Bool) (p : Nat) (it : Int32) (S : SS) : SS := if S.1 p = true then (if wk = true then risP (undP S (fun i => decide (i = p)) it) (fun q => decide (q < 4) && decide ((undP S (fun i => decide (i = p)) it).2.2.2 q = nI p)) else undP S (fun i => decide (i = p)) it) else S
def evP (eff : Nat) (wk : Bool) (p : Nat) (it : Int32) (S : SS) : SS := if eff = 1 then undP S S.1 it else if eff = 2 then (S.1, S.2.1, fun i => S.2.2.1 i || S.1 i, S.2.2.2) else if eff = 3 then takP wk p it S else S
def s0 : SS := (fun _ => false, fun _ => false, fun _ => false, fun _ => -1)
def SI (A : Wd) (S : SS) : Prop := (∀ i, S.1 i = true → S.2.1 i = true ∧ S.2.2.2 i = -1) ∧ (∀ i, ¬ S.2.2.2 i = -1 → S.2.1 i = true) ∧ (∀ i, S.2.1 i = true → i < nPa A) ∧ (∀ i, S.2.2.1 i = true → i < nPa A)
theorem SI.lt {A : Wd} {S : SS} (h : SI A S) {i : Nat} (hi : S.1 i = true) : i < nPa A := h.2.2.1 i (h.1 i hi).1
theorem SI_und {A : Wd} {S : SS} (h : SI A S) (set : Nat → Bool) (b : Int32) : SI A (undP S set b) := by
  refine ⟨fun i hi => ?_, fun i hi => ?_, h.2.2.1, h.2.2.2⟩
  · have hi : (S.1 i && !set i) = true := hi
    rw [Bool.and_eq_true] at hi
    refine ⟨(h.1 i hi.1).1, ?_⟩
    show (if (set i && S.1 i) = true then b else S.2.2.2 i) = -1
    have : set i = false := by cases e : set i; rfl; rw [e] at hi; simp at hi
    rw [this, if_neg (by simp)]; exact (h.1 i hi.1).2
  · have hi : ¬ (if (set i && S.1 i) = true then b else S.2.2.2 i) = -1 := hi
    by_cases c : (set i && S.1 i) = true
    · rw [Bool.and_eq_true] at c; exact (h.1 i c.2).1
    · rw [if_neg c] at hi; exact h.2.1 i hi
theorem SI_ris {A : Wd} {S : SS} (h : SI A S) {set : Nat → Bool} (hs : ∀ i, set i = true → S.2.1 i = true) : SI A (risP S set) := by
  refine ⟨fun i hi => ?_, fun i hi => ?_, h.2.2.1, h.2.2.2⟩
  · have hi : (S.1 i || set i) = true := hi
    show S.2.1 i = true ∧ (if set i = true then -1 else S.2.2.2 i) = -1
    by_cases c : set i = true
    · rw [if_pos c]; exact ⟨hs i c, rfl⟩
    · rw [if_neg c]
      rw [Bool.not_eq_true] at c
      rw [c, Bool.or_false] at hi
      exact h.1 i hi
  · have hi : ¬ (if set i = true then -1 else S.2.2.2 i) = -1 := hi
    by_cases c : set i = true
    · rw [if_pos c] at hi; exact absurd rfl hi
    · rw [if_neg c] at hi; exact h.2.1 i hi
theorem SI_cam {A : Wd} {S : SS} (h : SI A S) {p : Nat} (hp : p < nPa A) : SI A (camP p S) := by
  refine ⟨fun i hi => ⟨?_, (h.1 i hi).2⟩, fun i hi => ?_, fun i hi => ?_, h.2.2.2⟩
  · show (S.2.1 i || decide (i = p)) = true
    rw [(h.1 i hi).1, Bool.true_or]
  · show (S.2.1 i || decide (i = p)) = true
    rw [h.2.1 i hi, Bool.true_or]
  · have hi : (S.2.1 i || decide (i = p)) = true := hi
    rw [Bool.or_eq_true] at hi
    rcases hi with hi | hi
    · exact h.2.2.1 i hi
    · rw [of_decide_eq_true hi]; exact hp
theorem SI_put {A : Wd} {S : SS} (h : SI A S) (gd : Nat → Bool) (ua : Bool) (un wk : Nat → Bool) {p : Nat} (hp : p < nPa A) : SI A (putP gd ua un wk p S) := by
  unfold putP
  by_cases g : gd p = true
  · rw [if_pos g]
    refine SI_ris (SI_und (SI_ris (SI_cam h hp) (fun i hi => ?_)) _ _) (fun i hi => ?_)
    · show (S.2.1 i || decide (i = p)) = true
      have hi : decide (i = p) = true := hi
      rw [hi, Bool.or_true]
    · have hi : (wk i && gd i && (camP p S).2.1 i) = true := hi
      rw [Bool.and_eq_true] at hi
      exact hi.2
  · rw [if_neg g]; exact SI_cam h hp
theorem SI_ev {A : Wd} {S : SS} (h : SI A S) (eff : Nat) (wk : Bool) {p : Nat} (hp : p < 4) (it : Int32) : SI A (evP eff wk p it S) := by
  unfold evP
  by_cases c1 : eff = 1
  · rw [if_pos c1]; exact SI_und h _ _
  rw [if_neg c1]
  by_cases c2 : eff = 2
  · rw [if_pos c2]
    refine ⟨h.1, h.2.1, h.2.2.1, fun i hi => ?_⟩
    have hi : (S.2.2.1 i || S.1 i) = true := hi
    rw [Bool.or_eq_true] at hi
    rcases hi with hi | hi
    · exact h.2.2.2 i hi
    · exact h.lt hi
  rw [if_neg c2]
  by_cases c3 : eff = 3
  · rw [if_pos c3]
    unfold takP
    by_cases c4 : S.1 p = true
    · rw [if_pos c4]
      by_cases c5 : wk = true
      · rw [if_pos c5]
        have hu := SI_und h (fun i => decide (i = p)) it
        refine SI_ris hu (fun i hi => ?_)
        rw [Bool.and_eq_true] at hi
        have hi := of_decide_eq_true hi.2
        exact hu.2.1 i (by rw [hi]; exact nI_n1 (by omega))
      · rw [if_neg c5]; exact SI_und h _ _
    · rw [if_neg c4]; exact h
  · rw [if_neg c3]; exact h
theorem SI_0 (A : Wd) : SI A s0 := by
  refine ⟨fun i hi => ?_, fun i hi => absurd rfl hi, fun i hi => ?_, fun i hi => ?_⟩
  · exact absurd (show false = true from hi) (by decide)
  · exact absurd (show false = true from hi) (by decide)
  · exact absurd (show false = true from hi) (by decide)
/-! the reference's side -/
def STM (w A : Wd) (S : SS) : Prop := RB (w.1 0 82) S.1 ∧ RB (w.1 0 83) S.2.1 ∧ RB (w.1 0 84) S.2.2.1 ∧ ∀ i, i < nPa A → w.1 45 i = S.2.2.2 i
def FM (w w' : Wd) : Prop := w'.2 = w.2 ∧ ∀ a k, ¬ (a = 0 ∧ (k = 82 ∨ k = 83 ∨ k = 84)) → a ≠ 45 → w'.1 a k = w.1 a k
theorem FM.rf (w : Wd) : FM w w := ⟨rfl, fun _ _ _ _ => rfl⟩
theorem FM.tr {w w1 w2 : Wd} (h : FM w w1) (k : FM w1 w2) : FM w w2 := ⟨k.1.trans h.1, fun a j ha hb => (k.2 a j ha hb).trans (h.2 a j ha hb)⟩
theorem FM.w0 (w : Wd) {k : Nat} (hk : k = 82 ∨ k = 83 ∨ k = 84) (v : Int32) : FM w (wI w 0 k v) := ⟨rfl, fun a j ha _ => by rw [wI_g, if_neg (fun h => ha ⟨h.1, by omega⟩)]⟩
theorem FM.w45 (w : Wd) (k : Nat) (v : Int32) : FM w (wI w 45 k v) := ⟨rfl, fun a j _ hb => by rw [wI_g, if_neg (fun h => hb h.1)]⟩
theorem FM.tol {w w' A : Wd} (h : FM w w') (hT : tol w = A) : tol w' = A := by
  rw [← hT]
  refine tol_of (fun k hk => h.2 0 k (fun q => ?_) (by omega)) (fun o k ho => h.2 o k (by omega) (by omega)) (fun o k ho => by rw [h.1])
  rcases q.2 with rfl | rfl | rfl <;> cases hk
section
variable {w A : Wd}
theorem zm_undo (hT : tol w = A) (hN : NUM A) {S : SS} (hM : STM w A S) (hS : SI A S) {x b : Int32} {set : Nat → Bool} (hx : RB x set) : OK (f_X12_undo x b w) (fun w' => STM w' A (undP S set b) ∧ FM w w') := by
  have h4 := hN.2.2.2.1.2
  unfold f_X12_undo
  refine lo4 (fun n y1 y2 y3 v => ∃ i, n = nPa A - i ∧ i ≤ nPa A ∧ y1 = x ∧ y2 = b ∧ y3 = nI i ∧ FM w v ∧ v.1 0 82 = w.1 0 82 ∧ v.1 0 83 = w.1 0 83 ∧ v.1 0 84 = w.1 0 84 ∧ ∀ j, j < nPa A → v.1 45 j = if (decide (j < i) && (set j && S.1 j)) = true then b else S.2.2.2 j) ?_ fu (nPa A - 0) x b 0 w (by rw [fu_eq]; omega) ⟨0, rfl, Nat.zero_le _, rfl, rfl, rfl, FM.rf w, rfl, rfl, rfl, fun j hj => ?_⟩
  · rintro n k a1 a2 a3 v ⟨i, rfl, hi, rfl, rfl, rfl, hF, e82, e83, e84, hu⟩ hk
    have hT' := hF.tol hT
    rw [X12_undo_b2, tol_0 hT' 49 rfl, hN.2.2.2.1.1]
    by_cases hin : i < nPa A
    · refine OK.f (nI_ge hin (by omega)) ?_
      rw [if_ts (by omega), b_and, hx i (by omega), e82, hM.1 i (by omega)]
      by_cases c : (set i && S.1 i) = false
      · refine OK.t c (hk _ _ _ _ _ ?_ ⟨i + 1, rfl, hin, rfl, rfl, nI_1 i, hF, e82, e83, e84, fun j hj => ?_⟩)
        · omega
        · rw [hu j hj]
          by_cases e : j = i
          · subst e; rw [c, Bool.and_false, Bool.and_false]
          · rw [show decide (j < i + 1) = decide (j < i) from decide_eq_decide.mpr (by omega)]
      · refine OK.f c (OK.t (z_inb (by omega) (by omega)) (OK.l ?_))
        rw [nI_clamp (by omega)]
        refine hk _ _ _ _ _ ?_ ⟨i + 1, rfl, hin, rfl, rfl, nI_1 i, hF.tr (FM.w45 v i _), ?_, ?_, ?_, fun j hj => ?_⟩
        · omega
        · rw [wI_g, if_neg (by omega)]; exact e82
        · rw [wI_g, if_neg (by omega)]; exact e83
        · rw [wI_g, if_neg (by omega)]; exact e84
        · rw [wI_g, hu j hj]
          rw [Bool.not_eq_false] at c
          by_cases e : j = i
          · subst e; rw [if_pos ⟨rfl, rfl⟩, c, decide_eq_true (by omega), if_pos (by rfl)]
          · rw [if_neg (fun h => e h.2), show decide (j < i + 1) = decide (j < i) from decide_eq_decide.mpr (by omega)]
    · have e : i = nPa A := by omega
      subst e
      refine OK.t (nI_le (Nat.le_refl _) (by omega)) (OK.l (OK.s ⟨⟨?_, ?_, ?_, ?_⟩, hF.tr (FM.w0 v (by omega) _)⟩))
      · rw [wI_s, e82]
        exact (hM.1.and hx.not)
      · rw [wI_g, if_neg (by omega), e83]; exact hM.2.1
      · rw [wI_g, if_neg (by omega), e84]; exact hM.2.2.1
      · intro j hj
        rw [wI_g, if_neg (by omega), hu j hj, decide_eq_true hj, Bool.true_and]; rfl
  · rw [decide_eq_false (by omega), Bool.false_and, if_neg (by decide)]; exact hM.2.2.2 j hj
theorem zm_rise (hN : NUM A) {S : SS} (hM : STM w A S) {p : Nat} (hp : p < nPa A) : OK (f_X12_rise (nI p) w) (fun w' => STM w' A (risP S (fun i => decide (i = p))) ∧ FM w w') := by
  have h4 := hN.2.2.2.1.2
  unfold f_X12_rise
  refine OK.l (OK.t (z_inb (by omega) (by omega)) (OK.l (OK.s ?_)))
  rw [nI_clamp (by omega)]
  refine ⟨⟨?_, ?_, ?_, ?_⟩, (FM.w0 w (by omega) _).tr (FM.w45 _ _ _)⟩
  · rw [wI_g, if_neg (by omega), wI_s]; exact hM.1.or (RB.one (by omega))
  · rw [wI_g, if_neg (by omega), wI_g, if_neg (by omega)]; exact hM.2.1
  · rw [wI_g, if_neg (by omega), wI_g, if_neg (by omega)]; exact hM.2.2.1
  · intro j hj
    show _ = if decide (j = p) = true then -1 else S.2.2.2 j
    rw [wI_g]
    by_cases e : j = p
    · rw [if_pos ⟨rfl, e⟩, decide_eq_true e, if_pos rfl]
    · rw [if_neg (fun h => e h.2), decide_eq_false e, if_neg (by decide), wI_g, if_neg (by omega)]; exact hM.2.2.2 j hj
end
