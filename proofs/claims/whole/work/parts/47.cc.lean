/-! the class at its start: from the constructor's cells to the world -/
def pC : List Nat := [0, 1, 2, 3, 17, 18, 32, 33, 61, 62, 63, 64, 65, 66, 67, 68, 81, 82, 83, 84, 85, 86, 87, 88, 89, 90, 91, 92, 93, 94, 95, 4, 5, 6, 7, 8, 9, 10, 11, 12, 13, 14, 15, 16, 19, 20, 21, 22, 23, 24, 25, 26, 27, 28, 29, 30, 31, 34, 35, 36, 37, 38, 39, 40, 41, 42, 43, 44, 45, 46, 47, 48, 49, 50, 51, 52, 53, 54, 55, 56, 57, 58, 59, 60, 69, 70, 71, 72, 73, 74, 75, 76, 77, 78, 79, 80]
def w0C : Wd := (fun o k => if o = 0 ∧ k = 8 then (-1) else if o = 1 ∧ k = 5 then (-1) else if o = 3 ∧ k = 5 then 1 else if o = 8 ∧ k = 13 then (-1) else if o = 16 ∧ k = 4 then 32 else if o = 16 ∧ k = 9 then (-1) else if o = 31 ∧ k = 11 then (-1) else if o = 31 ∧ k = 12 then (-1) else if o = 31 ∧ k = 13 then (-1) else if o = 31 ∧ k = 14 then (-1) else if o = 44 ∧ k = 11 then (-1) else if o = 44 ∧ k = 12 then (-1) else if o = 44 ∧ k = 13 then (-1) else if o = 44 ∧ k = 14 then (-1) else 0, fun _ _ => 0)
def yC (D : va_G) (dA : Nat → ClassId) (sk sv : Nat → Nat) (h0 : Nat) (q : Nat → Nat) : Ev := (SC, D.1, D.2, dA, fun i => if pC.getD i 0 = 0 then h0 else q (pC.getD i 0 - 1), sk, sv, 32)
def lC (D : va_G) (dA : Nat → ClassId) (sk sv : Nat → Nat) (h0 : Nat) (q : Nat → Nat) : va_W := [(h0, .inr (11, [.ref (q 0), .ref (q 2), .ref (q 60), .ref (q 80), .ref (q 86), .ref (q 92), .ref (q 94), .int 0, .int (-1)])), (q 0, .inr (10, [.ref (q 1), .int 0, .int 0, .long 0, .int 0, .int (-1), .int 0, .int 0, .int 0])), (q 1, .inl (dA 21, 900, .inl (fun _ => 0))), (q 2, .inr (2, [.ref (q 3), .ref (q 16), .ref (q 17), .int 0, .int 0, .int 1, .int 0, .ref (q 18), .ref (q 31), .ref (q 32)])), (q 3, .inr (0, [.ref (q 4), .ref (q 6), .ref (q 8), .ref (q 10), .ref (q 11), .ref (q 12), .ref (q 13), .ref (q 14), .ref (q 15), .int 0, .int 0, .int (-1), .int (-1), .int (-1), .int (-1), .int 0, .int 0, .int 0, .int 0])), (q 4, .inr (4, [.ref (q 5), .int 0])), (q 5, .inl (dA 23, 4, .inr (.inl (fun _ => 0)))), (q 6, .inr (4, [.ref (q 7), .int 0])), (q 7, .inl (dA 23, 8, .inr (.inl (fun _ => 0)))), (q 8, .inr (4, [.ref (q 9), .int 0])), (q 9, .inl (dA 23, 8, .inr (.inl (fun _ => 0)))), (q 10, .inl (dA 20, 52, .inl (fun _ => 0))), (q 11, .inl (dA 20, 8, .inl (fun _ => 0))), (q 12, .inl (dA 20, 8, .inl (fun _ => 0))), (q 13, .inl (dA 20, 8, .inl (fun _ => 0))), (q 14, .inl (dA 20, 8, .inl (fun _ => 0))), (q 15, .inl (dA 20, 8, .inl (fun _ => 0))), (q 16, .inl (dA 24, 4, .inr (.inr (.inr (.inr (fun j => some (ph (yC D dA sk sv h0 q) (SC.2.2.2 4 j)))))))), (q 17, .inl (dA 25, 3, .inr (.inr (.inr (.inr (fun j => some (ph (yC D dA sk sv h0 q) (SC.2.2.2 5 j)))))))), (q 18, .inr (0, [.ref (q 19), .ref (q 21), .ref (q 23), .ref (q 25), .ref (q 26), .ref (q 27), .ref (q 28), .ref (q 29), .ref (q 30), .int 0, .int 0, .int (-1), .int (-1), .int (-1), .int (-1), .int 0, .int 0, .int 0, .int 0])), (q 19, .inr (4, [.ref (q 20), .int 0])), (q 20, .inl (dA 23, 4, .inr (.inl (fun _ => 0)))), (q 21, .inr (4, [.ref (q 22), .int 0])), (q 22, .inl (dA 23, 8, .inr (.inl (fun _ => 0)))), (q 23, .inr (4, [.ref (q 24), .int 0])), (q 24, .inl (dA 23, 8, .inr (.inl (fun _ => 0)))), (q 25, .inl (dA 20, 52, .inl (fun _ => 0))), (q 26, .inl (dA 20, 8, .inl (fun _ => 0))), (q 27, .inl (dA 20, 8, .inl (fun _ => 0))), (q 28, .inl (dA 20, 8, .inl (fun _ => 0))), (q 29, .inl (dA 20, 8, .inl (fun _ => 0))), (q 30, .inl (dA 20, 8, .inl (fun _ => 0))), (q 31, .inl (dA 20, 720, .inl (fun _ => 0))), (q 32, .inl (dA 20, 6, .inl (fun _ => 0))), (q 33, .inr (6, [.int 0, .int 0, .int 0, .int 0, .int 0, .int 0, .int 0, .int 0, .int 0, .ref (q 34), .ref (q 35), .ref (q 36), .ref (q 37), .ref (q 38), .int 0, .int 0, .int 0])), (q 34, .inl (dA 20, 8, .inl (fun _ => 0))), (q 35, .inl (dA 20, 8, .inl (fun _ => 0))), (q 36, .inl (dA 20, 8, .inl (fun _ => 0))), (q 37, .inl (dA 20, 8, .inl (fun _ => 0))), (q 38, .inl (dA 20, 8, .inl (fun _ => 0))), (q 39, .inr (6, [.int 0, .int 0, .int 0, .int 0, .int 0, .int 0, .int 0, .int 0, .int 0, .ref (q 40), .ref (q 41), .ref (q 42), .ref (q 43), .ref (q 44), .int 0, .int 0, .int 0])), (q 40, .inl (dA 20, 8, .inl (fun _ => 0))), (q 41, .inl (dA 20, 8, .inl (fun _ => 0))), (q 42, .inl (dA 20, 8, .inl (fun _ => 0))), (q 43, .inl (dA 20, 8, .inl (fun _ => 0))), (q 44, .inl (dA 20, 8, .inl (fun _ => 0))), (q 45, .inr (6, [.int 0, .int 0, .int 0, .int 0, .int 0, .int 0, .int 0, .int 0, .int 0, .ref (q 46), .ref (q 47), .ref (q 48), .ref (q 49), .ref (q 50), .int 0, .int 0, .int 0])), (q 46, .inl (dA 20, 8, .inl (fun _ => 0))), (q 47, .inl (dA 20, 8, .inl (fun _ => 0))), (q 48, .inl (dA 20, 8, .inl (fun _ => 0))), (q 49, .inl (dA 20, 8, .inl (fun _ => 0))), (q 50, .inl (dA 20, 8, .inl (fun _ => 0))), (q 51, .inr (6, [.int 0, .int 0, .int 0, .int 0, .int 0, .int 0, .int 0, .int 0, .int 0, .ref (q 52), .ref (q 53), .ref (q 54), .ref (q 55), .ref (q 56), .int 0, .int 0, .int 0])), (q 52, .inl (dA 20, 8, .inl (fun _ => 0))), (q 53, .inl (dA 20, 8, .inl (fun _ => 0))), (q 54, .inl (dA 20, 8, .inl (fun _ => 0))), (q 55, .inl (dA 20, 8, .inl (fun _ => 0))), (q 56, .inl (dA 20, 8, .inl (fun _ => 0))), (q 57, .inr (1, [.int 0, .int 0, .int 0, .int 0, .int 0])), (q 58, .inr (1, [.int 0, .int 0, .int 0, .int 0, .int 0])), (q 59, .inr (1, [.int 0, .int 0, .int 0, .int 0, .int 0])), (q 60, .inr (7, [.ref (q 61), .ref (q 62), .ref (q 63), .ref (q 2), .ref (q 64), .ref (q 65), .ref (q 66), .ref (q 67), .int 0, .int 0, .int 0, .int 0, .int 0, .int (-1)])), (q 61, .inl (dA 20, 8, .inl (fun _ => 0))), (q 62, .inl (dA 20, 8, .inl (fun _ => 0))), (q 63, .inl (dA 20, 8, .inl (fun _ => 0))), (q 64, .inl (dA 26, 4, .inr (.inr (.inr (.inr (fun j => some (ph (yC D dA sk sv h0 q) (SC.2.2.2 12 j)))))))), (q 65, .inl (dA 20, 8, .inl (fun _ => 0))), (q 66, .inl (dA 20, 32, .inl (fun _ => 0))), (q 67, .inl (dA 20, 32, .inl (fun _ => 0))), (q 68, .inr (8, [.ref (q 69), .int 0, .ref (q 2), .ref (q 70), .int 0, .int 0, .int 0, .int 0, .int 0, .int 0, .int 0])), (q 69, .inl (dA 20, 4, .inl (fun _ => 0))), (q 70, .inl (dA 20, 3, .inl (fun _ => 0))), (q 71, .inr (8, [.ref (q 72), .int 0, .ref (q 2), .ref (q 73), .int 0, .int 0, .int 0, .int 0, .int 0, .int 0, .int 0])), (q 72, .inl (dA 20, 4, .inl (fun _ => 0))), (q 73, .inl (dA 20, 3, .inl (fun _ => 0))), (q 74, .inr (8, [.ref (q 75), .int 0, .ref (q 2), .ref (q 76), .int 0, .int 0, .int 0, .int 0, .int 0, .int 0, .int 0])), (q 75, .inl (dA 20, 4, .inl (fun _ => 0))), (q 76, .inl (dA 20, 3, .inl (fun _ => 0))), (q 77, .inr (8, [.ref (q 78), .int 0, .ref (q 2), .ref (q 79), .int 0, .int 0, .int 0, .int 0, .int 0, .int 0, .int 0])), (q 78, .inl (dA 20, 4, .inl (fun _ => 0))), (q 79, .inl (dA 20, 3, .inl (fun _ => 0))), (q 80, .inr (5, [.ref (q 81), .int 0, .ref (q 2), .ref (q 60), .int 32, .ref (q 82), .ref (q 83), .ref (q 84), .ref (q 85), .int (-1)])), (q 81, .inl (dA 20, 5760, .inl (fun _ => 0))), (q 82, .inl (dA 20, 256, .inl (fun _ => 0))), (q 83, .inl (dA 20, 32, .inl (fun _ => 0))), (q 84, .inl (dA 20, 32, .inl (fun _ => 0))), (q 85, .inl (dA 20, 256, .inl (fun _ => 0))), (q 86, .inr (9, [.int 0, .int 0, .int 0, .int 0, .ref (q 2), .ref (q 80), .ref (q 87), .ref (q 88), .ref (q 89), .ref (q 90), .ref (q 91)])), (q 87, .inl (dA 20, 8, .inl (fun _ => 0))), (q 88, .inl (dA 20, 8, .inl (fun _ => 0))), (q 89, .inl (dA 20, 8, .inl (fun _ => 0))), (q 90, .inl (dA 20, 8, .inl (fun _ => 0))), (q 91, .inl (dA 20, 8, .inl (fun _ => 0))), (q 92, .inr (3, [.ref (q 2), .ref (q 60), .ref (q 93), .int 0, .int 0, .int 0, .int 0])), (q 93, .inl (dA 20, 8, .inl (fun _ => 0))), (q 94, .inl (dA 20, 8, .inl (fun _ => 0)))]
theorem at_arr {D : va_G} {cl : List vw_C} {a n : Nat} {cA : ClassId} {f g : Nat → Option Nat} {H : Heap} (h : ∀ j, j < n → f j = g j) (h1 : va_at D cl (a, .inl (cA, n, .inr (.inr (.inr (.inr f))))) H) : va_at D cl (a, .inl (cA, n, .inr (.inr (.inr (.inr g))))) H := by
  have e : vp_cell cA (n, .inr (.inr (.inr (.inr f)))) = vp_cell cA (n, .inr (.inr (.inr (.inr g)))) := by
    show arrV cA n (fun j => va_rf (f j)) = arrV cA n (fun j => va_rf (g j))
    unfold arrV
    congr 1
    apply congrArg
    funext j
    show va_rf (f j.val) = va_rf (g j.val)
    rw [h j.val j.isLt]
  show H[a]? = some (vp_cell cA (n, .inr (.inr (.inr (.inr g)))))
  rw [← e]; exact h1
theorem P_list {D : va_G} {cl : List vw_C} {H : Heap} {L L1 : va_W} (h : va_P D cl L H) (hs : ∀ (p : Nat) (q : Nat × va_E), L1[p]? = some q → L[p]? = some q ∨ va_at D cl q H) : va_P D cl L1 H := fun p q hq => (hs p q hq).elim (fun e => h p q e) id
set_option maxRecDepth 100000 in
set_option maxHeartbeats 4000000 in
theorem lC_P (D : va_G) (dA : Nat → ClassId) (sk sv : Nat → Nat) (h0 : Nat) (q : Nat → Nat) {H : Heap} (h : va_P D vwCl ((h0, k0_RX11 dA h0 q) :: kr_RX11 dA h0 q) H) : va_P D vwCl (lC D dA sk sv h0 q) H := by
  have r17 := at_arr (g := fun j => some (ph (yC D dA sk sv h0 q) (SC.2.2.2 4 j))) (fun j hj => by match j, hj with | 0, _ => rfl | 1, _ => rfl | 2, _ => rfl | 3, _ => rfl) (h 17 _ rfl)
  have r18 := at_arr (g := fun j => some (ph (yC D dA sk sv h0 q) (SC.2.2.2 5 j))) (fun j hj => by match j, hj with | 0, _ => rfl | 1, _ => rfl | 2, _ => rfl) (h 18 _ rfl)
  have r65 := at_arr (g := fun j => some (ph (yC D dA sk sv h0 q) (SC.2.2.2 12 j))) (fun j hj => by match j, hj with | 0, _ => rfl | 1, _ => rfl | 2, _ => rfl | 3, _ => rfl) (h 65 _ rfl)
  refine P_list h fun p x hx => ?_
  match p, hx with
  | 0, hx => left; rw [← hx]; rfl
  | 1, hx => left; rw [← hx]; rfl
  | 2, hx => left; rw [← hx]; rfl
  | 3, hx => left; rw [← hx]; rfl
  | 4, hx => left; rw [← hx]; rfl
  | 5, hx => left; rw [← hx]; rfl
  | 6, hx => left; rw [← hx]; rfl
  | 7, hx => left; rw [← hx]; rfl
  | 8, hx => left; rw [← hx]; rfl
  | 9, hx => left; rw [← hx]; rfl
  | 10, hx => left; rw [← hx]; rfl
  | 11, hx => left; rw [← hx]; rfl
  | 12, hx => left; rw [← hx]; rfl
  | 13, hx => left; rw [← hx]; rfl
  | 14, hx => left; rw [← hx]; rfl
  | 15, hx => left; rw [← hx]; rfl
  | 16, hx => left; rw [← hx]; rfl
  | 17, hx => right; cases hx; exact r17
  | 18, hx => right; cases hx; exact r18
  | 19, hx => left; rw [← hx]; rfl
  | 20, hx => left; rw [← hx]; rfl
  | 21, hx => left; rw [← hx]; rfl
  | 22, hx => left; rw [← hx]; rfl
  | 23, hx => left; rw [← hx]; rfl
  | 24, hx => left; rw [← hx]; rfl
  | 25, hx => left; rw [← hx]; rfl
  | 26, hx => left; rw [← hx]; rfl
  | 27, hx => left; rw [← hx]; rfl
  | 28, hx => left; rw [← hx]; rfl
  | 29, hx => left; rw [← hx]; rfl
  | 30, hx => left; rw [← hx]; rfl
  | 31, hx => left; rw [← hx]; rfl
  | 32, hx => left; rw [← hx]; rfl
  | 33, hx => left; rw [← hx]; rfl
  | 34, hx => left; rw [← hx]; rfl
  | 35, hx => left; rw [← hx]; rfl
  | 36, hx => left; rw [← hx]; rfl
  | 37, hx => left; rw [← hx]; rfl
  | 38, hx => left; rw [← hx]; rfl
  | 39, hx => left; rw [← hx]; rfl
  | 40, hx => left; rw [← hx]; rfl
  | 41, hx => left; rw [← hx]; rfl
  | 42, hx => left; rw [← hx]; rfl
  | 43, hx => left; rw [← hx]; rfl
  | 44, hx => left; rw [← hx]; rfl
  | 45, hx => left; rw [← hx]; rfl
  | 46, hx => left; rw [← hx]; rfl
  | 47, hx => left; rw [← hx]; rfl
  | 48, hx => left; rw [← hx]; rfl
  | 49, hx => left; rw [← hx]; rfl
  | 50, hx => left; rw [← hx]; rfl
  | 51, hx => left; rw [← hx]; rfl
  | 52, hx => left; rw [← hx]; rfl
  | 53, hx => left; rw [← hx]; rfl
  | 54, hx => left; rw [← hx]; rfl
  | 55, hx => left; rw [← hx]; rfl
  | 56, hx => left; rw [← hx]; rfl
  | 57, hx => left; rw [← hx]; rfl
  | 58, hx => left; rw [← hx]; rfl
  | 59, hx => left; rw [← hx]; rfl
  | 60, hx => left; rw [← hx]; rfl
  | 61, hx => left; rw [← hx]; rfl
  | 62, hx => left; rw [← hx]; rfl
  | 63, hx => left; rw [← hx]; rfl
  | 64, hx => left; rw [← hx]; rfl
  | 65, hx => right; cases hx; exact r65
  | 66, hx => left; rw [← hx]; rfl
  | 67, hx => left; rw [← hx]; rfl
  | 68, hx => left; rw [← hx]; rfl
  | 69, hx => left; rw [← hx]; rfl
  | 70, hx => left; rw [← hx]; rfl
  | 71, hx => left; rw [← hx]; rfl
  | 72, hx => left; rw [← hx]; rfl
  | 73, hx => left; rw [← hx]; rfl
  | 74, hx => left; rw [← hx]; rfl
  | 75, hx => left; rw [← hx]; rfl
  | 76, hx => left; rw [← hx]; rfl
  | 77, hx => left; rw [← hx]; rfl
  | 78, hx => left; rw [← hx]; rfl
  | 79, hx => left; rw [← hx]; rfl
  | 80, hx => left; rw [← hx]; rfl
  | 81, hx => left; rw [← hx]; rfl
  | 82, hx => left; rw [← hx]; rfl
  | 83, hx => left; rw [← hx]; rfl
  | 84, hx => left; rw [← hx]; rfl
  | 85, hx => left; rw [← hx]; rfl
  | 86, hx => left; rw [← hx]; rfl
  | 87, hx => left; rw [← hx]; rfl
  | 88, hx => left; rw [← hx]; rfl
  | 89, hx => left; rw [← hx]; rfl
  | 90, hx => left; rw [← hx]; rfl
  | 91, hx => left; rw [← hx]; rfl
  | 92, hx => left; rw [← hx]; rfl
  | 93, hx => left; rw [← hx]; rfl
  | 94, hx => left; rw [← hx]; rfl
  | 95, hx => left; rw [← hx]; rfl
  | p + 96, hx => exact absurd (List.getElem?_eq_some_iff.mp hx).1 (by show ¬ p + 96 < 96; omega)
set_option maxRecDepth 100000 in
set_option maxHeartbeats 4000000 in
theorem lC_w (D : va_G) (dA : Nat → ClassId) (sk sv : Nat → Nat) (h0 : Nat) (q : Nat → Nat) : pC.filterMap (fun i => (lC D dA sk sv h0 q)[i]?) = wsW (yC D dA sk sv h0 q) w0C := rfl
theorem rp_C (D : va_G) (dA : Nat → ClassId) (sk sv : Nat → Nat) (h0 : Nat) (q : Nat → Nat) {H : Heap} (h : va_P D vwCl ((h0, k0_RX11 dA h0 q) :: kr_RX11 dA h0 q) H) : RP (yC D dA sk sv h0 q) w0C H := (lC_P D dA sk sv h0 q h).sub pC (lC_w D dA sk sv h0 q)
