theorem dX5_init_0 : decode cX5_init 0 = .ok (.aload_n 0, 1) := by decide +kernel
theorem dX5_init_1 : decode cX5_init 1 = .ok (.invokespecial 3, 3) := by decide +kernel
theorem dX5_init_4 : decode cX5_init 4 = .ok (.aload_n 0, 1) := by decide +kernel
theorem dX5_init_5 : decode cX5_init 5 = .ok (.sipush 5760, 3) := by decide +kernel
theorem dX5_init_8 : decode cX5_init 8 = .ok (.newarray .int, 2) := by decide +kernel
theorem dX5_init_10 : decode cX5_init 10 = .ok (.putfield 9, 3) := by decide +kernel
theorem dX5_init_13 : decode cX5_init 13 = .ok (.aload_n 0, 1) := by decide +kernel
theorem dX5_init_14 : decode cX5_init 14 = .ok (.bipush 32, 2) := by decide +kernel
theorem dX5_init_16 : decode cX5_init 16 = .ok (.putfield 15, 3) := by decide +kernel
theorem dX5_init_19 : decode cX5_init 19 = .ok (.aload_n 0, 1) := by decide +kernel
theorem dX5_init_20 : decode cX5_init 20 = .ok (.sipush 256, 3) := by decide +kernel
theorem dX5_init_23 : decode cX5_init 23 = .ok (.newarray .int, 2) := by decide +kernel
theorem dX5_init_25 : decode cX5_init 25 = .ok (.putfield 19, 3) := by decide +kernel
theorem dX5_init_28 : decode cX5_init 28 = .ok (.aload_n 0, 1) := by decide +kernel
theorem dX5_init_29 : decode cX5_init 29 = .ok (.bipush 32, 2) := by decide +kernel
theorem dX5_init_31 : decode cX5_init 31 = .ok (.newarray .int, 2) := by decide +kernel
theorem dX5_init_33 : decode cX5_init 33 = .ok (.putfield 22, 3) := by decide +kernel
theorem dX5_init_36 : decode cX5_init 36 = .ok (.aload_n 0, 1) := by decide +kernel
theorem dX5_init_37 : decode cX5_init 37 = .ok (.bipush 32, 2) := by decide +kernel
theorem dX5_init_39 : decode cX5_init 39 = .ok (.newarray .int, 2) := by decide +kernel
theorem dX5_init_41 : decode cX5_init 41 = .ok (.putfield 25, 3) := by decide +kernel
theorem dX5_init_44 : decode cX5_init 44 = .ok (.aload_n 0, 1) := by decide +kernel
theorem dX5_init_45 : decode cX5_init 45 = .ok (.sipush 256, 3) := by decide +kernel
theorem dX5_init_48 : decode cX5_init 48 = .ok (.newarray .int, 2) := by decide +kernel
theorem dX5_init_50 : decode cX5_init 50 = .ok (.putfield 28, 3) := by decide +kernel
theorem dX5_init_53 : decode cX5_init 53 = .ok (.aload_n 0, 1) := by decide +kernel
theorem dX5_init_54 : decode cX5_init 54 = .ok (.iconst (-1), 1) := by decide +kernel
theorem dX5_init_55 : decode cX5_init 55 = .ok (.putfield 31, 3) := by decide +kernel
theorem dX5_init_58 : decode cX5_init 58 = .ok (.aload_n 0, 1) := by decide +kernel
theorem dX5_init_59 : decode cX5_init 59 = .ok (.aload_n 1, 1) := by decide +kernel
theorem dX5_init_60 : decode cX5_init 60 = .ok (.putfield 34, 3) := by decide +kernel
theorem dX5_init_63 : decode cX5_init 63 = .ok (.aload_n 0, 1) := by decide +kernel
theorem dX5_init_64 : decode cX5_init 64 = .ok (.aload_n 2, 1) := by decide +kernel
theorem dX5_init_65 : decode cX5_init 65 = .ok (.putfield 38, 3) := by decide +kernel
theorem dX5_init_68 : decode cX5_init 68 = .ok (.return_, 1) := by decide +kernel
def k0_RX5 (dA : Nat → ClassId) (h0 : Nat) (p1 : Nat) (p2 : Nat) (q : Nat → Nat) : va_E := .inr (5, [.ref (q 0), .int 0, .ref p1, .ref p2, .int 32, .ref (q 1), .ref (q 2), .ref (q 3), .ref (q 4), .int (-1)])
def kr_RX5 (dA : Nat → ClassId) (h0 : Nat) (p1 : Nat) (p2 : Nat) (q : Nat → Nat) : va_W := [(q 0, .inl (dA 20, 5760, .inl (fun _ => 0))), (q 1, .inl (dA 20, 256, .inl (fun _ => 0))), (q 2, .inl (dA 20, 32, .inl (fun _ => 0))), (q 3, .inl (dA 20, 32, .inl (fun _ => 0))), (q 4, .inl (dA 20, 256, .inl (fun _ => 0)))]
set_option maxRecDepth 100000 in
set_option maxHeartbeats 4000000 in
theorem ci_RX5 (l : Launch) (D : va_G) (dA : Nat → ClassId) (h0 : Nat) (p1 : Nat) (p2 : Nat) : KC l yX5_init cX5_init 3 1 5 6336 D dA h0 [.ref p1, .ref p2] 5 (k0_RX5 dA h0 p1 p2) (kr_RX5 dA h0 p1 p2) := by
  refine KC_of (by decide) rfl (Nat.le_of_ble_eq_true rfl) ?_
  intro K hl hD hdA hK hmc hms hA hQ
  subst hl
  subst hD
  subst hdA
  exact kb_aload_n hK 0 rfl dX5_init_0 <|
    kb_super hK (gt_2 203 rfl rfl) kSup (by decide) (Nat.le_of_ble_eq_true rfl) dX5_init_1 <|
    kb_aload_n hK 0 rfl dX5_init_4 <|
    kb_sipush hK 5760 (by decide) dX5_init_5 <|
    kb_arrI hK 5760 (by decide) (by decide) (by decide) (by rw [hmc]; exact Nat.le_of_ble_eq_true rfl) (by rw [hms]; exact Nat.le_of_ble_eq_true rfl) dX5_init_8 fun q0 =>
    kb_L ([(h0, .inr (5, [.null, .int 0, .null, .null, .int 0, .null, .null, .null, .null, .int 0])), (q0, .inl ((kdA K) 20, 5760, .inl (fun _ => 0)))]) rfl <|
    kb_put hK (ci := 5) (j := 0) 0 rfl inG5 ty_5 nmX5 (by decide) (gt_2 204 rfl rfl) rfl rfl rfl rfl rfl dX5_init_10 <|
    kb_L ([(h0, .inr (5, [.ref q0, .int 0, .null, .null, .int 0, .null, .null, .null, .null, .int 0])), (q0, .inl ((kdA K) 20, 5760, .inl (fun _ => 0)))]) rfl <|
    kb_aload_n hK 0 rfl dX5_init_13 <|
    kb_bipush hK 32 (by decide) dX5_init_14 <|
    kb_put hK (ci := 5) (j := 4) 0 rfl inG5 ty_5 nmX5 (by decide) (gt_2 209 rfl rfl) rfl rfl rfl rfl rfl dX5_init_16 <|
    kb_L ([(h0, .inr (5, [.ref q0, .int 0, .null, .null, .int 32, .null, .null, .null, .null, .int 0])), (q0, .inl ((kdA K) 20, 5760, .inl (fun _ => 0)))]) rfl <|
    kb_aload_n hK 0 rfl dX5_init_19 <|
    kb_sipush hK 256 (by decide) dX5_init_20 <|
    kb_arrI hK 256 (by decide) (by decide) (by decide) (by rw [hmc]; exact Nat.le_of_ble_eq_true rfl) (by rw [hms]; exact Nat.le_of_ble_eq_true rfl) dX5_init_23 fun q1 =>
    kb_L ([(h0, .inr (5, [.ref q0, .int 0, .null, .null, .int 32, .null, .null, .null, .null, .int 0])), (q0, .inl ((kdA K) 20, 5760, .inl (fun _ => 0))), (q1, .inl ((kdA K) 20, 256, .inl (fun _ => 0)))]) rfl <|
    kb_put hK (ci := 5) (j := 5) 0 rfl inG5 ty_5 nmX5 (by decide) (gt_2 210 rfl rfl) rfl rfl rfl rfl rfl dX5_init_25 <|
    kb_L ([(h0, .inr (5, [.ref q0, .int 0, .null, .null, .int 32, .ref q1, .null, .null, .null, .int 0])), (q0, .inl ((kdA K) 20, 5760, .inl (fun _ => 0))), (q1, .inl ((kdA K) 20, 256, .inl (fun _ => 0)))]) rfl <|
    kb_aload_n hK 0 rfl dX5_init_28 <|
    kb_bipush hK 32 (by decide) dX5_init_29 <|
    kb_arrI hK 32 (by decide) (by decide) (by decide) (by rw [hmc]; exact Nat.le_of_ble_eq_true rfl) (by rw [hms]; exact Nat.le_of_ble_eq_true rfl) dX5_init_31 fun q2 =>
    kb_L ([(h0, .inr (5, [.ref q0, .int 0, .null, .null, .int 32, .ref q1, .null, .null, .null, .int 0])), (q0, .inl ((kdA K) 20, 5760, .inl (fun _ => 0))), (q1, .inl ((kdA K) 20, 256, .inl (fun _ => 0))), (q2, .inl ((kdA K) 20, 32, .inl (fun _ => 0)))]) rfl <|
    kb_put hK (ci := 5) (j := 6) 0 rfl inG5 ty_5 nmX5 (by decide) (gt_2 211 rfl rfl) rfl rfl rfl rfl rfl dX5_init_33 <|
    kb_L ([(h0, .inr (5, [.ref q0, .int 0, .null, .null, .int 32, .ref q1, .ref q2, .null, .null, .int 0])), (q0, .inl ((kdA K) 20, 5760, .inl (fun _ => 0))), (q1, .inl ((kdA K) 20, 256, .inl (fun _ => 0))), (q2, .inl ((kdA K) 20, 32, .inl (fun _ => 0)))]) rfl <|
    kb_aload_n hK 0 rfl dX5_init_36 <|
    kb_bipush hK 32 (by decide) dX5_init_37 <|
    kb_arrI hK 32 (by decide) (by decide) (by decide) (by rw [hmc]; exact Nat.le_of_ble_eq_true rfl) (by rw [hms]; exact Nat.le_of_ble_eq_true rfl) dX5_init_39 fun q3 =>
    kb_L ([(h0, .inr (5, [.ref q0, .int 0, .null, .null, .int 32, .ref q1, .ref q2, .null, .null, .int 0])), (q0, .inl ((kdA K) 20, 5760, .inl (fun _ => 0))), (q1, .inl ((kdA K) 20, 256, .inl (fun _ => 0))), (q2, .inl ((kdA K) 20, 32, .inl (fun _ => 0))), (q3, .inl ((kdA K) 20, 32, .inl (fun _ => 0)))]) rfl <|
    kb_put hK (ci := 5) (j := 7) 0 rfl inG5 ty_5 nmX5 (by decide) (gt_2 212 rfl rfl) rfl rfl rfl rfl rfl dX5_init_41 <|
    kb_L ([(h0, .inr (5, [.ref q0, .int 0, .null, .null, .int 32, .ref q1, .ref q2, .ref q3, .null, .int 0])), (q0, .inl ((kdA K) 20, 5760, .inl (fun _ => 0))), (q1, .inl ((kdA K) 20, 256, .inl (fun _ => 0))), (q2, .inl ((kdA K) 20, 32, .inl (fun _ => 0))), (q3, .inl ((kdA K) 20, 32, .inl (fun _ => 0)))]) rfl <|
    kb_aload_n hK 0 rfl dX5_init_44 <|
    kb_sipush hK 256 (by decide) dX5_init_45 <|
    kb_arrI hK 256 (by decide) (by decide) (by decide) (by rw [hmc]; exact Nat.le_of_ble_eq_true rfl) (by rw [hms]; exact Nat.le_of_ble_eq_true rfl) dX5_init_48 fun q4 =>
    kb_L ([(h0, .inr (5, [.ref q0, .int 0, .null, .null, .int 32, .ref q1, .ref q2, .ref q3, .null, .int 0])), (q0, .inl ((kdA K) 20, 5760, .inl (fun _ => 0))), (q1, .inl ((kdA K) 20, 256, .inl (fun _ => 0))), (q2, .inl ((kdA K) 20, 32, .inl (fun _ => 0))), (q3, .inl ((kdA K) 20, 32, .inl (fun _ => 0))), (q4, .inl ((kdA K) 20, 256, .inl (fun _ => 0)))]) rfl <|
    kb_put hK (ci := 5) (j := 8) 0 rfl inG5 ty_5 nmX5 (by decide) (gt_2 213 rfl rfl) rfl rfl rfl rfl rfl dX5_init_50 <|
    kb_L ([(h0, .inr (5, [.ref q0, .int 0, .null, .null, .int 32, .ref q1, .ref q2, .ref q3, .ref q4, .int 0])), (q0, .inl ((kdA K) 20, 5760, .inl (fun _ => 0))), (q1, .inl ((kdA K) 20, 256, .inl (fun _ => 0))), (q2, .inl ((kdA K) 20, 32, .inl (fun _ => 0))), (q3, .inl ((kdA K) 20, 32, .inl (fun _ => 0))), (q4, .inl ((kdA K) 20, 256, .inl (fun _ => 0)))]) rfl <|
    kb_aload_n hK 0 rfl dX5_init_53 <|
    kb_iconst hK (-1) (by decide) dX5_init_54 <|
    kb_put hK (ci := 5) (j := 9) 0 rfl inG5 ty_5 nmX5 (by decide) (gt_2 214 rfl rfl) rfl rfl rfl rfl rfl dX5_init_55 <|
    kb_L ([(h0, .inr (5, [.ref q0, .int 0, .null, .null, .int 32, .ref q1, .ref q2, .ref q3, .ref q4, .int (-1)])), (q0, .inl ((kdA K) 20, 5760, .inl (fun _ => 0))), (q1, .inl ((kdA K) 20, 256, .inl (fun _ => 0))), (q2, .inl ((kdA K) 20, 32, .inl (fun _ => 0))), (q3, .inl ((kdA K) 20, 32, .inl (fun _ => 0))), (q4, .inl ((kdA K) 20, 256, .inl (fun _ => 0)))]) rfl <|
    kb_aload_n hK 0 rfl dX5_init_58 <|
    kb_aload_n hK 1 rfl dX5_init_59 <|
    kb_put hK (ci := 5) (j := 2) 0 rfl inG5 ty_5 nmX5 (by decide) (gt_2 207 rfl rfl) rfl rfl rfl rfl rfl dX5_init_60 <|
    kb_L ([(h0, .inr (5, [.ref q0, .int 0, .ref p1, .null, .int 32, .ref q1, .ref q2, .ref q3, .ref q4, .int (-1)])), (q0, .inl ((kdA K) 20, 5760, .inl (fun _ => 0))), (q1, .inl ((kdA K) 20, 256, .inl (fun _ => 0))), (q2, .inl ((kdA K) 20, 32, .inl (fun _ => 0))), (q3, .inl ((kdA K) 20, 32, .inl (fun _ => 0))), (q4, .inl ((kdA K) 20, 256, .inl (fun _ => 0)))]) rfl <|
    kb_aload_n hK 0 rfl dX5_init_63 <|
    kb_aload_n hK 2 rfl dX5_init_64 <|
    kb_put hK (ci := 5) (j := 3) 0 rfl inG5 ty_5 nmX5 (by decide) (gt_2 208 rfl rfl) rfl rfl rfl rfl rfl dX5_init_65 <|
    kb_L ([(h0, .inr (5, [.ref q0, .int 0, .ref p1, .ref p2, .int 32, .ref q1, .ref q2, .ref q3, .ref q4, .int (-1)])), (q0, .inl ((kdA K) 20, 5760, .inl (fun _ => 0))), (q1, .inl ((kdA K) 20, 256, .inl (fun _ => 0))), (q2, .inl ((kdA K) 20, 32, .inl (fun _ => 0))), (q3, .inl ((kdA K) 20, 32, .inl (fun _ => 0))), (q4, .inl ((kdA K) 20, 256, .inl (fun _ => 0)))]) rfl <|
    kb_ret hK (by rw [hmc]; exact Nat.le_of_ble_eq_true rfl) (by rw [hms]; exact Nat.le_of_ble_eq_true rfl) (fun t hP hD hF => by rw [hA] at hD hF; rw [hQ]; exact ⟨⟨fun j => [q0, q1, q2, q3, q4].getD j 0, rfl, trivial, hP, hD⟩, hF⟩) dX5_init_68
theorem dX9_init_0 : decode cX9_init 0 = .ok (.aload_n 0, 1) := by decide +kernel
theorem dX9_init_1 : decode cX9_init 1 = .ok (.invokespecial 3, 3) := by decide +kernel
theorem dX9_init_4 : decode cX9_init 4 = .ok (.aload_n 0, 1) := by decide +kernel
theorem dX9_init_5 : decode cX9_init 5 = .ok (.bipush 8, 2) := by decide +kernel
theorem dX9_init_7 : decode cX9_init 7 = .ok (.newarray .int, 2) := by decide +kernel
theorem dX9_init_9 : decode cX9_init 9 = .ok (.putfield 9, 3) := by decide +kernel
theorem dX9_init_12 : decode cX9_init 12 = .ok (.aload_n 0, 1) := by decide +kernel
theorem dX9_init_13 : decode cX9_init 13 = .ok (.bipush 8, 2) := by decide +kernel
theorem dX9_init_15 : decode cX9_init 15 = .ok (.newarray .int, 2) := by decide +kernel
theorem dX9_init_17 : decode cX9_init 17 = .ok (.putfield 15, 3) := by decide +kernel
theorem dX9_init_20 : decode cX9_init 20 = .ok (.aload_n 0, 1) := by decide +kernel
theorem dX9_init_21 : decode cX9_init 21 = .ok (.bipush 8, 2) := by decide +kernel
theorem dX9_init_23 : decode cX9_init 23 = .ok (.newarray .int, 2) := by decide +kernel
theorem dX9_init_25 : decode cX9_init 25 = .ok (.putfield 18, 3) := by decide +kernel
theorem dX9_init_28 : decode cX9_init 28 = .ok (.aload_n 0, 1) := by decide +kernel
theorem dX9_init_29 : decode cX9_init 29 = .ok (.bipush 8, 2) := by decide +kernel
theorem dX9_init_31 : decode cX9_init 31 = .ok (.newarray .int, 2) := by decide +kernel
theorem dX9_init_33 : decode cX9_init 33 = .ok (.putfield 21, 3) := by decide +kernel
theorem dX9_init_36 : decode cX9_init 36 = .ok (.aload_n 0, 1) := by decide +kernel
theorem dX9_init_37 : decode cX9_init 37 = .ok (.bipush 8, 2) := by decide +kernel
theorem dX9_init_39 : decode cX9_init 39 = .ok (.newarray .int, 2) := by decide +kernel
theorem dX9_init_41 : decode cX9_init 41 = .ok (.putfield 24, 3) := by decide +kernel
theorem dX9_init_44 : decode cX9_init 44 = .ok (.aload_n 0, 1) := by decide +kernel
theorem dX9_init_45 : decode cX9_init 45 = .ok (.aload_n 1, 1) := by decide +kernel
theorem dX9_init_46 : decode cX9_init 46 = .ok (.putfield 27, 3) := by decide +kernel
theorem dX9_init_49 : decode cX9_init 49 = .ok (.aload_n 0, 1) := by decide +kernel
theorem dX9_init_50 : decode cX9_init 50 = .ok (.aload_n 2, 1) := by decide +kernel
theorem dX9_init_51 : decode cX9_init 51 = .ok (.putfield 31, 3) := by decide +kernel
theorem dX9_init_54 : decode cX9_init 54 = .ok (.return_, 1) := by decide +kernel
def k0_RX9 (dA : Nat → ClassId) (h0 : Nat) (p1 : Nat) (p2 : Nat) (q : Nat → Nat) : va_E := .inr (9, [.int 0, .int 0, .int 0, .int 0, .ref p1, .ref p2, .ref (q 0), .ref (q 1), .ref (q 2), .ref (q 3), .ref (q 4)])
def kr_RX9 (dA : Nat → ClassId) (h0 : Nat) (p1 : Nat) (p2 : Nat) (q : Nat → Nat) : va_W := [(q 0, .inl (dA 20, 8, .inl (fun _ => 0))), (q 1, .inl (dA 20, 8, .inl (fun _ => 0))), (q 2, .inl (dA 20, 8, .inl (fun _ => 0))), (q 3, .inl (dA 20, 8, .inl (fun _ => 0))), (q 4, .inl (dA 20, 8, .inl (fun _ => 0)))]
set_option maxRecDepth 100000 in
set_option maxHeartbeats 4000000 in
theorem ci_RX9 (l : Launch) (D : va_G) (dA : Nat → ClassId) (h0 : Nat) (p1 : Nat) (p2 : Nat) : KC l yX9_init cX9_init 3 1 5 40 D dA h0 [.ref p1, .ref p2] 9 (k0_RX9 dA h0 p1 p2) (kr_RX9 dA h0 p1 p2) := by
  refine KC_of (by decide) rfl (Nat.le_of_ble_eq_true rfl) ?_
  intro K hl hD hdA hK hmc hms hA hQ
  subst hl
  subst hD
  subst hdA
  exact kb_aload_n hK 0 rfl dX9_init_0 <|
    kb_super hK (gt_3 1 rfl rfl) kSup (by decide) (Nat.le_of_ble_eq_true rfl) dX9_init_1 <|
    kb_aload_n hK 0 rfl dX9_init_4 <|
    kb_bipush hK 8 (by decide) dX9_init_5 <|
    kb_arrI hK 8 (by decide) (by decide) (by decide) (by rw [hmc]; exact Nat.le_of_ble_eq_true rfl) (by rw [hms]; exact Nat.le_of_ble_eq_true rfl) dX9_init_7 fun q0 =>
    kb_L ([(h0, .inr (9, [.int 0, .int 0, .int 0, .int 0, .null, .null, .null, .null, .null, .null, .null])), (q0, .inl ((kdA K) 20, 8, .inl (fun _ => 0)))]) rfl <|
    kb_put hK (ci := 9) (j := 6) 0 rfl inG9 ty_9 nmX9 (by decide) (gt_3 12 rfl rfl) rfl rfl rfl rfl rfl dX9_init_9 <|
    kb_L ([(h0, .inr (9, [.int 0, .int 0, .int 0, .int 0, .null, .null, .ref q0, .null, .null, .null, .null])), (q0, .inl ((kdA K) 20, 8, .inl (fun _ => 0)))]) rfl <|
    kb_aload_n hK 0 rfl dX9_init_12 <|
    kb_bipush hK 8 (by decide) dX9_init_13 <|
    kb_arrI hK 8 (by decide) (by decide) (by decide) (by rw [hmc]; exact Nat.le_of_ble_eq_true rfl) (by rw [hms]; exact Nat.le_of_ble_eq_true rfl) dX9_init_15 fun q1 =>
    kb_L ([(h0, .inr (9, [.int 0, .int 0, .int 0, .int 0, .null, .null, .ref q0, .null, .null, .null, .null])), (q0, .inl ((kdA K) 20, 8, .inl (fun _ => 0))), (q1, .inl ((kdA K) 20, 8, .inl (fun _ => 0)))]) rfl <|
    kb_put hK (ci := 9) (j := 7) 0 rfl inG9 ty_9 nmX9 (by decide) (gt_3 13 rfl rfl) rfl rfl rfl rfl rfl dX9_init_17 <|
    kb_L ([(h0, .inr (9, [.int 0, .int 0, .int 0, .int 0, .null, .null, .ref q0, .ref q1, .null, .null, .null])), (q0, .inl ((kdA K) 20, 8, .inl (fun _ => 0))), (q1, .inl ((kdA K) 20, 8, .inl (fun _ => 0)))]) rfl <|
    kb_aload_n hK 0 rfl dX9_init_20 <|
    kb_bipush hK 8 (by decide) dX9_init_21 <|
    kb_arrI hK 8 (by decide) (by decide) (by decide) (by rw [hmc]; exact Nat.le_of_ble_eq_true rfl) (by rw [hms]; exact Nat.le_of_ble_eq_true rfl) dX9_init_23 fun q2 =>
    kb_L ([(h0, .inr (9, [.int 0, .int 0, .int 0, .int 0, .null, .null, .ref q0, .ref q1, .null, .null, .null])), (q0, .inl ((kdA K) 20, 8, .inl (fun _ => 0))), (q1, .inl ((kdA K) 20, 8, .inl (fun _ => 0))), (q2, .inl ((kdA K) 20, 8, .inl (fun _ => 0)))]) rfl <|
    kb_put hK (ci := 9) (j := 8) 0 rfl inG9 ty_9 nmX9 (by decide) (gt_3 14 rfl rfl) rfl rfl rfl rfl rfl dX9_init_25 <|
    kb_L ([(h0, .inr (9, [.int 0, .int 0, .int 0, .int 0, .null, .null, .ref q0, .ref q1, .ref q2, .null, .null])), (q0, .inl ((kdA K) 20, 8, .inl (fun _ => 0))), (q1, .inl ((kdA K) 20, 8, .inl (fun _ => 0))), (q2, .inl ((kdA K) 20, 8, .inl (fun _ => 0)))]) rfl <|
    kb_aload_n hK 0 rfl dX9_init_28 <|
    kb_bipush hK 8 (by decide) dX9_init_29 <|
    kb_arrI hK 8 (by decide) (by decide) (by decide) (by rw [hmc]; exact Nat.le_of_ble_eq_true rfl) (by rw [hms]; exact Nat.le_of_ble_eq_true rfl) dX9_init_31 fun q3 =>
    kb_L ([(h0, .inr (9, [.int 0, .int 0, .int 0, .int 0, .null, .null, .ref q0, .ref q1, .ref q2, .null, .null])), (q0, .inl ((kdA K) 20, 8, .inl (fun _ => 0))), (q1, .inl ((kdA K) 20, 8, .inl (fun _ => 0))), (q2, .inl ((kdA K) 20, 8, .inl (fun _ => 0))), (q3, .inl ((kdA K) 20, 8, .inl (fun _ => 0)))]) rfl <|
    kb_put hK (ci := 9) (j := 9) 0 rfl inG9 ty_9 nmX9 (by decide) (gt_3 15 rfl rfl) rfl rfl rfl rfl rfl dX9_init_33 <|
    kb_L ([(h0, .inr (9, [.int 0, .int 0, .int 0, .int 0, .null, .null, .ref q0, .ref q1, .ref q2, .ref q3, .null])), (q0, .inl ((kdA K) 20, 8, .inl (fun _ => 0))), (q1, .inl ((kdA K) 20, 8, .inl (fun _ => 0))), (q2, .inl ((kdA K) 20, 8, .inl (fun _ => 0))), (q3, .inl ((kdA K) 20, 8, .inl (fun _ => 0)))]) rfl <|
    kb_aload_n hK 0 rfl dX9_init_36 <|
    kb_bipush hK 8 (by decide) dX9_init_37 <|
    kb_arrI hK 8 (by decide) (by decide) (by decide) (by rw [hmc]; exact Nat.le_of_ble_eq_true rfl) (by rw [hms]; exact Nat.le_of_ble_eq_true rfl) dX9_init_39 fun q4 =>
    kb_L ([(h0, .inr (9, [.int 0, .int 0, .int 0, .int 0, .null, .null, .ref q0, .ref q1, .ref q2, .ref q3, .null])), (q0, .inl ((kdA K) 20, 8, .inl (fun _ => 0))), (q1, .inl ((kdA K) 20, 8, .inl (fun _ => 0))), (q2, .inl ((kdA K) 20, 8, .inl (fun _ => 0))), (q3, .inl ((kdA K) 20, 8, .inl (fun _ => 0))), (q4, .inl ((kdA K) 20, 8, .inl (fun _ => 0)))]) rfl <|
    kb_put hK (ci := 9) (j := 10) 0 rfl inG9 ty_9 nmX9 (by decide) (gt_3 16 rfl rfl) rfl rfl rfl rfl rfl dX9_init_41 <|
    kb_L ([(h0, .inr (9, [.int 0, .int 0, .int 0, .int 0, .null, .null, .ref q0, .ref q1, .ref q2, .ref q3, .ref q4])), (q0, .inl ((kdA K) 20, 8, .inl (fun _ => 0))), (q1, .inl ((kdA K) 20, 8, .inl (fun _ => 0))), (q2, .inl ((kdA K) 20, 8, .inl (fun _ => 0))), (q3, .inl ((kdA K) 20, 8, .inl (fun _ => 0))), (q4, .inl ((kdA K) 20, 8, .inl (fun _ => 0)))]) rfl <|
    kb_aload_n hK 0 rfl dX9_init_44 <|
    kb_aload_n hK 1 rfl dX9_init_45 <|
    kb_put hK (ci := 9) (j := 4) 0 rfl inG9 ty_9 nmX9 (by decide) (gt_3 10 rfl rfl) rfl rfl rfl rfl rfl dX9_init_46 <|
    kb_L ([(h0, .inr (9, [.int 0, .int 0, .int 0, .int 0, .ref p1, .null, .ref q0, .ref q1, .ref q2, .ref q3, .ref q4])), (q0, .inl ((kdA K) 20, 8, .inl (fun _ => 0))), (q1, .inl ((kdA K) 20, 8, .inl (fun _ => 0))), (q2, .inl ((kdA K) 20, 8, .inl (fun _ => 0))), (q3, .inl ((kdA K) 20, 8, .inl (fun _ => 0))), (q4, .inl ((kdA K) 20, 8, .inl (fun _ => 0)))]) rfl <|
    kb_aload_n hK 0 rfl dX9_init_49 <|
    kb_aload_n hK 2 rfl dX9_init_50 <|
    kb_put hK (ci := 9) (j := 5) 0 rfl inG9 ty_9 nmX9 (by decide) (gt_3 11 rfl rfl) rfl rfl rfl rfl rfl dX9_init_51 <|
    kb_L ([(h0, .inr (9, [.int 0, .int 0, .int 0, .int 0, .ref p1, .ref p2, .ref q0, .ref q1, .ref q2, .ref q3, .ref q4])), (q0, .inl ((kdA K) 20, 8, .inl (fun _ => 0))), (q1, .inl ((kdA K) 20, 8, .inl (fun _ => 0))), (q2, .inl ((kdA K) 20, 8, .inl (fun _ => 0))), (q3, .inl ((kdA K) 20, 8, .inl (fun _ => 0))), (q4, .inl ((kdA K) 20, 8, .inl (fun _ => 0)))]) rfl <|
    kb_ret hK (by rw [hmc]; exact Nat.le_of_ble_eq_true rfl) (by rw [hms]; exact Nat.le_of_ble_eq_true rfl) (fun t hP hD hF => by rw [hA] at hD hF; rw [hQ]; exact ⟨⟨fun j => [q0, q1, q2, q3, q4].getD j 0, rfl, trivial, hP, hD⟩, hF⟩) dX9_init_54
theorem dX3_init_0 : decode cX3_init 0 = .ok (.aload_n 0, 1) := by decide +kernel
theorem dX3_init_1 : decode cX3_init 1 = .ok (.invokespecial 3, 3) := by decide +kernel
theorem dX3_init_4 : decode cX3_init 4 = .ok (.aload_n 0, 1) := by decide +kernel
theorem dX3_init_5 : decode cX3_init 5 = .ok (.bipush 8, 2) := by decide +kernel
theorem dX3_init_7 : decode cX3_init 7 = .ok (.newarray .int, 2) := by decide +kernel
theorem dX3_init_9 : decode cX3_init 9 = .ok (.putfield 9, 3) := by decide +kernel
theorem dX3_init_12 : decode cX3_init 12 = .ok (.aload_n 0, 1) := by decide +kernel
theorem dX3_init_13 : decode cX3_init 13 = .ok (.aload_n 1, 1) := by decide +kernel
theorem dX3_init_14 : decode cX3_init 14 = .ok (.putfield 15, 3) := by decide +kernel
theorem dX3_init_17 : decode cX3_init 17 = .ok (.aload_n 0, 1) := by decide +kernel
theorem dX3_init_18 : decode cX3_init 18 = .ok (.aload_n 2, 1) := by decide +kernel
theorem dX3_init_19 : decode cX3_init 19 = .ok (.putfield 19, 3) := by decide +kernel
theorem dX3_init_22 : decode cX3_init 22 = .ok (.return_, 1) := by decide +kernel
def k0_RX3 (dA : Nat → ClassId) (h0 : Nat) (p1 : Nat) (p2 : Nat) (q : Nat → Nat) : va_E := .inr (3, [.ref p1, .ref p2, .ref (q 0), .int 0, .int 0, .int 0, .int 0])
def kr_RX3 (dA : Nat → ClassId) (h0 : Nat) (p1 : Nat) (p2 : Nat) (q : Nat → Nat) : va_W := [(q 0, .inl (dA 20, 8, .inl (fun _ => 0)))]
set_option maxRecDepth 100000 in
set_option maxHeartbeats 4000000 in
theorem ci_RX3 (l : Launch) (D : va_G) (dA : Nat → ClassId) (h0 : Nat) (p1 : Nat) (p2 : Nat) : KC l yX3_init cX3_init 3 1 1 8 D dA h0 [.ref p1, .ref p2] 3 (k0_RX3 dA h0 p1 p2) (kr_RX3 dA h0 p1 p2) := by
  refine KC_of (by decide) rfl (Nat.le_of_ble_eq_true rfl) ?_
  intro K hl hD hdA hK hmc hms hA hQ
  subst hl
  subst hD
  subst hdA
  exact kb_aload_n hK 0 rfl dX3_init_0 <|
    kb_super hK (gt_3 45 rfl rfl) kSup (by decide) (Nat.le_of_ble_eq_true rfl) dX3_init_1 <|
    kb_aload_n hK 0 rfl dX3_init_4 <|
    kb_bipush hK 8 (by decide) dX3_init_5 <|
    kb_arrI hK 8 (by decide) (by decide) (by decide) (by rw [hmc]; exact Nat.le_of_ble_eq_true rfl) (by rw [hms]; exact Nat.le_of_ble_eq_true rfl) dX3_init_7 fun q0 =>
    kb_L ([(h0, .inr (3, [.null, .null, .null, .int 0, .int 0, .int 0, .int 0])), (q0, .inl ((kdA K) 20, 8, .inl (fun _ => 0)))]) rfl <|
    kb_put hK (ci := 3) (j := 2) 0 rfl inG3 ty_3 nmX3 (by decide) (gt_3 48 rfl rfl) rfl rfl rfl rfl rfl dX3_init_9 <|
    kb_L ([(h0, .inr (3, [.null, .null, .ref q0, .int 0, .int 0, .int 0, .int 0])), (q0, .inl ((kdA K) 20, 8, .inl (fun _ => 0)))]) rfl <|
    kb_aload_n hK 0 rfl dX3_init_12 <|
    kb_aload_n hK 1 rfl dX3_init_13 <|
    kb_put hK (ci := 3) (j := 0) 0 rfl inG3 ty_3 nmX3 (by decide) (gt_3 46 rfl rfl) rfl rfl rfl rfl rfl dX3_init_14 <|
    kb_L ([(h0, .inr (3, [.ref p1, .null, .ref q0, .int 0, .int 0, .int 0, .int 0])), (q0, .inl ((kdA K) 20, 8, .inl (fun _ => 0)))]) rfl <|
    kb_aload_n hK 0 rfl dX3_init_17 <|
    kb_aload_n hK 2 rfl dX3_init_18 <|
    kb_put hK (ci := 3) (j := 1) 0 rfl inG3 ty_3 nmX3 (by decide) (gt_3 47 rfl rfl) rfl rfl rfl rfl rfl dX3_init_19 <|
    kb_L ([(h0, .inr (3, [.ref p1, .ref p2, .ref q0, .int 0, .int 0, .int 0, .int 0])), (q0, .inl ((kdA K) 20, 8, .inl (fun _ => 0)))]) rfl <|
    kb_ret hK (by rw [hmc]; exact Nat.le_of_ble_eq_true rfl) (by rw [hms]; exact Nat.le_of_ble_eq_true rfl) (fun t hP hD hF => by rw [hA] at hD hF; rw [hQ]; exact ⟨⟨fun j => [q0].getD j 0, rfl, trivial, hP, hD⟩, hF⟩) dX3_init_22
