theorem dX8_init_0 : decode cX8_init 0 = .ok (.aload_n 0, 1) := by decide +kernel
theorem dX8_init_1 : decode cX8_init 1 = .ok (.invokespecial 3, 3) := by decide +kernel
theorem dX8_init_4 : decode cX8_init 4 = .ok (.aload_n 0, 1) := by decide +kernel
theorem dX8_init_5 : decode cX8_init 5 = .ok (.iconst 4, 1) := by decide +kernel
theorem dX8_init_6 : decode cX8_init 6 = .ok (.newarray .int, 2) := by decide +kernel
theorem dX8_init_8 : decode cX8_init 8 = .ok (.putfield 9, 3) := by decide +kernel
theorem dX8_init_11 : decode cX8_init 11 = .ok (.aload_n 0, 1) := by decide +kernel
theorem dX8_init_12 : decode cX8_init 12 = .ok (.iconst 3, 1) := by decide +kernel
theorem dX8_init_13 : decode cX8_init 13 = .ok (.newarray .int, 2) := by decide +kernel
theorem dX8_init_15 : decode cX8_init 15 = .ok (.putfield 15, 3) := by decide +kernel
theorem dX8_init_18 : decode cX8_init 18 = .ok (.aload_n 0, 1) := by decide +kernel
theorem dX8_init_19 : decode cX8_init 19 = .ok (.aload_n 1, 1) := by decide +kernel
theorem dX8_init_20 : decode cX8_init 20 = .ok (.putfield 18, 3) := by decide +kernel
theorem dX8_init_23 : decode cX8_init 23 = .ok (.return_, 1) := by decide +kernel
def k0_RX8 (dA : Nat → ClassId) (h0 : Nat) (p1 : Nat) (q : Nat → Nat) : va_E := .inr (8, [.ref (q 0), .int 0, .ref p1, .ref (q 1), .int 0, .int 0, .int 0, .int 0, .int 0, .int 0, .int 0])
def kr_RX8 (dA : Nat → ClassId) (h0 : Nat) (p1 : Nat) (q : Nat → Nat) : va_W := [(q 0, .inl (dA 20, 4, .inl (fun _ => 0))), (q 1, .inl (dA 20, 3, .inl (fun _ => 0)))]
set_option maxRecDepth 100000 in
set_option maxHeartbeats 4000000 in
theorem ci_RX8 (l : Launch) (D : va_G) (dA : Nat → ClassId) (h0 : Nat) (p1 : Nat) : KC l yX8_init cX8_init 2 1 2 7 D dA h0 [.ref p1] 8 (k0_RX8 dA h0 p1) (kr_RX8 dA h0 p1) := by
  refine KC_of (by decide) rfl (Nat.le_of_ble_eq_true rfl) ?_
  intro K hl hD hdA hK hmc hms hA hQ
  subst hl
  subst hD
  subst hdA
  exact kb_aload_n hK 0 rfl dX8_init_0 <|
    kb_super hK (gt_2 114 rfl rfl) kSup (by decide) (Nat.le_of_ble_eq_true rfl) dX8_init_1 <|
    kb_aload_n hK 0 rfl dX8_init_4 <|
    kb_iconst hK 4 (by decide) dX8_init_5 <|
    kb_arrI hK 4 (by decide) (by decide) (by decide) (by rw [hmc]; exact Nat.le_of_ble_eq_true rfl) (by rw [hms]; exact Nat.le_of_ble_eq_true rfl) dX8_init_6 fun q0 =>
    kb_L ([(h0, .inr (8, [.null, .int 0, .null, .null, .int 0, .int 0, .int 0, .int 0, .int 0, .int 0, .int 0])), (q0, .inl ((kdA K) 20, 4, .inl (fun _ => 0)))]) rfl <|
    kb_put hK (ci := 8) (j := 0) 0 rfl inG8 ty_8 nmX8 (by decide) (gt_2 115 rfl rfl) rfl rfl rfl rfl rfl dX8_init_8 <|
    kb_L ([(h0, .inr (8, [.ref q0, .int 0, .null, .null, .int 0, .int 0, .int 0, .int 0, .int 0, .int 0, .int 0])), (q0, .inl ((kdA K) 20, 4, .inl (fun _ => 0)))]) rfl <|
    kb_aload_n hK 0 rfl dX8_init_11 <|
    kb_iconst hK 3 (by decide) dX8_init_12 <|
    kb_arrI hK 3 (by decide) (by decide) (by decide) (by rw [hmc]; exact Nat.le_of_ble_eq_true rfl) (by rw [hms]; exact Nat.le_of_ble_eq_true rfl) dX8_init_13 fun q1 =>
    kb_L ([(h0, .inr (8, [.ref q0, .int 0, .null, .null, .int 0, .int 0, .int 0, .int 0, .int 0, .int 0, .int 0])), (q0, .inl ((kdA K) 20, 4, .inl (fun _ => 0))), (q1, .inl ((kdA K) 20, 3, .inl (fun _ => 0)))]) rfl <|
    kb_put hK (ci := 8) (j := 3) 0 rfl inG8 ty_8 nmX8 (by decide) (gt_2 120 rfl rfl) rfl rfl rfl rfl rfl dX8_init_15 <|
    kb_L ([(h0, .inr (8, [.ref q0, .int 0, .null, .ref q1, .int 0, .int 0, .int 0, .int 0, .int 0, .int 0, .int 0])), (q0, .inl ((kdA K) 20, 4, .inl (fun _ => 0))), (q1, .inl ((kdA K) 20, 3, .inl (fun _ => 0)))]) rfl <|
    kb_aload_n hK 0 rfl dX8_init_18 <|
    kb_aload_n hK 1 rfl dX8_init_19 <|
    kb_put hK (ci := 8) (j := 2) 0 rfl inG8 ty_8 nmX8 (by decide) (gt_2 119 rfl rfl) rfl rfl rfl rfl rfl dX8_init_20 <|
    kb_L ([(h0, .inr (8, [.ref q0, .int 0, .ref p1, .ref q1, .int 0, .int 0, .int 0, .int 0, .int 0, .int 0, .int 0])), (q0, .inl ((kdA K) 20, 4, .inl (fun _ => 0))), (q1, .inl ((kdA K) 20, 3, .inl (fun _ => 0)))]) rfl <|
    kb_ret hK (by rw [hmc]; exact Nat.le_of_ble_eq_true rfl) (by rw [hms]; exact Nat.le_of_ble_eq_true rfl) (fun t hP hD hF => by rw [hA] at hD hF; rw [hQ]; exact ⟨⟨fun j => [q0, q1].getD j 0, rfl, trivial, hP, hD⟩, hF⟩) dX8_init_23
theorem dX7_init_0 : decode cX7_init 0 = .ok (.aload_n 0, 1) := by decide +kernel
theorem dX7_init_1 : decode cX7_init 1 = .ok (.invokespecial 3, 3) := by decide +kernel
theorem dX7_init_4 : decode cX7_init 4 = .ok (.aload_n 0, 1) := by decide +kernel
theorem dX7_init_5 : decode cX7_init 5 = .ok (.bipush 8, 2) := by decide +kernel
theorem dX7_init_7 : decode cX7_init 7 = .ok (.newarray .int, 2) := by decide +kernel
theorem dX7_init_9 : decode cX7_init 9 = .ok (.putfield 9, 3) := by decide +kernel
theorem dX7_init_12 : decode cX7_init 12 = .ok (.aload_n 0, 1) := by decide +kernel
theorem dX7_init_13 : decode cX7_init 13 = .ok (.bipush 8, 2) := by decide +kernel
theorem dX7_init_15 : decode cX7_init 15 = .ok (.newarray .int, 2) := by decide +kernel
theorem dX7_init_17 : decode cX7_init 17 = .ok (.putfield 15, 3) := by decide +kernel
theorem dX7_init_20 : decode cX7_init 20 = .ok (.aload_n 0, 1) := by decide +kernel
theorem dX7_init_21 : decode cX7_init 21 = .ok (.bipush 8, 2) := by decide +kernel
theorem dX7_init_23 : decode cX7_init 23 = .ok (.newarray .int, 2) := by decide +kernel
theorem dX7_init_25 : decode cX7_init 25 = .ok (.putfield 18, 3) := by decide +kernel
theorem dX7_init_28 : decode cX7_init 28 = .ok (.aload_n 0, 1) := by decide +kernel
theorem dX7_init_29 : decode cX7_init 29 = .ok (.iconst 4, 1) := by decide +kernel
theorem dX7_init_30 : decode cX7_init 30 = .ok (.anewarray 21, 3) := by decide +kernel
theorem dX7_init_33 : decode cX7_init 33 = .ok (.putfield 23, 3) := by decide +kernel
theorem dX7_init_36 : decode cX7_init 36 = .ok (.aload_n 0, 1) := by decide +kernel
theorem dX7_init_37 : decode cX7_init 37 = .ok (.bipush 8, 2) := by decide +kernel
theorem dX7_init_39 : decode cX7_init 39 = .ok (.newarray .int, 2) := by decide +kernel
theorem dX7_init_41 : decode cX7_init 41 = .ok (.putfield 27, 3) := by decide +kernel
theorem dX7_init_44 : decode cX7_init 44 = .ok (.aload_n 0, 1) := by decide +kernel
theorem dX7_init_45 : decode cX7_init 45 = .ok (.bipush 32, 2) := by decide +kernel
theorem dX7_init_47 : decode cX7_init 47 = .ok (.newarray .int, 2) := by decide +kernel
theorem dX7_init_49 : decode cX7_init 49 = .ok (.putfield 30, 3) := by decide +kernel
theorem dX7_init_52 : decode cX7_init 52 = .ok (.aload_n 0, 1) := by decide +kernel
theorem dX7_init_53 : decode cX7_init 53 = .ok (.bipush 32, 2) := by decide +kernel
theorem dX7_init_55 : decode cX7_init 55 = .ok (.newarray .int, 2) := by decide +kernel
theorem dX7_init_57 : decode cX7_init 57 = .ok (.putfield 33, 3) := by decide +kernel
theorem dX7_init_60 : decode cX7_init 60 = .ok (.aload_n 0, 1) := by decide +kernel
theorem dX7_init_61 : decode cX7_init 61 = .ok (.iconst (-1), 1) := by decide +kernel
theorem dX7_init_62 : decode cX7_init 62 = .ok (.putfield 36, 3) := by decide +kernel
theorem dX7_init_65 : decode cX7_init 65 = .ok (.aload_n 0, 1) := by decide +kernel
theorem dX7_init_66 : decode cX7_init 66 = .ok (.aload_n 1, 1) := by decide +kernel
theorem dX7_init_67 : decode cX7_init 67 = .ok (.putfield 40, 3) := by decide +kernel
theorem dX7_init_70 : decode cX7_init 70 = .ok (.iconst 0, 1) := by decide +kernel
theorem dX7_init_71 : decode cX7_init 71 = .ok (.istore_n 2, 1) := by decide +kernel
theorem dX7_init_72 : decode cX7_init 72 = .ok (.iload_n 2, 1) := by decide +kernel
theorem dX7_init_73 : decode cX7_init 73 = .ok (.iconst 4, 1) := by decide +kernel
theorem dX7_init_74 : decode cX7_init 74 = .ok (.if_icmp .ge 23, 3) := by decide +kernel
theorem dX7_init_77 : decode cX7_init 77 = .ok (.aload_n 0, 1) := by decide +kernel
theorem dX7_init_78 : decode cX7_init 78 = .ok (.getfield 23, 3) := by decide +kernel
theorem dX7_init_81 : decode cX7_init 81 = .ok (.iload_n 2, 1) := by decide +kernel
theorem dX7_init_82 : decode cX7_init 82 = .ok (.new 21, 3) := by decide +kernel
theorem dX7_init_85 : decode cX7_init 85 = .ok (.dup, 1) := by decide +kernel
theorem dX7_init_86 : decode cX7_init 86 = .ok (.aload_n 1, 1) := by decide +kernel
theorem dX7_init_87 : decode cX7_init 87 = .ok (.invokespecial 44, 3) := by decide +kernel
theorem dX7_init_90 : decode cX7_init 90 = .ok (.aastore, 1) := by decide +kernel
theorem dX7_init_91 : decode cX7_init 91 = .ok (.iinc 2 1, 3) := by decide +kernel
theorem dX7_init_94 : decode cX7_init 94 = .ok (.goto (-22), 3) := by decide +kernel
theorem dX7_init_97 : decode cX7_init 97 = .ok (.return_, 1) := by decide +kernel
def k0_RX7 (dA : Nat → ClassId) (h0 : Nat) (p1 : Nat) (q : Nat → Nat) : va_E := .inr (7, [.ref (q 0), .ref (q 1), .ref (q 2), .ref p1, .ref (q 3), .ref (q 4), .ref (q 5), .ref (q 6), .int 0, .int 0, .int 0, .int 0, .int 0, .int (-1)])
def kr_RX7 (dA : Nat → ClassId) (h0 : Nat) (p1 : Nat) (q : Nat → Nat) : va_W := [(q 0, .inl (dA 20, 8, .inl (fun _ => 0))), (q 1, .inl (dA 20, 8, .inl (fun _ => 0))), (q 2, .inl (dA 20, 8, .inl (fun _ => 0))), (q 3, .inl (dA 26, 4, .inr (.inr (.inr (.inr (va_up (va_up (va_up (va_up (fun _ => none) (Int32.toNatClampNeg 0) (some (q 7))) (Int32.toNatClampNeg 1) (some (q 10))) (Int32.toNatClampNeg 2) (some (q 13))) (Int32.toNatClampNeg 3) (some (q 16)))))))), (q 4, .inl (dA 20, 8, .inl (fun _ => 0))), (q 5, .inl (dA 20, 32, .inl (fun _ => 0))), (q 6, .inl (dA 20, 32, .inl (fun _ => 0))), (q 7, .inr (8, [.ref (q 8), .int 0, .ref p1, .ref (q 9), .int 0, .int 0, .int 0, .int 0, .int 0, .int 0, .int 0])), (q 8, .inl (dA 20, 4, .inl (fun _ => 0))), (q 9, .inl (dA 20, 3, .inl (fun _ => 0))), (q 10, .inr (8, [.ref (q 11), .int 0, .ref p1, .ref (q 12), .int 0, .int 0, .int 0, .int 0, .int 0, .int 0, .int 0])), (q 11, .inl (dA 20, 4, .inl (fun _ => 0))), (q 12, .inl (dA 20, 3, .inl (fun _ => 0))), (q 13, .inr (8, [.ref (q 14), .int 0, .ref p1, .ref (q 15), .int 0, .int 0, .int 0, .int 0, .int 0, .int 0, .int 0])), (q 14, .inl (dA 20, 4, .inl (fun _ => 0))), (q 15, .inl (dA 20, 3, .inl (fun _ => 0))), (q 16, .inr (8, [.ref (q 17), .int 0, .ref p1, .ref (q 18), .int 0, .int 0, .int 0, .int 0, .int 0, .int 0, .int 0])), (q 17, .inl (dA 20, 4, .inl (fun _ => 0))), (q 18, .inl (dA 20, 3, .inl (fun _ => 0)))]
set_option maxRecDepth 100000 in
set_option maxHeartbeats 4000000 in
theorem ci_RX7 (l : Launch) (D : va_G) (dA : Nat → ClassId) (h0 : Nat) (p1 : Nat) : KC l yX7_init cX7_init 3 2 19 172 D dA h0 [.ref p1] 7 (k0_RX7 dA h0 p1) (kr_RX7 dA h0 p1) := by
  refine KC_of (by decide) rfl (Nat.le_of_ble_eq_true rfl) ?_
  intro K hl hD hdA hK hmc hms hA hQ
  subst hl
  subst hD
  subst hdA
  exact kb_aload_n hK 0 rfl dX7_init_0 <|
    kb_super hK (gt_2 107 rfl rfl) kSup (by decide) (Nat.le_of_ble_eq_true rfl) dX7_init_1 <|
    kb_aload_n hK 0 rfl dX7_init_4 <|
    kb_bipush hK 8 (by decide) dX7_init_5 <|
    kb_arrI hK 8 (by decide) (by decide) (by decide) (by rw [hmc]; exact Nat.le_of_ble_eq_true rfl) (by rw [hms]; exact Nat.le_of_ble_eq_true rfl) dX7_init_7 fun q0 =>
    kb_L ([(h0, .inr (7, [.null, .null, .null, .null, .null, .null, .null, .null, .int 0, .int 0, .int 0, .int 0, .int 0, .int 0])), (q0, .inl ((kdA K) 20, 8, .inl (fun _ => 0)))]) rfl <|
    kb_put hK (ci := 7) (j := 0) 0 rfl inG7 ty_7 nmX7 (by decide) (gt_2 151 rfl rfl) rfl rfl rfl rfl rfl dX7_init_9 <|
    kb_L ([(h0, .inr (7, [.ref q0, .null, .null, .null, .null, .null, .null, .null, .int 0, .int 0, .int 0, .int 0, .int 0, .int 0])), (q0, .inl ((kdA K) 20, 8, .inl (fun _ => 0)))]) rfl <|
    kb_aload_n hK 0 rfl dX7_init_12 <|
    kb_bipush hK 8 (by decide) dX7_init_13 <|
    kb_arrI hK 8 (by decide) (by decide) (by decide) (by rw [hmc]; exact Nat.le_of_ble_eq_true rfl) (by rw [hms]; exact Nat.le_of_ble_eq_true rfl) dX7_init_15 fun q1 =>
    kb_L ([(h0, .inr (7, [.ref q0, .null, .null, .null, .null, .null, .null, .null, .int 0, .int 0, .int 0, .int 0, .int 0, .int 0])), (q0, .inl ((kdA K) 20, 8, .inl (fun _ => 0))), (q1, .inl ((kdA K) 20, 8, .inl (fun _ => 0)))]) rfl <|
    kb_put hK (ci := 7) (j := 1) 0 rfl inG7 ty_7 nmX7 (by decide) (gt_2 153 rfl rfl) rfl rfl rfl rfl rfl dX7_init_17 <|
    kb_L ([(h0, .inr (7, [.ref q0, .ref q1, .null, .null, .null, .null, .null, .null, .int 0, .int 0, .int 0, .int 0, .int 0, .int 0])), (q0, .inl ((kdA K) 20, 8, .inl (fun _ => 0))), (q1, .inl ((kdA K) 20, 8, .inl (fun _ => 0)))]) rfl <|
    kb_aload_n hK 0 rfl dX7_init_20 <|
    kb_bipush hK 8 (by decide) dX7_init_21 <|
    kb_arrI hK 8 (by decide) (by decide) (by decide) (by rw [hmc]; exact Nat.le_of_ble_eq_true rfl) (by rw [hms]; exact Nat.le_of_ble_eq_true rfl) dX7_init_23 fun q2 =>
    kb_L ([(h0, .inr (7, [.ref q0, .ref q1, .null, .null, .null, .null, .null, .null, .int 0, .int 0, .int 0, .int 0, .int 0, .int 0])), (q0, .inl ((kdA K) 20, 8, .inl (fun _ => 0))), (q1, .inl ((kdA K) 20, 8, .inl (fun _ => 0))), (q2, .inl ((kdA K) 20, 8, .inl (fun _ => 0)))]) rfl <|
    kb_put hK (ci := 7) (j := 2) 0 rfl inG7 ty_7 nmX7 (by decide) (gt_2 155 rfl rfl) rfl rfl rfl rfl rfl dX7_init_25 <|
    kb_L ([(h0, .inr (7, [.ref q0, .ref q1, .ref q2, .null, .null, .null, .null, .null, .int 0, .int 0, .int 0, .int 0, .int 0, .int 0])), (q0, .inl ((kdA K) 20, 8, .inl (fun _ => 0))), (q1, .inl ((kdA K) 20, 8, .inl (fun _ => 0))), (q2, .inl ((kdA K) 20, 8, .inl (fun _ => 0)))]) rfl <|
    kb_aload_n hK 0 rfl dX7_init_28 <|
    kb_iconst hK 4 (by decide) dX7_init_29 <|
    kb_arrR hK (t := 26) (j := 6) (C := RX8) 4 (gt_2 108 rfl rfl) (fun _ h => h.2.2.2.2.2.2) rfl (by decide) (by decide) (by decide) (by rw [hmc]; exact Nat.le_of_ble_eq_true rfl) (by rw [hms]; exact Nat.le_of_ble_eq_true rfl) dX7_init_30 fun q3 =>
    kb_L ([(h0, .inr (7, [.ref q0, .ref q1, .ref q2, .null, .null, .null, .null, .null, .int 0, .int 0, .int 0, .int 0, .int 0, .int 0])), (q0, .inl ((kdA K) 20, 8, .inl (fun _ => 0))), (q1, .inl ((kdA K) 20, 8, .inl (fun _ => 0))), (q2, .inl ((kdA K) 20, 8, .inl (fun _ => 0))), (q3, .inl ((kdA K) 26, 4, .inr (.inr (.inr (.inr (fun _ => none))))))]) rfl <|
    kb_put hK (ci := 7) (j := 4) 0 rfl inG7 ty_7 nmX7 (by decide) (gt_2 159 rfl rfl) rfl rfl rfl rfl rfl dX7_init_33 <|
    kb_L ([(h0, .inr (7, [.ref q0, .ref q1, .ref q2, .null, .ref q3, .null, .null, .null, .int 0, .int 0, .int 0, .int 0, .int 0, .int 0])), (q0, .inl ((kdA K) 20, 8, .inl (fun _ => 0))), (q1, .inl ((kdA K) 20, 8, .inl (fun _ => 0))), (q2, .inl ((kdA K) 20, 8, .inl (fun _ => 0))), (q3, .inl ((kdA K) 26, 4, .inr (.inr (.inr (.inr (fun _ => none))))))]) rfl <|
    kb_aload_n hK 0 rfl dX7_init_36 <|
    kb_bipush hK 8 (by decide) dX7_init_37 <|
    kb_arrI hK 8 (by decide) (by decide) (by decide) (by rw [hmc]; exact Nat.le_of_ble_eq_true rfl) (by rw [hms]; exact Nat.le_of_ble_eq_true rfl) dX7_init_39 fun q4 =>
    kb_L ([(h0, .inr (7, [.ref q0, .ref q1, .ref q2, .null, .ref q3, .null, .null, .null, .int 0, .int 0, .int 0, .int 0, .int 0, .int 0])), (q0, .inl ((kdA K) 20, 8, .inl (fun _ => 0))), (q1, .inl ((kdA K) 20, 8, .inl (fun _ => 0))), (q2, .inl ((kdA K) 20, 8, .inl (fun _ => 0))), (q3, .inl ((kdA K) 26, 4, .inr (.inr (.inr (.inr (fun _ => none)))))), (q4, .inl ((kdA K) 20, 8, .inl (fun _ => 0)))]) rfl <|
    kb_put hK (ci := 7) (j := 5) 0 rfl inG7 ty_7 nmX7 (by decide) (gt_2 160 rfl rfl) rfl rfl rfl rfl rfl dX7_init_41 <|
    kb_L ([(h0, .inr (7, [.ref q0, .ref q1, .ref q2, .null, .ref q3, .ref q4, .null, .null, .int 0, .int 0, .int 0, .int 0, .int 0, .int 0])), (q0, .inl ((kdA K) 20, 8, .inl (fun _ => 0))), (q1, .inl ((kdA K) 20, 8, .inl (fun _ => 0))), (q2, .inl ((kdA K) 20, 8, .inl (fun _ => 0))), (q3, .inl ((kdA K) 26, 4, .inr (.inr (.inr (.inr (fun _ => none)))))), (q4, .inl ((kdA K) 20, 8, .inl (fun _ => 0)))]) rfl <|
    kb_aload_n hK 0 rfl dX7_init_44 <|
    kb_bipush hK 32 (by decide) dX7_init_45 <|
    kb_arrI hK 32 (by decide) (by decide) (by decide) (by rw [hmc]; exact Nat.le_of_ble_eq_true rfl) (by rw [hms]; exact Nat.le_of_ble_eq_true rfl) dX7_init_47 fun q5 =>
    kb_L ([(h0, .inr (7, [.ref q0, .ref q1, .ref q2, .null, .ref q3, .ref q4, .null, .null, .int 0, .int 0, .int 0, .int 0, .int 0, .int 0])), (q0, .inl ((kdA K) 20, 8, .inl (fun _ => 0))), (q1, .inl ((kdA K) 20, 8, .inl (fun _ => 0))), (q2, .inl ((kdA K) 20, 8, .inl (fun _ => 0))), (q3, .inl ((kdA K) 26, 4, .inr (.inr (.inr (.inr (fun _ => none)))))), (q4, .inl ((kdA K) 20, 8, .inl (fun _ => 0))), (q5, .inl ((kdA K) 20, 32, .inl (fun _ => 0)))]) rfl <|
    kb_put hK (ci := 7) (j := 6) 0 rfl inG7 ty_7 nmX7 (by decide) (gt_2 161 rfl rfl) rfl rfl rfl rfl rfl dX7_init_49 <|
    kb_L ([(h0, .inr (7, [.ref q0, .ref q1, .ref q2, .null, .ref q3, .ref q4, .ref q5, .null, .int 0, .int 0, .int 0, .int 0, .int 0, .int 0])), (q0, .inl ((kdA K) 20, 8, .inl (fun _ => 0))), (q1, .inl ((kdA K) 20, 8, .inl (fun _ => 0))), (q2, .inl ((kdA K) 20, 8, .inl (fun _ => 0))), (q3, .inl ((kdA K) 26, 4, .inr (.inr (.inr (.inr (fun _ => none)))))), (q4, .inl ((kdA K) 20, 8, .inl (fun _ => 0))), (q5, .inl ((kdA K) 20, 32, .inl (fun _ => 0)))]) rfl <|
    kb_aload_n hK 0 rfl dX7_init_52 <|
    kb_bipush hK 32 (by decide) dX7_init_53 <|
    kb_arrI hK 32 (by decide) (by decide) (by decide) (by rw [hmc]; exact Nat.le_of_ble_eq_true rfl) (by rw [hms]; exact Nat.le_of_ble_eq_true rfl) dX7_init_55 fun q6 =>
    kb_L ([(h0, .inr (7, [.ref q0, .ref q1, .ref q2, .null, .ref q3, .ref q4, .ref q5, .null, .int 0, .int 0, .int 0, .int 0, .int 0, .int 0])), (q0, .inl ((kdA K) 20, 8, .inl (fun _ => 0))), (q1, .inl ((kdA K) 20, 8, .inl (fun _ => 0))), (q2, .inl ((kdA K) 20, 8, .inl (fun _ => 0))), (q3, .inl ((kdA K) 26, 4, .inr (.inr (.inr (.inr (fun _ => none)))))), (q4, .inl ((kdA K) 20, 8, .inl (fun _ => 0))), (q5, .inl ((kdA K) 20, 32, .inl (fun _ => 0))), (q6, .inl ((kdA K) 20, 32, .inl (fun _ => 0)))]) rfl <|
    kb_put hK (ci := 7) (j := 7) 0 rfl inG7 ty_7 nmX7 (by decide) (gt_2 162 rfl rfl) rfl rfl rfl rfl rfl dX7_init_57 <|
    kb_L ([(h0, .inr (7, [.ref q0, .ref q1, .ref q2, .null, .ref q3, .ref q4, .ref q5, .ref q6, .int 0, .int 0, .int 0, .int 0, .int 0, .int 0])), (q0, .inl ((kdA K) 20, 8, .inl (fun _ => 0))), (q1, .inl ((kdA K) 20, 8, .inl (fun _ => 0))), (q2, .inl ((kdA K) 20, 8, .inl (fun _ => 0))), (q3, .inl ((kdA K) 26, 4, .inr (.inr (.inr (.inr (fun _ => none)))))), (q4, .inl ((kdA K) 20, 8, .inl (fun _ => 0))), (q5, .inl ((kdA K) 20, 32, .inl (fun _ => 0))), (q6, .inl ((kdA K) 20, 32, .inl (fun _ => 0)))]) rfl <|
    kb_aload_n hK 0 rfl dX7_init_60 <|
    kb_iconst hK (-1) (by decide) dX7_init_61 <|
    kb_put hK (ci := 7) (j := 13) 0 rfl inG7 ty_7 nmX7 (by decide) (gt_2 168 rfl rfl) rfl rfl rfl rfl rfl dX7_init_62 <|
    kb_L ([(h0, .inr (7, [.ref q0, .ref q1, .ref q2, .null, .ref q3, .ref q4, .ref q5, .ref q6, .int 0, .int 0, .int 0, .int 0, .int 0, .int (-1)])), (q0, .inl ((kdA K) 20, 8, .inl (fun _ => 0))), (q1, .inl ((kdA K) 20, 8, .inl (fun _ => 0))), (q2, .inl ((kdA K) 20, 8, .inl (fun _ => 0))), (q3, .inl ((kdA K) 26, 4, .inr (.inr (.inr (.inr (fun _ => none)))))), (q4, .inl ((kdA K) 20, 8, .inl (fun _ => 0))), (q5, .inl ((kdA K) 20, 32, .inl (fun _ => 0))), (q6, .inl ((kdA K) 20, 32, .inl (fun _ => 0)))]) rfl <|
    kb_aload_n hK 0 rfl dX7_init_65 <|
    kb_aload_n hK 1 rfl dX7_init_66 <|
    kb_put hK (ci := 7) (j := 3) 0 rfl inG7 ty_7 nmX7 (by decide) (gt_2 158 rfl rfl) rfl rfl rfl rfl rfl dX7_init_67 <|
    kb_L ([(h0, .inr (7, [.ref q0, .ref q1, .ref q2, .ref p1, .ref q3, .ref q4, .ref q5, .ref q6, .int 0, .int 0, .int 0, .int 0, .int 0, .int (-1)])), (q0, .inl ((kdA K) 20, 8, .inl (fun _ => 0))), (q1, .inl ((kdA K) 20, 8, .inl (fun _ => 0))), (q2, .inl ((kdA K) 20, 8, .inl (fun _ => 0))), (q3, .inl ((kdA K) 26, 4, .inr (.inr (.inr (.inr (fun _ => none)))))), (q4, .inl ((kdA K) 20, 8, .inl (fun _ => 0))), (q5, .inl ((kdA K) 20, 32, .inl (fun _ => 0))), (q6, .inl ((kdA K) 20, 32, .inl (fun _ => 0)))]) rfl <|
    kb_iconst hK 0 (by decide) dX7_init_70 <|
    kb_istore_n hK rfl (by decide) rfl dX7_init_71 <|
    kb_iload_n hK 0 rfl dX7_init_72 <|
    kb_iconst hK 4 (by decide) dX7_init_73 <|
    kb_geF hK (tgt := 97) (by decide) (by decide) dX7_init_74 <|
    kb_aload_n hK 1 rfl dX7_init_77 <|
    kb_get hK (ci := 7) (j := 4) (v := .ref q3) 0 rfl inG7 (by decide) (gt_2 159 rfl rfl) rfl rfl dX7_init_78 <|
    kb_iload_n hK 0 rfl dX7_init_81 <|
    kb_new hK (ci := 8) rfl inG8 ty_8 (gt_2 108 rfl rfl) (gt_2 110 rfl rfl) (gt_1 9 rfl rfl) (by rw [hmc]; exact Nat.le_of_ble_eq_true rfl) (by rw [hms]; exact Nat.le_of_ble_eq_true rfl) dX7_init_82 fun q7 =>
    kb_L ([(h0, .inr (7, [.ref q0, .ref q1, .ref q2, .ref p1, .ref q3, .ref q4, .ref q5, .ref q6, .int 0, .int 0, .int 0, .int 0, .int 0, .int (-1)])), (q0, .inl ((kdA K) 20, 8, .inl (fun _ => 0))), (q1, .inl ((kdA K) 20, 8, .inl (fun _ => 0))), (q2, .inl ((kdA K) 20, 8, .inl (fun _ => 0))), (q3, .inl ((kdA K) 26, 4, .inr (.inr (.inr (.inr (fun _ => none)))))), (q4, .inl ((kdA K) 20, 8, .inl (fun _ => 0))), (q5, .inl ((kdA K) 20, 32, .inl (fun _ => 0))), (q6, .inl ((kdA K) 20, 32, .inl (fun _ => 0))), (q7, .inr (8, [.null, .int 0, .null, .null, .int 0, .int 0, .int 0, .int 0, .int 0, .int 0, .int 0]))]) rfl <|
    kb_dup hK rfl dX7_init_85 <|
    kb_aload_n hK 2 rfl dX7_init_86 <|
    kb_ctor (As := [.ref p1]) hK 8 mk_RX7_44 (by decide) (ci_RX8 (kl K) (kD K) (kdA K) q7 p1) rfl rfl rfl (Nat.le_of_ble_eq_true rfl) (by rw [hmc]; exact Nat.le_of_ble_eq_true rfl) (by rw [hms]; exact Nat.le_of_ble_eq_true rfl) dX7_init_87 fun q8 =>
    kb_L ([(h0, .inr (7, [.ref q0, .ref q1, .ref q2, .ref p1, .ref q3, .ref q4, .ref q5, .ref q6, .int 0, .int 0, .int 0, .int 0, .int 0, .int (-1)])), (q0, .inl ((kdA K) 20, 8, .inl (fun _ => 0))), (q1, .inl ((kdA K) 20, 8, .inl (fun _ => 0))), (q2, .inl ((kdA K) 20, 8, .inl (fun _ => 0))), (q3, .inl ((kdA K) 26, 4, .inr (.inr (.inr (.inr (fun _ => none)))))), (q4, .inl ((kdA K) 20, 8, .inl (fun _ => 0))), (q5, .inl ((kdA K) 20, 32, .inl (fun _ => 0))), (q6, .inl ((kdA K) 20, 32, .inl (fun _ => 0))), (q7, .inr (8, [.ref (q8 0), .int 0, .ref p1, .ref (q8 1), .int 0, .int 0, .int 0, .int 0, .int 0, .int 0, .int 0])), ((q8 0), .inl ((kdA K) 20, 4, .inl (fun _ => 0))), ((q8 1), .inl ((kdA K) 20, 3, .inl (fun _ => 0)))]) rfl <|
    kb_ast hK (t := 26) (j := 6) (ci := 8) (r := (RX8, TX8, 11)) 4 8 rfl rfl rfl rfl (by decide) dX7_init_90 <|
    kb_L ([(h0, .inr (7, [.ref q0, .ref q1, .ref q2, .ref p1, .ref q3, .ref q4, .ref q5, .ref q6, .int 0, .int 0, .int 0, .int 0, .int 0, .int (-1)])), (q0, .inl ((kdA K) 20, 8, .inl (fun _ => 0))), (q1, .inl ((kdA K) 20, 8, .inl (fun _ => 0))), (q2, .inl ((kdA K) 20, 8, .inl (fun _ => 0))), (q3, .inl ((kdA K) 26, 4, .inr (.inr (.inr (.inr (va_up (fun _ => none) (Int32.toNatClampNeg 0) (some q7))))))), (q4, .inl ((kdA K) 20, 8, .inl (fun _ => 0))), (q5, .inl ((kdA K) 20, 32, .inl (fun _ => 0))), (q6, .inl ((kdA K) 20, 32, .inl (fun _ => 0))), (q7, .inr (8, [.ref (q8 0), .int 0, .ref p1, .ref (q8 1), .int 0, .int 0, .int 0, .int 0, .int 0, .int 0, .int 0])), ((q8 0), .inl ((kdA K) 20, 4, .inl (fun _ => 0))), ((q8 1), .inl ((kdA K) 20, 3, .inl (fun _ => 0)))]) rfl <|
    kb_iinc hK (v := 1) 0 rfl (by decide) (by decide) rfl dX7_init_91 <|
    kb_goto hK (tgt := 72) (by decide) dX7_init_94 <|
    kb_iload_n hK 0 rfl dX7_init_72 <|
    kb_iconst hK 4 (by decide) dX7_init_73 <|
    kb_geF hK (tgt := 97) (by decide) (by decide) dX7_init_74 <|
    kb_aload_n hK 1 rfl dX7_init_77 <|
    kb_get hK (ci := 7) (j := 4) (v := .ref q3) 0 rfl inG7 (by decide) (gt_2 159 rfl rfl) rfl rfl dX7_init_78 <|
    kb_iload_n hK 0 rfl dX7_init_81 <|
    kb_new hK (ci := 8) rfl inG8 ty_8 (gt_2 108 rfl rfl) (gt_2 110 rfl rfl) (gt_1 9 rfl rfl) (by rw [hmc]; exact Nat.le_of_ble_eq_true rfl) (by rw [hms]; exact Nat.le_of_ble_eq_true rfl) dX7_init_82 fun q9 =>
    kb_L ([(h0, .inr (7, [.ref q0, .ref q1, .ref q2, .ref p1, .ref q3, .ref q4, .ref q5, .ref q6, .int 0, .int 0, .int 0, .int 0, .int 0, .int (-1)])), (q0, .inl ((kdA K) 20, 8, .inl (fun _ => 0))), (q1, .inl ((kdA K) 20, 8, .inl (fun _ => 0))), (q2, .inl ((kdA K) 20, 8, .inl (fun _ => 0))), (q3, .inl ((kdA K) 26, 4, .inr (.inr (.inr (.inr (va_up (fun _ => none) (Int32.toNatClampNeg 0) (some q7))))))), (q4, .inl ((kdA K) 20, 8, .inl (fun _ => 0))), (q5, .inl ((kdA K) 20, 32, .inl (fun _ => 0))), (q6, .inl ((kdA K) 20, 32, .inl (fun _ => 0))), (q7, .inr (8, [.ref (q8 0), .int 0, .ref p1, .ref (q8 1), .int 0, .int 0, .int 0, .int 0, .int 0, .int 0, .int 0])), ((q8 0), .inl ((kdA K) 20, 4, .inl (fun _ => 0))), ((q8 1), .inl ((kdA K) 20, 3, .inl (fun _ => 0))), (q9, .inr (8, [.null, .int 0, .null, .null, .int 0, .int 0, .int 0, .int 0, .int 0, .int 0, .int 0]))]) rfl <|
    kb_dup hK rfl dX7_init_85 <|
    kb_aload_n hK 2 rfl dX7_init_86 <|
    kb_ctor (As := [.ref p1]) hK 11 mk_RX7_44 (by decide) (ci_RX8 (kl K) (kD K) (kdA K) q9 p1) rfl rfl rfl (Nat.le_of_ble_eq_true rfl) (by rw [hmc]; exact Nat.le_of_ble_eq_true rfl) (by rw [hms]; exact Nat.le_of_ble_eq_true rfl) dX7_init_87 fun q10 =>
    kb_L ([(h0, .inr (7, [.ref q0, .ref q1, .ref q2, .ref p1, .ref q3, .ref q4, .ref q5, .ref q6, .int 0, .int 0, .int 0, .int 0, .int 0, .int (-1)])), (q0, .inl ((kdA K) 20, 8, .inl (fun _ => 0))), (q1, .inl ((kdA K) 20, 8, .inl (fun _ => 0))), (q2, .inl ((kdA K) 20, 8, .inl (fun _ => 0))), (q3, .inl ((kdA K) 26, 4, .inr (.inr (.inr (.inr (va_up (fun _ => none) (Int32.toNatClampNeg 0) (some q7))))))), (q4, .inl ((kdA K) 20, 8, .inl (fun _ => 0))), (q5, .inl ((kdA K) 20, 32, .inl (fun _ => 0))), (q6, .inl ((kdA K) 20, 32, .inl (fun _ => 0))), (q7, .inr (8, [.ref (q8 0), .int 0, .ref p1, .ref (q8 1), .int 0, .int 0, .int 0, .int 0, .int 0, .int 0, .int 0])), ((q8 0), .inl ((kdA K) 20, 4, .inl (fun _ => 0))), ((q8 1), .inl ((kdA K) 20, 3, .inl (fun _ => 0))), (q9, .inr (8, [.ref (q10 0), .int 0, .ref p1, .ref (q10 1), .int 0, .int 0, .int 0, .int 0, .int 0, .int 0, .int 0])), ((q10 0), .inl ((kdA K) 20, 4, .inl (fun _ => 0))), ((q10 1), .inl ((kdA K) 20, 3, .inl (fun _ => 0)))]) rfl <|
    kb_ast hK (t := 26) (j := 6) (ci := 8) (r := (RX8, TX8, 11)) 4 11 rfl rfl rfl rfl (by decide) dX7_init_90 <|
    kb_L ([(h0, .inr (7, [.ref q0, .ref q1, .ref q2, .ref p1, .ref q3, .ref q4, .ref q5, .ref q6, .int 0, .int 0, .int 0, .int 0, .int 0, .int (-1)])), (q0, .inl ((kdA K) 20, 8, .inl (fun _ => 0))), (q1, .inl ((kdA K) 20, 8, .inl (fun _ => 0))), (q2, .inl ((kdA K) 20, 8, .inl (fun _ => 0))), (q3, .inl ((kdA K) 26, 4, .inr (.inr (.inr (.inr (va_up (va_up (fun _ => none) (Int32.toNatClampNeg 0) (some q7)) (Int32.toNatClampNeg 1) (some q9))))))), (q4, .inl ((kdA K) 20, 8, .inl (fun _ => 0))), (q5, .inl ((kdA K) 20, 32, .inl (fun _ => 0))), (q6, .inl ((kdA K) 20, 32, .inl (fun _ => 0))), (q7, .inr (8, [.ref (q8 0), .int 0, .ref p1, .ref (q8 1), .int 0, .int 0, .int 0, .int 0, .int 0, .int 0, .int 0])), ((q8 0), .inl ((kdA K) 20, 4, .inl (fun _ => 0))), ((q8 1), .inl ((kdA K) 20, 3, .inl (fun _ => 0))), (q9, .inr (8, [.ref (q10 0), .int 0, .ref p1, .ref (q10 1), .int 0, .int 0, .int 0, .int 0, .int 0, .int 0, .int 0])), ((q10 0), .inl ((kdA K) 20, 4, .inl (fun _ => 0))), ((q10 1), .inl ((kdA K) 20, 3, .inl (fun _ => 0)))]) rfl <|
    kb_iinc hK (v := 2) 0 rfl (by decide) (by decide) rfl dX7_init_91 <|
    kb_goto hK (tgt := 72) (by decide) dX7_init_94 <|
    kb_iload_n hK 0 rfl dX7_init_72 <|
    kb_iconst hK 4 (by decide) dX7_init_73 <|
    kb_geF hK (tgt := 97) (by decide) (by decide) dX7_init_74 <|
    kb_aload_n hK 1 rfl dX7_init_77 <|
    kb_get hK (ci := 7) (j := 4) (v := .ref q3) 0 rfl inG7 (by decide) (gt_2 159 rfl rfl) rfl rfl dX7_init_78 <|
    kb_iload_n hK 0 rfl dX7_init_81 <|
    kb_new hK (ci := 8) rfl inG8 ty_8 (gt_2 108 rfl rfl) (gt_2 110 rfl rfl) (gt_1 9 rfl rfl) (by rw [hmc]; exact Nat.le_of_ble_eq_true rfl) (by rw [hms]; exact Nat.le_of_ble_eq_true rfl) dX7_init_82 fun q11 =>
    kb_L ([(h0, .inr (7, [.ref q0, .ref q1, .ref q2, .ref p1, .ref q3, .ref q4, .ref q5, .ref q6, .int 0, .int 0, .int 0, .int 0, .int 0, .int (-1)])), (q0, .inl ((kdA K) 20, 8, .inl (fun _ => 0))), (q1, .inl ((kdA K) 20, 8, .inl (fun _ => 0))), (q2, .inl ((kdA K) 20, 8, .inl (fun _ => 0))), (q3, .inl ((kdA K) 26, 4, .inr (.inr (.inr (.inr (va_up (va_up (fun _ => none) (Int32.toNatClampNeg 0) (some q7)) (Int32.toNatClampNeg 1) (some q9))))))), (q4, .inl ((kdA K) 20, 8, .inl (fun _ => 0))), (q5, .inl ((kdA K) 20, 32, .inl (fun _ => 0))), (q6, .inl ((kdA K) 20, 32, .inl (fun _ => 0))), (q7, .inr (8, [.ref (q8 0), .int 0, .ref p1, .ref (q8 1), .int 0, .int 0, .int 0, .int 0, .int 0, .int 0, .int 0])), ((q8 0), .inl ((kdA K) 20, 4, .inl (fun _ => 0))), ((q8 1), .inl ((kdA K) 20, 3, .inl (fun _ => 0))), (q9, .inr (8, [.ref (q10 0), .int 0, .ref p1, .ref (q10 1), .int 0, .int 0, .int 0, .int 0, .int 0, .int 0, .int 0])), ((q10 0), .inl ((kdA K) 20, 4, .inl (fun _ => 0))), ((q10 1), .inl ((kdA K) 20, 3, .inl (fun _ => 0))), (q11, .inr (8, [.null, .int 0, .null, .null, .int 0, .int 0, .int 0, .int 0, .int 0, .int 0, .int 0]))]) rfl <|
    kb_dup hK rfl dX7_init_85 <|
    kb_aload_n hK 2 rfl dX7_init_86 <|
    kb_ctor (As := [.ref p1]) hK 14 mk_RX7_44 (by decide) (ci_RX8 (kl K) (kD K) (kdA K) q11 p1) rfl rfl rfl (Nat.le_of_ble_eq_true rfl) (by rw [hmc]; exact Nat.le_of_ble_eq_true rfl) (by rw [hms]; exact Nat.le_of_ble_eq_true rfl) dX7_init_87 fun q12 =>
    kb_L ([(h0, .inr (7, [.ref q0, .ref q1, .ref q2, .ref p1, .ref q3, .ref q4, .ref q5, .ref q6, .int 0, .int 0, .int 0, .int 0, .int 0, .int (-1)])), (q0, .inl ((kdA K) 20, 8, .inl (fun _ => 0))), (q1, .inl ((kdA K) 20, 8, .inl (fun _ => 0))), (q2, .inl ((kdA K) 20, 8, .inl (fun _ => 0))), (q3, .inl ((kdA K) 26, 4, .inr (.inr (.inr (.inr (va_up (va_up (fun _ => none) (Int32.toNatClampNeg 0) (some q7)) (Int32.toNatClampNeg 1) (some q9))))))), (q4, .inl ((kdA K) 20, 8, .inl (fun _ => 0))), (q5, .inl ((kdA K) 20, 32, .inl (fun _ => 0))), (q6, .inl ((kdA K) 20, 32, .inl (fun _ => 0))), (q7, .inr (8, [.ref (q8 0), .int 0, .ref p1, .ref (q8 1), .int 0, .int 0, .int 0, .int 0, .int 0, .int 0, .int 0])), ((q8 0), .inl ((kdA K) 20, 4, .inl (fun _ => 0))), ((q8 1), .inl ((kdA K) 20, 3, .inl (fun _ => 0))), (q9, .inr (8, [.ref (q10 0), .int 0, .ref p1, .ref (q10 1), .int 0, .int 0, .int 0, .int 0, .int 0, .int 0, .int 0])), ((q10 0), .inl ((kdA K) 20, 4, .inl (fun _ => 0))), ((q10 1), .inl ((kdA K) 20, 3, .inl (fun _ => 0))), (q11, .inr (8, [.ref (q12 0), .int 0, .ref p1, .ref (q12 1), .int 0, .int 0, .int 0, .int 0, .int 0, .int 0, .int 0])), ((q12 0), .inl ((kdA K) 20, 4, .inl (fun _ => 0))), ((q12 1), .inl ((kdA K) 20, 3, .inl (fun _ => 0)))]) rfl <|
    kb_ast hK (t := 26) (j := 6) (ci := 8) (r := (RX8, TX8, 11)) 4 14 rfl rfl rfl rfl (by decide) dX7_init_90 <|
    kb_L ([(h0, .inr (7, [.ref q0, .ref q1, .ref q2, .ref p1, .ref q3, .ref q4, .ref q5, .ref q6, .int 0, .int 0, .int 0, .int 0, .int 0, .int (-1)])), (q0, .inl ((kdA K) 20, 8, .inl (fun _ => 0))), (q1, .inl ((kdA K) 20, 8, .inl (fun _ => 0))), (q2, .inl ((kdA K) 20, 8, .inl (fun _ => 0))), (q3, .inl ((kdA K) 26, 4, .inr (.inr (.inr (.inr (va_up (va_up (va_up (fun _ => none) (Int32.toNatClampNeg 0) (some q7)) (Int32.toNatClampNeg 1) (some q9)) (Int32.toNatClampNeg 2) (some q11))))))), (q4, .inl ((kdA K) 20, 8, .inl (fun _ => 0))), (q5, .inl ((kdA K) 20, 32, .inl (fun _ => 0))), (q6, .inl ((kdA K) 20, 32, .inl (fun _ => 0))), (q7, .inr (8, [.ref (q8 0), .int 0, .ref p1, .ref (q8 1), .int 0, .int 0, .int 0, .int 0, .int 0, .int 0, .int 0])), ((q8 0), .inl ((kdA K) 20, 4, .inl (fun _ => 0))), ((q8 1), .inl ((kdA K) 20, 3, .inl (fun _ => 0))), (q9, .inr (8, [.ref (q10 0), .int 0, .ref p1, .ref (q10 1), .int 0, .int 0, .int 0, .int 0, .int 0, .int 0, .int 0])), ((q10 0), .inl ((kdA K) 20, 4, .inl (fun _ => 0))), ((q10 1), .inl ((kdA K) 20, 3, .inl (fun _ => 0))), (q11, .inr (8, [.ref (q12 0), .int 0, .ref p1, .ref (q12 1), .int 0, .int 0, .int 0, .int 0, .int 0, .int 0, .int 0])), ((q12 0), .inl ((kdA K) 20, 4, .inl (fun _ => 0))), ((q12 1), .inl ((kdA K) 20, 3, .inl (fun _ => 0)))]) rfl <|
    kb_iinc hK (v := 3) 0 rfl (by decide) (by decide) rfl dX7_init_91 <|
    kb_goto hK (tgt := 72) (by decide) dX7_init_94 <|
    kb_iload_n hK 0 rfl dX7_init_72 <|
    kb_iconst hK 4 (by decide) dX7_init_73 <|
    kb_geF hK (tgt := 97) (by decide) (by decide) dX7_init_74 <|
    kb_aload_n hK 1 rfl dX7_init_77 <|
    kb_get hK (ci := 7) (j := 4) (v := .ref q3) 0 rfl inG7 (by decide) (gt_2 159 rfl rfl) rfl rfl dX7_init_78 <|
    kb_iload_n hK 0 rfl dX7_init_81 <|
    kb_new hK (ci := 8) rfl inG8 ty_8 (gt_2 108 rfl rfl) (gt_2 110 rfl rfl) (gt_1 9 rfl rfl) (by rw [hmc]; exact Nat.le_of_ble_eq_true rfl) (by rw [hms]; exact Nat.le_of_ble_eq_true rfl) dX7_init_82 fun q13 =>
    kb_L ([(h0, .inr (7, [.ref q0, .ref q1, .ref q2, .ref p1, .ref q3, .ref q4, .ref q5, .ref q6, .int 0, .int 0, .int 0, .int 0, .int 0, .int (-1)])), (q0, .inl ((kdA K) 20, 8, .inl (fun _ => 0))), (q1, .inl ((kdA K) 20, 8, .inl (fun _ => 0))), (q2, .inl ((kdA K) 20, 8, .inl (fun _ => 0))), (q3, .inl ((kdA K) 26, 4, .inr (.inr (.inr (.inr (va_up (va_up (va_up (fun _ => none) (Int32.toNatClampNeg 0) (some q7)) (Int32.toNatClampNeg 1) (some q9)) (Int32.toNatClampNeg 2) (some q11))))))), (q4, .inl ((kdA K) 20, 8, .inl (fun _ => 0))), (q5, .inl ((kdA K) 20, 32, .inl (fun _ => 0))), (q6, .inl ((kdA K) 20, 32, .inl (fun _ => 0))), (q7, .inr (8, [.ref (q8 0), .int 0, .ref p1, .ref (q8 1), .int 0, .int 0, .int 0, .int 0, .int 0, .int 0, .int 0])), ((q8 0), .inl ((kdA K) 20, 4, .inl (fun _ => 0))), ((q8 1), .inl ((kdA K) 20, 3, .inl (fun _ => 0))), (q9, .inr (8, [.ref (q10 0), .int 0, .ref p1, .ref (q10 1), .int 0, .int 0, .int 0, .int 0, .int 0, .int 0, .int 0])), ((q10 0), .inl ((kdA K) 20, 4, .inl (fun _ => 0))), ((q10 1), .inl ((kdA K) 20, 3, .inl (fun _ => 0))), (q11, .inr (8, [.ref (q12 0), .int 0, .ref p1, .ref (q12 1), .int 0, .int 0, .int 0, .int 0, .int 0, .int 0, .int 0])), ((q12 0), .inl ((kdA K) 20, 4, .inl (fun _ => 0))), ((q12 1), .inl ((kdA K) 20, 3, .inl (fun _ => 0))), (q13, .inr (8, [.null, .int 0, .null, .null, .int 0, .int 0, .int 0, .int 0, .int 0, .int 0, .int 0]))]) rfl <|
    kb_dup hK rfl dX7_init_85 <|
    kb_aload_n hK 2 rfl dX7_init_86 <|
    kb_ctor (As := [.ref p1]) hK 17 mk_RX7_44 (by decide) (ci_RX8 (kl K) (kD K) (kdA K) q13 p1) rfl rfl rfl (Nat.le_of_ble_eq_true rfl) (by rw [hmc]; exact Nat.le_of_ble_eq_true rfl) (by rw [hms]; exact Nat.le_of_ble_eq_true rfl) dX7_init_87 fun q14 =>
    kb_L ([(h0, .inr (7, [.ref q0, .ref q1, .ref q2, .ref p1, .ref q3, .ref q4, .ref q5, .ref q6, .int 0, .int 0, .int 0, .int 0, .int 0, .int (-1)])), (q0, .inl ((kdA K) 20, 8, .inl (fun _ => 0))), (q1, .inl ((kdA K) 20, 8, .inl (fun _ => 0))), (q2, .inl ((kdA K) 20, 8, .inl (fun _ => 0))), (q3, .inl ((kdA K) 26, 4, .inr (.inr (.inr (.inr (va_up (va_up (va_up (fun _ => none) (Int32.toNatClampNeg 0) (some q7)) (Int32.toNatClampNeg 1) (some q9)) (Int32.toNatClampNeg 2) (some q11))))))), (q4, .inl ((kdA K) 20, 8, .inl (fun _ => 0))), (q5, .inl ((kdA K) 20, 32, .inl (fun _ => 0))), (q6, .inl ((kdA K) 20, 32, .inl (fun _ => 0))), (q7, .inr (8, [.ref (q8 0), .int 0, .ref p1, .ref (q8 1), .int 0, .int 0, .int 0, .int 0, .int 0, .int 0, .int 0])), ((q8 0), .inl ((kdA K) 20, 4, .inl (fun _ => 0))), ((q8 1), .inl ((kdA K) 20, 3, .inl (fun _ => 0))), (q9, .inr (8, [.ref (q10 0), .int 0, .ref p1, .ref (q10 1), .int 0, .int 0, .int 0, .int 0, .int 0, .int 0, .int 0])), ((q10 0), .inl ((kdA K) 20, 4, .inl (fun _ => 0))), ((q10 1), .inl ((kdA K) 20, 3, .inl (fun _ => 0))), (q11, .inr (8, [.ref (q12 0), .int 0, .ref p1, .ref (q12 1), .int 0, .int 0, .int 0, .int 0, .int 0, .int 0, .int 0])), ((q12 0), .inl ((kdA K) 20, 4, .inl (fun _ => 0))), ((q12 1), .inl ((kdA K) 20, 3, .inl (fun _ => 0))), (q13, .inr (8, [.ref (q14 0), .int 0, .ref p1, .ref (q14 1), .int 0, .int 0, .int 0, .int 0, .int 0, .int 0, .int 0])), ((q14 0), .inl ((kdA K) 20, 4, .inl (fun _ => 0))), ((q14 1), .inl ((kdA K) 20, 3, .inl (fun _ => 0)))]) rfl <|
    kb_ast hK (t := 26) (j := 6) (ci := 8) (r := (RX8, TX8, 11)) 4 17 rfl rfl rfl rfl (by decide) dX7_init_90 <|
    kb_L ([(h0, .inr (7, [.ref q0, .ref q1, .ref q2, .ref p1, .ref q3, .ref q4, .ref q5, .ref q6, .int 0, .int 0, .int 0, .int 0, .int 0, .int (-1)])), (q0, .inl ((kdA K) 20, 8, .inl (fun _ => 0))), (q1, .inl ((kdA K) 20, 8, .inl (fun _ => 0))), (q2, .inl ((kdA K) 20, 8, .inl (fun _ => 0))), (q3, .inl ((kdA K) 26, 4, .inr (.inr (.inr (.inr (va_up (va_up (va_up (va_up (fun _ => none) (Int32.toNatClampNeg 0) (some q7)) (Int32.toNatClampNeg 1) (some q9)) (Int32.toNatClampNeg 2) (some q11)) (Int32.toNatClampNeg 3) (some q13))))))), (q4, .inl ((kdA K) 20, 8, .inl (fun _ => 0))), (q5, .inl ((kdA K) 20, 32, .inl (fun _ => 0))), (q6, .inl ((kdA K) 20, 32, .inl (fun _ => 0))), (q7, .inr (8, [.ref (q8 0), .int 0, .ref p1, .ref (q8 1), .int 0, .int 0, .int 0, .int 0, .int 0, .int 0, .int 0])), ((q8 0), .inl ((kdA K) 20, 4, .inl (fun _ => 0))), ((q8 1), .inl ((kdA K) 20, 3, .inl (fun _ => 0))), (q9, .inr (8, [.ref (q10 0), .int 0, .ref p1, .ref (q10 1), .int 0, .int 0, .int 0, .int 0, .int 0, .int 0, .int 0])), ((q10 0), .inl ((kdA K) 20, 4, .inl (fun _ => 0))), ((q10 1), .inl ((kdA K) 20, 3, .inl (fun _ => 0))), (q11, .inr (8, [.ref (q12 0), .int 0, .ref p1, .ref (q12 1), .int 0, .int 0, .int 0, .int 0, .int 0, .int 0, .int 0])), ((q12 0), .inl ((kdA K) 20, 4, .inl (fun _ => 0))), ((q12 1), .inl ((kdA K) 20, 3, .inl (fun _ => 0))), (q13, .inr (8, [.ref (q14 0), .int 0, .ref p1, .ref (q14 1), .int 0, .int 0, .int 0, .int 0, .int 0, .int 0, .int 0])), ((q14 0), .inl ((kdA K) 20, 4, .inl (fun _ => 0))), ((q14 1), .inl ((kdA K) 20, 3, .inl (fun _ => 0)))]) rfl <|
    kb_iinc hK (v := 4) 0 rfl (by decide) (by decide) rfl dX7_init_91 <|
    kb_goto hK (tgt := 72) (by decide) dX7_init_94 <|
    kb_iload_n hK 0 rfl dX7_init_72 <|
    kb_iconst hK 4 (by decide) dX7_init_73 <|
    kb_geT hK (tgt := 97) (by decide) (by decide) dX7_init_74 <|
    kb_ret hK (by rw [hmc]; exact Nat.le_of_ble_eq_true rfl) (by rw [hms]; exact Nat.le_of_ble_eq_true rfl) (fun t hP hD hF => by rw [hA] at hD hF; rw [hQ]; exact ⟨⟨fun j => [q0, q1, q2, q3, q4, q5, q6, q7, (q8 0), (q8 1), q9, (q10 0), (q10 1), q11, (q12 0), (q12 1), q13, (q14 0), (q14 1)].getD j 0, rfl, trivial, hP, hD⟩, hF⟩) dX7_init_97
