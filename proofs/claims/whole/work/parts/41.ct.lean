theorem kb_L {K : Kz} {nL pc : Nat} {lv : List (Nat × Value)} {st : List Value} {k n : Nat} {L : va_W} (L1 : va_W) (e : L = L1) (h : KB K nL pc lv st k n L1) : KB K nL pc lv st k n L := e ▸ h
theorem kSup : Cond.instanceMethod Lib.objectInit ∈ GT ∧ Cond.code Lib.objectInit ⟨#[0xb1]⟩ 1 none ∈ GT := ⟨gt_1 28 rfl rfl, gt_1 29 rfl rfl⟩
theorem mk_RL_9 : MK RL 9 yX11_init cX11_init 1 0 := ⟨Or.inl (gt_1 24 rfl rfl), gt_1 25 rfl rfl, gt_1 1 rfl rfl, gt_1 26 rfl rfl, rfl, by decide, by decide, by decide +kernel, by decide⟩
theorem mk_RL_12 : MK RL 12 yX12_init cX12_init 1 0 := ⟨Or.inl (gt_7 23 rfl rfl), gt_7 24 rfl rfl, gt_1 13 rfl rfl, gt_7 25 rfl rfl, rfl, by decide, by decide, by decide +kernel, by decide⟩
theorem mk_RX0_11 : MK RX0 11 yX4_init cX4_init 2 1 := ⟨Or.inl (gt_1 85 rfl rfl), gt_1 86 rfl rfl, gt_1 5 rfl rfl, gt_1 87 rfl rfl, rfl, by decide, by decide, by decide +kernel, by decide⟩
theorem mk_RX11_18 : MK RX11 18 yX2_init cX2_init 2 0 := ⟨Or.inl (gt_1 73 rfl rfl), gt_1 74 rfl rfl, gt_1 3 rfl rfl, gt_1 75 rfl rfl, rfl, by decide, by decide, by decide +kernel, by decide⟩
theorem mk_RX11_25 : MK RX11 25 yX7_init cX7_init 3 1 := ⟨Or.inl (gt_2 104 rfl rfl), gt_2 105 rfl rfl, gt_1 8 rfl rfl, gt_2 106 rfl rfl, rfl, by decide, by decide, by decide +kernel, by decide⟩
theorem mk_RX11_34 : MK RX11 34 yX5_init cX5_init 3 2 := ⟨Or.inl (gt_2 200 rfl rfl), gt_2 201 rfl rfl, gt_1 10 rfl rfl, gt_2 202 rfl rfl, rfl, by decide, by decide, by decide +kernel, by decide⟩
theorem mk_RX11_43 : MK RX11 43 yX9_init cX9_init 3 2 := ⟨Or.inl (gt_2 238 rfl rfl), gt_2 239 rfl rfl, gt_1 11 rfl rfl, gt_3 0 rfl rfl, rfl, by decide, by decide, by decide +kernel, by decide⟩
theorem mk_RX11_52 : MK RX11 52 yX3_init cX3_init 3 2 := ⟨Or.inl (gt_3 42 rfl rfl), gt_3 43 rfl rfl, gt_1 12 rfl rfl, gt_3 44 rfl rfl, rfl, by decide, by decide, by decide +kernel, by decide⟩
theorem mk_RX7_44 : MK RX7 44 yX8_init cX8_init 2 1 := ⟨Or.inl (gt_2 111 rfl rfl), gt_2 112 rfl rfl, gt_1 9 rfl rfl, gt_2 113 rfl rfl, rfl, by decide, by decide, by decide +kernel, by decide⟩
theorem mk_RX11_9 : MK RX11 9 yX10_init cX10_init 1 0 := ⟨Or.inr ⟨"WhichWill", fun _ h => h.1⟩, gt_1 33 rfl rfl, gt_1 2 rfl rfl, gt_1 34 rfl rfl, rfl, by decide, by decide, by decide +kernel, by decide⟩
theorem mk_RX2_11 : MK RX2 11 yX0_init cX0_init 1 0 := ⟨Or.inr ⟨"WhichWill", fun _ h => h.2.1⟩, gt_1 80 rfl rfl, gt_1 4 rfl rfl, gt_1 81 rfl rfl, rfl, by decide, by decide, by decide +kernel, by decide⟩
theorem mk_RX2_40 : MK RX2 40 yX6_init cX6_init 1 0 := ⟨Or.inr ⟨"WhichWill", fun _ h => h.2.2.1⟩, gt_1 191 rfl rfl, gt_1 6 rfl rfl, gt_1 192 rfl rfl, rfl, by decide, by decide, by decide +kernel, by decide⟩
theorem mk_RX2_41 : MK RX2 41 yX1_init cX1_init 1 0 := ⟨Or.inr ⟨"WhichWill", fun _ h => h.2.2.2.1⟩, gt_2 30 rfl rfl, gt_1 7 rfl rfl, gt_2 31 rfl rfl, rfl, by decide, by decide, by decide +kernel, by decide⟩
theorem dX4_init_0 : decode cX4_init 0 = .ok (.aload_n 0, 1) := by decide +kernel
theorem dX4_init_1 : decode cX4_init 1 = .ok (.invokespecial 3, 3) := by decide +kernel
theorem dX4_init_4 : decode cX4_init 4 = .ok (.aload_n 0, 1) := by decide +kernel
theorem dX4_init_5 : decode cX4_init 5 = .ok (.iload_n 1, 1) := by decide +kernel
theorem dX4_init_6 : decode cX4_init 6 = .ok (.newarray .long, 2) := by decide +kernel
theorem dX4_init_8 : decode cX4_init 8 = .ok (.putfield 9, 3) := by decide +kernel
theorem dX4_init_11 : decode cX4_init 11 = .ok (.return_, 1) := by decide +kernel
def k0_RX4 (dA : Nat → ClassId) (h0 : Nat) (N : Nat) (q : Nat → Nat) : va_E := .inr (4, [.ref (q 0), .int 0])
def kr_RX4 (dA : Nat → ClassId) (h0 : Nat) (N : Nat) (q : Nat → Nat) : va_W := [(q 0, .inl (dA 23, N, .inr (.inl (fun _ => 0))))]
set_option maxRecDepth 100000 in
set_option maxHeartbeats 4000000 in
theorem ci_RX4 (l : Launch) (D : va_G) (dA : Nat → ClassId) (h0 : Nat) (N : Nat) (hN : N ≤ 1000) : KC l yX4_init cX4_init 2 1 1 N D dA h0 [.int (Int32.ofNat N)] 4 (k0_RX4 dA h0 N) (kr_RX4 dA h0 N) := by
  refine KC_of (by decide) rfl (Nat.le_of_ble_eq_true rfl) ?_
  intro K hl hD hdA hK hmc hms hA hQ
  subst hl
  subst hD
  subst hdA
  exact kb_aload_n hK 0 rfl dX4_init_0 <|
    kb_super hK (gt_1 88 rfl rfl) kSup (by decide) (Nat.le_of_ble_eq_true rfl) dX4_init_1 <|
    kb_aload_n hK 0 rfl dX4_init_4 <|
    kb_iload_n hK 1 rfl dX4_init_5 <|
    kb_arrJ hK N (nI_pos (by omega)) (nI_clamp (by omega)) (by omega) (by rw [hmc]; exact Nat.le_of_ble_eq_true rfl) (by rw [hms]; omega) dX4_init_6 fun q0 =>
    kb_L ([(h0, .inr (4, [.null, .int 0])), (q0, .inl ((kdA K) 23, N, .inr (.inl (fun _ => 0))))]) rfl <|
    kb_put hK (ci := 4) (j := 0) 0 rfl inG4 ty_4 nmX4 (by decide) (gt_1 89 rfl rfl) rfl rfl rfl rfl rfl dX4_init_8 <|
    kb_L ([(h0, .inr (4, [.ref q0, .int 0])), (q0, .inl ((kdA K) 23, N, .inr (.inl (fun _ => 0))))]) rfl <|
    kb_ret hK (by rw [hmc]; exact Nat.le_of_ble_eq_true rfl) (by rw [hms]; omega) (fun t hP hD hF => by rw [hA] at hD hF; rw [hQ]; exact ⟨⟨fun j => [q0].getD j 0, rfl, trivial, hP, hD⟩, hF⟩) dX4_init_11
theorem dX10_init_0 : decode cX10_init 0 = .ok (.aload_n 0, 1) := by decide +kernel
theorem dX10_init_1 : decode cX10_init 1 = .ok (.invokespecial 3, 3) := by decide +kernel
theorem dX10_init_4 : decode cX10_init 4 = .ok (.aload_n 0, 1) := by decide +kernel
theorem dX10_init_5 : decode cX10_init 5 = .ok (.sipush 900, 3) := by decide +kernel
theorem dX10_init_8 : decode cX10_init 8 = .ok (.newarray .byte, 2) := by decide +kernel
theorem dX10_init_10 : decode cX10_init 10 = .ok (.putfield 11, 3) := by decide +kernel
theorem dX10_init_13 : decode cX10_init 13 = .ok (.aload_n 0, 1) := by decide +kernel
theorem dX10_init_14 : decode cX10_init 14 = .ok (.iconst (-1), 1) := by decide +kernel
theorem dX10_init_15 : decode cX10_init 15 = .ok (.putfield 15, 3) := by decide +kernel
theorem dX10_init_18 : decode cX10_init 18 = .ok (.return_, 1) := by decide +kernel
def k0_RX10 (dA : Nat → ClassId) (h0 : Nat)  (q : Nat → Nat) : va_E := .inr (10, [.ref (q 0), .int 0, .int 0, .long 0, .int 0, .int (-1), .int 0, .int 0, .int 0])
def kr_RX10 (dA : Nat → ClassId) (h0 : Nat)  (q : Nat → Nat) : va_W := [(q 0, .inl (dA 21, 900, .inl (fun _ => 0)))]
set_option maxRecDepth 100000 in
set_option maxHeartbeats 4000000 in
theorem ci_RX10 (l : Launch) (D : va_G) (dA : Nat → ClassId) (h0 : Nat)  : KC l yX10_init cX10_init 1 1 1 900 D dA h0 [] 10 (k0_RX10 dA h0 ) (kr_RX10 dA h0 ) := by
  refine KC_of (by decide) rfl (Nat.le_of_ble_eq_true rfl) ?_
  intro K hl hD hdA hK hmc hms hA hQ
  subst hl
  subst hD
  subst hdA
  exact kb_aload_n hK 0 rfl dX10_init_0 <|
    kb_super hK (gt_1 35 rfl rfl) kSup (by decide) (Nat.le_of_ble_eq_true rfl) dX10_init_1 <|
    kb_aload_n hK 0 rfl dX10_init_4 <|
    kb_sipush hK 900 (by decide) dX10_init_5 <|
    kb_arrB hK 900 (by decide) (by decide) (by decide) (by rw [hmc]; exact Nat.le_of_ble_eq_true rfl) (by rw [hms]; exact Nat.le_of_ble_eq_true rfl) dX10_init_8 fun q0 =>
    kb_L ([(h0, .inr (10, [.null, .int 0, .int 0, .long 0, .int 0, .int 0, .int 0, .int 0, .int 0])), (q0, .inl ((kdA K) 21, 900, .inl (fun _ => 0)))]) rfl <|
    kb_put hK (ci := 10) (j := 0) 0 rfl inG10 ty_10 nmX10 (by decide) (gt_1 36 rfl rfl) rfl rfl rfl rfl rfl dX10_init_10 <|
    kb_L ([(h0, .inr (10, [.ref q0, .int 0, .int 0, .long 0, .int 0, .int 0, .int 0, .int 0, .int 0])), (q0, .inl ((kdA K) 21, 900, .inl (fun _ => 0)))]) rfl <|
    kb_aload_n hK 0 rfl dX10_init_13 <|
    kb_iconst hK (-1) (by decide) dX10_init_14 <|
    kb_put hK (ci := 10) (j := 5) 0 rfl inG10 ty_10 nmX10 (by decide) (gt_1 46 rfl rfl) rfl rfl rfl rfl rfl dX10_init_15 <|
    kb_L ([(h0, .inr (10, [.ref q0, .int 0, .int 0, .long 0, .int 0, .int (-1), .int 0, .int 0, .int 0])), (q0, .inl ((kdA K) 21, 900, .inl (fun _ => 0)))]) rfl <|
    kb_ret hK (by rw [hmc]; exact Nat.le_of_ble_eq_true rfl) (by rw [hms]; exact Nat.le_of_ble_eq_true rfl) (fun t hP hD hF => by rw [hA] at hD hF; rw [hQ]; exact ⟨⟨fun j => [q0].getD j 0, rfl, trivial, hP, hD⟩, hF⟩) dX10_init_18
theorem dX0_init_0 : decode cX0_init 0 = .ok (.aload_n 0, 1) := by decide +kernel
theorem dX0_init_1 : decode cX0_init 1 = .ok (.invokespecial 3, 3) := by decide +kernel
theorem dX0_init_4 : decode cX0_init 4 = .ok (.aload_n 0, 1) := by decide +kernel
theorem dX0_init_5 : decode cX0_init 5 = .ok (.new 9, 3) := by decide +kernel
theorem dX0_init_8 : decode cX0_init 8 = .ok (.dup, 1) := by decide +kernel
theorem dX0_init_9 : decode cX0_init 9 = .ok (.iconst 4, 1) := by decide +kernel
theorem dX0_init_10 : decode cX0_init 10 = .ok (.invokespecial 11, 3) := by decide +kernel
theorem dX0_init_13 : decode cX0_init 13 = .ok (.putfield 14, 3) := by decide +kernel
theorem dX0_init_16 : decode cX0_init 16 = .ok (.aload_n 0, 1) := by decide +kernel
theorem dX0_init_17 : decode cX0_init 17 = .ok (.new 9, 3) := by decide +kernel
theorem dX0_init_20 : decode cX0_init 20 = .ok (.dup, 1) := by decide +kernel
theorem dX0_init_21 : decode cX0_init 21 = .ok (.bipush 8, 2) := by decide +kernel
theorem dX0_init_23 : decode cX0_init 23 = .ok (.invokespecial 11, 3) := by decide +kernel
theorem dX0_init_26 : decode cX0_init 26 = .ok (.putfield 20, 3) := by decide +kernel
theorem dX0_init_29 : decode cX0_init 29 = .ok (.aload_n 0, 1) := by decide +kernel
theorem dX0_init_30 : decode cX0_init 30 = .ok (.new 9, 3) := by decide +kernel
theorem dX0_init_33 : decode cX0_init 33 = .ok (.dup, 1) := by decide +kernel
theorem dX0_init_34 : decode cX0_init 34 = .ok (.bipush 8, 2) := by decide +kernel
theorem dX0_init_36 : decode cX0_init 36 = .ok (.invokespecial 11, 3) := by decide +kernel
theorem dX0_init_39 : decode cX0_init 39 = .ok (.putfield 23, 3) := by decide +kernel
theorem dX0_init_42 : decode cX0_init 42 = .ok (.aload_n 0, 1) := by decide +kernel
theorem dX0_init_43 : decode cX0_init 43 = .ok (.bipush 52, 2) := by decide +kernel
theorem dX0_init_45 : decode cX0_init 45 = .ok (.newarray .int, 2) := by decide +kernel
theorem dX0_init_47 : decode cX0_init 47 = .ok (.putfield 26, 3) := by decide +kernel
theorem dX0_init_50 : decode cX0_init 50 = .ok (.aload_n 0, 1) := by decide +kernel
theorem dX0_init_51 : decode cX0_init 51 = .ok (.bipush 8, 2) := by decide +kernel
theorem dX0_init_53 : decode cX0_init 53 = .ok (.newarray .int, 2) := by decide +kernel
theorem dX0_init_55 : decode cX0_init 55 = .ok (.putfield 30, 3) := by decide +kernel
theorem dX0_init_58 : decode cX0_init 58 = .ok (.aload_n 0, 1) := by decide +kernel
theorem dX0_init_59 : decode cX0_init 59 = .ok (.bipush 8, 2) := by decide +kernel
theorem dX0_init_61 : decode cX0_init 61 = .ok (.newarray .int, 2) := by decide +kernel
theorem dX0_init_63 : decode cX0_init 63 = .ok (.putfield 33, 3) := by decide +kernel
theorem dX0_init_66 : decode cX0_init 66 = .ok (.aload_n 0, 1) := by decide +kernel
theorem dX0_init_67 : decode cX0_init 67 = .ok (.bipush 8, 2) := by decide +kernel
theorem dX0_init_69 : decode cX0_init 69 = .ok (.newarray .int, 2) := by decide +kernel
theorem dX0_init_71 : decode cX0_init 71 = .ok (.putfield 36, 3) := by decide +kernel
theorem dX0_init_74 : decode cX0_init 74 = .ok (.aload_n 0, 1) := by decide +kernel
theorem dX0_init_75 : decode cX0_init 75 = .ok (.bipush 8, 2) := by decide +kernel
theorem dX0_init_77 : decode cX0_init 77 = .ok (.newarray .int, 2) := by decide +kernel
theorem dX0_init_79 : decode cX0_init 79 = .ok (.putfield 39, 3) := by decide +kernel
theorem dX0_init_82 : decode cX0_init 82 = .ok (.aload_n 0, 1) := by decide +kernel
theorem dX0_init_83 : decode cX0_init 83 = .ok (.bipush 8, 2) := by decide +kernel
theorem dX0_init_85 : decode cX0_init 85 = .ok (.newarray .int, 2) := by decide +kernel
theorem dX0_init_87 : decode cX0_init 87 = .ok (.putfield 42, 3) := by decide +kernel
theorem dX0_init_90 : decode cX0_init 90 = .ok (.aload_n 0, 1) := by decide +kernel
theorem dX0_init_91 : decode cX0_init 91 = .ok (.iconst (-1), 1) := by decide +kernel
theorem dX0_init_92 : decode cX0_init 92 = .ok (.putfield 45, 3) := by decide +kernel
theorem dX0_init_95 : decode cX0_init 95 = .ok (.aload_n 0, 1) := by decide +kernel
theorem dX0_init_96 : decode cX0_init 96 = .ok (.iconst (-1), 1) := by decide +kernel
theorem dX0_init_97 : decode cX0_init 97 = .ok (.putfield 49, 3) := by decide +kernel
theorem dX0_init_100 : decode cX0_init 100 = .ok (.aload_n 0, 1) := by decide +kernel
theorem dX0_init_101 : decode cX0_init 101 = .ok (.iconst (-1), 1) := by decide +kernel
theorem dX0_init_102 : decode cX0_init 102 = .ok (.putfield 52, 3) := by decide +kernel
theorem dX0_init_105 : decode cX0_init 105 = .ok (.aload_n 0, 1) := by decide +kernel
theorem dX0_init_106 : decode cX0_init 106 = .ok (.iconst (-1), 1) := by decide +kernel
theorem dX0_init_107 : decode cX0_init 107 = .ok (.putfield 55, 3) := by decide +kernel
theorem dX0_init_110 : decode cX0_init 110 = .ok (.return_, 1) := by decide +kernel
def k0_RX0 (dA : Nat → ClassId) (h0 : Nat)  (q : Nat → Nat) : va_E := .inr (0, [.ref (q 0), .ref (q 2), .ref (q 4), .ref (q 6), .ref (q 7), .ref (q 8), .ref (q 9), .ref (q 10), .ref (q 11), .int 0, .int 0, .int (-1), .int (-1), .int (-1), .int (-1), .int 0, .int 0, .int 0, .int 0])
def kr_RX0 (dA : Nat → ClassId) (h0 : Nat)  (q : Nat → Nat) : va_W := [(q 0, .inr (4, [.ref (q 1), .int 0])), (q 1, .inl (dA 23, 4, .inr (.inl (fun _ => 0)))), (q 2, .inr (4, [.ref (q 3), .int 0])), (q 3, .inl (dA 23, 8, .inr (.inl (fun _ => 0)))), (q 4, .inr (4, [.ref (q 5), .int 0])), (q 5, .inl (dA 23, 8, .inr (.inl (fun _ => 0)))), (q 6, .inl (dA 20, 52, .inl (fun _ => 0))), (q 7, .inl (dA 20, 8, .inl (fun _ => 0))), (q 8, .inl (dA 20, 8, .inl (fun _ => 0))), (q 9, .inl (dA 20, 8, .inl (fun _ => 0))), (q 10, .inl (dA 20, 8, .inl (fun _ => 0))), (q 11, .inl (dA 20, 8, .inl (fun _ => 0)))]
set_option maxRecDepth 100000 in
set_option maxHeartbeats 4000000 in
theorem ci_RX0 (l : Launch) (D : va_G) (dA : Nat → ClassId) (h0 : Nat)  : KC l yX0_init cX0_init 1 2 12 118 D dA h0 [] 0 (k0_RX0 dA h0 ) (kr_RX0 dA h0 ) := by
  refine KC_of (by decide) rfl (Nat.le_of_ble_eq_true rfl) ?_
  intro K hl hD hdA hK hmc hms hA hQ
  subst hl
  subst hD
  subst hdA
  exact kb_aload_n hK 0 rfl dX0_init_0 <|
    kb_super hK (gt_1 82 rfl rfl) kSup (by decide) (Nat.le_of_ble_eq_true rfl) dX0_init_1 <|
    kb_aload_n hK 0 rfl dX0_init_4 <|
    kb_new hK (ci := 4) rfl inG4 ty_4 (gt_1 83 rfl rfl) (gt_1 84 rfl rfl) (gt_1 5 rfl rfl) (by rw [hmc]; exact Nat.le_of_ble_eq_true rfl) (by rw [hms]; exact Nat.le_of_ble_eq_true rfl) dX0_init_5 fun q0 =>
    kb_L ([(h0, .inr (0, [.null, .null, .null, .null, .null, .null, .null, .null, .null, .int 0, .int 0, .int 0, .int 0, .int 0, .int 0, .int 0, .int 0, .int 0, .int 0])), (q0, .inr (4, [.null, .int 0]))]) rfl <|
    kb_dup hK rfl dX0_init_8 <|
    kb_iconst hK 4 (by decide) dX0_init_9 <|
    kb_ctor (As := [.int 4]) hK 1 mk_RX0_11 (by decide) (ci_RX4 (kl K) (kD K) (kdA K) q0 4 (by decide)) rfl rfl rfl (Nat.le_of_ble_eq_true rfl) (by rw [hmc]; exact Nat.le_of_ble_eq_true rfl) (by rw [hms]; exact Nat.le_of_ble_eq_true rfl) dX0_init_10 fun q1 =>
    kb_L ([(h0, .inr (0, [.null, .null, .null, .null, .null, .null, .null, .null, .null, .int 0, .int 0, .int 0, .int 0, .int 0, .int 0, .int 0, .int 0, .int 0, .int 0])), (q0, .inr (4, [.ref (q1 0), .int 0])), ((q1 0), .inl ((kdA K) 23, 4, .inr (.inl (fun _ => 0))))]) rfl <|
    kb_put hK (ci := 0) (j := 0) 0 rfl inG0 ty_0 nmX0 (by decide) (gt_1 101 rfl rfl) rfl rfl rfl rfl rfl dX0_init_13 <|
    kb_L ([(h0, .inr (0, [.ref q0, .null, .null, .null, .null, .null, .null, .null, .null, .int 0, .int 0, .int 0, .int 0, .int 0, .int 0, .int 0, .int 0, .int 0, .int 0])), (q0, .inr (4, [.ref (q1 0), .int 0])), ((q1 0), .inl ((kdA K) 23, 4, .inr (.inl (fun _ => 0))))]) rfl <|
    kb_aload_n hK 0 rfl dX0_init_16 <|
    kb_new hK (ci := 4) rfl inG4 ty_4 (gt_1 83 rfl rfl) (gt_1 84 rfl rfl) (gt_1 5 rfl rfl) (by rw [hmc]; exact Nat.le_of_ble_eq_true rfl) (by rw [hms]; exact Nat.le_of_ble_eq_true rfl) dX0_init_17 fun q2 =>
    kb_L ([(h0, .inr (0, [.ref q0, .null, .null, .null, .null, .null, .null, .null, .null, .int 0, .int 0, .int 0, .int 0, .int 0, .int 0, .int 0, .int 0, .int 0, .int 0])), (q0, .inr (4, [.ref (q1 0), .int 0])), ((q1 0), .inl ((kdA K) 23, 4, .inr (.inl (fun _ => 0)))), (q2, .inr (4, [.null, .int 0]))]) rfl <|
    kb_dup hK rfl dX0_init_20 <|
    kb_bipush hK 8 (by decide) dX0_init_21 <|
    kb_ctor (As := [.int 8]) hK 3 mk_RX0_11 (by decide) (ci_RX4 (kl K) (kD K) (kdA K) q2 8 (by decide)) rfl rfl rfl (Nat.le_of_ble_eq_true rfl) (by rw [hmc]; exact Nat.le_of_ble_eq_true rfl) (by rw [hms]; exact Nat.le_of_ble_eq_true rfl) dX0_init_23 fun q3 =>
    kb_L ([(h0, .inr (0, [.ref q0, .null, .null, .null, .null, .null, .null, .null, .null, .int 0, .int 0, .int 0, .int 0, .int 0, .int 0, .int 0, .int 0, .int 0, .int 0])), (q0, .inr (4, [.ref (q1 0), .int 0])), ((q1 0), .inl ((kdA K) 23, 4, .inr (.inl (fun _ => 0)))), (q2, .inr (4, [.ref (q3 0), .int 0])), ((q3 0), .inl ((kdA K) 23, 8, .inr (.inl (fun _ => 0))))]) rfl <|
    kb_put hK (ci := 0) (j := 1) 0 rfl inG0 ty_0 nmX0 (by decide) (gt_1 105 rfl rfl) rfl rfl rfl rfl rfl dX0_init_26 <|
    kb_L ([(h0, .inr (0, [.ref q0, .ref q2, .null, .null, .null, .null, .null, .null, .null, .int 0, .int 0, .int 0, .int 0, .int 0, .int 0, .int 0, .int 0, .int 0, .int 0])), (q0, .inr (4, [.ref (q1 0), .int 0])), ((q1 0), .inl ((kdA K) 23, 4, .inr (.inl (fun _ => 0)))), (q2, .inr (4, [.ref (q3 0), .int 0])), ((q3 0), .inl ((kdA K) 23, 8, .inr (.inl (fun _ => 0))))]) rfl <|
    kb_aload_n hK 0 rfl dX0_init_29 <|
    kb_new hK (ci := 4) rfl inG4 ty_4 (gt_1 83 rfl rfl) (gt_1 84 rfl rfl) (gt_1 5 rfl rfl) (by rw [hmc]; exact Nat.le_of_ble_eq_true rfl) (by rw [hms]; exact Nat.le_of_ble_eq_true rfl) dX0_init_30 fun q4 =>
    kb_L ([(h0, .inr (0, [.ref q0, .ref q2, .null, .null, .null, .null, .null, .null, .null, .int 0, .int 0, .int 0, .int 0, .int 0, .int 0, .int 0, .int 0, .int 0, .int 0])), (q0, .inr (4, [.ref (q1 0), .int 0])), ((q1 0), .inl ((kdA K) 23, 4, .inr (.inl (fun _ => 0)))), (q2, .inr (4, [.ref (q3 0), .int 0])), ((q3 0), .inl ((kdA K) 23, 8, .inr (.inl (fun _ => 0)))), (q4, .inr (4, [.null, .int 0]))]) rfl <|
    kb_dup hK rfl dX0_init_33 <|
    kb_bipush hK 8 (by decide) dX0_init_34 <|
    kb_ctor (As := [.int 8]) hK 5 mk_RX0_11 (by decide) (ci_RX4 (kl K) (kD K) (kdA K) q4 8 (by decide)) rfl rfl rfl (Nat.le_of_ble_eq_true rfl) (by rw [hmc]; exact Nat.le_of_ble_eq_true rfl) (by rw [hms]; exact Nat.le_of_ble_eq_true rfl) dX0_init_36 fun q5 =>
    kb_L ([(h0, .inr (0, [.ref q0, .ref q2, .null, .null, .null, .null, .null, .null, .null, .int 0, .int 0, .int 0, .int 0, .int 0, .int 0, .int 0, .int 0, .int 0, .int 0])), (q0, .inr (4, [.ref (q1 0), .int 0])), ((q1 0), .inl ((kdA K) 23, 4, .inr (.inl (fun _ => 0)))), (q2, .inr (4, [.ref (q3 0), .int 0])), ((q3 0), .inl ((kdA K) 23, 8, .inr (.inl (fun _ => 0)))), (q4, .inr (4, [.ref (q5 0), .int 0])), ((q5 0), .inl ((kdA K) 23, 8, .inr (.inl (fun _ => 0))))]) rfl <|
    kb_put hK (ci := 0) (j := 2) 0 rfl inG0 ty_0 nmX0 (by decide) (gt_1 109 rfl rfl) rfl rfl rfl rfl rfl dX0_init_39 <|
    kb_L ([(h0, .inr (0, [.ref q0, .ref q2, .ref q4, .null, .null, .null, .null, .null, .null, .int 0, .int 0, .int 0, .int 0, .int 0, .int 0, .int 0, .int 0, .int 0, .int 0])), (q0, .inr (4, [.ref (q1 0), .int 0])), ((q1 0), .inl ((kdA K) 23, 4, .inr (.inl (fun _ => 0)))), (q2, .inr (4, [.ref (q3 0), .int 0])), ((q3 0), .inl ((kdA K) 23, 8, .inr (.inl (fun _ => 0)))), (q4, .inr (4, [.ref (q5 0), .int 0])), ((q5 0), .inl ((kdA K) 23, 8, .inr (.inl (fun _ => 0))))]) rfl <|
    kb_aload_n hK 0 rfl dX0_init_42 <|
    kb_bipush hK 52 (by decide) dX0_init_43 <|
    kb_arrI hK 52 (by decide) (by decide) (by decide) (by rw [hmc]; exact Nat.le_of_ble_eq_true rfl) (by rw [hms]; exact Nat.le_of_ble_eq_true rfl) dX0_init_45 fun q6 =>
    kb_L ([(h0, .inr (0, [.ref q0, .ref q2, .ref q4, .null, .null, .null, .null, .null, .null, .int 0, .int 0, .int 0, .int 0, .int 0, .int 0, .int 0, .int 0, .int 0, .int 0])), (q0, .inr (4, [.ref (q1 0), .int 0])), ((q1 0), .inl ((kdA K) 23, 4, .inr (.inl (fun _ => 0)))), (q2, .inr (4, [.ref (q3 0), .int 0])), ((q3 0), .inl ((kdA K) 23, 8, .inr (.inl (fun _ => 0)))), (q4, .inr (4, [.ref (q5 0), .int 0])), ((q5 0), .inl ((kdA K) 23, 8, .inr (.inl (fun _ => 0)))), (q6, .inl ((kdA K) 20, 52, .inl (fun _ => 0)))]) rfl <|
    kb_put hK (ci := 0) (j := 3) 0 rfl inG0 ty_0 nmX0 (by decide) (gt_1 113 rfl rfl) rfl rfl rfl rfl rfl dX0_init_47 <|
    kb_L ([(h0, .inr (0, [.ref q0, .ref q2, .ref q4, .ref q6, .null, .null, .null, .null, .null, .int 0, .int 0, .int 0, .int 0, .int 0, .int 0, .int 0, .int 0, .int 0, .int 0])), (q0, .inr (4, [.ref (q1 0), .int 0])), ((q1 0), .inl ((kdA K) 23, 4, .inr (.inl (fun _ => 0)))), (q2, .inr (4, [.ref (q3 0), .int 0])), ((q3 0), .inl ((kdA K) 23, 8, .inr (.inl (fun _ => 0)))), (q4, .inr (4, [.ref (q5 0), .int 0])), ((q5 0), .inl ((kdA K) 23, 8, .inr (.inl (fun _ => 0)))), (q6, .inl ((kdA K) 20, 52, .inl (fun _ => 0)))]) rfl <|
    kb_aload_n hK 0 rfl dX0_init_50 <|
    kb_bipush hK 8 (by decide) dX0_init_51 <|
    kb_arrI hK 8 (by decide) (by decide) (by decide) (by rw [hmc]; exact Nat.le_of_ble_eq_true rfl) (by rw [hms]; exact Nat.le_of_ble_eq_true rfl) dX0_init_53 fun q7 =>
    kb_L ([(h0, .inr (0, [.ref q0, .ref q2, .ref q4, .ref q6, .null, .null, .null, .null, .null, .int 0, .int 0, .int 0, .int 0, .int 0, .int 0, .int 0, .int 0, .int 0, .int 0])), (q0, .inr (4, [.ref (q1 0), .int 0])), ((q1 0), .inl ((kdA K) 23, 4, .inr (.inl (fun _ => 0)))), (q2, .inr (4, [.ref (q3 0), .int 0])), ((q3 0), .inl ((kdA K) 23, 8, .inr (.inl (fun _ => 0)))), (q4, .inr (4, [.ref (q5 0), .int 0])), ((q5 0), .inl ((kdA K) 23, 8, .inr (.inl (fun _ => 0)))), (q6, .inl ((kdA K) 20, 52, .inl (fun _ => 0))), (q7, .inl ((kdA K) 20, 8, .inl (fun _ => 0)))]) rfl <|
    kb_put hK (ci := 0) (j := 4) 0 rfl inG0 ty_0 nmX0 (by decide) (gt_1 114 rfl rfl) rfl rfl rfl rfl rfl dX0_init_55 <|
    kb_L ([(h0, .inr (0, [.ref q0, .ref q2, .ref q4, .ref q6, .ref q7, .null, .null, .null, .null, .int 0, .int 0, .int 0, .int 0, .int 0, .int 0, .int 0, .int 0, .int 0, .int 0])), (q0, .inr (4, [.ref (q1 0), .int 0])), ((q1 0), .inl ((kdA K) 23, 4, .inr (.inl (fun _ => 0)))), (q2, .inr (4, [.ref (q3 0), .int 0])), ((q3 0), .inl ((kdA K) 23, 8, .inr (.inl (fun _ => 0)))), (q4, .inr (4, [.ref (q5 0), .int 0])), ((q5 0), .inl ((kdA K) 23, 8, .inr (.inl (fun _ => 0)))), (q6, .inl ((kdA K) 20, 52, .inl (fun _ => 0))), (q7, .inl ((kdA K) 20, 8, .inl (fun _ => 0)))]) rfl <|
    kb_aload_n hK 0 rfl dX0_init_58 <|
    kb_bipush hK 8 (by decide) dX0_init_59 <|
    kb_arrI hK 8 (by decide) (by decide) (by decide) (by rw [hmc]; exact Nat.le_of_ble_eq_true rfl) (by rw [hms]; exact Nat.le_of_ble_eq_true rfl) dX0_init_61 fun q8 =>
    kb_L ([(h0, .inr (0, [.ref q0, .ref q2, .ref q4, .ref q6, .ref q7, .null, .null, .null, .null, .int 0, .int 0, .int 0, .int 0, .int 0, .int 0, .int 0, .int 0, .int 0, .int 0])), (q0, .inr (4, [.ref (q1 0), .int 0])), ((q1 0), .inl ((kdA K) 23, 4, .inr (.inl (fun _ => 0)))), (q2, .inr (4, [.ref (q3 0), .int 0])), ((q3 0), .inl ((kdA K) 23, 8, .inr (.inl (fun _ => 0)))), (q4, .inr (4, [.ref (q5 0), .int 0])), ((q5 0), .inl ((kdA K) 23, 8, .inr (.inl (fun _ => 0)))), (q6, .inl ((kdA K) 20, 52, .inl (fun _ => 0))), (q7, .inl ((kdA K) 20, 8, .inl (fun _ => 0))), (q8, .inl ((kdA K) 20, 8, .inl (fun _ => 0)))]) rfl <|
    kb_put hK (ci := 0) (j := 5) 0 rfl inG0 ty_0 nmX0 (by decide) (gt_1 115 rfl rfl) rfl rfl rfl rfl rfl dX0_init_63 <|
    kb_L ([(h0, .inr (0, [.ref q0, .ref q2, .ref q4, .ref q6, .ref q7, .ref q8, .null, .null, .null, .int 0, .int 0, .int 0, .int 0, .int 0, .int 0, .int 0, .int 0, .int 0, .int 0])), (q0, .inr (4, [.ref (q1 0), .int 0])), ((q1 0), .inl ((kdA K) 23, 4, .inr (.inl (fun _ => 0)))), (q2, .inr (4, [.ref (q3 0), .int 0])), ((q3 0), .inl ((kdA K) 23, 8, .inr (.inl (fun _ => 0)))), (q4, .inr (4, [.ref (q5 0), .int 0])), ((q5 0), .inl ((kdA K) 23, 8, .inr (.inl (fun _ => 0)))), (q6, .inl ((kdA K) 20, 52, .inl (fun _ => 0))), (q7, .inl ((kdA K) 20, 8, .inl (fun _ => 0))), (q8, .inl ((kdA K) 20, 8, .inl (fun _ => 0)))]) rfl <|
    kb_aload_n hK 0 rfl dX0_init_66 <|
    kb_bipush hK 8 (by decide) dX0_init_67 <|
    kb_arrI hK 8 (by decide) (by decide) (by decide) (by rw [hmc]; exact Nat.le_of_ble_eq_true rfl) (by rw [hms]; exact Nat.le_of_ble_eq_true rfl) dX0_init_69 fun q9 =>
    kb_L ([(h0, .inr (0, [.ref q0, .ref q2, .ref q4, .ref q6, .ref q7, .ref q8, .null, .null, .null, .int 0, .int 0, .int 0, .int 0, .int 0, .int 0, .int 0, .int 0, .int 0, .int 0])), (q0, .inr (4, [.ref (q1 0), .int 0])), ((q1 0), .inl ((kdA K) 23, 4, .inr (.inl (fun _ => 0)))), (q2, .inr (4, [.ref (q3 0), .int 0])), ((q3 0), .inl ((kdA K) 23, 8, .inr (.inl (fun _ => 0)))), (q4, .inr (4, [.ref (q5 0), .int 0])), ((q5 0), .inl ((kdA K) 23, 8, .inr (.inl (fun _ => 0)))), (q6, .inl ((kdA K) 20, 52, .inl (fun _ => 0))), (q7, .inl ((kdA K) 20, 8, .inl (fun _ => 0))), (q8, .inl ((kdA K) 20, 8, .inl (fun _ => 0))), (q9, .inl ((kdA K) 20, 8, .inl (fun _ => 0)))]) rfl <|
    kb_put hK (ci := 0) (j := 6) 0 rfl inG0 ty_0 nmX0 (by decide) (gt_1 116 rfl rfl) rfl rfl rfl rfl rfl dX0_init_71 <|
    kb_L ([(h0, .inr (0, [.ref q0, .ref q2, .ref q4, .ref q6, .ref q7, .ref q8, .ref q9, .null, .null, .int 0, .int 0, .int 0, .int 0, .int 0, .int 0, .int 0, .int 0, .int 0, .int 0])), (q0, .inr (4, [.ref (q1 0), .int 0])), ((q1 0), .inl ((kdA K) 23, 4, .inr (.inl (fun _ => 0)))), (q2, .inr (4, [.ref (q3 0), .int 0])), ((q3 0), .inl ((kdA K) 23, 8, .inr (.inl (fun _ => 0)))), (q4, .inr (4, [.ref (q5 0), .int 0])), ((q5 0), .inl ((kdA K) 23, 8, .inr (.inl (fun _ => 0)))), (q6, .inl ((kdA K) 20, 52, .inl (fun _ => 0))), (q7, .inl ((kdA K) 20, 8, .inl (fun _ => 0))), (q8, .inl ((kdA K) 20, 8, .inl (fun _ => 0))), (q9, .inl ((kdA K) 20, 8, .inl (fun _ => 0)))]) rfl <|
    kb_aload_n hK 0 rfl dX0_init_74 <|
    kb_bipush hK 8 (by decide) dX0_init_75 <|
    kb_arrI hK 8 (by decide) (by decide) (by decide) (by rw [hmc]; exact Nat.le_of_ble_eq_true rfl) (by rw [hms]; exact Nat.le_of_ble_eq_true rfl) dX0_init_77 fun q10 =>
    kb_L ([(h0, .inr (0, [.ref q0, .ref q2, .ref q4, .ref q6, .ref q7, .ref q8, .ref q9, .null, .null, .int 0, .int 0, .int 0, .int 0, .int 0, .int 0, .int 0, .int 0, .int 0, .int 0])), (q0, .inr (4, [.ref (q1 0), .int 0])), ((q1 0), .inl ((kdA K) 23, 4, .inr (.inl (fun _ => 0)))), (q2, .inr (4, [.ref (q3 0), .int 0])), ((q3 0), .inl ((kdA K) 23, 8, .inr (.inl (fun _ => 0)))), (q4, .inr (4, [.ref (q5 0), .int 0])), ((q5 0), .inl ((kdA K) 23, 8, .inr (.inl (fun _ => 0)))), (q6, .inl ((kdA K) 20, 52, .inl (fun _ => 0))), (q7, .inl ((kdA K) 20, 8, .inl (fun _ => 0))), (q8, .inl ((kdA K) 20, 8, .inl (fun _ => 0))), (q9, .inl ((kdA K) 20, 8, .inl (fun _ => 0))), (q10, .inl ((kdA K) 20, 8, .inl (fun _ => 0)))]) rfl <|
    kb_put hK (ci := 0) (j := 7) 0 rfl inG0 ty_0 nmX0 (by decide) (gt_1 120 rfl rfl) rfl rfl rfl rfl rfl dX0_init_79 <|
    kb_L ([(h0, .inr (0, [.ref q0, .ref q2, .ref q4, .ref q6, .ref q7, .ref q8, .ref q9, .ref q10, .null, .int 0, .int 0, .int 0, .int 0, .int 0, .int 0, .int 0, .int 0, .int 0, .int 0])), (q0, .inr (4, [.ref (q1 0), .int 0])), ((q1 0), .inl ((kdA K) 23, 4, .inr (.inl (fun _ => 0)))), (q2, .inr (4, [.ref (q3 0), .int 0])), ((q3 0), .inl ((kdA K) 23, 8, .inr (.inl (fun _ => 0)))), (q4, .inr (4, [.ref (q5 0), .int 0])), ((q5 0), .inl ((kdA K) 23, 8, .inr (.inl (fun _ => 0)))), (q6, .inl ((kdA K) 20, 52, .inl (fun _ => 0))), (q7, .inl ((kdA K) 20, 8, .inl (fun _ => 0))), (q8, .inl ((kdA K) 20, 8, .inl (fun _ => 0))), (q9, .inl ((kdA K) 20, 8, .inl (fun _ => 0))), (q10, .inl ((kdA K) 20, 8, .inl (fun _ => 0)))]) rfl <|
    kb_aload_n hK 0 rfl dX0_init_82 <|
    kb_bipush hK 8 (by decide) dX0_init_83 <|
    kb_arrI hK 8 (by decide) (by decide) (by decide) (by rw [hmc]; exact Nat.le_of_ble_eq_true rfl) (by rw [hms]; exact Nat.le_of_ble_eq_true rfl) dX0_init_85 fun q11 =>
    kb_L ([(h0, .inr (0, [.ref q0, .ref q2, .ref q4, .ref q6, .ref q7, .ref q8, .ref q9, .ref q10, .null, .int 0, .int 0, .int 0, .int 0, .int 0, .int 0, .int 0, .int 0, .int 0, .int 0])), (q0, .inr (4, [.ref (q1 0), .int 0])), ((q1 0), .inl ((kdA K) 23, 4, .inr (.inl (fun _ => 0)))), (q2, .inr (4, [.ref (q3 0), .int 0])), ((q3 0), .inl ((kdA K) 23, 8, .inr (.inl (fun _ => 0)))), (q4, .inr (4, [.ref (q5 0), .int 0])), ((q5 0), .inl ((kdA K) 23, 8, .inr (.inl (fun _ => 0)))), (q6, .inl ((kdA K) 20, 52, .inl (fun _ => 0))), (q7, .inl ((kdA K) 20, 8, .inl (fun _ => 0))), (q8, .inl ((kdA K) 20, 8, .inl (fun _ => 0))), (q9, .inl ((kdA K) 20, 8, .inl (fun _ => 0))), (q10, .inl ((kdA K) 20, 8, .inl (fun _ => 0))), (q11, .inl ((kdA K) 20, 8, .inl (fun _ => 0)))]) rfl <|
    kb_put hK (ci := 0) (j := 8) 0 rfl inG0 ty_0 nmX0 (by decide) (gt_1 122 rfl rfl) rfl rfl rfl rfl rfl dX0_init_87 <|
    kb_L ([(h0, .inr (0, [.ref q0, .ref q2, .ref q4, .ref q6, .ref q7, .ref q8, .ref q9, .ref q10, .ref q11, .int 0, .int 0, .int 0, .int 0, .int 0, .int 0, .int 0, .int 0, .int 0, .int 0])), (q0, .inr (4, [.ref (q1 0), .int 0])), ((q1 0), .inl ((kdA K) 23, 4, .inr (.inl (fun _ => 0)))), (q2, .inr (4, [.ref (q3 0), .int 0])), ((q3 0), .inl ((kdA K) 23, 8, .inr (.inl (fun _ => 0)))), (q4, .inr (4, [.ref (q5 0), .int 0])), ((q5 0), .inl ((kdA K) 23, 8, .inr (.inl (fun _ => 0)))), (q6, .inl ((kdA K) 20, 52, .inl (fun _ => 0))), (q7, .inl ((kdA K) 20, 8, .inl (fun _ => 0))), (q8, .inl ((kdA K) 20, 8, .inl (fun _ => 0))), (q9, .inl ((kdA K) 20, 8, .inl (fun _ => 0))), (q10, .inl ((kdA K) 20, 8, .inl (fun _ => 0))), (q11, .inl ((kdA K) 20, 8, .inl (fun _ => 0)))]) rfl <|
    kb_aload_n hK 0 rfl dX0_init_90 <|
    kb_iconst hK (-1) (by decide) dX0_init_91 <|
    kb_put hK (ci := 0) (j := 11) 0 rfl inG0 ty_0 nmX0 (by decide) (gt_1 128 rfl rfl) rfl rfl rfl rfl rfl dX0_init_92 <|
    kb_L ([(h0, .inr (0, [.ref q0, .ref q2, .ref q4, .ref q6, .ref q7, .ref q8, .ref q9, .ref q10, .ref q11, .int 0, .int 0, .int (-1), .int 0, .int 0, .int 0, .int 0, .int 0, .int 0, .int 0])), (q0, .inr (4, [.ref (q1 0), .int 0])), ((q1 0), .inl ((kdA K) 23, 4, .inr (.inl (fun _ => 0)))), (q2, .inr (4, [.ref (q3 0), .int 0])), ((q3 0), .inl ((kdA K) 23, 8, .inr (.inl (fun _ => 0)))), (q4, .inr (4, [.ref (q5 0), .int 0])), ((q5 0), .inl ((kdA K) 23, 8, .inr (.inl (fun _ => 0)))), (q6, .inl ((kdA K) 20, 52, .inl (fun _ => 0))), (q7, .inl ((kdA K) 20, 8, .inl (fun _ => 0))), (q8, .inl ((kdA K) 20, 8, .inl (fun _ => 0))), (q9, .inl ((kdA K) 20, 8, .inl (fun _ => 0))), (q10, .inl ((kdA K) 20, 8, .inl (fun _ => 0))), (q11, .inl ((kdA K) 20, 8, .inl (fun _ => 0)))]) rfl <|
    kb_aload_n hK 0 rfl dX0_init_95 <|
    kb_iconst hK (-1) (by decide) dX0_init_96 <|
    kb_put hK (ci := 0) (j := 12) 0 rfl inG0 ty_0 nmX0 (by decide) (gt_1 132 rfl rfl) rfl rfl rfl rfl rfl dX0_init_97 <|
    kb_L ([(h0, .inr (0, [.ref q0, .ref q2, .ref q4, .ref q6, .ref q7, .ref q8, .ref q9, .ref q10, .ref q11, .int 0, .int 0, .int (-1), .int (-1), .int 0, .int 0, .int 0, .int 0, .int 0, .int 0])), (q0, .inr (4, [.ref (q1 0), .int 0])), ((q1 0), .inl ((kdA K) 23, 4, .inr (.inl (fun _ => 0)))), (q2, .inr (4, [.ref (q3 0), .int 0])), ((q3 0), .inl ((kdA K) 23, 8, .inr (.inl (fun _ => 0)))), (q4, .inr (4, [.ref (q5 0), .int 0])), ((q5 0), .inl ((kdA K) 23, 8, .inr (.inl (fun _ => 0)))), (q6, .inl ((kdA K) 20, 52, .inl (fun _ => 0))), (q7, .inl ((kdA K) 20, 8, .inl (fun _ => 0))), (q8, .inl ((kdA K) 20, 8, .inl (fun _ => 0))), (q9, .inl ((kdA K) 20, 8, .inl (fun _ => 0))), (q10, .inl ((kdA K) 20, 8, .inl (fun _ => 0))), (q11, .inl ((kdA K) 20, 8, .inl (fun _ => 0)))]) rfl <|
    kb_aload_n hK 0 rfl dX0_init_100 <|
    kb_iconst hK (-1) (by decide) dX0_init_101 <|
    kb_put hK (ci := 0) (j := 13) 0 rfl inG0 ty_0 nmX0 (by decide) (gt_1 134 rfl rfl) rfl rfl rfl rfl rfl dX0_init_102 <|
    kb_L ([(h0, .inr (0, [.ref q0, .ref q2, .ref q4, .ref q6, .ref q7, .ref q8, .ref q9, .ref q10, .ref q11, .int 0, .int 0, .int (-1), .int (-1), .int (-1), .int 0, .int 0, .int 0, .int 0, .int 0])), (q0, .inr (4, [.ref (q1 0), .int 0])), ((q1 0), .inl ((kdA K) 23, 4, .inr (.inl (fun _ => 0)))), (q2, .inr (4, [.ref (q3 0), .int 0])), ((q3 0), .inl ((kdA K) 23, 8, .inr (.inl (fun _ => 0)))), (q4, .inr (4, [.ref (q5 0), .int 0])), ((q5 0), .inl ((kdA K) 23, 8, .inr (.inl (fun _ => 0)))), (q6, .inl ((kdA K) 20, 52, .inl (fun _ => 0))), (q7, .inl ((kdA K) 20, 8, .inl (fun _ => 0))), (q8, .inl ((kdA K) 20, 8, .inl (fun _ => 0))), (q9, .inl ((kdA K) 20, 8, .inl (fun _ => 0))), (q10, .inl ((kdA K) 20, 8, .inl (fun _ => 0))), (q11, .inl ((kdA K) 20, 8, .inl (fun _ => 0)))]) rfl <|
    kb_aload_n hK 0 rfl dX0_init_105 <|
    kb_iconst hK (-1) (by decide) dX0_init_106 <|
    kb_put hK (ci := 0) (j := 14) 0 rfl inG0 ty_0 nmX0 (by decide) (gt_1 136 rfl rfl) rfl rfl rfl rfl rfl dX0_init_107 <|
    kb_L ([(h0, .inr (0, [.ref q0, .ref q2, .ref q4, .ref q6, .ref q7, .ref q8, .ref q9, .ref q10, .ref q11, .int 0, .int 0, .int (-1), .int (-1), .int (-1), .int (-1), .int 0, .int 0, .int 0, .int 0])), (q0, .inr (4, [.ref (q1 0), .int 0])), ((q1 0), .inl ((kdA K) 23, 4, .inr (.inl (fun _ => 0)))), (q2, .inr (4, [.ref (q3 0), .int 0])), ((q3 0), .inl ((kdA K) 23, 8, .inr (.inl (fun _ => 0)))), (q4, .inr (4, [.ref (q5 0), .int 0])), ((q5 0), .inl ((kdA K) 23, 8, .inr (.inl (fun _ => 0)))), (q6, .inl ((kdA K) 20, 52, .inl (fun _ => 0))), (q7, .inl ((kdA K) 20, 8, .inl (fun _ => 0))), (q8, .inl ((kdA K) 20, 8, .inl (fun _ => 0))), (q9, .inl ((kdA K) 20, 8, .inl (fun _ => 0))), (q10, .inl ((kdA K) 20, 8, .inl (fun _ => 0))), (q11, .inl ((kdA K) 20, 8, .inl (fun _ => 0)))]) rfl <|
    kb_ret hK (by rw [hmc]; exact Nat.le_of_ble_eq_true rfl) (by rw [hms]; exact Nat.le_of_ble_eq_true rfl) (fun t hP hD hF => by rw [hA] at hD hF; rw [hQ]; exact ⟨⟨fun j => [q0, (q1 0), q2, (q3 0), q4, (q5 0), q6, q7, q8, q9, q10, q11].getD j 0, rfl, trivial, hP, hD⟩, hF⟩) dX0_init_110
theorem dX6_init_0 : decode cX6_init 0 = .ok (.aload_n 0, 1) := by decide +kernel
theorem dX6_init_1 : decode cX6_init 1 = .ok (.invokespecial 3, 3) := by decide +kernel
theorem dX6_init_4 : decode cX6_init 4 = .ok (.aload_n 0, 1) := by decide +kernel
theorem dX6_init_5 : decode cX6_init 5 = .ok (.bipush 8, 2) := by decide +kernel
theorem dX6_init_7 : decode cX6_init 7 = .ok (.newarray .int, 2) := by decide +kernel
theorem dX6_init_9 : decode cX6_init 9 = .ok (.putfield 9, 3) := by decide +kernel
theorem dX6_init_12 : decode cX6_init 12 = .ok (.aload_n 0, 1) := by decide +kernel
theorem dX6_init_13 : decode cX6_init 13 = .ok (.bipush 8, 2) := by decide +kernel
theorem dX6_init_15 : decode cX6_init 15 = .ok (.newarray .int, 2) := by decide +kernel
theorem dX6_init_17 : decode cX6_init 17 = .ok (.putfield 15, 3) := by decide +kernel
theorem dX6_init_20 : decode cX6_init 20 = .ok (.aload_n 0, 1) := by decide +kernel
theorem dX6_init_21 : decode cX6_init 21 = .ok (.bipush 8, 2) := by decide +kernel
theorem dX6_init_23 : decode cX6_init 23 = .ok (.newarray .int, 2) := by decide +kernel
theorem dX6_init_25 : decode cX6_init 25 = .ok (.putfield 18, 3) := by decide +kernel
theorem dX6_init_28 : decode cX6_init 28 = .ok (.aload_n 0, 1) := by decide +kernel
theorem dX6_init_29 : decode cX6_init 29 = .ok (.bipush 8, 2) := by decide +kernel
theorem dX6_init_31 : decode cX6_init 31 = .ok (.newarray .int, 2) := by decide +kernel
theorem dX6_init_33 : decode cX6_init 33 = .ok (.putfield 21, 3) := by decide +kernel
theorem dX6_init_36 : decode cX6_init 36 = .ok (.aload_n 0, 1) := by decide +kernel
theorem dX6_init_37 : decode cX6_init 37 = .ok (.bipush 8, 2) := by decide +kernel
theorem dX6_init_39 : decode cX6_init 39 = .ok (.newarray .int, 2) := by decide +kernel
theorem dX6_init_41 : decode cX6_init 41 = .ok (.putfield 24, 3) := by decide +kernel
theorem dX6_init_44 : decode cX6_init 44 = .ok (.return_, 1) := by decide +kernel
def k0_RX6 (dA : Nat → ClassId) (h0 : Nat)  (q : Nat → Nat) : va_E := .inr (6, [.int 0, .int 0, .int 0, .int 0, .int 0, .int 0, .int 0, .int 0, .int 0, .ref (q 0), .ref (q 1), .ref (q 2), .ref (q 3), .ref (q 4), .int 0, .int 0, .int 0])
def kr_RX6 (dA : Nat → ClassId) (h0 : Nat)  (q : Nat → Nat) : va_W := [(q 0, .inl (dA 20, 8, .inl (fun _ => 0))), (q 1, .inl (dA 20, 8, .inl (fun _ => 0))), (q 2, .inl (dA 20, 8, .inl (fun _ => 0))), (q 3, .inl (dA 20, 8, .inl (fun _ => 0))), (q 4, .inl (dA 20, 8, .inl (fun _ => 0)))]
set_option maxRecDepth 100000 in
set_option maxHeartbeats 4000000 in
theorem ci_RX6 (l : Launch) (D : va_G) (dA : Nat → ClassId) (h0 : Nat)  : KC l yX6_init cX6_init 1 1 5 40 D dA h0 [] 6 (k0_RX6 dA h0 ) (kr_RX6 dA h0 ) := by
  refine KC_of (by decide) rfl (Nat.le_of_ble_eq_true rfl) ?_
  intro K hl hD hdA hK hmc hms hA hQ
  subst hl
  subst hD
  subst hdA
  exact kb_aload_n hK 0 rfl dX6_init_0 <|
    kb_super hK (gt_1 193 rfl rfl) kSup (by decide) (Nat.le_of_ble_eq_true rfl) dX6_init_1 <|
    kb_aload_n hK 0 rfl dX6_init_4 <|
    kb_bipush hK 8 (by decide) dX6_init_5 <|
    kb_arrI hK 8 (by decide) (by decide) (by decide) (by rw [hmc]; exact Nat.le_of_ble_eq_true rfl) (by rw [hms]; exact Nat.le_of_ble_eq_true rfl) dX6_init_7 fun q0 =>
    kb_L ([(h0, .inr (6, [.int 0, .int 0, .int 0, .int 0, .int 0, .int 0, .int 0, .int 0, .int 0, .null, .null, .null, .null, .null, .int 0, .int 0, .int 0])), (q0, .inl ((kdA K) 20, 8, .inl (fun _ => 0)))]) rfl <|
    kb_put hK (ci := 6) (j := 9) 0 rfl inG6 ty_6 nmX6 (by decide) (gt_1 222 rfl rfl) rfl rfl rfl rfl rfl dX6_init_9 <|
    kb_L ([(h0, .inr (6, [.int 0, .int 0, .int 0, .int 0, .int 0, .int 0, .int 0, .int 0, .int 0, .ref q0, .null, .null, .null, .null, .int 0, .int 0, .int 0])), (q0, .inl ((kdA K) 20, 8, .inl (fun _ => 0)))]) rfl <|
    kb_aload_n hK 0 rfl dX6_init_12 <|
    kb_bipush hK 8 (by decide) dX6_init_13 <|
    kb_arrI hK 8 (by decide) (by decide) (by decide) (by rw [hmc]; exact Nat.le_of_ble_eq_true rfl) (by rw [hms]; exact Nat.le_of_ble_eq_true rfl) dX6_init_15 fun q1 =>
    kb_L ([(h0, .inr (6, [.int 0, .int 0, .int 0, .int 0, .int 0, .int 0, .int 0, .int 0, .int 0, .ref q0, .null, .null, .null, .null, .int 0, .int 0, .int 0])), (q0, .inl ((kdA K) 20, 8, .inl (fun _ => 0))), (q1, .inl ((kdA K) 20, 8, .inl (fun _ => 0)))]) rfl <|
    kb_put hK (ci := 6) (j := 10) 0 rfl inG6 ty_6 nmX6 (by decide) (gt_1 224 rfl rfl) rfl rfl rfl rfl rfl dX6_init_17 <|
    kb_L ([(h0, .inr (6, [.int 0, .int 0, .int 0, .int 0, .int 0, .int 0, .int 0, .int 0, .int 0, .ref q0, .ref q1, .null, .null, .null, .int 0, .int 0, .int 0])), (q0, .inl ((kdA K) 20, 8, .inl (fun _ => 0))), (q1, .inl ((kdA K) 20, 8, .inl (fun _ => 0)))]) rfl <|
    kb_aload_n hK 0 rfl dX6_init_20 <|
    kb_bipush hK 8 (by decide) dX6_init_21 <|
    kb_arrI hK 8 (by decide) (by decide) (by decide) (by rw [hmc]; exact Nat.le_of_ble_eq_true rfl) (by rw [hms]; exact Nat.le_of_ble_eq_true rfl) dX6_init_23 fun q2 =>
    kb_L ([(h0, .inr (6, [.int 0, .int 0, .int 0, .int 0, .int 0, .int 0, .int 0, .int 0, .int 0, .ref q0, .ref q1, .null, .null, .null, .int 0, .int 0, .int 0])), (q0, .inl ((kdA K) 20, 8, .inl (fun _ => 0))), (q1, .inl ((kdA K) 20, 8, .inl (fun _ => 0))), (q2, .inl ((kdA K) 20, 8, .inl (fun _ => 0)))]) rfl <|
    kb_put hK (ci := 6) (j := 11) 0 rfl inG6 ty_6 nmX6 (by decide) (gt_1 226 rfl rfl) rfl rfl rfl rfl rfl dX6_init_25 <|
    kb_L ([(h0, .inr (6, [.int 0, .int 0, .int 0, .int 0, .int 0, .int 0, .int 0, .int 0, .int 0, .ref q0, .ref q1, .ref q2, .null, .null, .int 0, .int 0, .int 0])), (q0, .inl ((kdA K) 20, 8, .inl (fun _ => 0))), (q1, .inl ((kdA K) 20, 8, .inl (fun _ => 0))), (q2, .inl ((kdA K) 20, 8, .inl (fun _ => 0)))]) rfl <|
    kb_aload_n hK 0 rfl dX6_init_28 <|
    kb_bipush hK 8 (by decide) dX6_init_29 <|
    kb_arrI hK 8 (by decide) (by decide) (by decide) (by rw [hmc]; exact Nat.le_of_ble_eq_true rfl) (by rw [hms]; exact Nat.le_of_ble_eq_true rfl) dX6_init_31 fun q3 =>
    kb_L ([(h0, .inr (6, [.int 0, .int 0, .int 0, .int 0, .int 0, .int 0, .int 0, .int 0, .int 0, .ref q0, .ref q1, .ref q2, .null, .null, .int 0, .int 0, .int 0])), (q0, .inl ((kdA K) 20, 8, .inl (fun _ => 0))), (q1, .inl ((kdA K) 20, 8, .inl (fun _ => 0))), (q2, .inl ((kdA K) 20, 8, .inl (fun _ => 0))), (q3, .inl ((kdA K) 20, 8, .inl (fun _ => 0)))]) rfl <|
    kb_put hK (ci := 6) (j := 12) 0 rfl inG6 ty_6 nmX6 (by decide) (gt_1 228 rfl rfl) rfl rfl rfl rfl rfl dX6_init_33 <|
    kb_L ([(h0, .inr (6, [.int 0, .int 0, .int 0, .int 0, .int 0, .int 0, .int 0, .int 0, .int 0, .ref q0, .ref q1, .ref q2, .ref q3, .null, .int 0, .int 0, .int 0])), (q0, .inl ((kdA K) 20, 8, .inl (fun _ => 0))), (q1, .inl ((kdA K) 20, 8, .inl (fun _ => 0))), (q2, .inl ((kdA K) 20, 8, .inl (fun _ => 0))), (q3, .inl ((kdA K) 20, 8, .inl (fun _ => 0)))]) rfl <|
    kb_aload_n hK 0 rfl dX6_init_36 <|
    kb_bipush hK 8 (by decide) dX6_init_37 <|
    kb_arrI hK 8 (by decide) (by decide) (by decide) (by rw [hmc]; exact Nat.le_of_ble_eq_true rfl) (by rw [hms]; exact Nat.le_of_ble_eq_true rfl) dX6_init_39 fun q4 =>
    kb_L ([(h0, .inr (6, [.int 0, .int 0, .int 0, .int 0, .int 0, .int 0, .int 0, .int 0, .int 0, .ref q0, .ref q1, .ref q2, .ref q3, .null, .int 0, .int 0, .int 0])), (q0, .inl ((kdA K) 20, 8, .inl (fun _ => 0))), (q1, .inl ((kdA K) 20, 8, .inl (fun _ => 0))), (q2, .inl ((kdA K) 20, 8, .inl (fun _ => 0))), (q3, .inl ((kdA K) 20, 8, .inl (fun _ => 0))), (q4, .inl ((kdA K) 20, 8, .inl (fun _ => 0)))]) rfl <|
    kb_put hK (ci := 6) (j := 13) 0 rfl inG6 ty_6 nmX6 (by decide) (gt_1 229 rfl rfl) rfl rfl rfl rfl rfl dX6_init_41 <|
    kb_L ([(h0, .inr (6, [.int 0, .int 0, .int 0, .int 0, .int 0, .int 0, .int 0, .int 0, .int 0, .ref q0, .ref q1, .ref q2, .ref q3, .ref q4, .int 0, .int 0, .int 0])), (q0, .inl ((kdA K) 20, 8, .inl (fun _ => 0))), (q1, .inl ((kdA K) 20, 8, .inl (fun _ => 0))), (q2, .inl ((kdA K) 20, 8, .inl (fun _ => 0))), (q3, .inl ((kdA K) 20, 8, .inl (fun _ => 0))), (q4, .inl ((kdA K) 20, 8, .inl (fun _ => 0)))]) rfl <|
    kb_ret hK (by rw [hmc]; exact Nat.le_of_ble_eq_true rfl) (by rw [hms]; exact Nat.le_of_ble_eq_true rfl) (fun t hP hD hF => by rw [hA] at hD hF; rw [hQ]; exact ⟨⟨fun j => [q0, q1, q2, q3, q4].getD j 0, rfl, trivial, hP, hD⟩, hF⟩) dX6_init_44
theorem dX1_init_0 : decode cX1_init 0 = .ok (.aload_n 0, 1) := by decide +kernel
theorem dX1_init_1 : decode cX1_init 1 = .ok (.invokespecial 1, 3) := by decide +kernel
theorem dX1_init_4 : decode cX1_init 4 = .ok (.return_, 1) := by decide +kernel
def k0_RX1 (dA : Nat → ClassId) (h0 : Nat)  (q : Nat → Nat) : va_E := .inr (1, [.int 0, .int 0, .int 0, .int 0, .int 0])
def kr_RX1 (dA : Nat → ClassId) (h0 : Nat)  (q : Nat → Nat) : va_W := []
set_option maxRecDepth 100000 in
set_option maxHeartbeats 4000000 in
theorem ci_RX1 (l : Launch) (D : va_G) (dA : Nat → ClassId) (h0 : Nat)  : KC l yX1_init cX1_init 1 1 0 0 D dA h0 [] 1 (k0_RX1 dA h0 ) (kr_RX1 dA h0 ) := by
  refine KC_of (by decide) rfl (Nat.le_of_ble_eq_true rfl) ?_
  intro K hl hD hdA hK hmc hms hA hQ
  subst hl
  subst hD
  subst hdA
  exact kb_aload_n hK 0 rfl dX1_init_0 <|
    kb_super hK (gt_2 32 rfl rfl) kSup (by decide) (Nat.le_of_ble_eq_true rfl) dX1_init_1 <|
    kb_ret hK (by rw [hmc]; exact Nat.le_of_ble_eq_true rfl) (by rw [hms]; exact Nat.le_of_ble_eq_true rfl) (fun t hP hD hF => by rw [hA] at hD hF; rw [hQ]; exact ⟨⟨fun j => [].getD j 0, rfl, trivial, hP, hD⟩, hF⟩) dX1_init_4
