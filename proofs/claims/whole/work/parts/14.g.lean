-- WhichWill$Paper.readRest
theorem dX6_readRest_0 : decode cX6_readRest 0 = .ok (.aload_n 0, 1) := by decide +kernel
theorem dX6_readRest_1 : decode cX6_readRest 1 = .ok (.aload_n 1, 1) := by decide +kernel
theorem dX6_readRest_2 : decode cX6_readRest 2 = .ok (.bipush 16, 2) := by decide +kernel
theorem dX6_readRest_4 : decode cX6_readRest 4 = .ok (.invokevirtual 99, 3) := by decide +kernel
theorem dX6_readRest_7 : decode cX6_readRest 7 = .ok (.aload_n 1, 1) := by decide +kernel
theorem dX6_readRest_8 : decode cX6_readRest 8 = .ok (.ldc 180, 2) := by decide +kernel
theorem dX6_readRest_10 : decode cX6_readRest 10 = .ok (.invokevirtual 175, 3) := by decide +kernel
theorem dX6_readRest_13 : decode cX6_readRest 13 = .ok (.aload_n 0, 1) := by decide +kernel
theorem dX6_readRest_14 : decode cX6_readRest 14 = .ok (.dup, 1) := by decide +kernel
theorem dX6_readRest_15 : decode cX6_readRest 15 = .ok (.getfield 37, 3) := by decide +kernel
theorem dX6_readRest_18 : decode cX6_readRest 18 = .ok (.aload_n 1, 1) := by decide +kernel
theorem dX6_readRest_19 : decode cX6_readRest 19 = .ok (.aload_n 2, 1) := by decide +kernel
theorem dX6_readRest_20 : decode cX6_readRest 20 = .ok (.getfield 162, 3) := by decide +kernel
theorem dX6_readRest_23 : decode cX6_readRest 23 = .ok (.aload_n 0, 1) := by decide +kernel
theorem dX6_readRest_24 : decode cX6_readRest 24 = .ok (.getfield 37, 3) := by decide +kernel
theorem dX6_readRest_27 : decode cX6_readRest 27 = .ok (.invokevirtual 168, 3) := by decide +kernel
theorem dX6_readRest_30 : decode cX6_readRest 30 = .ok (.invokestatic 138, 3) := by decide +kernel
theorem dX6_readRest_33 : decode cX6_readRest 33 = .ok (.ior, 1) := by decide +kernel
theorem dX6_readRest_34 : decode cX6_readRest 34 = .ok (.putfield 37, 3) := by decide +kernel
theorem dX6_readRest_37 : decode cX6_readRest 37 = .ok (.iconst 0, 1) := by decide +kernel
theorem dX6_readRest_38 : decode cX6_readRest 38 = .ok (.istore_n 3, 1) := by decide +kernel
theorem dX6_readRest_39 : decode cX6_readRest 39 = .ok (.iload_n 3, 1) := by decide +kernel
theorem dX6_readRest_40 : decode cX6_readRest 40 = .ok (.bipush 8, 2) := by decide +kernel
theorem dX6_readRest_42 : decode cX6_readRest 42 = .ok (.if_icmp .ge 62, 3) := by decide +kernel
theorem dX6_readRest_45 : decode cX6_readRest 45 = .ok (.aload_n 1, 1) := by decide +kernel
theorem dX6_readRest_46 : decode cX6_readRest 46 = .ok (.ldc 195, 2) := by decide +kernel
theorem dX6_readRest_48 : decode cX6_readRest 48 = .ok (.invokevirtual 89, 3) := by decide +kernel
theorem dX6_readRest_51 : decode cX6_readRest 51 = .ok (.ifCond .eq 53, 3) := by decide +kernel
theorem dX6_readRest_54 : decode cX6_readRest 54 = .ok (.aload_n 0, 1) := by decide +kernel
theorem dX6_readRest_55 : decode cX6_readRest 55 = .ok (.getfield 37, 3) := by decide +kernel
theorem dX6_readRest_58 : decode cX6_readRest 58 = .ok (.invokestatic 157, 3) := by decide +kernel
theorem dX6_readRest_61 : decode cX6_readRest 61 = .ok (.iconst 4, 1) := by decide +kernel
theorem dX6_readRest_62 : decode cX6_readRest 62 = .ok (.if_icmp .lt 8, 3) := by decide +kernel
theorem dX6_readRest_65 : decode cX6_readRest 65 = .ok (.aload_n 1, 1) := by decide +kernel
theorem dX6_readRest_66 : decode cX6_readRest 66 = .ok (.iconst 4, 1) := by decide +kernel
theorem dX6_readRest_67 : decode cX6_readRest 67 = .ok (.invokevirtual 143, 3) := by decide +kernel
theorem dX6_readRest_70 : decode cX6_readRest 70 = .ok (.aload_n 1, 1) := by decide +kernel
theorem dX6_readRest_71 : decode cX6_readRest 71 = .ok (.invokevirtual 151, 3) := by decide +kernel
theorem dX6_readRest_74 : decode cX6_readRest 74 = .ok (.aload_n 0, 1) := by decide +kernel
theorem dX6_readRest_75 : decode cX6_readRest 75 = .ok (.dup, 1) := by decide +kernel
theorem dX6_readRest_76 : decode cX6_readRest 76 = .ok (.getfield 37, 3) := by decide +kernel
theorem dX6_readRest_79 : decode cX6_readRest 79 = .ok (.aload_n 1, 1) := by decide +kernel
theorem dX6_readRest_80 : decode cX6_readRest 80 = .ok (.aload_n 2, 1) := by decide +kernel
theorem dX6_readRest_81 : decode cX6_readRest 81 = .ok (.getfield 162, 3) := by decide +kernel
theorem dX6_readRest_84 : decode cX6_readRest 84 = .ok (.aload_n 0, 1) := by decide +kernel
theorem dX6_readRest_85 : decode cX6_readRest 85 = .ok (.getfield 37, 3) := by decide +kernel
theorem dX6_readRest_88 : decode cX6_readRest 88 = .ok (.invokevirtual 168, 3) := by decide +kernel
theorem dX6_readRest_91 : decode cX6_readRest 91 = .ok (.invokestatic 138, 3) := by decide +kernel
theorem dX6_readRest_94 : decode cX6_readRest 94 = .ok (.ior, 1) := by decide +kernel
theorem dX6_readRest_95 : decode cX6_readRest 95 = .ok (.putfield 37, 3) := by decide +kernel
theorem dX6_readRest_98 : decode cX6_readRest 98 = .ok (.iinc 3 1, 3) := by decide +kernel
theorem dX6_readRest_101 : decode cX6_readRest 101 = .ok (.goto (-62), 3) := by decide +kernel
theorem dX6_readRest_104 : decode cX6_readRest 104 = .ok (.aload_n 0, 1) := by decide +kernel
theorem dX6_readRest_105 : decode cX6_readRest 105 = .ok (.dup, 1) := by decide +kernel
theorem dX6_readRest_106 : decode cX6_readRest 106 = .ok (.getfield 62, 3) := by decide +kernel
theorem dX6_readRest_109 : decode cX6_readRest 109 = .ok (.aload_n 0, 1) := by decide +kernel
theorem dX6_readRest_110 : decode cX6_readRest 110 = .ok (.getfield 37, 3) := by decide +kernel
theorem dX6_readRest_113 : decode cX6_readRest 113 = .ok (.ior, 1) := by decide +kernel
theorem dX6_readRest_114 : decode cX6_readRest 114 = .ok (.putfield 62, 3) := by decide +kernel
theorem dX6_readRest_117 : decode cX6_readRest 117 = .ok (.return_, 1) := by decide +kernel
def X6_readRest_b104 (y0 : Nat) (w : Wd) : Option (Wd) :=
  lt (wI w y0 16 ((w.1 y0 16) ||| (w.1 y0 3))) fun w8 =>
  some w8
set_option maxRecDepth 100000 in
set_option maxHeartbeats 4000000 in
theorem t_X6_readRest_b104 {Z : Cz (Wd)} (hZ : OKZ Z SC cX6_readRest RX6 4 none 7) (hE : EndV Z)  (y0 : Nat) (hy0 : IsP y0) (w : Wd) : BW Z 4 104 [(0, .ref (ph (zY Z) y0))] [] w (X6_readRest_b104 y0 w) :=
  bw_aload_n hZ 0 rfl dX6_readRest_104 <|
  bw_dup hZ rfl dX6_readRest_105 <|
  bw_getI hZ fl_RX6_62 (by decide) (obP hy0) dX6_readRest_106 <|
  bw_aload_n hZ 0 rfl dX6_readRest_109 <|
  bw_getI hZ fl_RX6_37 (by decide) (obP hy0) dX6_readRest_110 <|
  bw_ior hZ dX6_readRest_113 <|
  bw_putI hZ fl_RX6_62 rfl rfl (by decide) (obP hy0) dX6_readRest_114 fun w8 =>
  bw_vret hZ hE dX6_readRest_117
def X6_readRest_b70 (k39 : Nat → Int32 → Wd → Option (Wd)) (y0 : Nat) (y3 : Int32) (w : Wd) : Option (Wd) :=
  cv (f_X10_step w) fun w13 =>
  cl (f_X10_known 34 8 (w13.1 y0 3) w13) fun r15 w14 =>
  cl (f_X6_bit r15 w14) fun r17 w16 =>
  lt (wI w16 y0 3 ((w13.1 y0 3) ||| r17)) fun w18 =>
  k39 y0 (y3 + 1) w18
set_option maxRecDepth 100000 in
set_option maxHeartbeats 4000000 in
theorem t_X6_readRest_b70 {Z : Cz (Wd)} (hZ : OKZ Z SC cX6_readRest RX6 4 none 7) (hE : EndV Z) (k39 : Nat → Int32 → Wd → Option (Wd)) (hk39 : ∀ (y0 : Nat) (y3 : Int32) (hy0 : IsP y0) (w : Wd), BW Z 4 39 [(0, .ref (ph (zY Z) y0)), (1, .ref (ph (zY Z) 1)), (2, .ref (ph (zY Z) 31)), (3, .int y3)] [] w (k39 y0 y3 w)) (y0 : Nat) (y3 : Int32) (hy0 : IsP y0) (w : Wd) : BW Z 4 70 [(0, .ref (ph (zY Z) y0)), (1, .ref (ph (zY Z) 1)), (2, .ref (ph (zY Z) 31)), (3, .int y3)] [] w (X6_readRest_b70 k39 y0 y3 w) :=
  bw_aload_n hZ 1 rfl dX6_readRest_70 <|
  bw_callVV (As := []) hZ ml_RX6_151 rc_10 obC_1 (by decide) (c_X10_step (zl Z) (zY Z) (hZ_S hZ) w) rfl rfl (Nat.le_of_ble_eq_true rfl) dX6_readRest_71 fun w13 =>
  bw_aload_n hZ 0 rfl dX6_readRest_74 <|
  bw_dup hZ rfl dX6_readRest_75 <|
  bw_getI hZ fl_RX6_37 (by decide) (obP hy0) dX6_readRest_76 <|
  bw_aload_n hZ 1 rfl dX6_readRest_79 <|
  bw_aload_n hZ 2 rfl dX6_readRest_80 <|
  bw_getR hZ fl_RX6_162 obC_31 rfl dX6_readRest_81 <|
  bw_aload_n hZ 0 rfl dX6_readRest_84 <|
  bw_getI hZ fl_RX6_37 (by decide) (obP hy0) dX6_readRest_85 <|
  bw_callVI (As := [.ref (ph (zY Z) 34), .int (w13.1 y0 3)]) hZ ml_RX6_168 rc_10 obC_1 (by decide) (c_X10_known (zl Z) (zY Z) (hZ_S hZ) 34 8 (w13.1 y0 3) isN34 w13) rfl rfl (Nat.le_of_ble_eq_true rfl) dX6_readRest_88 fun r15 w14 =>
  bw_callSI (As := [.int r15]) hZ ms_RX6_138 (by decide) (c_X6_bit (zl Z) (zY Z) (hZ_S hZ) r15 w14) rfl rfl (Nat.le_of_ble_eq_true rfl) dX6_readRest_91 fun r17 w16 =>
  bw_ior hZ dX6_readRest_94 <|
  bw_putI hZ fl_RX6_37 rfl rfl (by decide) (obP hy0) dX6_readRest_95 fun w18 =>
  bw_iinc hZ 1 3 rfl (by decide) (by decide) rfl dX6_readRest_98 <|
  bw_goto hZ (tgt := 39) (by decide) dX6_readRest_101 <|
  bw_sub [1, 2, 3, 0] rfl (hk39 y0 (y3 + 1) hy0 w18)
def X6_readRest_b39 (k39 : Nat → Int32 → Wd → Option (Wd)) (y0 : Nat) (y3 : Int32) (w : Wd) : Option (Wd) :=
  if 8 ≤ y3 then
  (X6_readRest_b104 y0 w)
  else
  cl (f_X10_is 42 w) fun r10 w9 =>
  if r10 = 0 then
  (X6_readRest_b104 y0 w9)
  else
  cl (f_J6_bitCount_0f7a4 (w9.1 y0 3) w9) fun r12 w11 =>
  if r12 < 4 then
  (X6_readRest_b70 k39 y0 y3 w11)
  else
  cv (f_X10_fail 4 w11) fun w19 =>
  X6_readRest_b70 k39 y0 y3 w19
set_option maxRecDepth 100000 in
set_option maxHeartbeats 4000000 in
theorem t_X6_readRest_b39 {Z : Cz (Wd)} (hZ : OKZ Z SC cX6_readRest RX6 4 none 7) (hE : EndV Z) (k39 : Nat → Int32 → Wd → Option (Wd)) (hk39 : ∀ (y0 : Nat) (y3 : Int32) (hy0 : IsP y0) (w : Wd), BW Z 4 39 [(0, .ref (ph (zY Z) y0)), (1, .ref (ph (zY Z) 1)), (2, .ref (ph (zY Z) 31)), (3, .int y3)] [] w (k39 y0 y3 w)) (y0 : Nat) (y3 : Int32) (hy0 : IsP y0) (w : Wd) : BW Z 4 39 [(0, .ref (ph (zY Z) y0)), (1, .ref (ph (zY Z) 1)), (2, .ref (ph (zY Z) 31)), (3, .int y3)] [] w (X6_readRest_b39 k39 y0 y3 w) :=
  bw_iload_n hZ 3 rfl dX6_readRest_39 <|
  bw_bipush hZ 8 (by decide) dX6_readRest_40 <|
  bw_icmp_ge hZ (tgt := 104) (by decide) dX6_readRest_42 (fun _ =>
  bw_sub [0] rfl (t_X6_readRest_b104 hZ hE y0 hy0 w)) (fun _ =>
  bw_aload_n hZ 1 rfl dX6_readRest_45 <|
  bw_ldcS hZ 45 rfl dX6_readRest_46 <|
  bw_callVI (As := [.ref (sK (zY Z) 42)]) hZ ml_RX6_89 rc_10 obC_1 (by decide) (c_X10_is (zl Z) (zY Z) (hZ_S hZ) 42 (by decide) w) rfl rfl (Nat.le_of_ble_eq_true rfl) dX6_readRest_48 fun r10 w9 =>
  bw_if_eq hZ (tgt := 104) (by decide) dX6_readRest_51 (fun _ =>
  bw_sub [0] rfl (t_X6_readRest_b104 hZ hE y0 hy0 w9)) (fun _ =>
  bw_aload_n hZ 0 rfl dX6_readRest_54 <|
  bw_getI hZ fl_RX6_37 (by decide) (obP hy0) dX6_readRest_55 <|
  bw_callSI (As := [.int (w9.1 y0 3)]) hZ ms_RX6_157 (by decide) (c_J6_bitCount_0f7a4 (zl Z) (zY Z) (hZ_S hZ) (w9.1 y0 3) w9) rfl rfl (Nat.le_of_ble_eq_true rfl) dX6_readRest_58 fun r12 w11 =>
  bw_iconst hZ 4 (by decide) dX6_readRest_61 <|
  bw_icmp_lt hZ (tgt := 70) (by decide) dX6_readRest_62 (fun _ =>
  bw_sub [0, 1, 2, 3] rfl (t_X6_readRest_b70 hZ hE k39 hk39 y0 y3 hy0 w11)) (fun _ =>
  bw_aload_n hZ 1 rfl dX6_readRest_65 <|
  bw_iconst hZ 4 (by decide) dX6_readRest_66 <|
  bw_callVV (As := [.int 4]) hZ ml_RX6_143 rc_10 obC_1 (by decide) (c_X10_fail (zl Z) (zY Z) (hZ_S hZ) 4 w11) rfl rfl (Nat.le_of_ble_eq_true rfl) dX6_readRest_67 fun w19 =>
  bw_sub [0, 1, 2, 3] rfl (t_X6_readRest_b70 hZ hE k39 hk39 y0 y3 hy0 w19))))
def X6_readRest_b39_L  : Nat → Int32 → Wd → Option (Wd) :=
  lp fu (fun _ _ _ => none) (fun k39 => X6_readRest_b39 k39)
theorem t_X6_readRest_b39_L {Z : Cz (Wd)} (hZ : OKZ Z SC cX6_readRest RX6 4 none 7) (hE : EndV Z)  : ∀ (y0 : Nat) (y3 : Int32) (hy0 : IsP y0) (w : Wd), BW Z 4 39 [(0, .ref (ph (zY Z) y0)), (1, .ref (ph (zY Z) 1)), (2, .ref (ph (zY Z) 31)), (3, .int y3)] [] w (X6_readRest_b39_L y0 y3 w) :=
  lp_bw (fun k39 => ∀ (y0 : Nat) (y3 : Int32) (hy0 : IsP y0) (w : Wd), BW Z 4 39 [(0, .ref (ph (zY Z) y0)), (1, .ref (ph (zY Z) 1)), (2, .ref (ph (zY Z) 31)), (3, .int y3)] [] w (k39 y0 y3 w)) (fun _ _ _ _ => bw_none) (fun k39 hk39 y0 y3 hy0 w => t_X6_readRest_b39 hZ hE k39 hk39 y0 y3 hy0 w) fu
def f_X6_readRest (o0 : Nat) (w : Wd) : Option (Wd) :=
  cv (f_X6_passOnce o0 16 w) fun w1 =>
  cv (f_X10_need 36 w1) fun w2 =>
  cl (f_X10_known 34 8 (w2.1 o0 3) w2) fun r4 w3 =>
  cl (f_X6_bit r4 w3) fun r6 w5 =>
  lt (wI w5 o0 3 ((w2.1 o0 3) ||| r6)) fun w7 =>
  X6_readRest_b39_L o0 0 w7
set_option maxRecDepth 100000 in
set_option maxHeartbeats 4000000 in
theorem t_X6_readRest {Z : Cz (Wd)} (hZ : OKZ Z SC cX6_readRest RX6 4 none 7) (hE : EndV Z) (o0 : Nat) (ho0 : IsP o0) (w : Wd) : BW Z 4 0 [(0, .ref (ph (zY Z) o0)), (1, .ref (ph (zY Z) 1)), (2, .ref (ph (zY Z) 31))] [] w (f_X6_readRest o0 w) :=
  bw_aload_n hZ 0 rfl dX6_readRest_0 <|
  bw_aload_n hZ 1 rfl dX6_readRest_1 <|
  bw_bipush hZ 16 (by decide) dX6_readRest_2 <|
  bw_callVV (As := [.ref (ph (zY Z) 1), .int 16]) hZ ml_RX6_99 rc_6 (obP ho0) (by decide) (c_X6_passOnce (zl Z) (zY Z) (hZ_S hZ) o0 16 ho0 w) rfl rfl (Nat.le_of_ble_eq_true rfl) dX6_readRest_4 fun w1 =>
  bw_aload_n hZ 1 rfl dX6_readRest_7 <|
  bw_ldcS hZ 38 rfl dX6_readRest_8 <|
  bw_callVV (As := [.ref (sK (zY Z) 36)]) hZ ml_RX6_175 rc_10 obC_1 (by decide) (c_X10_need (zl Z) (zY Z) (hZ_S hZ) 36 (by decide) w1) rfl rfl (Nat.le_of_ble_eq_true rfl) dX6_readRest_10 fun w2 =>
  bw_aload_n hZ 0 rfl dX6_readRest_13 <|
  bw_dup hZ rfl dX6_readRest_14 <|
  bw_getI hZ fl_RX6_37 (by decide) (obP ho0) dX6_readRest_15 <|
  bw_aload_n hZ 1 rfl dX6_readRest_18 <|
  bw_aload_n hZ 2 rfl dX6_readRest_19 <|
  bw_getR hZ fl_RX6_162 obC_31 rfl dX6_readRest_20 <|
  bw_aload_n hZ 0 rfl dX6_readRest_23 <|
  bw_getI hZ fl_RX6_37 (by decide) (obP ho0) dX6_readRest_24 <|
  bw_callVI (As := [.ref (ph (zY Z) 34), .int (w2.1 o0 3)]) hZ ml_RX6_168 rc_10 obC_1 (by decide) (c_X10_known (zl Z) (zY Z) (hZ_S hZ) 34 8 (w2.1 o0 3) isN34 w2) rfl rfl (Nat.le_of_ble_eq_true rfl) dX6_readRest_27 fun r4 w3 =>
  bw_callSI (As := [.int r4]) hZ ms_RX6_138 (by decide) (c_X6_bit (zl Z) (zY Z) (hZ_S hZ) r4 w3) rfl rfl (Nat.le_of_ble_eq_true rfl) dX6_readRest_30 fun r6 w5 =>
  bw_ior hZ dX6_readRest_33 <|
  bw_putI hZ fl_RX6_37 rfl rfl (by decide) (obP ho0) dX6_readRest_34 fun w7 =>
  bw_iconst hZ 0 (by decide) dX6_readRest_37 <|
  bw_istore_n hZ rfl (by decide) rfl dX6_readRest_38 <|
  bw_sub [1, 2, 3, 0] rfl (t_X6_readRest_b39_L hZ hE o0 0 ho0 w7)
theorem c_X6_readRest (l : Launch) (Y : Ev) (hY : Y.1 = SC) (o0 : Nat) (ho0 : IsP o0) (w : Wd) : CV l Y yX6_readRest cX6_readRest 4 7 [.ref (ph Y o0), .ref (ph Y 1), .ref (ph Y 31)] w (f_X6_readRest o0 w) := by
  refine CV_of (S := SC) (by decide) (Nat.le_of_ble_eq_true rfl) hY ?_
  intro Z hl hY2 hZ hE
  subst hY2
  exact t_X6_readRest hZ hE o0 ho0 w
-- WhichWill$Tape.paperNumber
theorem dX10_paperNumber_0 : decode cX10_paperNumber 0 = .ok (.aload_n 0, 1) := by decide +kernel
theorem dX10_paperNumber_1 : decode cX10_paperNumber 1 = .ok (.getfield 31, 3) := by decide +kernel
theorem dX10_paperNumber_4 : decode cX10_paperNumber 4 = .ok (.iconst 2, 1) := by decide +kernel
theorem dX10_paperNumber_5 : decode cX10_paperNumber 5 = .ok (.if_icmp .ne 27, 3) := by decide +kernel
theorem dX10_paperNumber_8 : decode cX10_paperNumber 8 = .ok (.aload_n 0, 1) := by decide +kernel
theorem dX10_paperNumber_9 : decode cX10_paperNumber 9 = .ok (.getfield 41, 3) := by decide +kernel
theorem dX10_paperNumber_12 : decode cX10_paperNumber 12 = .ok (.iload_n 1, 1) := by decide +kernel
theorem dX10_paperNumber_13 : decode cX10_paperNumber 13 = .ok (.if_icmp .ge 19, 3) := by decide +kernel
theorem dX10_paperNumber_16 : decode cX10_paperNumber 16 = .ok (.iload_n 2, 1) := by decide +kernel
theorem dX10_paperNumber_17 : decode cX10_paperNumber 17 = .ok (.aload_n 0, 1) := by decide +kernel
theorem dX10_paperNumber_18 : decode cX10_paperNumber 18 = .ok (.getfield 41, 3) := by decide +kernel
theorem dX10_paperNumber_21 : decode cX10_paperNumber 21 = .ok (.ishr, 1) := by decide +kernel
theorem dX10_paperNumber_22 : decode cX10_paperNumber 22 = .ok (.iconst 1, 1) := by decide +kernel
theorem dX10_paperNumber_23 : decode cX10_paperNumber 23 = .ok (.iand, 1) := by decide +kernel
theorem dX10_paperNumber_24 : decode cX10_paperNumber 24 = .ok (.ifCond .eq 8, 3) := by decide +kernel
theorem dX10_paperNumber_27 : decode cX10_paperNumber 27 = .ok (.aload_n 0, 1) := by decide +kernel
theorem dX10_paperNumber_28 : decode cX10_paperNumber 28 = .ok (.iconst 3, 1) := by decide +kernel
theorem dX10_paperNumber_29 : decode cX10_paperNumber 29 = .ok (.invokevirtual 57, 3) := by decide +kernel
theorem dX10_paperNumber_32 : decode cX10_paperNumber 32 = .ok (.aload_n 0, 1) := by decide +kernel
theorem dX10_paperNumber_33 : decode cX10_paperNumber 33 = .ok (.iconst 0, 1) := by decide +kernel
theorem dX10_paperNumber_34 : decode cX10_paperNumber 34 = .ok (.iload_n 1, 1) := by decide +kernel
theorem dX10_paperNumber_35 : decode cX10_paperNumber 35 = .ok (.iconst 1, 1) := by decide +kernel
theorem dX10_paperNumber_36 : decode cX10_paperNumber 36 = .ok (.isub, 1) := by decide +kernel
theorem dX10_paperNumber_37 : decode cX10_paperNumber 37 = .ok (.invokevirtual 61, 3) := by decide +kernel
theorem dX10_paperNumber_40 : decode cX10_paperNumber 40 = .ok (.istore_n 3, 1) := by decide +kernel
theorem dX10_paperNumber_41 : decode cX10_paperNumber 41 = .ok (.aload_n 0, 1) := by decide +kernel
theorem dX10_paperNumber_42 : decode cX10_paperNumber 42 = .ok (.invokevirtual 65, 3) := by decide +kernel
theorem dX10_paperNumber_45 : decode cX10_paperNumber 45 = .ok (.ifCond .eq 7, 3) := by decide +kernel
theorem dX10_paperNumber_48 : decode cX10_paperNumber 48 = .ok (.iconst (-1), 1) := by decide +kernel
theorem dX10_paperNumber_49 : decode cX10_paperNumber 49 = .ok (.goto 4, 3) := by decide +kernel
theorem dX10_paperNumber_52 : decode cX10_paperNumber 52 = .ok (.iload_n 3, 1) := by decide +kernel
theorem dX10_paperNumber_53 : decode cX10_paperNumber 53 = .ok (.ireturn, 1) := by decide +kernel
def X10_paperNumber_b32 (y1 : Int32) (w : Wd) : Option (Int32 × Wd) :=
  cl (f_X10_number 0 (y1 - 1) w) fun r2 w1 =>
  cl (f_X10_hasFailed w1) fun r4 w3 =>
  if r4 = 0 then
  (some (r2, w3))
  else
  some ((-1), w3)
set_option maxRecDepth 100000 in
set_option maxHeartbeats 4000000 in
theorem t_X10_paperNumber_b32 {Z : Cz (Int32 × Wd)} (hZ : OKZ Z SC cX10_paperNumber RX10 4 (some .int) 3) (hE : EndI Z)  (y1 : Int32)  (w : Wd) : BW Z 4 32 [(0, .ref (ph (zY Z) 1)), (1, .int y1)] [] w (X10_paperNumber_b32 y1 w) :=
  bw_aload_n hZ 0 rfl dX10_paperNumber_32 <|
  bw_iconst hZ 0 (by decide) dX10_paperNumber_33 <|
  bw_iload_n hZ 1 rfl dX10_paperNumber_34 <|
  bw_iconst hZ 1 (by decide) dX10_paperNumber_35 <|
  bw_isub hZ dX10_paperNumber_36 <|
  bw_callVI (As := [.int 0, .int (y1 - 1)]) hZ ml_RX10_61 rc_10 obC_1 (by decide) (c_X10_number (zl Z) (zY Z) (hZ_S hZ) 0 (y1 - 1) w) rfl rfl (Nat.le_of_ble_eq_true rfl) dX10_paperNumber_37 fun r2 w1 =>
  bw_istore_n hZ rfl (by decide) rfl dX10_paperNumber_40 <|
  bw_aload_n hZ 1 rfl dX10_paperNumber_41 <|
  bw_callVI (As := []) hZ ml_RX10_65 rc_10 obC_1 (by decide) (c_X10_hasFailed (zl Z) (zY Z) (hZ_S hZ) w1) rfl rfl (Nat.le_of_ble_eq_true rfl) dX10_paperNumber_42 fun r4 w3 =>
  bw_if_eq hZ (tgt := 52) (by decide) dX10_paperNumber_45 (fun _ =>
  bw_iload_n hZ 0 rfl dX10_paperNumber_52 <|
  bw_iret hZ hE dX10_paperNumber_53) (fun _ =>
  bw_iconst hZ (-1) (by decide) dX10_paperNumber_48 <|
  bw_goto hZ (tgt := 53) (by decide) dX10_paperNumber_49 <|
  bw_iret hZ hE dX10_paperNumber_53)
def f_X10_paperNumber (x1 : Int32) (x2 : Int32) (w : Wd) : Option (Int32 × Wd) :=
  if (w.1 1 2) = 2 then
  (if x1 ≤ (w.1 1 6) then
  (X10_paperNumber_b32 x1 w)
  else
  if ((x2 >>> ((w.1 1 6) &&& 31)) &&& 1) = 0 then
  (X10_paperNumber_b32 x1 w)
  else
  cv (f_X10_fail 3 w) fun w5 =>
  X10_paperNumber_b32 x1 w5)
  else
  X10_paperNumber_b32 x1 w
set_option maxRecDepth 100000 in
set_option maxHeartbeats 4000000 in
theorem t_X10_paperNumber {Z : Cz (Int32 × Wd)} (hZ : OKZ Z SC cX10_paperNumber RX10 4 (some .int) 3) (hE : EndI Z) (x1 : Int32) (x2 : Int32)  (w : Wd) : BW Z 4 0 [(0, .ref (ph (zY Z) 1)), (1, .int x1), (2, .int x2)] [] w (f_X10_paperNumber x1 x2 w) :=
  bw_aload_n hZ 0 rfl dX10_paperNumber_0 <|
  bw_getI hZ fl_RX10_31 (by decide) obC_1 dX10_paperNumber_1 <|
  bw_iconst hZ 2 (by decide) dX10_paperNumber_4 <|
  bw_icmp_ne hZ (tgt := 32) (by decide) dX10_paperNumber_5 (fun _ =>
  bw_sub [0, 1] rfl (t_X10_paperNumber_b32 hZ hE x1 w)) (fun _ =>
  bw_aload_n hZ 0 rfl dX10_paperNumber_8 <|
  bw_getI hZ fl_RX10_41 (by decide) obC_1 dX10_paperNumber_9 <|
  bw_iload_n hZ 1 rfl dX10_paperNumber_12 <|
  bw_icmp_ge hZ (tgt := 32) (by decide) dX10_paperNumber_13 (fun _ =>
  bw_sub [0, 1] rfl (t_X10_paperNumber_b32 hZ hE x1 w)) (fun _ =>
  bw_iload_n hZ 2 rfl dX10_paperNumber_16 <|
  bw_aload_n hZ 0 rfl dX10_paperNumber_17 <|
  bw_getI hZ fl_RX10_41 (by decide) obC_1 dX10_paperNumber_18 <|
  bw_ishr hZ dX10_paperNumber_21 <|
  bw_iconst hZ 1 (by decide) dX10_paperNumber_22 <|
  bw_iand hZ dX10_paperNumber_23 <|
  bw_if_eq hZ (tgt := 32) (by decide) dX10_paperNumber_24 (fun _ =>
  bw_sub [0, 1] rfl (t_X10_paperNumber_b32 hZ hE x1 w)) (fun _ =>
  bw_aload_n hZ 0 rfl dX10_paperNumber_27 <|
  bw_iconst hZ 3 (by decide) dX10_paperNumber_28 <|
  bw_callVV (As := [.int 3]) hZ ml_RX10_57 rc_10 obC_1 (by decide) (c_X10_fail (zl Z) (zY Z) (hZ_S hZ) 3 w) rfl rfl (Nat.le_of_ble_eq_true rfl) dX10_paperNumber_29 fun w5 =>
  bw_sub [0, 1] rfl (t_X10_paperNumber_b32 hZ hE x1 w5))))
theorem c_X10_paperNumber (l : Launch) (Y : Ev) (hY : Y.1 = SC) (x1 : Int32) (x2 : Int32)  (w : Wd) : CI l Y yX10_paperNumber cX10_paperNumber 4 3 [.ref (ph Y 1), .int x1, .int x2] w .int (f_X10_paperNumber x1 x2 w) := by
  refine CI_of (S := SC) (by decide) (Nat.le_of_ble_eq_true rfl) hY ?_
  intro Z hl hY2 hZ hE
  subst hY2
  exact t_X10_paperNumber hZ hE x1 x2 w
-- WhichWill$Paper.readUndo
theorem dX6_readUndo_0 : decode cX6_readUndo 0 = .ok (.aload_n 1, 1) := by decide +kernel
theorem dX6_readUndo_1 : decode cX6_readUndo 1 = .ok (.ldc 197, 2) := by decide +kernel
theorem dX6_readUndo_3 : decode cX6_readUndo 3 = .ok (.invokevirtual 126, 3) := by decide +kernel
theorem dX6_readUndo_6 : decode cX6_readUndo 6 = .ok (.ifCond .eq 27, 3) := by decide +kernel
theorem dX6_readUndo_9 : decode cX6_readUndo 9 = .ok (.aload_n 0, 1) := by decide +kernel
theorem dX6_readUndo_10 : decode cX6_readUndo 10 = .ok (.dup, 1) := by decide +kernel
theorem dX6_readUndo_11 : decode cX6_readUndo 11 = .ok (.getfield 44, 3) := by decide +kernel
theorem dX6_readUndo_14 : decode cX6_readUndo 14 = .ok (.aload_n 1, 1) := by decide +kernel
theorem dX6_readUndo_15 : decode cX6_readUndo 15 = .ok (.iload_n 2, 1) := by decide +kernel
theorem dX6_readUndo_16 : decode cX6_readUndo 16 = .ok (.aload_n 0, 1) := by decide +kernel
theorem dX6_readUndo_17 : decode cX6_readUndo 17 = .ok (.getfield 44, 3) := by decide +kernel
theorem dX6_readUndo_20 : decode cX6_readUndo 20 = .ok (.invokevirtual 134, 3) := by decide +kernel
theorem dX6_readUndo_23 : decode cX6_readUndo 23 = .ok (.invokestatic 138, 3) := by decide +kernel
theorem dX6_readUndo_26 : decode cX6_readUndo 26 = .ok (.ior, 1) := by decide +kernel
theorem dX6_readUndo_27 : decode cX6_readUndo 27 = .ok (.putfield 44, 3) := by decide +kernel
theorem dX6_readUndo_30 : decode cX6_readUndo 30 = .ok (.goto 8, 3) := by decide +kernel
theorem dX6_readUndo_33 : decode cX6_readUndo 33 = .ok (.aload_n 0, 1) := by decide +kernel
theorem dX6_readUndo_34 : decode cX6_readUndo 34 = .ok (.iconst 1, 1) := by decide +kernel
theorem dX6_readUndo_35 : decode cX6_readUndo 35 = .ok (.putfield 40, 3) := by decide +kernel
theorem dX6_readUndo_38 : decode cX6_readUndo 38 = .ok (.return_, 1) := by decide +kernel
def f_X6_readUndo (o0 : Nat) (x2 : Int32) (w : Wd) : Option (Wd) :=
  cl (f_X10_passes 44 w) fun r2 w1 =>
  if r2 = 0 then
  (lt (wI w1 o0 4 1) fun w3 =>
  some w3)
  else
  cl (f_X10_paperNumber x2 (w1.1 o0 5) w1) fun r5 w4 =>
  cl (f_X6_bit r5 w4) fun r7 w6 =>
  lt (wI w6 o0 5 ((w1.1 o0 5) ||| r7)) fun w8 =>
  some w8
set_option maxRecDepth 100000 in
set_option maxHeartbeats 4000000 in
theorem t_X6_readUndo {Z : Cz (Wd)} (hZ : OKZ Z SC cX6_readUndo RX6 3 none 7) (hE : EndV Z) (o0 : Nat) (x2 : Int32) (ho0 : IsP o0) (w : Wd) : BW Z 3 0 [(0, .ref (ph (zY Z) o0)), (1, .ref (ph (zY Z) 1)), (2, .int x2)] [] w (f_X6_readUndo o0 x2 w) :=
  bw_aload_n hZ 1 rfl dX6_readUndo_0 <|
  bw_ldcS hZ 47 rfl dX6_readUndo_1 <|
  bw_callVI (As := [.ref (sK (zY Z) 44)]) hZ ml_RX6_126 rc_10 obC_1 (by decide) (c_X10_passes (zl Z) (zY Z) (hZ_S hZ) 44 (by decide) w) rfl rfl (Nat.le_of_ble_eq_true rfl) dX6_readUndo_3 fun r2 w1 =>
  bw_if_eq hZ (tgt := 33) (by decide) dX6_readUndo_6 (fun _ =>
  bw_aload_n hZ 0 rfl dX6_readUndo_33 <|
  bw_iconst hZ 1 (by decide) dX6_readUndo_34 <|
  bw_putI hZ fl_RX6_40 rfl rfl (by decide) (obP ho0) dX6_readUndo_35 fun w3 =>
  bw_vret hZ hE dX6_readUndo_38) (fun _ =>
  bw_aload_n hZ 0 rfl dX6_readUndo_9 <|
  bw_dup hZ rfl dX6_readUndo_10 <|
  bw_getI hZ fl_RX6_44 (by decide) (obP ho0) dX6_readUndo_11 <|
  bw_aload_n hZ 1 rfl dX6_readUndo_14 <|
  bw_iload_n hZ 2 rfl dX6_readUndo_15 <|
  bw_aload_n hZ 0 rfl dX6_readUndo_16 <|
  bw_getI hZ fl_RX6_44 (by decide) (obP ho0) dX6_readUndo_17 <|
  bw_callVI (As := [.int x2, .int (w1.1 o0 5)]) hZ ml_RX6_134 rc_10 obC_1 (by decide) (c_X10_paperNumber (zl Z) (zY Z) (hZ_S hZ) x2 (w1.1 o0 5) w1) rfl rfl (Nat.le_of_ble_eq_true rfl) dX6_readUndo_20 fun r5 w4 =>
  bw_callSI (As := [.int r5]) hZ ms_RX6_138 (by decide) (c_X6_bit (zl Z) (zY Z) (hZ_S hZ) r5 w4) rfl rfl (Nat.le_of_ble_eq_true rfl) dX6_readUndo_23 fun r7 w6 =>
  bw_ior hZ dX6_readUndo_26 <|
  bw_putI hZ fl_RX6_44 rfl rfl (by decide) (obP ho0) dX6_readUndo_27 fun w8 =>
  bw_goto hZ (tgt := 38) (by decide) dX6_readUndo_30 <|
  bw_vret hZ hE dX6_readUndo_38)
theorem c_X6_readUndo (l : Launch) (Y : Ev) (hY : Y.1 = SC) (o0 : Nat) (x2 : Int32) (ho0 : IsP o0) (w : Wd) : CV l Y yX6_readUndo cX6_readUndo 3 7 [.ref (ph Y o0), .ref (ph Y 1), .int x2] w (f_X6_readUndo o0 x2 w) := by
  refine CV_of (S := SC) (by decide) (Nat.le_of_ble_eq_true rfl) hY ?_
  intro Z hl hY2 hZ hE
  subst hY2
  exact t_X6_readUndo hZ hE o0 x2 ho0 w
-- WhichWill$Paper.readWitness
theorem dX6_readWitness_0 : decode cX6_readWitness 0 = .ok (.aload_n 0, 1) := by decide +kernel
theorem dX6_readWitness_1 : decode cX6_readWitness 1 = .ok (.getfield 34, 3) := by decide +kernel
theorem dX6_readWitness_4 : decode cX6_readWitness 4 = .ok (.invokestatic 157, 3) := by decide +kernel
theorem dX6_readWitness_7 : decode cX6_readWitness 7 = .ok (.iconst 3, 1) := by decide +kernel
theorem dX6_readWitness_8 : decode cX6_readWitness 8 = .ok (.if_icmp .lt 8, 3) := by decide +kernel
theorem dX6_readWitness_11 : decode cX6_readWitness 11 = .ok (.aload_n 1, 1) := by decide +kernel
theorem dX6_readWitness_12 : decode cX6_readWitness 12 = .ok (.iconst 4, 1) := by decide +kernel
theorem dX6_readWitness_13 : decode cX6_readWitness 13 = .ok (.invokevirtual 143, 3) := by decide +kernel
theorem dX6_readWitness_16 : decode cX6_readWitness 16 = .ok (.aload_n 1, 1) := by decide +kernel
theorem dX6_readWitness_17 : decode cX6_readWitness 17 = .ok (.invokevirtual 151, 3) := by decide +kernel
theorem dX6_readWitness_20 : decode cX6_readWitness 20 = .ok (.aload_n 0, 1) := by decide +kernel
theorem dX6_readWitness_21 : decode cX6_readWitness 21 = .ok (.dup, 1) := by decide +kernel
theorem dX6_readWitness_22 : decode cX6_readWitness 22 = .ok (.getfield 34, 3) := by decide +kernel
theorem dX6_readWitness_25 : decode cX6_readWitness 25 = .ok (.aload_n 1, 1) := by decide +kernel
theorem dX6_readWitness_26 : decode cX6_readWitness 26 = .ok (.aload_n 2, 1) := by decide +kernel
theorem dX6_readWitness_27 : decode cX6_readWitness 27 = .ok (.getfield 162, 3) := by decide +kernel
theorem dX6_readWitness_30 : decode cX6_readWitness 30 = .ok (.aload_n 0, 1) := by decide +kernel
theorem dX6_readWitness_31 : decode cX6_readWitness 31 = .ok (.getfield 34, 3) := by decide +kernel
theorem dX6_readWitness_34 : decode cX6_readWitness 34 = .ok (.invokevirtual 168, 3) := by decide +kernel
theorem dX6_readWitness_37 : decode cX6_readWitness 37 = .ok (.invokestatic 138, 3) := by decide +kernel
theorem dX6_readWitness_40 : decode cX6_readWitness 40 = .ok (.ior, 1) := by decide +kernel
theorem dX6_readWitness_41 : decode cX6_readWitness 41 = .ok (.putfield 34, 3) := by decide +kernel
theorem dX6_readWitness_44 : decode cX6_readWitness 44 = .ok (.return_, 1) := by decide +kernel
def X6_readWitness_b16 (y0 : Nat) (w : Wd) : Option (Wd) :=
  cv (f_X10_step w) fun w3 =>
  cl (f_X10_known 34 8 (w3.1 y0 2) w3) fun r5 w4 =>
  cl (f_X6_bit r5 w4) fun r7 w6 =>
  lt (wI w6 y0 2 ((w3.1 y0 2) ||| r7)) fun w8 =>
  some w8
set_option maxRecDepth 100000 in
set_option maxHeartbeats 4000000 in
theorem t_X6_readWitness_b16 {Z : Cz (Wd)} (hZ : OKZ Z SC cX6_readWitness RX6 3 none 3) (hE : EndV Z)  (y0 : Nat) (hy0 : IsP y0) (w : Wd) : BW Z 3 16 [(0, .ref (ph (zY Z) y0)), (1, .ref (ph (zY Z) 1)), (2, .ref (ph (zY Z) 31))] [] w (X6_readWitness_b16 y0 w) :=
  bw_aload_n hZ 1 rfl dX6_readWitness_16 <|
  bw_callVV (As := []) hZ ml_RX6_151 rc_10 obC_1 (by decide) (c_X10_step (zl Z) (zY Z) (hZ_S hZ) w) rfl rfl (Nat.le_of_ble_eq_true rfl) dX6_readWitness_17 fun w3 =>
  bw_aload_n hZ 0 rfl dX6_readWitness_20 <|
  bw_dup hZ rfl dX6_readWitness_21 <|
  bw_getI hZ fl_RX6_34 (by decide) (obP hy0) dX6_readWitness_22 <|
  bw_aload_n hZ 1 rfl dX6_readWitness_25 <|
  bw_aload_n hZ 2 rfl dX6_readWitness_26 <|
  bw_getR hZ fl_RX6_162 obC_31 rfl dX6_readWitness_27 <|
  bw_aload_n hZ 0 rfl dX6_readWitness_30 <|
  bw_getI hZ fl_RX6_34 (by decide) (obP hy0) dX6_readWitness_31 <|
  bw_callVI (As := [.ref (ph (zY Z) 34), .int (w3.1 y0 2)]) hZ ml_RX6_168 rc_10 obC_1 (by decide) (c_X10_known (zl Z) (zY Z) (hZ_S hZ) 34 8 (w3.1 y0 2) isN34 w3) rfl rfl (Nat.le_of_ble_eq_true rfl) dX6_readWitness_34 fun r5 w4 =>
  bw_callSI (As := [.int r5]) hZ ms_RX6_138 (by decide) (c_X6_bit (zl Z) (zY Z) (hZ_S hZ) r5 w4) rfl rfl (Nat.le_of_ble_eq_true rfl) dX6_readWitness_37 fun r7 w6 =>
  bw_ior hZ dX6_readWitness_40 <|
  bw_putI hZ fl_RX6_34 rfl rfl (by decide) (obP hy0) dX6_readWitness_41 fun w8 =>
  bw_vret hZ hE dX6_readWitness_44
def f_X6_readWitness (o0 : Nat) (w : Wd) : Option (Wd) :=
  cl (f_J6_bitCount_0f7a4 (w.1 o0 2) w) fun r2 w1 =>
  if r2 < 3 then
  (X6_readWitness_b16 o0 w1)
  else
  cv (f_X10_fail 4 w1) fun w9 =>
  X6_readWitness_b16 o0 w9
set_option maxRecDepth 100000 in
set_option maxHeartbeats 4000000 in
theorem t_X6_readWitness {Z : Cz (Wd)} (hZ : OKZ Z SC cX6_readWitness RX6 3 none 3) (hE : EndV Z) (o0 : Nat) (ho0 : IsP o0) (w : Wd) : BW Z 3 0 [(0, .ref (ph (zY Z) o0)), (1, .ref (ph (zY Z) 1)), (2, .ref (ph (zY Z) 31))] [] w (f_X6_readWitness o0 w) :=
  bw_aload_n hZ 0 rfl dX6_readWitness_0 <|
  bw_getI hZ fl_RX6_34 (by decide) (obP ho0) dX6_readWitness_1 <|
  bw_callSI (As := [.int (w.1 o0 2)]) hZ ms_RX6_157 (by decide) (c_J6_bitCount_0f7a4 (zl Z) (zY Z) (hZ_S hZ) (w.1 o0 2) w) rfl rfl (Nat.le_of_ble_eq_true rfl) dX6_readWitness_4 fun r2 w1 =>
  bw_iconst hZ 3 (by decide) dX6_readWitness_7 <|
  bw_icmp_lt hZ (tgt := 16) (by decide) dX6_readWitness_8 (fun _ =>
  bw_sub [0, 1, 2] rfl (t_X6_readWitness_b16 hZ hE o0 ho0 w1)) (fun _ =>
  bw_aload_n hZ 1 rfl dX6_readWitness_11 <|
  bw_iconst hZ 4 (by decide) dX6_readWitness_12 <|
  bw_callVV (As := [.int 4]) hZ ml_RX6_143 rc_10 obC_1 (by decide) (c_X10_fail (zl Z) (zY Z) (hZ_S hZ) 4 w1) rfl rfl (Nat.le_of_ble_eq_true rfl) dX6_readWitness_13 fun w9 =>
  bw_sub [0, 1, 2] rfl (t_X6_readWitness_b16 hZ hE o0 ho0 w9))
theorem c_X6_readWitness (l : Launch) (Y : Ev) (hY : Y.1 = SC) (o0 : Nat) (ho0 : IsP o0) (w : Wd) : CV l Y yX6_readWitness cX6_readWitness 3 3 [.ref (ph Y o0), .ref (ph Y 1), .ref (ph Y 31)] w (f_X6_readWitness o0 w) := by
  refine CV_of (S := SC) (by decide) (Nat.le_of_ble_eq_true rfl) hY ?_
  intro Z hl hY2 hZ hE
  subst hY2
  exact t_X6_readWitness hZ hE o0 ho0 w
-- WhichWill$Paper.readClause
theorem dX6_readClause_0 : decode cX6_readClause 0 = .ok (.aload_n 1, 1) := by decide +kernel
theorem dX6_readClause_1 : decode cX6_readClause 1 = .ok (.ldc 87, 2) := by decide +kernel
theorem dX6_readClause_3 : decode cX6_readClause 3 = .ok (.invokevirtual 89, 3) := by decide +kernel
theorem dX6_readClause_6 : decode cX6_readClause 6 = .ok (.ifCond .eq 11, 3) := by decide +kernel
theorem dX6_readClause_9 : decode cX6_readClause 9 = .ok (.aload_n 0, 1) := by decide +kernel
theorem dX6_readClause_10 : decode cX6_readClause 10 = .ok (.aload_n 1, 1) := by decide +kernel
theorem dX6_readClause_11 : decode cX6_readClause 11 = .ok (.invokevirtual 93, 3) := by decide +kernel
theorem dX6_readClause_14 : decode cX6_readClause 14 = .ok (.goto 205, 3) := by decide +kernel
theorem dX6_readClause_17 : decode cX6_readClause 17 = .ok (.aload_n 1, 1) := by decide +kernel
theorem dX6_readClause_18 : decode cX6_readClause 18 = .ok (.ldc 97, 2) := by decide +kernel
theorem dX6_readClause_20 : decode cX6_readClause 20 = .ok (.invokevirtual 89, 3) := by decide +kernel
theorem dX6_readClause_23 : decode cX6_readClause 23 = .ok (.ifCond .eq 12, 3) := by decide +kernel
theorem dX6_readClause_26 : decode cX6_readClause 26 = .ok (.aload_n 0, 1) := by decide +kernel
theorem dX6_readClause_27 : decode cX6_readClause 27 = .ok (.aload_n 1, 1) := by decide +kernel
theorem dX6_readClause_28 : decode cX6_readClause 28 = .ok (.iconst 1, 1) := by decide +kernel
theorem dX6_readClause_29 : decode cX6_readClause 29 = .ok (.invokevirtual 99, 3) := by decide +kernel
theorem dX6_readClause_32 : decode cX6_readClause 32 = .ok (.goto 187, 3) := by decide +kernel
theorem dX6_readClause_35 : decode cX6_readClause 35 = .ok (.aload_n 1, 1) := by decide +kernel
theorem dX6_readClause_36 : decode cX6_readClause 36 = .ok (.ldc 103, 2) := by decide +kernel
theorem dX6_readClause_38 : decode cX6_readClause 38 = .ok (.invokevirtual 89, 3) := by decide +kernel
theorem dX6_readClause_41 : decode cX6_readClause 41 = .ok (.ifCond .eq 12, 3) := by decide +kernel
theorem dX6_readClause_44 : decode cX6_readClause 44 = .ok (.aload_n 0, 1) := by decide +kernel
theorem dX6_readClause_45 : decode cX6_readClause 45 = .ok (.aload_n 1, 1) := by decide +kernel
theorem dX6_readClause_46 : decode cX6_readClause 46 = .ok (.iconst 2, 1) := by decide +kernel
theorem dX6_readClause_47 : decode cX6_readClause 47 = .ok (.invokevirtual 99, 3) := by decide +kernel
theorem dX6_readClause_50 : decode cX6_readClause 50 = .ok (.goto 169, 3) := by decide +kernel
theorem dX6_readClause_53 : decode cX6_readClause 53 = .ok (.aload_n 1, 1) := by decide +kernel
theorem dX6_readClause_54 : decode cX6_readClause 54 = .ok (.ldc 105, 2) := by decide +kernel
theorem dX6_readClause_56 : decode cX6_readClause 56 = .ok (.invokevirtual 89, 3) := by decide +kernel
theorem dX6_readClause_59 : decode cX6_readClause 59 = .ok (.ifCond .eq 12, 3) := by decide +kernel
theorem dX6_readClause_62 : decode cX6_readClause 62 = .ok (.aload_n 0, 1) := by decide +kernel
theorem dX6_readClause_63 : decode cX6_readClause 63 = .ok (.aload_n 1, 1) := by decide +kernel
theorem dX6_readClause_64 : decode cX6_readClause 64 = .ok (.iconst 4, 1) := by decide +kernel
theorem dX6_readClause_65 : decode cX6_readClause 65 = .ok (.invokevirtual 99, 3) := by decide +kernel
theorem dX6_readClause_68 : decode cX6_readClause 68 = .ok (.goto 151, 3) := by decide +kernel
theorem dX6_readClause_71 : decode cX6_readClause 71 = .ok (.aload_n 1, 1) := by decide +kernel
theorem dX6_readClause_72 : decode cX6_readClause 72 = .ok (.ldc 107, 2) := by decide +kernel
theorem dX6_readClause_74 : decode cX6_readClause 74 = .ok (.invokevirtual 89, 3) := by decide +kernel
theorem dX6_readClause_77 : decode cX6_readClause 77 = .ok (.ifCond .eq 12, 3) := by decide +kernel
theorem dX6_readClause_80 : decode cX6_readClause 80 = .ok (.aload_n 0, 1) := by decide +kernel
theorem dX6_readClause_81 : decode cX6_readClause 81 = .ok (.aload_n 1, 1) := by decide +kernel
theorem dX6_readClause_82 : decode cX6_readClause 82 = .ok (.aload_n 2, 1) := by decide +kernel
theorem dX6_readClause_83 : decode cX6_readClause 83 = .ok (.invokevirtual 109, 3) := by decide +kernel
theorem dX6_readClause_86 : decode cX6_readClause 86 = .ok (.goto 133, 3) := by decide +kernel
theorem dX6_readClause_89 : decode cX6_readClause 89 = .ok (.aload_n 1, 1) := by decide +kernel
theorem dX6_readClause_90 : decode cX6_readClause 90 = .ok (.ldc 113, 2) := by decide +kernel
theorem dX6_readClause_92 : decode cX6_readClause 92 = .ok (.invokevirtual 89, 3) := by decide +kernel
theorem dX6_readClause_95 : decode cX6_readClause 95 = .ok (.ifCond .ne 12, 3) := by decide +kernel
theorem dX6_readClause_98 : decode cX6_readClause 98 = .ok (.aload_n 1, 1) := by decide +kernel
theorem dX6_readClause_99 : decode cX6_readClause 99 = .ok (.ldc 115, 2) := by decide +kernel
theorem dX6_readClause_101 : decode cX6_readClause 101 = .ok (.invokevirtual 89, 3) := by decide +kernel
theorem dX6_readClause_104 : decode cX6_readClause 104 = .ok (.ifCond .eq 12, 3) := by decide +kernel
theorem dX6_readClause_107 : decode cX6_readClause 107 = .ok (.aload_n 0, 1) := by decide +kernel
theorem dX6_readClause_108 : decode cX6_readClause 108 = .ok (.aload_n 1, 1) := by decide +kernel
theorem dX6_readClause_109 : decode cX6_readClause 109 = .ok (.aload_n 2, 1) := by decide +kernel
theorem dX6_readClause_110 : decode cX6_readClause 110 = .ok (.invokevirtual 117, 3) := by decide +kernel
theorem dX6_readClause_113 : decode cX6_readClause 113 = .ok (.goto 106, 3) := by decide +kernel
theorem dX6_readClause_116 : decode cX6_readClause 116 = .ok (.aload_n 1, 1) := by decide +kernel
theorem dX6_readClause_117 : decode cX6_readClause 117 = .ok (.ldc 120, 2) := by decide +kernel
theorem dX6_readClause_119 : decode cX6_readClause 119 = .ok (.invokevirtual 89, 3) := by decide +kernel
theorem dX6_readClause_122 : decode cX6_readClause 122 = .ok (.ifCond .eq 12, 3) := by decide +kernel
theorem dX6_readClause_125 : decode cX6_readClause 125 = .ok (.aload_n 0, 1) := by decide +kernel
theorem dX6_readClause_126 : decode cX6_readClause 126 = .ok (.aload_n 1, 1) := by decide +kernel
theorem dX6_readClause_127 : decode cX6_readClause 127 = .ok (.aload_n 2, 1) := by decide +kernel
theorem dX6_readClause_128 : decode cX6_readClause 128 = .ok (.invokevirtual 121, 3) := by decide +kernel
theorem dX6_readClause_131 : decode cX6_readClause 131 = .ok (.goto 88, 3) := by decide +kernel
theorem dX6_readClause_134 : decode cX6_readClause 134 = .ok (.aload_n 1, 1) := by decide +kernel
theorem dX6_readClause_135 : decode cX6_readClause 135 = .ok (.ldc 124, 2) := by decide +kernel
theorem dX6_readClause_137 : decode cX6_readClause 137 = .ok (.invokevirtual 126, 3) := by decide +kernel
theorem dX6_readClause_140 : decode cX6_readClause 140 = .ok (.ifCond .eq 12, 3) := by decide +kernel
theorem dX6_readClause_143 : decode cX6_readClause 143 = .ok (.aload_n 0, 1) := by decide +kernel
theorem dX6_readClause_144 : decode cX6_readClause 144 = .ok (.aload_n 1, 1) := by decide +kernel
theorem dX6_readClause_145 : decode cX6_readClause 145 = .ok (.iload_n 3, 1) := by decide +kernel
theorem dX6_readClause_146 : decode cX6_readClause 146 = .ok (.invokevirtual 129, 3) := by decide +kernel
theorem dX6_readClause_149 : decode cX6_readClause 149 = .ok (.goto 70, 3) := by decide +kernel
theorem dX6_readClause_152 : decode cX6_readClause 152 = .ok (.aload_n 1, 1) := by decide +kernel
theorem dX6_readClause_153 : decode cX6_readClause 153 = .ok (.ldc 132, 2) := by decide +kernel
theorem dX6_readClause_155 : decode cX6_readClause 155 = .ok (.invokevirtual 126, 3) := by decide +kernel
theorem dX6_readClause_158 : decode cX6_readClause 158 = .ok (.ifCond .eq 27, 3) := by decide +kernel
theorem dX6_readClause_161 : decode cX6_readClause 161 = .ok (.aload_n 0, 1) := by decide +kernel
theorem dX6_readClause_162 : decode cX6_readClause 162 = .ok (.dup, 1) := by decide +kernel
theorem dX6_readClause_163 : decode cX6_readClause 163 = .ok (.getfield 47, 3) := by decide +kernel
theorem dX6_readClause_166 : decode cX6_readClause 166 = .ok (.aload_n 1, 1) := by decide +kernel
theorem dX6_readClause_167 : decode cX6_readClause 167 = .ok (.iload_n 3, 1) := by decide +kernel
theorem dX6_readClause_168 : decode cX6_readClause 168 = .ok (.aload_n 0, 1) := by decide +kernel
theorem dX6_readClause_169 : decode cX6_readClause 169 = .ok (.getfield 47, 3) := by decide +kernel
theorem dX6_readClause_172 : decode cX6_readClause 172 = .ok (.invokevirtual 134, 3) := by decide +kernel
theorem dX6_readClause_175 : decode cX6_readClause 175 = .ok (.invokestatic 138, 3) := by decide +kernel
theorem dX6_readClause_178 : decode cX6_readClause 178 = .ok (.ior, 1) := by decide +kernel
theorem dX6_readClause_179 : decode cX6_readClause 179 = .ok (.putfield 47, 3) := by decide +kernel
theorem dX6_readClause_182 : decode cX6_readClause 182 = .ok (.goto 37, 3) := by decide +kernel
theorem dX6_readClause_185 : decode cX6_readClause 185 = .ok (.aload_n 1, 1) := by decide +kernel
theorem dX6_readClause_186 : decode cX6_readClause 186 = .ok (.ldc 142, 2) := by decide +kernel
theorem dX6_readClause_188 : decode cX6_readClause 188 = .ok (.invokevirtual 89, 3) := by decide +kernel
theorem dX6_readClause_191 : decode cX6_readClause 191 = .ok (.ifCond .eq 23, 3) := by decide +kernel
theorem dX6_readClause_194 : decode cX6_readClause 194 = .ok (.aload_n 0, 1) := by decide +kernel
theorem dX6_readClause_195 : decode cX6_readClause 195 = .ok (.aload_n 1, 1) := by decide +kernel
theorem dX6_readClause_196 : decode cX6_readClause 196 = .ok (.bipush 32, 2) := by decide +kernel
theorem dX6_readClause_198 : decode cX6_readClause 198 = .ok (.invokevirtual 99, 3) := by decide +kernel
theorem dX6_readClause_201 : decode cX6_readClause 201 = .ok (.aload_n 0, 1) := by decide +kernel
theorem dX6_readClause_202 : decode cX6_readClause 202 = .ok (.aload_n 1, 1) := by decide +kernel
theorem dX6_readClause_203 : decode cX6_readClause 203 = .ok (.iload_n 3, 1) := by decide +kernel
theorem dX6_readClause_204 : decode cX6_readClause 204 = .ok (.iconst 0, 1) := by decide +kernel
theorem dX6_readClause_205 : decode cX6_readClause 205 = .ok (.invokevirtual 134, 3) := by decide +kernel
theorem dX6_readClause_208 : decode cX6_readClause 208 = .ok (.putfield 50, 3) := by decide +kernel
theorem dX6_readClause_211 : decode cX6_readClause 211 = .ok (.goto 8, 3) := by decide +kernel
theorem dX6_readClause_214 : decode cX6_readClause 214 = .ok (.aload_n 1, 1) := by decide +kernel
theorem dX6_readClause_215 : decode cX6_readClause 215 = .ok (.iconst 1, 1) := by decide +kernel
theorem dX6_readClause_216 : decode cX6_readClause 216 = .ok (.invokevirtual 143, 3) := by decide +kernel
theorem dX6_readClause_219 : decode cX6_readClause 219 = .ok (.return_, 1) := by decide +kernel
def X6_readClause_b107 (y0 : Nat) (w : Wd) : Option (Wd) :=
  cv (f_X6_readGift y0 w) fun w13 =>
  some w13
set_option maxRecDepth 100000 in
set_option maxHeartbeats 4000000 in
theorem t_X6_readClause_b107 {Z : Cz (Wd)} (hZ : OKZ Z SC cX6_readClause RX6 4 none 9) (hE : EndV Z)  (y0 : Nat) (hy0 : IsP y0) (w : Wd) : BW Z 4 107 [(0, .ref (ph (zY Z) y0)), (1, .ref (ph (zY Z) 1)), (2, .ref (ph (zY Z) 31))] [] w (X6_readClause_b107 y0 w) :=
  bw_aload_n hZ 0 rfl dX6_readClause_107 <|
  bw_aload_n hZ 1 rfl dX6_readClause_108 <|
  bw_aload_n hZ 2 rfl dX6_readClause_109 <|
  bw_callVV (As := [.ref (ph (zY Z) 1), .ref (ph (zY Z) 31)]) hZ ml_RX6_117 rc_6 (obP hy0) (by decide) (c_X6_readGift (zl Z) (zY Z) (hZ_S hZ) y0 hy0 w) rfl rfl (Nat.le_of_ble_eq_true rfl) dX6_readClause_110 fun w13 =>
  bw_goto hZ (tgt := 219) (by decide) dX6_readClause_113 <|
  bw_vret hZ hE dX6_readClause_219
def f_X6_readClause (o0 : Nat) (x3 : Int32) (w : Wd) : Option (Wd) :=
  cl (f_X10_is 31 w) fun r2 w1 =>
  if r2 = 0 then
  (cl (f_X10_is 2 w1) fun r4 w3 =>
  if r4 = 0 then
  (cl (f_X10_is 3 w3) fun r6 w5 =>
  if r6 = 0 then
  (cl (f_X10_is 32 w5) fun r8 w7 =>
  if r8 = 0 then
  (cl (f_X10_is 33 w7) fun r10 w9 =>
  if r10 = 0 then
  (cl (f_X10_is 34 w9) fun r12 w11 =>
  if r12 = 0 then
  (cl (f_X10_is 35 w11) fun r15 w14 =>
  if r15 = 0 then
  (cl (f_X10_is 41 w14) fun r17 w16 =>
  if r17 = 0 then
  (cl (f_X10_passes 43 w16) fun r19 w18 =>
  if r19 = 0 then
  (cl (f_X10_passes 45 w18) fun r21 w20 =>
  if r21 = 0 then
  (cl (f_X10_is 46 w20) fun r23 w22 =>
  if r23 = 0 then
  (cv (f_X10_fail 1 w22) fun w24 =>
  some w24)
  else
  cv (f_X6_passOnce o0 32 w22) fun w25 =>
  cl (f_X10_paperNumber x3 0 w25) fun r27 w26 =>
  lt (wI w26 o0 7 r27) fun w28 =>
  some w28)
  else
  cl (f_X10_paperNumber x3 (w20.1 o0 6) w20) fun r30 w29 =>
  cl (f_X6_bit r30 w29) fun r32 w31 =>
  lt (wI w31 o0 6 ((w20.1 o0 6) ||| r32)) fun w33 =>
  some w33)
  else
  cv (f_X6_readUndo o0 x3 w18) fun w34 =>
  some w34)
  else
  cv (f_X6_readRest o0 w16) fun w35 =>
  some w35)
  else
  X6_readClause_b107 o0 w14)
  else
  X6_readClause_b107 o0 w11)
  else
  cv (f_X6_readWitness o0 w9) fun w36 =>
  some w36)
  else
  cv (f_X6_passOnce o0 4 w7) fun w37 =>
  some w37)
  else
  cv (f_X6_passOnce o0 2 w5) fun w38 =>
  some w38)
  else
  cv (f_X6_passOnce o0 1 w3) fun w39 =>
  some w39)
  else
  cv (f_X6_readDays o0 w1) fun w40 =>
  some w40
set_option maxRecDepth 100000 in
set_option maxHeartbeats 4000000 in
theorem t_X6_readClause {Z : Cz (Wd)} (hZ : OKZ Z SC cX6_readClause RX6 4 none 9) (hE : EndV Z) (o0 : Nat) (x3 : Int32) (ho0 : IsP o0) (w : Wd) : BW Z 4 0 [(0, .ref (ph (zY Z) o0)), (1, .ref (ph (zY Z) 1)), (2, .ref (ph (zY Z) 31)), (3, .int x3)] [] w (f_X6_readClause o0 x3 w) :=
  bw_aload_n hZ 1 rfl dX6_readClause_0 <|
  bw_ldcS hZ 31 rfl dX6_readClause_1 <|
  bw_callVI (As := [.ref (sK (zY Z) 31)]) hZ ml_RX6_89 rc_10 obC_1 (by decide) (c_X10_is (zl Z) (zY Z) (hZ_S hZ) 31 (by decide) w) rfl rfl (Nat.le_of_ble_eq_true rfl) dX6_readClause_3 fun r2 w1 =>
  bw_if_eq hZ (tgt := 17) (by decide) dX6_readClause_6 (fun _ =>
  bw_aload_n hZ 1 rfl dX6_readClause_17 <|
  bw_ldcS hZ 32 rfl dX6_readClause_18 <|
  bw_callVI (As := [.ref (sK (zY Z) 2)]) hZ ml_RX6_89 rc_10 obC_1 (by decide) (c_X10_is (zl Z) (zY Z) (hZ_S hZ) 2 (by decide) w1) rfl rfl (Nat.le_of_ble_eq_true rfl) dX6_readClause_20 fun r4 w3 =>
  bw_if_eq hZ (tgt := 35) (by decide) dX6_readClause_23 (fun _ =>
  bw_aload_n hZ 1 rfl dX6_readClause_35 <|
  bw_ldcS hZ 33 rfl dX6_readClause_36 <|
  bw_callVI (As := [.ref (sK (zY Z) 3)]) hZ ml_RX6_89 rc_10 obC_1 (by decide) (c_X10_is (zl Z) (zY Z) (hZ_S hZ) 3 (by decide) w3) rfl rfl (Nat.le_of_ble_eq_true rfl) dX6_readClause_38 fun r6 w5 =>
  bw_if_eq hZ (tgt := 53) (by decide) dX6_readClause_41 (fun _ =>
  bw_aload_n hZ 1 rfl dX6_readClause_53 <|
  bw_ldcS hZ 34 rfl dX6_readClause_54 <|
  bw_callVI (As := [.ref (sK (zY Z) 32)]) hZ ml_RX6_89 rc_10 obC_1 (by decide) (c_X10_is (zl Z) (zY Z) (hZ_S hZ) 32 (by decide) w5) rfl rfl (Nat.le_of_ble_eq_true rfl) dX6_readClause_56 fun r8 w7 =>
  bw_if_eq hZ (tgt := 71) (by decide) dX6_readClause_59 (fun _ =>
  bw_aload_n hZ 1 rfl dX6_readClause_71 <|
  bw_ldcS hZ 35 rfl dX6_readClause_72 <|
  bw_callVI (As := [.ref (sK (zY Z) 33)]) hZ ml_RX6_89 rc_10 obC_1 (by decide) (c_X10_is (zl Z) (zY Z) (hZ_S hZ) 33 (by decide) w7) rfl rfl (Nat.le_of_ble_eq_true rfl) dX6_readClause_74 fun r10 w9 =>
  bw_if_eq hZ (tgt := 89) (by decide) dX6_readClause_77 (fun _ =>
  bw_aload_n hZ 1 rfl dX6_readClause_89 <|
  bw_ldcS hZ 36 rfl dX6_readClause_90 <|
  bw_callVI (As := [.ref (sK (zY Z) 34)]) hZ ml_RX6_89 rc_10 obC_1 (by decide) (c_X10_is (zl Z) (zY Z) (hZ_S hZ) 34 (by decide) w9) rfl rfl (Nat.le_of_ble_eq_true rfl) dX6_readClause_92 fun r12 w11 =>
  bw_if_ne hZ (tgt := 107) (by decide) dX6_readClause_95 (fun _ =>
  bw_sub [0, 1, 2] rfl (t_X6_readClause_b107 hZ hE o0 ho0 w11)) (fun _ =>
  bw_aload_n hZ 1 rfl dX6_readClause_98 <|
  bw_ldcS hZ 37 rfl dX6_readClause_99 <|
  bw_callVI (As := [.ref (sK (zY Z) 35)]) hZ ml_RX6_89 rc_10 obC_1 (by decide) (c_X10_is (zl Z) (zY Z) (hZ_S hZ) 35 (by decide) w11) rfl rfl (Nat.le_of_ble_eq_true rfl) dX6_readClause_101 fun r15 w14 =>
  bw_if_eq hZ (tgt := 116) (by decide) dX6_readClause_104 (fun _ =>
  bw_aload_n hZ 1 rfl dX6_readClause_116 <|
  bw_ldcS hZ 44 rfl dX6_readClause_117 <|
  bw_callVI (As := [.ref (sK (zY Z) 41)]) hZ ml_RX6_89 rc_10 obC_1 (by decide) (c_X10_is (zl Z) (zY Z) (hZ_S hZ) 41 (by decide) w14) rfl rfl (Nat.le_of_ble_eq_true rfl) dX6_readClause_119 fun r17 w16 =>
  bw_if_eq hZ (tgt := 134) (by decide) dX6_readClause_122 (fun _ =>
  bw_aload_n hZ 1 rfl dX6_readClause_134 <|
  bw_ldcS hZ 46 rfl dX6_readClause_135 <|
  bw_callVI (As := [.ref (sK (zY Z) 43)]) hZ ml_RX6_126 rc_10 obC_1 (by decide) (c_X10_passes (zl Z) (zY Z) (hZ_S hZ) 43 (by decide) w16) rfl rfl (Nat.le_of_ble_eq_true rfl) dX6_readClause_137 fun r19 w18 =>
  bw_if_eq hZ (tgt := 152) (by decide) dX6_readClause_140 (fun _ =>
  bw_aload_n hZ 1 rfl dX6_readClause_152 <|
  bw_ldcS hZ 48 rfl dX6_readClause_153 <|
  bw_callVI (As := [.ref (sK (zY Z) 45)]) hZ ml_RX6_126 rc_10 obC_1 (by decide) (c_X10_passes (zl Z) (zY Z) (hZ_S hZ) 45 (by decide) w18) rfl rfl (Nat.le_of_ble_eq_true rfl) dX6_readClause_155 fun r21 w20 =>
  bw_if_eq hZ (tgt := 185) (by decide) dX6_readClause_158 (fun _ =>
  bw_aload_n hZ 1 rfl dX6_readClause_185 <|
  bw_ldcS hZ 49 rfl dX6_readClause_186 <|
  bw_callVI (As := [.ref (sK (zY Z) 46)]) hZ ml_RX6_89 rc_10 obC_1 (by decide) (c_X10_is (zl Z) (zY Z) (hZ_S hZ) 46 (by decide) w20) rfl rfl (Nat.le_of_ble_eq_true rfl) dX6_readClause_188 fun r23 w22 =>
  bw_if_eq hZ (tgt := 214) (by decide) dX6_readClause_191 (fun _ =>
  bw_aload_n hZ 1 rfl dX6_readClause_214 <|
  bw_iconst hZ 1 (by decide) dX6_readClause_215 <|
  bw_callVV (As := [.int 1]) hZ ml_RX6_143 rc_10 obC_1 (by decide) (c_X10_fail (zl Z) (zY Z) (hZ_S hZ) 1 w22) rfl rfl (Nat.le_of_ble_eq_true rfl) dX6_readClause_216 fun w24 =>
  bw_vret hZ hE dX6_readClause_219) (fun _ =>
  bw_aload_n hZ 0 rfl dX6_readClause_194 <|
  bw_aload_n hZ 1 rfl dX6_readClause_195 <|
  bw_bipush hZ 32 (by decide) dX6_readClause_196 <|
  bw_callVV (As := [.ref (ph (zY Z) 1), .int 32]) hZ ml_RX6_99 rc_6 (obP ho0) (by decide) (c_X6_passOnce (zl Z) (zY Z) (hZ_S hZ) o0 32 ho0 w22) rfl rfl (Nat.le_of_ble_eq_true rfl) dX6_readClause_198 fun w25 =>
  bw_aload_n hZ 0 rfl dX6_readClause_201 <|
  bw_aload_n hZ 1 rfl dX6_readClause_202 <|
  bw_iload_n hZ 3 rfl dX6_readClause_203 <|
  bw_iconst hZ 0 (by decide) dX6_readClause_204 <|
  bw_callVI (As := [.int x3, .int 0]) hZ ml_RX6_134 rc_10 obC_1 (by decide) (c_X10_paperNumber (zl Z) (zY Z) (hZ_S hZ) x3 0 w25) rfl rfl (Nat.le_of_ble_eq_true rfl) dX6_readClause_205 fun r27 w26 =>
  bw_putI hZ fl_RX6_50 rfl rfl (by decide) (obP ho0) dX6_readClause_208 fun w28 =>
  bw_goto hZ (tgt := 219) (by decide) dX6_readClause_211 <|
  bw_vret hZ hE dX6_readClause_219)) (fun _ =>
  bw_aload_n hZ 0 rfl dX6_readClause_161 <|
  bw_dup hZ rfl dX6_readClause_162 <|
  bw_getI hZ fl_RX6_47 (by decide) (obP ho0) dX6_readClause_163 <|
  bw_aload_n hZ 1 rfl dX6_readClause_166 <|
  bw_iload_n hZ 3 rfl dX6_readClause_167 <|
  bw_aload_n hZ 0 rfl dX6_readClause_168 <|
  bw_getI hZ fl_RX6_47 (by decide) (obP ho0) dX6_readClause_169 <|
  bw_callVI (As := [.int x3, .int (w20.1 o0 6)]) hZ ml_RX6_134 rc_10 obC_1 (by decide) (c_X10_paperNumber (zl Z) (zY Z) (hZ_S hZ) x3 (w20.1 o0 6) w20) rfl rfl (Nat.le_of_ble_eq_true rfl) dX6_readClause_172 fun r30 w29 =>
  bw_callSI (As := [.int r30]) hZ ms_RX6_138 (by decide) (c_X6_bit (zl Z) (zY Z) (hZ_S hZ) r30 w29) rfl rfl (Nat.le_of_ble_eq_true rfl) dX6_readClause_175 fun r32 w31 =>
  bw_ior hZ dX6_readClause_178 <|
  bw_putI hZ fl_RX6_47 rfl rfl (by decide) (obP ho0) dX6_readClause_179 fun w33 =>
  bw_goto hZ (tgt := 219) (by decide) dX6_readClause_182 <|
  bw_vret hZ hE dX6_readClause_219)) (fun _ =>
  bw_aload_n hZ 0 rfl dX6_readClause_143 <|
  bw_aload_n hZ 1 rfl dX6_readClause_144 <|
  bw_iload_n hZ 3 rfl dX6_readClause_145 <|
  bw_callVV (As := [.ref (ph (zY Z) 1), .int x3]) hZ ml_RX6_129 rc_6 (obP ho0) (by decide) (c_X6_readUndo (zl Z) (zY Z) (hZ_S hZ) o0 x3 ho0 w18) rfl rfl (Nat.le_of_ble_eq_true rfl) dX6_readClause_146 fun w34 =>
  bw_goto hZ (tgt := 219) (by decide) dX6_readClause_149 <|
  bw_vret hZ hE dX6_readClause_219)) (fun _ =>
  bw_aload_n hZ 0 rfl dX6_readClause_125 <|
  bw_aload_n hZ 1 rfl dX6_readClause_126 <|
  bw_aload_n hZ 2 rfl dX6_readClause_127 <|
  bw_callVV (As := [.ref (ph (zY Z) 1), .ref (ph (zY Z) 31)]) hZ ml_RX6_121 rc_6 (obP ho0) (by decide) (c_X6_readRest (zl Z) (zY Z) (hZ_S hZ) o0 ho0 w16) rfl rfl (Nat.le_of_ble_eq_true rfl) dX6_readClause_128 fun w35 =>
  bw_goto hZ (tgt := 219) (by decide) dX6_readClause_131 <|
  bw_vret hZ hE dX6_readClause_219)) (fun _ =>
  bw_sub [0, 1, 2] rfl (t_X6_readClause_b107 hZ hE o0 ho0 w14)))) (fun _ =>
  bw_aload_n hZ 0 rfl dX6_readClause_80 <|
  bw_aload_n hZ 1 rfl dX6_readClause_81 <|
  bw_aload_n hZ 2 rfl dX6_readClause_82 <|
  bw_callVV (As := [.ref (ph (zY Z) 1), .ref (ph (zY Z) 31)]) hZ ml_RX6_109 rc_6 (obP ho0) (by decide) (c_X6_readWitness (zl Z) (zY Z) (hZ_S hZ) o0 ho0 w9) rfl rfl (Nat.le_of_ble_eq_true rfl) dX6_readClause_83 fun w36 =>
  bw_goto hZ (tgt := 219) (by decide) dX6_readClause_86 <|
  bw_vret hZ hE dX6_readClause_219)) (fun _ =>
  bw_aload_n hZ 0 rfl dX6_readClause_62 <|
  bw_aload_n hZ 1 rfl dX6_readClause_63 <|
  bw_iconst hZ 4 (by decide) dX6_readClause_64 <|
  bw_callVV (As := [.ref (ph (zY Z) 1), .int 4]) hZ ml_RX6_99 rc_6 (obP ho0) (by decide) (c_X6_passOnce (zl Z) (zY Z) (hZ_S hZ) o0 4 ho0 w7) rfl rfl (Nat.le_of_ble_eq_true rfl) dX6_readClause_65 fun w37 =>
  bw_goto hZ (tgt := 219) (by decide) dX6_readClause_68 <|
  bw_vret hZ hE dX6_readClause_219)) (fun _ =>
  bw_aload_n hZ 0 rfl dX6_readClause_44 <|
  bw_aload_n hZ 1 rfl dX6_readClause_45 <|
  bw_iconst hZ 2 (by decide) dX6_readClause_46 <|
  bw_callVV (As := [.ref (ph (zY Z) 1), .int 2]) hZ ml_RX6_99 rc_6 (obP ho0) (by decide) (c_X6_passOnce (zl Z) (zY Z) (hZ_S hZ) o0 2 ho0 w5) rfl rfl (Nat.le_of_ble_eq_true rfl) dX6_readClause_47 fun w38 =>
  bw_goto hZ (tgt := 219) (by decide) dX6_readClause_50 <|
  bw_vret hZ hE dX6_readClause_219)) (fun _ =>
  bw_aload_n hZ 0 rfl dX6_readClause_26 <|
  bw_aload_n hZ 1 rfl dX6_readClause_27 <|
  bw_iconst hZ 1 (by decide) dX6_readClause_28 <|
  bw_callVV (As := [.ref (ph (zY Z) 1), .int 1]) hZ ml_RX6_99 rc_6 (obP ho0) (by decide) (c_X6_passOnce (zl Z) (zY Z) (hZ_S hZ) o0 1 ho0 w3) rfl rfl (Nat.le_of_ble_eq_true rfl) dX6_readClause_29 fun w39 =>
  bw_goto hZ (tgt := 219) (by decide) dX6_readClause_32 <|
  bw_vret hZ hE dX6_readClause_219)) (fun _ =>
  bw_aload_n hZ 0 rfl dX6_readClause_9 <|
  bw_aload_n hZ 1 rfl dX6_readClause_10 <|
  bw_callVV (As := [.ref (ph (zY Z) 1)]) hZ ml_RX6_93 rc_6 (obP ho0) (by decide) (c_X6_readDays (zl Z) (zY Z) (hZ_S hZ) o0 ho0 w1) rfl rfl (Nat.le_of_ble_eq_true rfl) dX6_readClause_11 fun w40 =>
  bw_goto hZ (tgt := 219) (by decide) dX6_readClause_14 <|
  bw_vret hZ hE dX6_readClause_219)
theorem c_X6_readClause (l : Launch) (Y : Ev) (hY : Y.1 = SC) (o0 : Nat) (x3 : Int32) (ho0 : IsP o0) (w : Wd) : CV l Y yX6_readClause cX6_readClause 4 9 [.ref (ph Y o0), .ref (ph Y 1), .ref (ph Y 31), .int x3] w (f_X6_readClause o0 x3 w) := by
  refine CV_of (S := SC) (by decide) (Nat.le_of_ble_eq_true rfl) hY ?_
  intro Z hl hY2 hZ hE
  subst hY2
  exact t_X6_readClause hZ hE o0 x3 ho0 w
-- WhichWill$Paper.readText
theorem dX6_readText_0 : decode cX6_readText 0 = .ok (.aload_n 0, 1) := by decide +kernel
theorem dX6_readText_1 : decode cX6_readText 1 = .ok (.invokevirtual 65, 3) := by decide +kernel
theorem dX6_readText_4 : decode cX6_readText 4 = .ok (.aload_n 1, 1) := by decide +kernel
theorem dX6_readText_5 : decode cX6_readText 5 = .ok (.invokevirtual 68, 3) := by decide +kernel
theorem dX6_readText_8 : decode cX6_readText 8 = .ok (.iconst 0, 1) := by decide +kernel
theorem dX6_readText_9 : decode cX6_readText 9 = .ok (.istore 4, 2) := by decide +kernel
theorem dX6_readText_11 : decode cX6_readText 11 = .ok (.iload 4, 2) := by decide +kernel
theorem dX6_readText_13 : decode cX6_readText 13 = .ok (.sipush 900, 3) := by decide +kernel
theorem dX6_readText_16 : decode cX6_readText 16 = .ok (.if_icmp .ge 27, 3) := by decide +kernel
theorem dX6_readText_19 : decode cX6_readText 19 = .ok (.aload_n 1, 1) := by decide +kernel
theorem dX6_readText_20 : decode cX6_readText 20 = .ok (.invokevirtual 73, 3) := by decide +kernel
theorem dX6_readText_23 : decode cX6_readText 23 = .ok (.ifCond .eq 20, 3) := by decide +kernel
theorem dX6_readText_26 : decode cX6_readText 26 = .ok (.aload_n 0, 1) := by decide +kernel
theorem dX6_readText_27 : decode cX6_readText 27 = .ok (.aload_n 1, 1) := by decide +kernel
theorem dX6_readText_28 : decode cX6_readText 28 = .ok (.aload_n 2, 1) := by decide +kernel
theorem dX6_readText_29 : decode cX6_readText 29 = .ok (.iload_n 3, 1) := by decide +kernel
theorem dX6_readText_30 : decode cX6_readText 30 = .ok (.invokevirtual 77, 3) := by decide +kernel
theorem dX6_readText_33 : decode cX6_readText 33 = .ok (.aload_n 1, 1) := by decide +kernel
theorem dX6_readText_34 : decode cX6_readText 34 = .ok (.invokevirtual 81, 3) := by decide +kernel
theorem dX6_readText_37 : decode cX6_readText 37 = .ok (.iinc 4 1, 3) := by decide +kernel
theorem dX6_readText_40 : decode cX6_readText 40 = .ok (.goto (-29), 3) := by decide +kernel
theorem dX6_readText_43 : decode cX6_readText 43 = .ok (.aload_n 1, 1) := by decide +kernel
theorem dX6_readText_44 : decode cX6_readText 44 = .ok (.invokevirtual 84, 3) := by decide +kernel
theorem dX6_readText_47 : decode cX6_readText 47 = .ok (.ifCond .ne 7, 3) := by decide +kernel
theorem dX6_readText_50 : decode cX6_readText 50 = .ok (.iconst 1, 1) := by decide +kernel
theorem dX6_readText_51 : decode cX6_readText 51 = .ok (.goto 4, 3) := by decide +kernel
theorem dX6_readText_54 : decode cX6_readText 54 = .ok (.iconst 0, 1) := by decide +kernel
theorem dX6_readText_55 : decode cX6_readText 55 = .ok (.ireturn, 1) := by decide +kernel
def X6_readText_b43 (w : Wd) : Option (Int32 × Wd) :=
  cl (f_X10_hasFailed w) fun r4 w3 =>
  if r4 = 0 then
  (some (1, w3))
  else
  some (0, w3)
set_option maxRecDepth 100000 in
set_option maxHeartbeats 4000000 in
theorem t_X6_readText_b43 {Z : Cz (Int32 × Wd)} (hZ : OKZ Z SC cX6_readText RX6 5 (some .boolean) 10) (hE : EndI Z)    (w : Wd) : BW Z 5 43 [(1, .ref (ph (zY Z) 1))] [] w (X6_readText_b43 w) :=
  bw_aload_n hZ 0 rfl dX6_readText_43 <|
  bw_callVI (As := []) hZ ml_RX6_84 rc_10 obC_1 (by decide) (c_X10_hasFailed (zl Z) (zY Z) (hZ_S hZ) w) rfl rfl (Nat.le_of_ble_eq_true rfl) dX6_readText_44 fun r4 w3 =>
  bw_if_ne hZ (tgt := 54) (by decide) dX6_readText_47 (fun _ =>
  bw_iconst hZ 0 (by decide) dX6_readText_54 <|
  bw_zret hZ hE (by decide) dX6_readText_55) (fun _ =>
  bw_iconst hZ 1 (by decide) dX6_readText_50 <|
  bw_goto hZ (tgt := 55) (by decide) dX6_readText_51 <|
  bw_zret hZ hE (by decide) dX6_readText_55)
def X6_readText_b11 (k11 : Nat → Int32 → Int32 → Wd → Option (Int32 × Wd)) (y0 : Nat) (y3 : Int32) (y4 : Int32) (w : Wd) : Option (Int32 × Wd) :=
  if 900 ≤ y4 then
  (X6_readText_b43 w)
  else
  cl (f_X10_goesOn w) fun r6 w5 =>
  if r6 = 0 then
  (X6_readText_b43 w5)
  else
  cv (f_X6_readClause y0 y3 w5) fun w7 =>
  cv (f_X10_needMark w7) fun w8 =>
  k11 y0 y3 (y4 + 1) w8
set_option maxRecDepth 100000 in
set_option maxHeartbeats 4000000 in
theorem t_X6_readText_b11 {Z : Cz (Int32 × Wd)} (hZ : OKZ Z SC cX6_readText RX6 5 (some .boolean) 10) (hE : EndI Z) (k11 : Nat → Int32 → Int32 → Wd → Option (Int32 × Wd)) (hk11 : ∀ (y0 : Nat) (y3 : Int32) (y4 : Int32) (hy0 : IsP y0) (w : Wd), BW Z 5 11 [(0, .ref (ph (zY Z) y0)), (1, .ref (ph (zY Z) 1)), (2, .ref (ph (zY Z) 31)), (3, .int y3), (4, .int y4)] [] w (k11 y0 y3 y4 w)) (y0 : Nat) (y3 : Int32) (y4 : Int32) (hy0 : IsP y0) (w : Wd) : BW Z 5 11 [(0, .ref (ph (zY Z) y0)), (1, .ref (ph (zY Z) 1)), (2, .ref (ph (zY Z) 31)), (3, .int y3), (4, .int y4)] [] w (X6_readText_b11 k11 y0 y3 y4 w) :=
  bw_iload hZ 4 rfl dX6_readText_11 <|
  bw_sipush hZ 900 (by decide) dX6_readText_13 <|
  bw_icmp_ge hZ (tgt := 43) (by decide) dX6_readText_16 (fun _ =>
  bw_sub [1] rfl (t_X6_readText_b43 hZ hE w)) (fun _ =>
  bw_aload_n hZ 1 rfl dX6_readText_19 <|
  bw_callVI (As := []) hZ ml_RX6_73 rc_10 obC_1 (by decide) (c_X10_goesOn (zl Z) (zY Z) (hZ_S hZ) w) rfl rfl (Nat.le_of_ble_eq_true rfl) dX6_readText_20 fun r6 w5 =>
  bw_if_eq hZ (tgt := 43) (by decide) dX6_readText_23 (fun _ =>
  bw_sub [1] rfl (t_X6_readText_b43 hZ hE w5)) (fun _ =>
  bw_aload_n hZ 0 rfl dX6_readText_26 <|
  bw_aload_n hZ 1 rfl dX6_readText_27 <|
  bw_aload_n hZ 2 rfl dX6_readText_28 <|
  bw_iload_n hZ 3 rfl dX6_readText_29 <|
  bw_callVV (As := [.ref (ph (zY Z) 1), .ref (ph (zY Z) 31), .int y3]) hZ ml_RX6_77 rc_6 (obP hy0) (by decide) (c_X6_readClause (zl Z) (zY Z) (hZ_S hZ) y0 y3 hy0 w5) rfl rfl (Nat.le_of_ble_eq_true rfl) dX6_readText_30 fun w7 =>
  bw_aload_n hZ 1 rfl dX6_readText_33 <|
  bw_callVV (As := []) hZ ml_RX6_81 rc_10 obC_1 (by decide) (c_X10_needMark (zl Z) (zY Z) (hZ_S hZ) w7) rfl rfl (Nat.le_of_ble_eq_true rfl) dX6_readText_34 fun w8 =>
  bw_iinc hZ 1 4 rfl (by decide) (by decide) rfl dX6_readText_37 <|
  bw_goto hZ (tgt := 11) (by decide) dX6_readText_40 <|
  bw_sub [1, 2, 3, 4, 0] rfl (hk11 y0 y3 (y4 + 1) hy0 w8)))
def X6_readText_b11_L  : Nat → Int32 → Int32 → Wd → Option (Int32 × Wd) :=
  lp fu (fun _ _ _ _ => none) (fun k11 => X6_readText_b11 k11)
theorem t_X6_readText_b11_L {Z : Cz (Int32 × Wd)} (hZ : OKZ Z SC cX6_readText RX6 5 (some .boolean) 10) (hE : EndI Z)  : ∀ (y0 : Nat) (y3 : Int32) (y4 : Int32) (hy0 : IsP y0) (w : Wd), BW Z 5 11 [(0, .ref (ph (zY Z) y0)), (1, .ref (ph (zY Z) 1)), (2, .ref (ph (zY Z) 31)), (3, .int y3), (4, .int y4)] [] w (X6_readText_b11_L y0 y3 y4 w) :=
  lp_bw (fun k11 => ∀ (y0 : Nat) (y3 : Int32) (y4 : Int32) (hy0 : IsP y0) (w : Wd), BW Z 5 11 [(0, .ref (ph (zY Z) y0)), (1, .ref (ph (zY Z) 1)), (2, .ref (ph (zY Z) 31)), (3, .int y3), (4, .int y4)] [] w (k11 y0 y3 y4 w)) (fun _ _ _ _ _ => bw_none) (fun k11 hk11 y0 y3 y4 hy0 w => t_X6_readText_b11 hZ hE k11 hk11 y0 y3 y4 hy0 w) fu
def f_X6_readText (o0 : Nat) (x3 : Int32) (w : Wd) : Option (Int32 × Wd) :=
  cv (f_X6_clear o0 w) fun w1 =>
  cv (f_X10_open w1) fun w2 =>
  X6_readText_b11_L o0 x3 0 w2
set_option maxRecDepth 100000 in
set_option maxHeartbeats 4000000 in
theorem t_X6_readText {Z : Cz (Int32 × Wd)} (hZ : OKZ Z SC cX6_readText RX6 5 (some .boolean) 10) (hE : EndI Z) (o0 : Nat) (x3 : Int32) (ho0 : IsP o0) (w : Wd) : BW Z 5 0 [(0, .ref (ph (zY Z) o0)), (1, .ref (ph (zY Z) 1)), (2, .ref (ph (zY Z) 31)), (3, .int x3)] [] w (f_X6_readText o0 x3 w) :=
  bw_aload_n hZ 0 rfl dX6_readText_0 <|
  bw_callVV (As := []) hZ ml_RX6_65 rc_6 (obP ho0) (by decide) (c_X6_clear (zl Z) (zY Z) (hZ_S hZ) o0 ho0 w) rfl rfl (Nat.le_of_ble_eq_true rfl) dX6_readText_1 fun w1 =>
  bw_aload_n hZ 1 rfl dX6_readText_4 <|
  bw_callVV (As := []) hZ ml_RX6_68 rc_10 obC_1 (by decide) (c_X10_open (zl Z) (zY Z) (hZ_S hZ) w1) rfl rfl (Nat.le_of_ble_eq_true rfl) dX6_readText_5 fun w2 =>
  bw_iconst hZ 0 (by decide) dX6_readText_8 <|
  bw_istore hZ (by decide) rfl dX6_readText_9 <|
  bw_sub [1, 2, 3, 4, 0] rfl (t_X6_readText_b11_L hZ hE o0 x3 0 ho0 w2)
theorem c_X6_readText (l : Launch) (Y : Ev) (hY : Y.1 = SC) (o0 : Nat) (x3 : Int32) (ho0 : IsP o0) (w : Wd) : CI l Y yX6_readText cX6_readText 5 10 [.ref (ph Y o0), .ref (ph Y 1), .ref (ph Y 31), .int x3] w .boolean (f_X6_readText o0 x3 w) := by
  refine CI_of (S := SC) (by decide) (Nat.le_of_ble_eq_true rfl) hY ?_
  intro Z hl hY2 hZ hE
  subst hY2
  exact t_X6_readText hZ hE o0 x3 ho0 w
-- WhichWill$Shares.makeReady
theorem dX7_makeReady_0 : decode cX7_makeReady 0 = .ok (.aload_n 0, 1) := by decide +kernel
theorem dX7_makeReady_1 : decode cX7_makeReady 1 = .ok (.getfield 36, 3) := by decide +kernel
theorem dX7_makeReady_4 : decode cX7_makeReady 4 = .ok (.aload_n 0, 1) := by decide +kernel
theorem dX7_makeReady_5 : decode cX7_makeReady 5 = .ok (.getfield 40, 3) := by decide +kernel
theorem dX7_makeReady_8 : decode cX7_makeReady 8 = .ok (.getfield 47, 3) := by decide +kernel
theorem dX7_makeReady_11 : decode cX7_makeReady 11 = .ok (.if_icmp .eq 7, 3) := by decide +kernel
theorem dX7_makeReady_14 : decode cX7_makeReady 14 = .ok (.aload_n 0, 1) := by decide +kernel
theorem dX7_makeReady_15 : decode cX7_makeReady 15 = .ok (.invokevirtual 52, 3) := by decide +kernel
theorem dX7_makeReady_18 : decode cX7_makeReady 18 = .ok (.return_, 1) := by decide +kernel
def f_X7_makeReady (w : Wd) : Option (Wd) :=
  if (w.1 8 13) = (w.1 3 6) then
  (some w)
  else
  cv (f_X7_prepare w) fun w1 =>
  some w1
set_option maxRecDepth 100000 in
set_option maxHeartbeats 4000000 in
theorem t_X7_makeReady {Z : Cz (Wd)} (hZ : OKZ Z SC cX7_makeReady RX7 1 none 5) (hE : EndV Z)   (w : Wd) : BW Z 1 0 [(0, .ref (ph (zY Z) 8))] [] w (f_X7_makeReady w) :=
  bw_aload_n hZ 0 rfl dX7_makeReady_0 <|
  bw_getI hZ fl_RX7_36 (by decide) obC_8 dX7_makeReady_1 <|
  bw_aload_n hZ 0 rfl dX7_makeReady_4 <|
  bw_getR hZ fl_RX7_40 obC_8 rfl dX7_makeReady_5 <|
  bw_getI hZ fl_RX7_47 (by decide) obC_3 dX7_makeReady_8 <|
  bw_icmp_eq hZ (tgt := 18) (by decide) dX7_makeReady_11 (fun _ =>
  bw_vret hZ hE dX7_makeReady_18) (fun _ =>
  bw_aload_n hZ 0 rfl dX7_makeReady_14 <|
  bw_callVV (As := []) hZ ml_RX7_52 rc_7 obC_8 (by decide) (c_X7_prepare (zl Z) (zY Z) (hZ_S hZ) w) rfl rfl (Nat.le_of_ble_eq_true rfl) dX7_makeReady_15 fun w1 =>
  bw_vret hZ hE dX7_makeReady_18)
theorem c_X7_makeReady (l : Launch) (Y : Ev) (hY : Y.1 = SC)   (w : Wd) : CV l Y yX7_makeReady cX7_makeReady 1 5 [.ref (ph Y 8)] w (f_X7_makeReady w) := by
  refine CV_of (S := SC) (by decide) (Nat.le_of_ble_eq_true rfl) hY ?_
  intro Z hl hY2 hZ hE
  subst hY2
  exact t_X7_makeReady hZ hE w
-- WhichWill$Shares.takeWay
theorem dX7_takeWay_0 : decode cX7_takeWay 0 = .ok (.aload_n 0, 1) := by decide +kernel
theorem dX7_takeWay_1 : decode cX7_takeWay 1 = .ok (.iload_n 1, 1) := by decide +kernel
theorem dX7_takeWay_2 : decode cX7_takeWay 2 = .ok (.invokevirtual 55, 3) := by decide +kernel
theorem dX7_takeWay_5 : decode cX7_takeWay 5 = .ok (.iconst 0, 1) := by decide +kernel
theorem dX7_takeWay_6 : decode cX7_takeWay 6 = .ok (.istore_n 2, 1) := by decide +kernel
theorem dX7_takeWay_7 : decode cX7_takeWay 7 = .ok (.iload_n 2, 1) := by decide +kernel
theorem dX7_takeWay_8 : decode cX7_takeWay 8 = .ok (.iconst 4, 1) := by decide +kernel
theorem dX7_takeWay_9 : decode cX7_takeWay 9 = .ok (.if_icmp .ge 37, 3) := by decide +kernel
theorem dX7_takeWay_12 : decode cX7_takeWay 12 = .ok (.aload_n 0, 1) := by decide +kernel
theorem dX7_takeWay_13 : decode cX7_takeWay 13 = .ok (.getfield 59, 3) := by decide +kernel
theorem dX7_takeWay_16 : decode cX7_takeWay 16 = .ok (.iload_n 2, 1) := by decide +kernel
theorem dX7_takeWay_17 : decode cX7_takeWay 17 = .ok (.ishr, 1) := by decide +kernel
theorem dX7_takeWay_18 : decode cX7_takeWay 18 = .ok (.iconst 1, 1) := by decide +kernel
theorem dX7_takeWay_19 : decode cX7_takeWay 19 = .ok (.iand, 1) := by decide +kernel
theorem dX7_takeWay_20 : decode cX7_takeWay 20 = .ok (.ifCond .eq 20, 3) := by decide +kernel
theorem dX7_takeWay_23 : decode cX7_takeWay 23 = .ok (.aload_n 0, 1) := by decide +kernel
theorem dX7_takeWay_24 : decode cX7_takeWay 24 = .ok (.getfield 23, 3) := by decide +kernel
theorem dX7_takeWay_27 : decode cX7_takeWay 27 = .ok (.iload_n 2, 1) := by decide +kernel
theorem dX7_takeWay_28 : decode cX7_takeWay 28 = .ok (.aaload, 1) := by decide +kernel
theorem dX7_takeWay_29 : decode cX7_takeWay 29 = .ok (.aload_n 0, 1) := by decide +kernel
theorem dX7_takeWay_30 : decode cX7_takeWay 30 = .ok (.getfield 62, 3) := by decide +kernel
theorem dX7_takeWay_33 : decode cX7_takeWay 33 = .ok (.aload_n 0, 1) := by decide +kernel
theorem dX7_takeWay_34 : decode cX7_takeWay 34 = .ok (.getfield 65, 3) := by decide +kernel
theorem dX7_takeWay_37 : decode cX7_takeWay 37 = .ok (.invokevirtual 68, 3) := by decide +kernel
theorem dX7_takeWay_40 : decode cX7_takeWay 40 = .ok (.iinc 2 1, 3) := by decide +kernel
theorem dX7_takeWay_43 : decode cX7_takeWay 43 = .ok (.goto (-36), 3) := by decide +kernel
theorem dX7_takeWay_46 : decode cX7_takeWay 46 = .ok (.return_, 1) := by decide +kernel
def X7_takeWay_b7 (k7 : Int32 → Wd → Option (Wd)) (y2 : Int32) (w : Wd) : Option (Wd) :=
  if 4 ≤ y2 then
  (some w)
  else
  if (((w.1 8 10) >>> (y2 &&& 31)) &&& 1) = 0 then
  (k7 (y2 + 1) w)
  else
  if inb y2 4 = true then
  (cv (f_X8_run (84 + 3 * Int32.toNatClampNeg y2) (w.1 8 11) (w.1 8 12) w) fun w4 =>
  k7 (y2 + 1) w4)
  else none
set_option maxRecDepth 100000 in
set_option maxHeartbeats 4000000 in
theorem t_X7_takeWay_b7 {Z : Cz (Wd)} (hZ : OKZ Z SC cX7_takeWay RX7 3 none 4) (hE : EndV Z) (k7 : Int32 → Wd → Option (Wd)) (hk7 : ∀ (y2 : Int32)  (w : Wd), BW Z 3 7 [(0, .ref (ph (zY Z) 8)), (2, .int y2)] [] w (k7 y2 w)) (y2 : Int32)  (w : Wd) : BW Z 3 7 [(0, .ref (ph (zY Z) 8)), (2, .int y2)] [] w (X7_takeWay_b7 k7 y2 w) :=
  bw_iload_n hZ 1 rfl dX7_takeWay_7 <|
  bw_iconst hZ 4 (by decide) dX7_takeWay_8 <|
  bw_icmp_ge hZ (tgt := 46) (by decide) dX7_takeWay_9 (fun _ =>
  bw_vret hZ hE dX7_takeWay_46) (fun _ =>
  bw_aload_n hZ 0 rfl dX7_takeWay_12 <|
  bw_getI hZ fl_RX7_59 (by decide) obC_8 dX7_takeWay_13 <|
  bw_iload_n hZ 1 rfl dX7_takeWay_16 <|
  bw_ishr hZ dX7_takeWay_17 <|
  bw_iconst hZ 1 (by decide) dX7_takeWay_18 <|
  bw_iand hZ dX7_takeWay_19 <|
  bw_if_eq hZ (tgt := 40) (by decide) dX7_takeWay_20 (fun _ =>
  bw_iinc hZ 1 1 rfl (by decide) (by decide) rfl dX7_takeWay_40 <|
  bw_goto hZ (tgt := 7) (by decide) dX7_takeWay_43 <|
  bw_sub [1, 0] rfl (hk7 (y2 + 1) w)) (fun _ =>
  bw_aload_n hZ 0 rfl dX7_takeWay_23 <|
  bw_getR hZ fl_RX7_23 obC_8 rfl dX7_takeWay_24 <|
  bw_iload_n hZ 1 rfl dX7_takeWay_27 <|
  bw_aald (84 + 3 * Int32.toNatClampNeg y2) hZ (arC_12 _) (Or.inr (Or.inr ⟨rfl, rfl⟩)) rfl dX7_takeWay_28 fun hi2 =>
  bw_aload_n hZ 0 rfl dX7_takeWay_29 <|
  bw_getI hZ fl_RX7_62 (by decide) obC_8 dX7_takeWay_30 <|
  bw_aload_n hZ 0 rfl dX7_takeWay_33 <|
  bw_getI hZ fl_RX7_65 (by decide) obC_8 dX7_takeWay_34 <|
  bw_callVV (As := [.int (w.1 8 11), .int (w.1 8 12)]) hZ ml_RX7_68 rc_8 (obS (isS_of hi2)) (by decide) (c_X8_run (zl Z) (zY Z) (hZ_S hZ) (84 + 3 * Int32.toNatClampNeg y2) (w.1 8 11) (w.1 8 12) (isS_of hi2) w) rfl rfl (Nat.le_of_ble_eq_true rfl) dX7_takeWay_37 fun w4 =>
  bw_iinc hZ 1 1 rfl (by decide) (by decide) rfl dX7_takeWay_40 <|
  bw_goto hZ (tgt := 7) (by decide) dX7_takeWay_43 <|
  bw_sub [1, 0] rfl (hk7 (y2 + 1) w4)))
def X7_takeWay_b7_L  : Int32 → Wd → Option (Wd) :=
  lp fu (fun _ _ => none) (fun k7 => X7_takeWay_b7 k7)
theorem t_X7_takeWay_b7_L {Z : Cz (Wd)} (hZ : OKZ Z SC cX7_takeWay RX7 3 none 4) (hE : EndV Z)  : ∀ (y2 : Int32)  (w : Wd), BW Z 3 7 [(0, .ref (ph (zY Z) 8)), (2, .int y2)] [] w (X7_takeWay_b7_L y2 w) :=
  lp_bw (fun k7 => ∀ (y2 : Int32)  (w : Wd), BW Z 3 7 [(0, .ref (ph (zY Z) 8)), (2, .int y2)] [] w (k7 y2 w)) (fun _ _ => bw_none) (fun k7 hk7 y2 w => t_X7_takeWay_b7 hZ hE k7 hk7 y2 w) fu
def f_X7_takeWay (x1 : Int32) (w : Wd) : Option (Wd) :=
  cv (f_X7_setWay x1 w) fun w1 =>
  X7_takeWay_b7_L 0 w1
set_option maxRecDepth 100000 in
set_option maxHeartbeats 4000000 in
theorem t_X7_takeWay {Z : Cz (Wd)} (hZ : OKZ Z SC cX7_takeWay RX7 3 none 4) (hE : EndV Z) (x1 : Int32)  (w : Wd) : BW Z 3 0 [(0, .ref (ph (zY Z) 8)), (1, .int x1)] [] w (f_X7_takeWay x1 w) :=
  bw_aload_n hZ 0 rfl dX7_takeWay_0 <|
  bw_iload_n hZ 1 rfl dX7_takeWay_1 <|
  bw_callVV (As := [.int x1]) hZ ml_RX7_55 rc_7 obC_8 (by decide) (c_X7_setWay (zl Z) (zY Z) (hZ_S hZ) x1 w) rfl rfl (Nat.le_of_ble_eq_true rfl) dX7_takeWay_2 fun w1 =>
  bw_iconst hZ 0 (by decide) dX7_takeWay_5 <|
  bw_istore_n hZ rfl (by decide) rfl dX7_takeWay_6 <|
  bw_sub [1, 0] rfl (t_X7_takeWay_b7_L hZ hE 0 w1)
theorem c_X7_takeWay (l : Launch) (Y : Ev) (hY : Y.1 = SC) (x1 : Int32)  (w : Wd) : CV l Y yX7_takeWay cX7_takeWay 3 4 [.ref (ph Y 8), .int x1] w (f_X7_takeWay x1 w) := by
  refine CV_of (S := SC) (by decide) (Nat.le_of_ble_eq_true rfl) hY ?_
  intro Z hl hY2 hZ hE
  subst hY2
  exact t_X7_takeWay hZ hE x1 w
-- WhichWill$Shares.standingIn
theorem dX7_standingIn_0 : decode cX7_standingIn 0 = .ok (.aload_n 0, 1) := by decide +kernel
theorem dX7_standingIn_1 : decode cX7_standingIn 1 = .ok (.iload_n 1, 1) := by decide +kernel
theorem dX7_standingIn_2 : decode cX7_standingIn 2 = .ok (.invokevirtual 55, 3) := by decide +kernel
theorem dX7_standingIn_5 : decode cX7_standingIn 5 = .ok (.aload_n 0, 1) := by decide +kernel
theorem dX7_standingIn_6 : decode cX7_standingIn 6 = .ok (.getfield 23, 3) := by decide +kernel
theorem dX7_standingIn_9 : decode cX7_standingIn 9 = .ok (.iload_n 2, 1) := by decide +kernel
theorem dX7_standingIn_10 : decode cX7_standingIn 10 = .ok (.aaload, 1) := by decide +kernel
theorem dX7_standingIn_11 : decode cX7_standingIn 11 = .ok (.aload_n 0, 1) := by decide +kernel
theorem dX7_standingIn_12 : decode cX7_standingIn 12 = .ok (.getfield 62, 3) := by decide +kernel
theorem dX7_standingIn_15 : decode cX7_standingIn 15 = .ok (.aload_n 0, 1) := by decide +kernel
theorem dX7_standingIn_16 : decode cX7_standingIn 16 = .ok (.getfield 65, 3) := by decide +kernel
theorem dX7_standingIn_19 : decode cX7_standingIn 19 = .ok (.invokevirtual 68, 3) := by decide +kernel
theorem dX7_standingIn_22 : decode cX7_standingIn 22 = .ok (.aload_n 0, 1) := by decide +kernel
theorem dX7_standingIn_23 : decode cX7_standingIn 23 = .ok (.getfield 23, 3) := by decide +kernel
theorem dX7_standingIn_26 : decode cX7_standingIn 26 = .ok (.iload_n 2, 1) := by decide +kernel
theorem dX7_standingIn_27 : decode cX7_standingIn 27 = .ok (.aaload, 1) := by decide +kernel
theorem dX7_standingIn_28 : decode cX7_standingIn 28 = .ok (.areturn, 1) := by decide +kernel
def f_X7_standingIn (x1 : Int32) (x2 : Int32) (w : Wd) : Option (Nat × Wd) :=
  cv (f_X7_setWay x1 w) fun w1 =>
  if inb x2 4 = true then
  (cv (f_X8_run (84 + 3 * Int32.toNatClampNeg x2) (w1.1 8 11) (w1.1 8 12) w1) fun w4 =>
  if inb x2 4 = true then
  (some (84 + 3 * Int32.toNatClampNeg x2, w4))
  else none)
  else none
set_option maxRecDepth 100000 in
set_option maxHeartbeats 4000000 in
theorem t_X7_standingIn {Z : Cz (Nat × Wd)} (hZ : OKZ Z SC cX7_standingIn RX7 3 (some (.object "WhichWill$Standing")) 4) (hE : EndR Z) (x1 : Int32) (x2 : Int32)  (w : Wd) : BW Z 3 0 [(0, .ref (ph (zY Z) 8)), (1, .int x1), (2, .int x2)] [] w (f_X7_standingIn x1 x2 w) :=
  bw_aload_n hZ 0 rfl dX7_standingIn_0 <|
  bw_iload_n hZ 1 rfl dX7_standingIn_1 <|
  bw_callVV (As := [.int x1]) hZ ml_RX7_55 rc_7 obC_8 (by decide) (c_X7_setWay (zl Z) (zY Z) (hZ_S hZ) x1 w) rfl rfl (Nat.le_of_ble_eq_true rfl) dX7_standingIn_2 fun w1 =>
  bw_aload_n hZ 0 rfl dX7_standingIn_5 <|
  bw_getR hZ fl_RX7_23 obC_8 rfl dX7_standingIn_6 <|
  bw_iload_n hZ 2 rfl dX7_standingIn_9 <|
  bw_aald (84 + 3 * Int32.toNatClampNeg x2) hZ (arC_12 _) (Or.inr (Or.inr ⟨rfl, rfl⟩)) rfl dX7_standingIn_10 fun hi2 =>
  bw_aload_n hZ 0 rfl dX7_standingIn_11 <|
  bw_getI hZ fl_RX7_62 (by decide) obC_8 dX7_standingIn_12 <|
  bw_aload_n hZ 0 rfl dX7_standingIn_15 <|
  bw_getI hZ fl_RX7_65 (by decide) obC_8 dX7_standingIn_16 <|
  bw_callVV (As := [.int (w1.1 8 11), .int (w1.1 8 12)]) hZ ml_RX7_68 rc_8 (obS (isS_of hi2)) (by decide) (c_X8_run (zl Z) (zY Z) (hZ_S hZ) (84 + 3 * Int32.toNatClampNeg x2) (w1.1 8 11) (w1.1 8 12) (isS_of hi2) w1) rfl rfl (Nat.le_of_ble_eq_true rfl) dX7_standingIn_19 fun w4 =>
  bw_aload_n hZ 0 rfl dX7_standingIn_22 <|
  bw_getR hZ fl_RX7_23 obC_8 rfl dX7_standingIn_23 <|
  bw_iload_n hZ 2 rfl dX7_standingIn_26 <|
  bw_aald (84 + 3 * Int32.toNatClampNeg x2) hZ (arC_12 _) (Or.inr (Or.inr ⟨rfl, rfl⟩)) rfl dX7_standingIn_27 fun hi5 =>
  bw_aret hZ hE dX7_standingIn_28
theorem c_X7_standingIn (l : Launch) (Y : Ev) (hY : Y.1 = SC) (x1 : Int32) (x2 : Int32)  (w : Wd) : CR l Y yX7_standingIn cX7_standingIn 3 4 [.ref (ph Y 8), .int x1, .int x2] w (.object "WhichWill$Standing") (f_X7_standingIn x1 x2 w) := by
  refine CR_of (S := SC) (by decide) (Nat.le_of_ble_eq_true rfl) hY ?_
  intro Z hl hY2 hZ hE
  subst hY2
  exact t_X7_standingIn hZ hE x1 x2 w
theorem isS_X7_standingIn {x1 x2 : Int32} {w : Wd} {q : Nat × Wd} (h : f_X7_standingIn x1 x2 w = some q) : IsS q.1 := by
  unfold f_X7_standingIn at h
  cases h1 : f_X7_setWay x1 w with
  | none => rw [h1] at h; cases h
  | some w1 =>
    rw [h1] at h
    simp only [cv] at h
    split at h
    · rename_i hi
      split at h
      · cases h
      · cases h
        exact isS_of hi
    · cases h
-- WhichWill$Shares.gettersOfParts
theorem dX7_gettersOfParts_0 : decode cX7_gettersOfParts 0 = .ok (.iconst 0, 1) := by decide +kernel
theorem dX7_gettersOfParts_1 : decode cX7_gettersOfParts 1 = .ok (.istore_n 1, 1) := by decide +kernel
theorem dX7_gettersOfParts_2 : decode cX7_gettersOfParts 2 = .ok (.iconst 0, 1) := by decide +kernel
theorem dX7_gettersOfParts_3 : decode cX7_gettersOfParts 3 = .ok (.istore_n 2, 1) := by decide +kernel
theorem dX7_gettersOfParts_4 : decode cX7_gettersOfParts 4 = .ok (.iload_n 2, 1) := by decide +kernel
theorem dX7_gettersOfParts_5 : decode cX7_gettersOfParts 5 = .ok (.bipush 8, 2) := by decide +kernel
theorem dX7_gettersOfParts_7 : decode cX7_gettersOfParts 7 = .ok (.if_icmp .ge 28, 3) := by decide +kernel
theorem dX7_gettersOfParts_10 : decode cX7_gettersOfParts 10 = .ok (.iload_n 1, 1) := by decide +kernel
theorem dX7_gettersOfParts_11 : decode cX7_gettersOfParts 11 = .ok (.aload_n 0, 1) := by decide +kernel
theorem dX7_gettersOfParts_12 : decode cX7_gettersOfParts 12 = .ok (.getfield 9, 3) := by decide +kernel
theorem dX7_gettersOfParts_15 : decode cX7_gettersOfParts 15 = .ok (.iload_n 2, 1) := by decide +kernel
theorem dX7_gettersOfParts_16 : decode cX7_gettersOfParts 16 = .ok (.iaload, 1) := by decide +kernel
theorem dX7_gettersOfParts_17 : decode cX7_gettersOfParts 17 = .ok (.ifCond .le 9, 3) := by decide +kernel
theorem dX7_gettersOfParts_20 : decode cX7_gettersOfParts 20 = .ok (.iconst 1, 1) := by decide +kernel
theorem dX7_gettersOfParts_21 : decode cX7_gettersOfParts 21 = .ok (.iload_n 2, 1) := by decide +kernel
theorem dX7_gettersOfParts_22 : decode cX7_gettersOfParts 22 = .ok (.ishl, 1) := by decide +kernel
theorem dX7_gettersOfParts_23 : decode cX7_gettersOfParts 23 = .ok (.goto 4, 3) := by decide +kernel
theorem dX7_gettersOfParts_26 : decode cX7_gettersOfParts 26 = .ok (.iconst 0, 1) := by decide +kernel
theorem dX7_gettersOfParts_27 : decode cX7_gettersOfParts 27 = .ok (.ior, 1) := by decide +kernel
theorem dX7_gettersOfParts_28 : decode cX7_gettersOfParts 28 = .ok (.istore_n 1, 1) := by decide +kernel
theorem dX7_gettersOfParts_29 : decode cX7_gettersOfParts 29 = .ok (.iinc 2 1, 3) := by decide +kernel
theorem dX7_gettersOfParts_32 : decode cX7_gettersOfParts 32 = .ok (.goto (-28), 3) := by decide +kernel
theorem dX7_gettersOfParts_35 : decode cX7_gettersOfParts 35 = .ok (.iload_n 1, 1) := by decide +kernel
theorem dX7_gettersOfParts_36 : decode cX7_gettersOfParts 36 = .ok (.ireturn, 1) := by decide +kernel
def X7_gettersOfParts_b4 (k4 : Int32 → Int32 → Wd → Option (Int32 × Wd)) (y1 : Int32) (y2 : Int32) (w : Wd) : Option (Int32 × Wd) :=
  if 8 ≤ y2 then
  (some (y1, w))
  else
  if inb y2 8 = true then
  (if (w.1 9 (Int32.toNatClampNeg y2)) ≤ 0 then
  (lt (y1 ||| 0) fun v1 =>
  k4 v1 (y2 + 1) w)
  else
  lt (y1 ||| (1 <<< (y2 &&& 31))) fun v2 =>
  k4 v2 (y2 + 1) w)
  else none
set_option maxRecDepth 100000 in
set_option maxHeartbeats 4000000 in
theorem t_X7_gettersOfParts_b4 {Z : Cz (Int32 × Wd)} (hZ : OKZ Z SC cX7_gettersOfParts RX7 3 (some .int) 1) (hE : EndI Z) (k4 : Int32 → Int32 → Wd → Option (Int32 × Wd)) (hk4 : ∀ (y1 : Int32) (y2 : Int32)  (w : Wd), BW Z 3 4 [(0, .ref (ph (zY Z) 8)), (1, .int y1), (2, .int y2)] [] w (k4 y1 y2 w)) (y1 : Int32) (y2 : Int32)  (w : Wd) : BW Z 3 4 [(0, .ref (ph (zY Z) 8)), (1, .int y1), (2, .int y2)] [] w (X7_gettersOfParts_b4 k4 y1 y2 w) :=
  bw_iload_n hZ 2 rfl dX7_gettersOfParts_4 <|
  bw_bipush hZ 8 (by decide) dX7_gettersOfParts_5 <|
  bw_icmp_ge hZ (tgt := 35) (by decide) dX7_gettersOfParts_7 (fun _ =>
  bw_iload_n hZ 1 rfl dX7_gettersOfParts_35 <|
  bw_iret hZ hE dX7_gettersOfParts_36) (fun _ =>
  bw_iload_n hZ 1 rfl dX7_gettersOfParts_10 <|
  bw_aload_n hZ 0 rfl dX7_gettersOfParts_11 <|
  bw_getR hZ fl_RX7_9 obC_8 rfl dX7_gettersOfParts_12 <|
  bw_iload_n hZ 2 rfl dX7_gettersOfParts_15 <|
  bw_iald hZ (arC_9 _) dX7_gettersOfParts_16 <|
  bw_if_le hZ (tgt := 26) (by decide) dX7_gettersOfParts_17 (fun _ =>
  bw_iconst hZ 0 (by decide) dX7_gettersOfParts_26 <|
  bw_ior hZ dX7_gettersOfParts_27 <|
  bw_nm fun v1 =>
  bw_istore_n hZ rfl (by decide) rfl dX7_gettersOfParts_28 <|
  bw_iinc hZ 1 2 rfl (by decide) (by decide) rfl dX7_gettersOfParts_29 <|
  bw_goto hZ (tgt := 4) (by decide) dX7_gettersOfParts_32 <|
  bw_sub [2, 1, 0] rfl (hk4 v1 (y2 + 1) w)) (fun _ =>
  bw_iconst hZ 1 (by decide) dX7_gettersOfParts_20 <|
  bw_iload_n hZ 2 rfl dX7_gettersOfParts_21 <|
  bw_ishl hZ dX7_gettersOfParts_22 <|
  bw_goto hZ (tgt := 27) (by decide) dX7_gettersOfParts_23 <|
  bw_ior hZ dX7_gettersOfParts_27 <|
  bw_nm fun v2 =>
  bw_istore_n hZ rfl (by decide) rfl dX7_gettersOfParts_28 <|
  bw_iinc hZ 1 2 rfl (by decide) (by decide) rfl dX7_gettersOfParts_29 <|
  bw_goto hZ (tgt := 4) (by decide) dX7_gettersOfParts_32 <|
  bw_sub [2, 1, 0] rfl (hk4 v2 (y2 + 1) w)))
def X7_gettersOfParts_b4_L  : Int32 → Int32 → Wd → Option (Int32 × Wd) :=
  lp fu (fun _ _ _ => none) (fun k4 => X7_gettersOfParts_b4 k4)
theorem t_X7_gettersOfParts_b4_L {Z : Cz (Int32 × Wd)} (hZ : OKZ Z SC cX7_gettersOfParts RX7 3 (some .int) 1) (hE : EndI Z)  : ∀ (y1 : Int32) (y2 : Int32)  (w : Wd), BW Z 3 4 [(0, .ref (ph (zY Z) 8)), (1, .int y1), (2, .int y2)] [] w (X7_gettersOfParts_b4_L y1 y2 w) :=
  lp_bw (fun k4 => ∀ (y1 : Int32) (y2 : Int32)  (w : Wd), BW Z 3 4 [(0, .ref (ph (zY Z) 8)), (1, .int y1), (2, .int y2)] [] w (k4 y1 y2 w)) (fun _ _ _ => bw_none) (fun k4 hk4 y1 y2 w => t_X7_gettersOfParts_b4 hZ hE k4 hk4 y1 y2 w) fu
def f_X7_gettersOfParts (w : Wd) : Option (Int32 × Wd) :=
  X7_gettersOfParts_b4_L 0 0 w
set_option maxRecDepth 100000 in
set_option maxHeartbeats 4000000 in
theorem t_X7_gettersOfParts {Z : Cz (Int32 × Wd)} (hZ : OKZ Z SC cX7_gettersOfParts RX7 3 (some .int) 1) (hE : EndI Z)   (w : Wd) : BW Z 3 0 [(0, .ref (ph (zY Z) 8))] [] w (f_X7_gettersOfParts w) :=
  bw_iconst hZ 0 (by decide) dX7_gettersOfParts_0 <|
  bw_istore_n hZ rfl (by decide) rfl dX7_gettersOfParts_1 <|
  bw_iconst hZ 0 (by decide) dX7_gettersOfParts_2 <|
  bw_istore_n hZ rfl (by decide) rfl dX7_gettersOfParts_3 <|
  bw_sub [2, 1, 0] rfl (t_X7_gettersOfParts_b4_L hZ hE 0 0 w)
theorem c_X7_gettersOfParts (l : Launch) (Y : Ev) (hY : Y.1 = SC)   (w : Wd) : CI l Y yX7_gettersOfParts cX7_gettersOfParts 3 1 [.ref (ph Y 8)] w .int (f_X7_gettersOfParts w) := by
  refine CI_of (S := SC) (by decide) (Nat.le_of_ble_eq_true rfl) hY ?_
  intro Z hl hY2 hZ hE
  subst hY2
  exact t_X7_gettersOfParts hZ hE w
-- WhichWill$Shares.cutPays
theorem dX7_cutPays_0 : decode cX7_cutPays 0 = .ok (.iload_n 1, 1) := by decide +kernel
theorem dX7_cutPays_1 : decode cX7_cutPays 1 = .ok (.ifCond .gt 4, 3) := by decide +kernel
theorem dX7_cutPays_4 : decode cX7_cutPays 4 = .ok (.return_, 1) := by decide +kernel
theorem dX7_cutPays_5 : decode cX7_cutPays 5 = .ok (.iload_n 2, 1) := by decide +kernel
theorem dX7_cutPays_6 : decode cX7_cutPays 6 = .ok (.istore_n 3, 1) := by decide +kernel
theorem dX7_cutPays_7 : decode cX7_cutPays 7 = .ok (.iconst 0, 1) := by decide +kernel
theorem dX7_cutPays_8 : decode cX7_cutPays 8 = .ok (.istore 4, 2) := by decide +kernel
theorem dX7_cutPays_10 : decode cX7_cutPays 10 = .ok (.iload 4, 2) := by decide +kernel
theorem dX7_cutPays_12 : decode cX7_cutPays 12 = .ok (.aload_n 0, 1) := by decide +kernel
theorem dX7_cutPays_13 : decode cX7_cutPays 13 = .ok (.getfield 204, 3) := by decide +kernel
theorem dX7_cutPays_16 : decode cX7_cutPays 16 = .ok (.if_icmp .ge 41, 3) := by decide +kernel
theorem dX7_cutPays_19 : decode cX7_cutPays 19 = .ok (.aload_n 0, 1) := by decide +kernel
theorem dX7_cutPays_20 : decode cX7_cutPays 20 = .ok (.getfield 30, 3) := by decide +kernel
theorem dX7_cutPays_23 : decode cX7_cutPays 23 = .ok (.iload 4, 2) := by decide +kernel
theorem dX7_cutPays_25 : decode cX7_cutPays 25 = .ok (.aload_n 0, 1) := by decide +kernel
theorem dX7_cutPays_26 : decode cX7_cutPays 26 = .ok (.getfield 30, 3) := by decide +kernel
theorem dX7_cutPays_29 : decode cX7_cutPays 29 = .ok (.iload 4, 2) := by decide +kernel
theorem dX7_cutPays_31 : decode cX7_cutPays 31 = .ok (.iaload, 1) := by decide +kernel
theorem dX7_cutPays_32 : decode cX7_cutPays 32 = .ok (.i2l, 1) := by decide +kernel
theorem dX7_cutPays_33 : decode cX7_cutPays 33 = .ok (.iload_n 2, 1) := by decide +kernel
theorem dX7_cutPays_34 : decode cX7_cutPays 34 = .ok (.i2l, 1) := by decide +kernel
theorem dX7_cutPays_35 : decode cX7_cutPays 35 = .ok (.lmul, 1) := by decide +kernel
theorem dX7_cutPays_36 : decode cX7_cutPays 36 = .ok (.iload_n 1, 1) := by decide +kernel
theorem dX7_cutPays_37 : decode cX7_cutPays 37 = .ok (.i2l, 1) := by decide +kernel
theorem dX7_cutPays_38 : decode cX7_cutPays 38 = .ok (.ldiv, 1) := by decide +kernel
theorem dX7_cutPays_39 : decode cX7_cutPays 39 = .ok (.l2i, 1) := by decide +kernel
theorem dX7_cutPays_40 : decode cX7_cutPays 40 = .ok (.iastore, 1) := by decide +kernel
theorem dX7_cutPays_41 : decode cX7_cutPays 41 = .ok (.iload_n 3, 1) := by decide +kernel
theorem dX7_cutPays_42 : decode cX7_cutPays 42 = .ok (.aload_n 0, 1) := by decide +kernel
theorem dX7_cutPays_43 : decode cX7_cutPays 43 = .ok (.getfield 30, 3) := by decide +kernel
theorem dX7_cutPays_46 : decode cX7_cutPays 46 = .ok (.iload 4, 2) := by decide +kernel
theorem dX7_cutPays_48 : decode cX7_cutPays 48 = .ok (.iaload, 1) := by decide +kernel
theorem dX7_cutPays_49 : decode cX7_cutPays 49 = .ok (.isub, 1) := by decide +kernel
theorem dX7_cutPays_50 : decode cX7_cutPays 50 = .ok (.istore_n 3, 1) := by decide +kernel
theorem dX7_cutPays_51 : decode cX7_cutPays 51 = .ok (.iinc 4 1, 3) := by decide +kernel
theorem dX7_cutPays_54 : decode cX7_cutPays 54 = .ok (.goto (-44), 3) := by decide +kernel
theorem dX7_cutPays_57 : decode cX7_cutPays 57 = .ok (.iconst 0, 1) := by decide +kernel
theorem dX7_cutPays_58 : decode cX7_cutPays 58 = .ok (.istore 4, 2) := by decide +kernel
theorem dX7_cutPays_60 : decode cX7_cutPays 60 = .ok (.iload 4, 2) := by decide +kernel
theorem dX7_cutPays_62 : decode cX7_cutPays 62 = .ok (.aload_n 0, 1) := by decide +kernel
theorem dX7_cutPays_63 : decode cX7_cutPays 63 = .ok (.getfield 204, 3) := by decide +kernel
theorem dX7_cutPays_66 : decode cX7_cutPays 66 = .ok (.if_icmp .ge 26, 3) := by decide +kernel
theorem dX7_cutPays_69 : decode cX7_cutPays 69 = .ok (.iload 4, 2) := by decide +kernel
theorem dX7_cutPays_71 : decode cX7_cutPays 71 = .ok (.iload_n 3, 1) := by decide +kernel
theorem dX7_cutPays_72 : decode cX7_cutPays 72 = .ok (.if_icmp .ge 20, 3) := by decide +kernel
theorem dX7_cutPays_75 : decode cX7_cutPays 75 = .ok (.aload_n 0, 1) := by decide +kernel
theorem dX7_cutPays_76 : decode cX7_cutPays 76 = .ok (.getfield 30, 3) := by decide +kernel
theorem dX7_cutPays_79 : decode cX7_cutPays 79 = .ok (.iload 4, 2) := by decide +kernel
theorem dX7_cutPays_81 : decode cX7_cutPays 81 = .ok (.dup2, 1) := by decide +kernel
theorem dX7_cutPays_82 : decode cX7_cutPays 82 = .ok (.iaload, 1) := by decide +kernel
theorem dX7_cutPays_83 : decode cX7_cutPays 83 = .ok (.iconst 1, 1) := by decide +kernel
theorem dX7_cutPays_84 : decode cX7_cutPays 84 = .ok (.iadd, 1) := by decide +kernel
theorem dX7_cutPays_85 : decode cX7_cutPays 85 = .ok (.iastore, 1) := by decide +kernel
theorem dX7_cutPays_86 : decode cX7_cutPays 86 = .ok (.iinc 4 1, 3) := by decide +kernel
theorem dX7_cutPays_89 : decode cX7_cutPays 89 = .ok (.goto (-29), 3) := by decide +kernel
theorem dX7_cutPays_92 : decode cX7_cutPays 92 = .ok (.return_, 1) := by decide +kernel
def X7_cutPays_b60 (k60 : Int32 → Int32 → Wd → Option (Wd)) (y3 : Int32) (y4 : Int32) (w : Wd) : Option (Wd) :=
  if (w.1 8 8) ≤ y4 then
  (some w)
  else
  if y3 ≤ y4 then
  (some w)
  else
  if inb y4 32 = true then
  (if inb y4 32 = true then
  (lt (wI w 14 (Int32.toNatClampNeg y4) ((w.1 14 (Int32.toNatClampNeg y4)) + 1)) fun w1 =>
  k60 y3 (y4 + 1) w1)
  else none)
  else none
set_option maxRecDepth 100000 in
set_option maxHeartbeats 4000000 in
theorem t_X7_cutPays_b60 {Z : Cz (Wd)} (hZ : OKZ Z SC cX7_cutPays RX7 5 none 1) (hE : EndV Z) (k60 : Int32 → Int32 → Wd → Option (Wd)) (hk60 : ∀ (y3 : Int32) (y4 : Int32)  (w : Wd), BW Z 5 60 [(0, .ref (ph (zY Z) 8)), (3, .int y3), (4, .int y4)] [] w (k60 y3 y4 w)) (y3 : Int32) (y4 : Int32)  (w : Wd) : BW Z 5 60 [(0, .ref (ph (zY Z) 8)), (3, .int y3), (4, .int y4)] [] w (X7_cutPays_b60 k60 y3 y4 w) :=
  bw_iload hZ 2 rfl dX7_cutPays_60 <|
  bw_aload_n hZ 0 rfl dX7_cutPays_62 <|
  bw_getI hZ fl_RX7_204 (by decide) obC_8 dX7_cutPays_63 <|
  bw_icmp_ge hZ (tgt := 92) (by decide) dX7_cutPays_66 (fun _ =>
  bw_vret hZ hE dX7_cutPays_92) (fun _ =>
  bw_iload hZ 2 rfl dX7_cutPays_69 <|
  bw_iload_n hZ 1 rfl dX7_cutPays_71 <|
  bw_icmp_ge hZ (tgt := 92) (by decide) dX7_cutPays_72 (fun _ =>
  bw_vret hZ hE dX7_cutPays_92) (fun _ =>
  bw_aload_n hZ 0 rfl dX7_cutPays_75 <|
  bw_getR hZ fl_RX7_30 obC_8 rfl dX7_cutPays_76 <|
  bw_iload hZ 2 rfl dX7_cutPays_79 <|
  bw_dup2 hZ rfl rfl dX7_cutPays_81 <|
  bw_iald hZ (arC_14 _) dX7_cutPays_82 <|
  bw_iconst hZ 1 (by decide) dX7_cutPays_83 <|
  bw_iadd hZ dX7_cutPays_84 <|
  bw_iast hZ (arC_14 _) dX7_cutPays_85 fun w1 =>
  bw_iinc hZ 1 2 rfl (by decide) (by decide) rfl dX7_cutPays_86 <|
  bw_goto hZ (tgt := 60) (by decide) dX7_cutPays_89 <|
  bw_sub [1, 2, 0] rfl (hk60 y3 (y4 + 1) w1)))
def X7_cutPays_b60_L  : Int32 → Int32 → Wd → Option (Wd) :=
  lp fu (fun _ _ _ => none) (fun k60 => X7_cutPays_b60 k60)
theorem t_X7_cutPays_b60_L {Z : Cz (Wd)} (hZ : OKZ Z SC cX7_cutPays RX7 5 none 1) (hE : EndV Z)  : ∀ (y3 : Int32) (y4 : Int32)  (w : Wd), BW Z 5 60 [(0, .ref (ph (zY Z) 8)), (3, .int y3), (4, .int y4)] [] w (X7_cutPays_b60_L y3 y4 w) :=
  lp_bw (fun k60 => ∀ (y3 : Int32) (y4 : Int32)  (w : Wd), BW Z 5 60 [(0, .ref (ph (zY Z) 8)), (3, .int y3), (4, .int y4)] [] w (k60 y3 y4 w)) (fun _ _ _ => bw_none) (fun k60 hk60 y3 y4 w => t_X7_cutPays_b60 hZ hE k60 hk60 y3 y4 w) fu
def X7_cutPays_b10 (k10 : Int32 → Int32 → Int32 → Int32 → Wd → Option (Wd)) (y1 : Int32) (y2 : Int32) (y3 : Int32) (y4 : Int32) (w : Wd) : Option (Wd) :=
  if (w.1 8 8) ≤ y4 then
  (X7_cutPays_b60_L y3 0 w)
  else
  if inb y4 32 = true then
  (if (Int32.toInt64 y1) = 0 then none else
  if inb y4 32 = true then
  (lt (wI w 14 (Int32.toNatClampNeg y4) (Int64.toInt32 (((Int32.toInt64 (w.1 14 (Int32.toNatClampNeg y4))) * (Int32.toInt64 y2)) / (Int32.toInt64 y1)))) fun w2 =>
  if inb y4 32 = true then
  (lt (y3 - (w2.1 14 (Int32.toNatClampNeg y4))) fun v3 =>
  k10 y1 y2 v3 (y4 + 1) w2)
  else none)
  else none)
  else none
set_option maxRecDepth 100000 in
set_option maxHeartbeats 4000000 in
theorem t_X7_cutPays_b10 {Z : Cz (Wd)} (hZ : OKZ Z SC cX7_cutPays RX7 5 none 1) (hE : EndV Z) (k10 : Int32 → Int32 → Int32 → Int32 → Wd → Option (Wd)) (hk10 : ∀ (y1 : Int32) (y2 : Int32) (y3 : Int32) (y4 : Int32)  (w : Wd), BW Z 5 10 [(0, .ref (ph (zY Z) 8)), (1, .int y1), (2, .int y2), (3, .int y3), (4, .int y4)] [] w (k10 y1 y2 y3 y4 w)) (y1 : Int32) (y2 : Int32) (y3 : Int32) (y4 : Int32)  (w : Wd) : BW Z 5 10 [(0, .ref (ph (zY Z) 8)), (1, .int y1), (2, .int y2), (3, .int y3), (4, .int y4)] [] w (X7_cutPays_b10 k10 y1 y2 y3 y4 w) :=
  bw_iload hZ 4 rfl dX7_cutPays_10 <|
  bw_aload_n hZ 0 rfl dX7_cutPays_12 <|
  bw_getI hZ fl_RX7_204 (by decide) obC_8 dX7_cutPays_13 <|
  bw_icmp_ge hZ (tgt := 57) (by decide) dX7_cutPays_16 (fun _ =>
  bw_iconst hZ 0 (by decide) dX7_cutPays_57 <|
  bw_istore hZ (by decide) rfl dX7_cutPays_58 <|
  bw_sub [1, 4, 0] rfl (t_X7_cutPays_b60_L hZ hE y3 0 w)) (fun _ =>
  bw_aload_n hZ 0 rfl dX7_cutPays_19 <|
  bw_getR hZ fl_RX7_30 obC_8 rfl dX7_cutPays_20 <|
  bw_iload hZ 4 rfl dX7_cutPays_23 <|
  bw_aload_n hZ 0 rfl dX7_cutPays_25 <|
  bw_getR hZ fl_RX7_30 obC_8 rfl dX7_cutPays_26 <|
  bw_iload hZ 4 rfl dX7_cutPays_29 <|
  bw_iald hZ (arC_14 _) dX7_cutPays_31 <|
  bw_i2l hZ dX7_cutPays_32 <|
  bw_iload_n hZ 2 rfl dX7_cutPays_33 <|
  bw_i2l hZ dX7_cutPays_34 <|
  bw_lmul hZ dX7_cutPays_35 <|
  bw_iload_n hZ 1 rfl dX7_cutPays_36 <|
  bw_i2l hZ dX7_cutPays_37 <|
  bw_ldiv hZ dX7_cutPays_38 <|
  bw_l2i hZ dX7_cutPays_39 <|
  bw_iast hZ (arC_14 _) dX7_cutPays_40 fun w2 =>
  bw_iload_n hZ 3 rfl dX7_cutPays_41 <|
  bw_aload_n hZ 0 rfl dX7_cutPays_42 <|
  bw_getR hZ fl_RX7_30 obC_8 rfl dX7_cutPays_43 <|
  bw_iload hZ 4 rfl dX7_cutPays_46 <|
  bw_iald hZ (arC_14 _) dX7_cutPays_48 <|
  bw_isub hZ dX7_cutPays_49 <|
  bw_nm fun v3 =>
  bw_istore_n hZ rfl (by decide) rfl dX7_cutPays_50 <|
  bw_iinc hZ 1 4 rfl (by decide) (by decide) rfl dX7_cutPays_51 <|
  bw_goto hZ (tgt := 10) (by decide) dX7_cutPays_54 <|
  bw_sub [2, 3, 4, 1, 0] rfl (hk10 y1 y2 v3 (y4 + 1) w2))
def X7_cutPays_b10_L  : Int32 → Int32 → Int32 → Int32 → Wd → Option (Wd) :=
  lp fu (fun _ _ _ _ _ => none) (fun k10 => X7_cutPays_b10 k10)
theorem t_X7_cutPays_b10_L {Z : Cz (Wd)} (hZ : OKZ Z SC cX7_cutPays RX7 5 none 1) (hE : EndV Z)  : ∀ (y1 : Int32) (y2 : Int32) (y3 : Int32) (y4 : Int32)  (w : Wd), BW Z 5 10 [(0, .ref (ph (zY Z) 8)), (1, .int y1), (2, .int y2), (3, .int y3), (4, .int y4)] [] w (X7_cutPays_b10_L y1 y2 y3 y4 w) :=
  lp_bw (fun k10 => ∀ (y1 : Int32) (y2 : Int32) (y3 : Int32) (y4 : Int32)  (w : Wd), BW Z 5 10 [(0, .ref (ph (zY Z) 8)), (1, .int y1), (2, .int y2), (3, .int y3), (4, .int y4)] [] w (k10 y1 y2 y3 y4 w)) (fun _ _ _ _ _ => bw_none) (fun k10 hk10 y1 y2 y3 y4 w => t_X7_cutPays_b10 hZ hE k10 hk10 y1 y2 y3 y4 w) fu
def f_X7_cutPays (x1 : Int32) (x2 : Int32) (w : Wd) : Option (Wd) :=
  if 0 < x1 then
  (X7_cutPays_b10_L x1 x2 x2 0 w)
  else
  some w
set_option maxRecDepth 100000 in
set_option maxHeartbeats 4000000 in
theorem t_X7_cutPays {Z : Cz (Wd)} (hZ : OKZ Z SC cX7_cutPays RX7 5 none 1) (hE : EndV Z) (x1 : Int32) (x2 : Int32)  (w : Wd) : BW Z 5 0 [(0, .ref (ph (zY Z) 8)), (1, .int x1), (2, .int x2)] [] w (f_X7_cutPays x1 x2 w) :=
  bw_iload_n hZ 1 rfl dX7_cutPays_0 <|
  bw_if_gt hZ (tgt := 5) (by decide) dX7_cutPays_1 (fun _ =>
  bw_iload_n hZ 2 rfl dX7_cutPays_5 <|
  bw_istore_n hZ rfl (by decide) rfl dX7_cutPays_6 <|
  bw_iconst hZ 0 (by decide) dX7_cutPays_7 <|
  bw_istore hZ (by decide) rfl dX7_cutPays_8 <|
  bw_sub [2, 3, 4, 1, 0] rfl (t_X7_cutPays_b10_L hZ hE x1 x2 x2 0 w)) (fun _ =>
  bw_vret hZ hE dX7_cutPays_4)
theorem c_X7_cutPays (l : Launch) (Y : Ev) (hY : Y.1 = SC) (x1 : Int32) (x2 : Int32)  (w : Wd) : CV l Y yX7_cutPays cX7_cutPays 5 1 [.ref (ph Y 8), .int x1, .int x2] w (f_X7_cutPays x1 x2 w) := by
  refine CV_of (S := SC) (by decide) (Nat.le_of_ble_eq_true rfl) hY ?_
  intro Z hl hY2 hZ hE
  subst hY2
  exact t_X7_cutPays hZ hE x1 x2 w
-- WhichWill$Shares.findPaysOf
theorem dX7_findPaysOf_0 : decode cX7_findPaysOf 0 = .ok (.iconst 0, 1) := by decide +kernel
theorem dX7_findPaysOf_1 : decode cX7_findPaysOf 1 = .ok (.istore_n 3, 1) := by decide +kernel
theorem dX7_findPaysOf_2 : decode cX7_findPaysOf 2 = .ok (.iload_n 3, 1) := by decide +kernel
theorem dX7_findPaysOf_3 : decode cX7_findPaysOf 3 = .ok (.aload_n 1, 1) := by decide +kernel
theorem dX7_findPaysOf_4 : decode cX7_findPaysOf 4 = .ok (.getfield 142, 3) := by decide +kernel
theorem dX7_findPaysOf_7 : decode cX7_findPaysOf 7 = .ok (.if_icmp .ge 80, 3) := by decide +kernel
theorem dX7_findPaysOf_10 : decode cX7_findPaysOf 10 = .ok (.aload_n 1, 1) := by decide +kernel
theorem dX7_findPaysOf_11 : decode cX7_findPaysOf 11 = .ok (.getfield 219, 3) := by decide +kernel
theorem dX7_findPaysOf_14 : decode cX7_findPaysOf 14 = .ok (.iload_n 3, 1) := by decide +kernel
theorem dX7_findPaysOf_15 : decode cX7_findPaysOf 15 = .ok (.iaload, 1) := by decide +kernel
theorem dX7_findPaysOf_16 : decode cX7_findPaysOf 16 = .ok (.ifCond .le 65, 3) := by decide +kernel
theorem dX7_findPaysOf_19 : decode cX7_findPaysOf 19 = .ok (.aload_n 0, 1) := by decide +kernel
theorem dX7_findPaysOf_20 : decode cX7_findPaysOf 20 = .ok (.aload_n 1, 1) := by decide +kernel
theorem dX7_findPaysOf_21 : decode cX7_findPaysOf 21 = .ok (.iload_n 3, 1) := by decide +kernel
theorem dX7_findPaysOf_22 : decode cX7_findPaysOf 22 = .ok (.iload_n 2, 1) := by decide +kernel
theorem dX7_findPaysOf_23 : decode cX7_findPaysOf 23 = .ok (.invokevirtual 150, 3) := by decide +kernel
theorem dX7_findPaysOf_26 : decode cX7_findPaysOf 26 = .ok (.ifCond .eq 55, 3) := by decide +kernel
theorem dX7_findPaysOf_29 : decode cX7_findPaysOf 29 = .ok (.aload_n 0, 1) := by decide +kernel
theorem dX7_findPaysOf_30 : decode cX7_findPaysOf 30 = .ok (.getfield 204, 3) := by decide +kernel
theorem dX7_findPaysOf_33 : decode cX7_findPaysOf 33 = .ok (.aload_n 0, 1) := by decide +kernel
theorem dX7_findPaysOf_34 : decode cX7_findPaysOf 34 = .ok (.getfield 30, 3) := by decide +kernel
theorem dX7_findPaysOf_37 : decode cX7_findPaysOf 37 = .ok (.arraylength, 1) := by decide +kernel
theorem dX7_findPaysOf_38 : decode cX7_findPaysOf 38 = .ok (.if_icmp .ge 43, 3) := by decide +kernel
theorem dX7_findPaysOf_41 : decode cX7_findPaysOf 41 = .ok (.aload_n 0, 1) := by decide +kernel
theorem dX7_findPaysOf_42 : decode cX7_findPaysOf 42 = .ok (.getfield 30, 3) := by decide +kernel
theorem dX7_findPaysOf_45 : decode cX7_findPaysOf 45 = .ok (.aload_n 0, 1) := by decide +kernel
theorem dX7_findPaysOf_46 : decode cX7_findPaysOf 46 = .ok (.getfield 204, 3) := by decide +kernel
theorem dX7_findPaysOf_49 : decode cX7_findPaysOf 49 = .ok (.aload_n 1, 1) := by decide +kernel
theorem dX7_findPaysOf_50 : decode cX7_findPaysOf 50 = .ok (.getfield 219, 3) := by decide +kernel
theorem dX7_findPaysOf_53 : decode cX7_findPaysOf 53 = .ok (.iload_n 3, 1) := by decide +kernel
theorem dX7_findPaysOf_54 : decode cX7_findPaysOf 54 = .ok (.iaload, 1) := by decide +kernel
theorem dX7_findPaysOf_55 : decode cX7_findPaysOf 55 = .ok (.iastore, 1) := by decide +kernel
theorem dX7_findPaysOf_56 : decode cX7_findPaysOf 56 = .ok (.aload_n 0, 1) := by decide +kernel
theorem dX7_findPaysOf_57 : decode cX7_findPaysOf 57 = .ok (.getfield 33, 3) := by decide +kernel
theorem dX7_findPaysOf_60 : decode cX7_findPaysOf 60 = .ok (.aload_n 0, 1) := by decide +kernel
theorem dX7_findPaysOf_61 : decode cX7_findPaysOf 61 = .ok (.getfield 204, 3) := by decide +kernel
theorem dX7_findPaysOf_64 : decode cX7_findPaysOf 64 = .ok (.aload_n 1, 1) := by decide +kernel
theorem dX7_findPaysOf_65 : decode cX7_findPaysOf 65 = .ok (.getfield 154, 3) := by decide +kernel
theorem dX7_findPaysOf_68 : decode cX7_findPaysOf 68 = .ok (.iload_n 3, 1) := by decide +kernel
theorem dX7_findPaysOf_69 : decode cX7_findPaysOf 69 = .ok (.iaload, 1) := by decide +kernel
theorem dX7_findPaysOf_70 : decode cX7_findPaysOf 70 = .ok (.iastore, 1) := by decide +kernel
theorem dX7_findPaysOf_71 : decode cX7_findPaysOf 71 = .ok (.aload_n 0, 1) := by decide +kernel
theorem dX7_findPaysOf_72 : decode cX7_findPaysOf 72 = .ok (.dup, 1) := by decide +kernel
theorem dX7_findPaysOf_73 : decode cX7_findPaysOf 73 = .ok (.getfield 204, 3) := by decide +kernel
theorem dX7_findPaysOf_76 : decode cX7_findPaysOf 76 = .ok (.iconst 1, 1) := by decide +kernel
theorem dX7_findPaysOf_77 : decode cX7_findPaysOf 77 = .ok (.iadd, 1) := by decide +kernel
theorem dX7_findPaysOf_78 : decode cX7_findPaysOf 78 = .ok (.putfield 204, 3) := by decide +kernel
theorem dX7_findPaysOf_81 : decode cX7_findPaysOf 81 = .ok (.iinc 3 1, 3) := by decide +kernel
theorem dX7_findPaysOf_84 : decode cX7_findPaysOf 84 = .ok (.goto (-82), 3) := by decide +kernel
theorem dX7_findPaysOf_87 : decode cX7_findPaysOf 87 = .ok (.return_, 1) := by decide +kernel
def X7_findPaysOf_b2 (k2 : Nat → Int32 → Int32 → Wd → Option (Wd)) (y1 : Nat) (y2 : Int32) (y3 : Int32) (w : Wd) : Option (Wd) :=
  if (w.1 y1 8) ≤ y3 then
  (some w)
  else
  if inb y3 8 = true then
  (if (w.1 (y1 + 2) (Int32.toNatClampNeg y3)) ≤ 0 then
  (k2 y1 y2 (y3 + 1) w)
  else
  cl (f_X7_isHolding y1 y3 y2 w) fun r2 w1 =>
  if r2 = 0 then
  (k2 y1 y2 (y3 + 1) w1)
  else
  if 32 ≤ (w1.1 8 8) then
  (k2 y1 y2 (y3 + 1) w1)
  else
  if inb y3 8 = true then
  (if inb (w1.1 8 8) 32 = true then
  (lt (wI w1 14 (Int32.toNatClampNeg (w1.1 8 8)) (w1.1 (y1 + 2) (Int32.toNatClampNeg y3))) fun w3 =>
  if inb y3 8 = true then
  (if inb (w3.1 8 8) 32 = true then
  (lt (wI w3 15 (Int32.toNatClampNeg (w3.1 8 8)) (w3.1 (y1 + 3) (Int32.toNatClampNeg y3))) fun w4 =>
  lt (wI w4 8 8 ((w4.1 8 8) + 1)) fun w5 =>
  k2 y1 y2 (y3 + 1) w5)
  else none)
  else none)
  else none)
  else none)
  else none
set_option maxRecDepth 100000 in
set_option maxHeartbeats 4000000 in
theorem t_X7_findPaysOf_b2 {Z : Cz (Wd)} (hZ : OKZ Z SC cX7_findPaysOf RX7 4 none 3) (hE : EndV Z) (k2 : Nat → Int32 → Int32 → Wd → Option (Wd)) (hk2 : ∀ (y1 : Nat) (y2 : Int32) (y3 : Int32) (hy1 : IsP y1) (w : Wd), BW Z 4 2 [(0, .ref (ph (zY Z) 8)), (1, .ref (ph (zY Z) y1)), (2, .int y2), (3, .int y3)] [] w (k2 y1 y2 y3 w)) (y1 : Nat) (y2 : Int32) (y3 : Int32) (hy1 : IsP y1) (w : Wd) : BW Z 4 2 [(0, .ref (ph (zY Z) 8)), (1, .ref (ph (zY Z) y1)), (2, .int y2), (3, .int y3)] [] w (X7_findPaysOf_b2 k2 y1 y2 y3 w) :=
  bw_iload_n hZ 3 rfl dX7_findPaysOf_2 <|
  bw_aload_n hZ 1 rfl dX7_findPaysOf_3 <|
  bw_getI hZ fl_RX7_142 (by decide) (obP hy1) dX7_findPaysOf_4 <|
  bw_icmp_ge hZ (tgt := 87) (by decide) dX7_findPaysOf_7 (fun _ =>
  bw_vret hZ hE dX7_findPaysOf_87) (fun _ =>
  bw_aload_n hZ 1 rfl dX7_findPaysOf_10 <|
  bw_getR hZ fl_RX7_219 (obP hy1) (rfP10 hy1) dX7_findPaysOf_11 <|
  bw_iload_n hZ 3 rfl dX7_findPaysOf_14 <|
  bw_iald hZ (arP2 hy1 _) dX7_findPaysOf_15 <|
  bw_if_le hZ (tgt := 81) (by decide) dX7_findPaysOf_16 (fun _ =>
  bw_iinc hZ 1 3 rfl (by decide) (by decide) rfl dX7_findPaysOf_81 <|
  bw_goto hZ (tgt := 2) (by decide) dX7_findPaysOf_84 <|
  bw_sub [1, 2, 3, 0] rfl (hk2 y1 y2 (y3 + 1) hy1 w)) (fun _ =>
  bw_aload_n hZ 0 rfl dX7_findPaysOf_19 <|
  bw_aload_n hZ 1 rfl dX7_findPaysOf_20 <|
  bw_iload_n hZ 3 rfl dX7_findPaysOf_21 <|
  bw_iload_n hZ 2 rfl dX7_findPaysOf_22 <|
  bw_callVI (As := [.ref (ph (zY Z) y1), .int y3, .int y2]) hZ ml_RX7_150 rc_7 obC_8 (by decide) (c_X7_isHolding (zl Z) (zY Z) (hZ_S hZ) y1 y3 y2 hy1 w) rfl rfl (Nat.le_of_ble_eq_true rfl) dX7_findPaysOf_23 fun r2 w1 =>
  bw_if_eq hZ (tgt := 81) (by decide) dX7_findPaysOf_26 (fun _ =>
  bw_iinc hZ 1 3 rfl (by decide) (by decide) rfl dX7_findPaysOf_81 <|
  bw_goto hZ (tgt := 2) (by decide) dX7_findPaysOf_84 <|
  bw_sub [1, 2, 3, 0] rfl (hk2 y1 y2 (y3 + 1) hy1 w1)) (fun _ =>
  bw_aload_n hZ 0 rfl dX7_findPaysOf_29 <|
  bw_getI hZ fl_RX7_204 (by decide) obC_8 dX7_findPaysOf_30 <|
  bw_aload_n hZ 0 rfl dX7_findPaysOf_33 <|
  bw_getR hZ fl_RX7_30 obC_8 rfl dX7_findPaysOf_34 <|
  bw_alenI hZ (arC_14 _) (by decide) dX7_findPaysOf_37 <|
  bw_icmp_ge hZ (tgt := 81) (by decide) dX7_findPaysOf_38 (fun _ =>
  bw_iinc hZ 1 3 rfl (by decide) (by decide) rfl dX7_findPaysOf_81 <|
  bw_goto hZ (tgt := 2) (by decide) dX7_findPaysOf_84 <|
  bw_sub [1, 2, 3, 0] rfl (hk2 y1 y2 (y3 + 1) hy1 w1)) (fun _ =>
  bw_aload_n hZ 0 rfl dX7_findPaysOf_41 <|
  bw_getR hZ fl_RX7_30 obC_8 rfl dX7_findPaysOf_42 <|
  bw_aload_n hZ 0 rfl dX7_findPaysOf_45 <|
  bw_getI hZ fl_RX7_204 (by decide) obC_8 dX7_findPaysOf_46 <|
  bw_aload_n hZ 1 rfl dX7_findPaysOf_49 <|
  bw_getR hZ fl_RX7_219 (obP hy1) (rfP10 hy1) dX7_findPaysOf_50 <|
  bw_iload_n hZ 3 rfl dX7_findPaysOf_53 <|
  bw_iald hZ (arP2 hy1 _) dX7_findPaysOf_54 <|
  bw_iast hZ (arC_14 _) dX7_findPaysOf_55 fun w3 =>
  bw_aload_n hZ 0 rfl dX7_findPaysOf_56 <|
  bw_getR hZ fl_RX7_33 obC_8 rfl dX7_findPaysOf_57 <|
  bw_aload_n hZ 0 rfl dX7_findPaysOf_60 <|
  bw_getI hZ fl_RX7_204 (by decide) obC_8 dX7_findPaysOf_61 <|
  bw_aload_n hZ 1 rfl dX7_findPaysOf_64 <|
  bw_getR hZ fl_RX7_154 (obP hy1) (rfP11 hy1) dX7_findPaysOf_65 <|
  bw_iload_n hZ 3 rfl dX7_findPaysOf_68 <|
  bw_iald hZ (arP3 hy1 _) dX7_findPaysOf_69 <|
  bw_iast hZ (arC_15 _) dX7_findPaysOf_70 fun w4 =>
  bw_aload_n hZ 0 rfl dX7_findPaysOf_71 <|
  bw_dup hZ rfl dX7_findPaysOf_72 <|
  bw_getI hZ fl_RX7_204 (by decide) obC_8 dX7_findPaysOf_73 <|
  bw_iconst hZ 1 (by decide) dX7_findPaysOf_76 <|
  bw_iadd hZ dX7_findPaysOf_77 <|
  bw_putI hZ fl_RX7_204 rfl rfl (by decide) obC_8 dX7_findPaysOf_78 fun w5 =>
  bw_iinc hZ 1 3 rfl (by decide) (by decide) rfl dX7_findPaysOf_81 <|
  bw_goto hZ (tgt := 2) (by decide) dX7_findPaysOf_84 <|
  bw_sub [1, 2, 3, 0] rfl (hk2 y1 y2 (y3 + 1) hy1 w5)))))
def X7_findPaysOf_b2_L  : Nat → Int32 → Int32 → Wd → Option (Wd) :=
  lp fu (fun _ _ _ _ => none) (fun k2 => X7_findPaysOf_b2 k2)
theorem t_X7_findPaysOf_b2_L {Z : Cz (Wd)} (hZ : OKZ Z SC cX7_findPaysOf RX7 4 none 3) (hE : EndV Z)  : ∀ (y1 : Nat) (y2 : Int32) (y3 : Int32) (hy1 : IsP y1) (w : Wd), BW Z 4 2 [(0, .ref (ph (zY Z) 8)), (1, .ref (ph (zY Z) y1)), (2, .int y2), (3, .int y3)] [] w (X7_findPaysOf_b2_L y1 y2 y3 w) :=
  lp_bw (fun k2 => ∀ (y1 : Nat) (y2 : Int32) (y3 : Int32) (hy1 : IsP y1) (w : Wd), BW Z 4 2 [(0, .ref (ph (zY Z) 8)), (1, .ref (ph (zY Z) y1)), (2, .int y2), (3, .int y3)] [] w (k2 y1 y2 y3 w)) (fun _ _ _ _ _ => bw_none) (fun k2 hk2 y1 y2 y3 hy1 w => t_X7_findPaysOf_b2 hZ hE k2 hk2 y1 y2 y3 hy1 w) fu
def f_X7_findPaysOf (o1 : Nat) (x2 : Int32) (w : Wd) : Option (Wd) :=
  X7_findPaysOf_b2_L o1 x2 0 w
set_option maxRecDepth 100000 in
set_option maxHeartbeats 4000000 in
theorem t_X7_findPaysOf {Z : Cz (Wd)} (hZ : OKZ Z SC cX7_findPaysOf RX7 4 none 3) (hE : EndV Z) (o1 : Nat) (x2 : Int32) (ho1 : IsP o1) (w : Wd) : BW Z 4 0 [(0, .ref (ph (zY Z) 8)), (1, .ref (ph (zY Z) o1)), (2, .int x2)] [] w (f_X7_findPaysOf o1 x2 w) :=
  bw_iconst hZ 0 (by decide) dX7_findPaysOf_0 <|
  bw_istore_n hZ rfl (by decide) rfl dX7_findPaysOf_1 <|
  bw_sub [1, 2, 3, 0] rfl (t_X7_findPaysOf_b2_L hZ hE o1 x2 0 ho1 w)
theorem c_X7_findPaysOf (l : Launch) (Y : Ev) (hY : Y.1 = SC) (o1 : Nat) (x2 : Int32) (ho1 : IsP o1) (w : Wd) : CV l Y yX7_findPaysOf cX7_findPaysOf 4 3 [.ref (ph Y 8), .ref (ph Y o1), .int x2] w (f_X7_findPaysOf o1 x2 w) := by
  refine CV_of (S := SC) (by decide) (Nat.le_of_ble_eq_true rfl) hY ?_
  intro Z hl hY2 hZ hE
  subst hY2
  exact t_X7_findPaysOf hZ hE o1 x2 ho1 w
-- WhichWill$Shares.findPays
theorem dX7_findPays_0 : decode cX7_findPays 0 = .ok (.aload_n 0, 1) := by decide +kernel
theorem dX7_findPays_1 : decode cX7_findPays 1 = .ok (.iconst 0, 1) := by decide +kernel
theorem dX7_findPays_2 : decode cX7_findPays 2 = .ok (.putfield 204, 3) := by decide +kernel
theorem dX7_findPays_5 : decode cX7_findPays 5 = .ok (.aload_n 0, 1) := by decide +kernel
theorem dX7_findPays_6 : decode cX7_findPays 6 = .ok (.getfield 40, 3) := by decide +kernel
theorem dX7_findPays_9 : decode cX7_findPays 9 = .ok (.invokevirtual 121, 3) := by decide +kernel
theorem dX7_findPays_12 : decode cX7_findPays 12 = .ok (.istore_n 2, 1) := by decide +kernel
theorem dX7_findPays_13 : decode cX7_findPays 13 = .ok (.iconst 0, 1) := by decide +kernel
theorem dX7_findPays_14 : decode cX7_findPays 14 = .ok (.istore_n 3, 1) := by decide +kernel
theorem dX7_findPays_15 : decode cX7_findPays 15 = .ok (.iload_n 3, 1) := by decide +kernel
theorem dX7_findPays_16 : decode cX7_findPays 16 = .ok (.iload_n 2, 1) := by decide +kernel
theorem dX7_findPays_17 : decode cX7_findPays 17 = .ok (.if_icmp .ge 64, 3) := by decide +kernel
theorem dX7_findPays_20 : decode cX7_findPays 20 = .ok (.aload_n 0, 1) := by decide +kernel
theorem dX7_findPays_21 : decode cX7_findPays 21 = .ok (.getfield 40, 3) := by decide +kernel
theorem dX7_findPays_24 : decode cX7_findPays 24 = .ok (.aload_n 0, 1) := by decide +kernel
theorem dX7_findPays_25 : decode cX7_findPays 25 = .ok (.getfield 62, 3) := by decide +kernel
theorem dX7_findPays_28 : decode cX7_findPays 28 = .ok (.iload_n 3, 1) := by decide +kernel
theorem dX7_findPays_29 : decode cX7_findPays 29 = .ok (.invokevirtual 125, 3) := by decide +kernel
theorem dX7_findPays_32 : decode cX7_findPays 32 = .ok (.istore 4, 2) := by decide +kernel
theorem dX7_findPays_34 : decode cX7_findPays 34 = .ok (.iload 4, 2) := by decide +kernel
theorem dX7_findPays_36 : decode cX7_findPays 36 = .ok (.aload_n 0, 1) := by decide +kernel
theorem dX7_findPays_37 : decode cX7_findPays 37 = .ok (.getfield 40, 3) := by decide +kernel
theorem dX7_findPays_40 : decode cX7_findPays 40 = .ok (.getfield 128, 3) := by decide +kernel
theorem dX7_findPays_43 : decode cX7_findPays 43 = .ok (.if_icmp .ge 32, 3) := by decide +kernel
theorem dX7_findPays_46 : decode cX7_findPays 46 = .ok (.aload_n 1, 1) := by decide +kernel
theorem dX7_findPays_47 : decode cX7_findPays 47 = .ok (.iload 4, 2) := by decide +kernel
theorem dX7_findPays_49 : decode cX7_findPays 49 = .ok (.invokevirtual 131, 3) := by decide +kernel
theorem dX7_findPays_52 : decode cX7_findPays 52 = .ok (.ifCond .eq 23, 3) := by decide +kernel
theorem dX7_findPays_55 : decode cX7_findPays 55 = .ok (.aload_n 0, 1) := by decide +kernel
theorem dX7_findPays_56 : decode cX7_findPays 56 = .ok (.aload_n 0, 1) := by decide +kernel
theorem dX7_findPays_57 : decode cX7_findPays 57 = .ok (.getfield 40, 3) := by decide +kernel
theorem dX7_findPays_60 : decode cX7_findPays 60 = .ok (.getfield 135, 3) := by decide +kernel
theorem dX7_findPays_63 : decode cX7_findPays 63 = .ok (.iload 4, 2) := by decide +kernel
theorem dX7_findPays_65 : decode cX7_findPays 65 = .ok (.aaload, 1) := by decide +kernel
theorem dX7_findPays_66 : decode cX7_findPays 66 = .ok (.aload_n 1, 1) := by decide +kernel
theorem dX7_findPays_67 : decode cX7_findPays 67 = .ok (.iload 4, 2) := by decide +kernel
theorem dX7_findPays_69 : decode cX7_findPays 69 = .ok (.invokevirtual 139, 3) := by decide +kernel
theorem dX7_findPays_72 : decode cX7_findPays 72 = .ok (.invokevirtual 215, 3) := by decide +kernel
theorem dX7_findPays_75 : decode cX7_findPays 75 = .ok (.iinc 3 1, 3) := by decide +kernel
theorem dX7_findPays_78 : decode cX7_findPays 78 = .ok (.goto (-63), 3) := by decide +kernel
theorem dX7_findPays_81 : decode cX7_findPays 81 = .ok (.return_, 1) := by decide +kernel
def X7_findPays_b15 (k15 : Nat → Int32 → Int32 → Wd → Option (Wd)) (y1 : Nat) (y2 : Int32) (y3 : Int32) (w : Wd) : Option (Wd) :=
  if y2 ≤ y3 then
  (some w)
  else
  cl (f_X2_itemAt (w.1 8 11) y3 w) fun r5 w4 =>
  if (w4.1 3 3) ≤ r5 then
  (k15 y1 y2 (y3 + 1) w4)
  else
  cl (f_X8_isCounting y1 r5 w4) fun r7 w6 =>
  if r7 = 0 then
  (k15 y1 y2 (y3 + 1) w6)
  else
  if inb r5 4 = true then
  (cl (f_X8_voidOf y1 r5 w6) fun r11 w10 =>
  cv (f_X7_findPaysOf (57 + 6 * Int32.toNatClampNeg r5) r11 w10) fun w12 =>
  k15 y1 y2 (y3 + 1) w12)
  else none
set_option maxRecDepth 100000 in
set_option maxHeartbeats 4000000 in
theorem t_X7_findPays_b15 {Z : Cz (Wd)} (hZ : OKZ Z SC cX7_findPays RX7 5 none 4) (hE : EndV Z) (k15 : Nat → Int32 → Int32 → Wd → Option (Wd)) (hk15 : ∀ (y1 : Nat) (y2 : Int32) (y3 : Int32) (hy1 : IsS y1) (w : Wd), BW Z 5 15 [(0, .ref (ph (zY Z) 8)), (1, .ref (ph (zY Z) y1)), (2, .int y2), (3, .int y3)] [] w (k15 y1 y2 y3 w)) (y1 : Nat) (y2 : Int32) (y3 : Int32) (hy1 : IsS y1) (w : Wd) : BW Z 5 15 [(0, .ref (ph (zY Z) 8)), (1, .ref (ph (zY Z) y1)), (2, .int y2), (3, .int y3)] [] w (X7_findPays_b15 k15 y1 y2 y3 w) :=
  bw_iload_n hZ 3 rfl dX7_findPays_15 <|
  bw_iload_n hZ 2 rfl dX7_findPays_16 <|
  bw_icmp_ge hZ (tgt := 81) (by decide) dX7_findPays_17 (fun _ =>
  bw_vret hZ hE dX7_findPays_81) (fun _ =>
  bw_aload_n hZ 0 rfl dX7_findPays_20 <|
  bw_getR hZ fl_RX7_40 obC_8 rfl dX7_findPays_21 <|
  bw_aload_n hZ 0 rfl dX7_findPays_24 <|
  bw_getI hZ fl_RX7_62 (by decide) obC_8 dX7_findPays_25 <|
  bw_iload_n hZ 3 rfl dX7_findPays_28 <|
  bw_callVI (As := [.int (w.1 8 11), .int y3]) hZ ml_RX7_125 rc_2 obC_3 (by decide) (c_X2_itemAt (zl Z) (zY Z) (hZ_S hZ) (w.1 8 11) y3 w) rfl rfl (Nat.le_of_ble_eq_true rfl) dX7_findPays_29 fun r5 w4 =>
  bw_istore hZ (by decide) rfl dX7_findPays_32 <|
  bw_iload hZ 0 rfl dX7_findPays_34 <|
  bw_aload_n hZ 1 rfl dX7_findPays_36 <|
  bw_getR hZ fl_RX7_40 obC_8 rfl dX7_findPays_37 <|
  bw_getI hZ fl_RX7_128 (by decide) obC_3 dX7_findPays_40 <|
  bw_icmp_ge hZ (tgt := 75) (by decide) dX7_findPays_43 (fun _ =>
  bw_iinc hZ 1 4 rfl (by decide) (by decide) rfl dX7_findPays_75 <|
  bw_goto hZ (tgt := 15) (by decide) dX7_findPays_78 <|
  bw_sub [2, 3, 4, 0] rfl (hk15 y1 y2 (y3 + 1) hy1 w4)) (fun _ =>
  bw_aload_n hZ 2 rfl dX7_findPays_46 <|
  bw_iload hZ 0 rfl dX7_findPays_47 <|
  bw_callVI (As := [.int r5]) hZ ml_RX7_131 rc_8 (obS hy1) (by decide) (c_X8_isCounting (zl Z) (zY Z) (hZ_S hZ) y1 r5 hy1 w4) rfl rfl (Nat.le_of_ble_eq_true rfl) dX7_findPays_49 fun r7 w6 =>
  bw_if_eq hZ (tgt := 75) (by decide) dX7_findPays_52 (fun _ =>
  bw_iinc hZ 1 4 rfl (by decide) (by decide) rfl dX7_findPays_75 <|
  bw_goto hZ (tgt := 15) (by decide) dX7_findPays_78 <|
  bw_sub [2, 3, 4, 0] rfl (hk15 y1 y2 (y3 + 1) hy1 w6)) (fun _ =>
  bw_aload_n hZ 1 rfl dX7_findPays_55 <|
  bw_aload_n hZ 1 rfl dX7_findPays_56 <|
  bw_getR hZ fl_RX7_40 obC_8 rfl dX7_findPays_57 <|
  bw_getR hZ fl_RX7_135 obC_3 rfl dX7_findPays_60 <|
  bw_iload hZ 0 rfl dX7_findPays_63 <|
  bw_aald (57 + 6 * Int32.toNatClampNeg r5) hZ (arC_4 _) (Or.inl ⟨rfl, rfl⟩) rfl dX7_findPays_65 fun hi8 =>
  bw_aload_n hZ 2 rfl dX7_findPays_66 <|
  bw_iload hZ 0 rfl dX7_findPays_67 <|
  bw_callVI (As := [.int r5]) hZ ml_RX7_139 rc_8 (obS hy1) (by decide) (c_X8_voidOf (zl Z) (zY Z) (hZ_S hZ) y1 r5 hy1 w6) rfl rfl (Nat.le_of_ble_eq_true rfl) dX7_findPays_69 fun r11 w10 =>
  bw_callVV (As := [.ref (ph (zY Z) (57 + 6 * Int32.toNatClampNeg r5)), .int r11]) hZ ml_RX7_215 rc_7 obC_8 (by decide) (c_X7_findPaysOf (zl Z) (zY Z) (hZ_S hZ) (57 + 6 * Int32.toNatClampNeg r5) r11 (isP_of hi8) w10) rfl rfl (Nat.le_of_ble_eq_true rfl) dX7_findPays_72 fun w12 =>
  bw_iinc hZ 1 4 rfl (by decide) (by decide) rfl dX7_findPays_75 <|
  bw_goto hZ (tgt := 15) (by decide) dX7_findPays_78 <|
  bw_sub [2, 3, 4, 0] rfl (hk15 y1 y2 (y3 + 1) hy1 w12))))
def X7_findPays_b15_L  : Nat → Int32 → Int32 → Wd → Option (Wd) :=
  lp fu (fun _ _ _ _ => none) (fun k15 => X7_findPays_b15 k15)
theorem t_X7_findPays_b15_L {Z : Cz (Wd)} (hZ : OKZ Z SC cX7_findPays RX7 5 none 4) (hE : EndV Z)  : ∀ (y1 : Nat) (y2 : Int32) (y3 : Int32) (hy1 : IsS y1) (w : Wd), BW Z 5 15 [(0, .ref (ph (zY Z) 8)), (1, .ref (ph (zY Z) y1)), (2, .int y2), (3, .int y3)] [] w (X7_findPays_b15_L y1 y2 y3 w) :=
  lp_bw (fun k15 => ∀ (y1 : Nat) (y2 : Int32) (y3 : Int32) (hy1 : IsS y1) (w : Wd), BW Z 5 15 [(0, .ref (ph (zY Z) 8)), (1, .ref (ph (zY Z) y1)), (2, .int y2), (3, .int y3)] [] w (k15 y1 y2 y3 w)) (fun _ _ _ _ _ => bw_none) (fun k15 hk15 y1 y2 y3 hy1 w => t_X7_findPays_b15 hZ hE k15 hk15 y1 y2 y3 hy1 w) fu
def f_X7_findPays (o1 : Nat) (w : Wd) : Option (Wd) :=
  lt (wI w 8 8 0) fun w1 =>
  cl (f_X2_itemsTold w1) fun r3 w2 =>
  X7_findPays_b15_L o1 r3 0 w2
set_option maxRecDepth 100000 in
set_option maxHeartbeats 4000000 in
theorem t_X7_findPays {Z : Cz (Wd)} (hZ : OKZ Z SC cX7_findPays RX7 5 none 4) (hE : EndV Z) (o1 : Nat) (ho1 : IsS o1) (w : Wd) : BW Z 5 0 [(0, .ref (ph (zY Z) 8)), (1, .ref (ph (zY Z) o1))] [] w (f_X7_findPays o1 w) :=
  bw_aload_n hZ 0 rfl dX7_findPays_0 <|
  bw_iconst hZ 0 (by decide) dX7_findPays_1 <|
  bw_putI hZ fl_RX7_204 rfl rfl (by decide) obC_8 dX7_findPays_2 fun w1 =>
  bw_aload_n hZ 0 rfl dX7_findPays_5 <|
  bw_getR hZ fl_RX7_40 obC_8 rfl dX7_findPays_6 <|
  bw_callVI (As := []) hZ ml_RX7_121 rc_2 obC_3 (by decide) (c_X2_itemsTold (zl Z) (zY Z) (hZ_S hZ) w1) rfl rfl (Nat.le_of_ble_eq_true rfl) dX7_findPays_9 fun r3 w2 =>
  bw_istore_n hZ rfl (by decide) rfl dX7_findPays_12 <|
  bw_iconst hZ 0 (by decide) dX7_findPays_13 <|
  bw_istore_n hZ rfl (by decide) rfl dX7_findPays_14 <|
  bw_sub [2, 3, 1, 0] rfl (t_X7_findPays_b15_L hZ hE o1 r3 0 ho1 w2)
theorem c_X7_findPays (l : Launch) (Y : Ev) (hY : Y.1 = SC) (o1 : Nat) (ho1 : IsS o1) (w : Wd) : CV l Y yX7_findPays cX7_findPays 5 4 [.ref (ph Y 8), .ref (ph Y o1)] w (f_X7_findPays o1 w) := by
  refine CV_of (S := SC) (by decide) (Nat.le_of_ble_eq_true rfl) hY ?_
  intro Z hl hY2 hZ hE
  subst hY2
  exact t_X7_findPays hZ hE o1 ho1 w
-- WhichWill$Shares.partMoney
theorem dX7_partMoney_0 : decode cX7_partMoney 0 = .ok (.aload_n 0, 1) := by decide +kernel
theorem dX7_partMoney_1 : decode cX7_partMoney 1 = .ok (.getfield 9, 3) := by decide +kernel
theorem dX7_partMoney_4 : decode cX7_partMoney 4 = .ok (.iconst 0, 1) := by decide +kernel
theorem dX7_partMoney_5 : decode cX7_partMoney 5 = .ok (.invokestatic 104, 3) := by decide +kernel
theorem dX7_partMoney_8 : decode cX7_partMoney 8 = .ok (.aload_n 0, 1) := by decide +kernel
theorem dX7_partMoney_9 : decode cX7_partMoney 9 = .ok (.getfield 15, 3) := by decide +kernel
theorem dX7_partMoney_12 : decode cX7_partMoney 12 = .ok (.iconst 0, 1) := by decide +kernel
theorem dX7_partMoney_13 : decode cX7_partMoney 13 = .ok (.invokestatic 104, 3) := by decide +kernel
theorem dX7_partMoney_16 : decode cX7_partMoney 16 = .ok (.aload_n 0, 1) := by decide +kernel
theorem dX7_partMoney_17 : decode cX7_partMoney 17 = .ok (.aload_n 0, 1) := by decide +kernel
theorem dX7_partMoney_18 : decode cX7_partMoney 18 = .ok (.getfield 23, 3) := by decide +kernel
theorem dX7_partMoney_21 : decode cX7_partMoney 21 = .ok (.aload_n 0, 1) := by decide +kernel
theorem dX7_partMoney_22 : decode cX7_partMoney 22 = .ok (.getfield 94, 3) := by decide +kernel
theorem dX7_partMoney_25 : decode cX7_partMoney 25 = .ok (.aaload, 1) := by decide +kernel
theorem dX7_partMoney_26 : decode cX7_partMoney 26 = .ok (.invokevirtual 197, 3) := by decide +kernel
theorem dX7_partMoney_29 : decode cX7_partMoney 29 = .ok (.aload_n 0, 1) := by decide +kernel
theorem dX7_partMoney_30 : decode cX7_partMoney 30 = .ok (.getfield 40, 3) := by decide +kernel
theorem dX7_partMoney_33 : decode cX7_partMoney 33 = .ok (.getfield 72, 3) := by decide +kernel
theorem dX7_partMoney_36 : decode cX7_partMoney 36 = .ok (.invokevirtual 201, 3) := by decide +kernel
theorem dX7_partMoney_39 : decode cX7_partMoney 39 = .ok (.istore_n 1, 1) := by decide +kernel
theorem dX7_partMoney_40 : decode cX7_partMoney 40 = .ok (.iconst 0, 1) := by decide +kernel
theorem dX7_partMoney_41 : decode cX7_partMoney 41 = .ok (.istore_n 2, 1) := by decide +kernel
theorem dX7_partMoney_42 : decode cX7_partMoney 42 = .ok (.iconst 0, 1) := by decide +kernel
theorem dX7_partMoney_43 : decode cX7_partMoney 43 = .ok (.istore_n 3, 1) := by decide +kernel
theorem dX7_partMoney_44 : decode cX7_partMoney 44 = .ok (.iload_n 3, 1) := by decide +kernel
theorem dX7_partMoney_45 : decode cX7_partMoney 45 = .ok (.aload_n 0, 1) := by decide +kernel
theorem dX7_partMoney_46 : decode cX7_partMoney 46 = .ok (.getfield 204, 3) := by decide +kernel
theorem dX7_partMoney_49 : decode cX7_partMoney 49 = .ok (.if_icmp .ge 18, 3) := by decide +kernel
theorem dX7_partMoney_52 : decode cX7_partMoney 52 = .ok (.iload_n 2, 1) := by decide +kernel
theorem dX7_partMoney_53 : decode cX7_partMoney 53 = .ok (.aload_n 0, 1) := by decide +kernel
theorem dX7_partMoney_54 : decode cX7_partMoney 54 = .ok (.getfield 30, 3) := by decide +kernel
theorem dX7_partMoney_57 : decode cX7_partMoney 57 = .ok (.iload_n 3, 1) := by decide +kernel
theorem dX7_partMoney_58 : decode cX7_partMoney 58 = .ok (.iaload, 1) := by decide +kernel
theorem dX7_partMoney_59 : decode cX7_partMoney 59 = .ok (.iadd, 1) := by decide +kernel
theorem dX7_partMoney_60 : decode cX7_partMoney 60 = .ok (.istore_n 2, 1) := by decide +kernel
theorem dX7_partMoney_61 : decode cX7_partMoney 61 = .ok (.iinc 3 1, 3) := by decide +kernel
theorem dX7_partMoney_64 : decode cX7_partMoney 64 = .ok (.goto (-20), 3) := by decide +kernel
theorem dX7_partMoney_67 : decode cX7_partMoney 67 = .ok (.iload_n 2, 1) := by decide +kernel
theorem dX7_partMoney_68 : decode cX7_partMoney 68 = .ok (.iload_n 1, 1) := by decide +kernel
theorem dX7_partMoney_69 : decode cX7_partMoney 69 = .ok (.if_icmp .le 9, 3) := by decide +kernel
theorem dX7_partMoney_72 : decode cX7_partMoney 72 = .ok (.aload_n 0, 1) := by decide +kernel
theorem dX7_partMoney_73 : decode cX7_partMoney 73 = .ok (.iload_n 2, 1) := by decide +kernel
theorem dX7_partMoney_74 : decode cX7_partMoney 74 = .ok (.iload_n 1, 1) := by decide +kernel
theorem dX7_partMoney_75 : decode cX7_partMoney 75 = .ok (.invokevirtual 207, 3) := by decide +kernel
theorem dX7_partMoney_78 : decode cX7_partMoney 78 = .ok (.iconst 0, 1) := by decide +kernel
theorem dX7_partMoney_79 : decode cX7_partMoney 79 = .ok (.istore_n 3, 1) := by decide +kernel
theorem dX7_partMoney_80 : decode cX7_partMoney 80 = .ok (.iload_n 3, 1) := by decide +kernel
theorem dX7_partMoney_81 : decode cX7_partMoney 81 = .ok (.aload_n 0, 1) := by decide +kernel
theorem dX7_partMoney_82 : decode cX7_partMoney 82 = .ok (.getfield 204, 3) := by decide +kernel
theorem dX7_partMoney_85 : decode cX7_partMoney 85 = .ok (.if_icmp .ge 29, 3) := by decide +kernel
theorem dX7_partMoney_88 : decode cX7_partMoney 88 = .ok (.aload_n 0, 1) := by decide +kernel
theorem dX7_partMoney_89 : decode cX7_partMoney 89 = .ok (.getfield 15, 3) := by decide +kernel
theorem dX7_partMoney_92 : decode cX7_partMoney 92 = .ok (.aload_n 0, 1) := by decide +kernel
theorem dX7_partMoney_93 : decode cX7_partMoney 93 = .ok (.getfield 33, 3) := by decide +kernel
theorem dX7_partMoney_96 : decode cX7_partMoney 96 = .ok (.iload_n 3, 1) := by decide +kernel
theorem dX7_partMoney_97 : decode cX7_partMoney 97 = .ok (.iaload, 1) := by decide +kernel
theorem dX7_partMoney_98 : decode cX7_partMoney 98 = .ok (.dup2, 1) := by decide +kernel
theorem dX7_partMoney_99 : decode cX7_partMoney 99 = .ok (.iaload, 1) := by decide +kernel
theorem dX7_partMoney_100 : decode cX7_partMoney 100 = .ok (.aload_n 0, 1) := by decide +kernel
theorem dX7_partMoney_101 : decode cX7_partMoney 101 = .ok (.getfield 30, 3) := by decide +kernel
theorem dX7_partMoney_104 : decode cX7_partMoney 104 = .ok (.iload_n 3, 1) := by decide +kernel
theorem dX7_partMoney_105 : decode cX7_partMoney 105 = .ok (.iaload, 1) := by decide +kernel
theorem dX7_partMoney_106 : decode cX7_partMoney 106 = .ok (.iadd, 1) := by decide +kernel
theorem dX7_partMoney_107 : decode cX7_partMoney 107 = .ok (.iastore, 1) := by decide +kernel
theorem dX7_partMoney_108 : decode cX7_partMoney 108 = .ok (.iinc 3 1, 3) := by decide +kernel
theorem dX7_partMoney_111 : decode cX7_partMoney 111 = .ok (.goto (-31), 3) := by decide +kernel
theorem dX7_partMoney_114 : decode cX7_partMoney 114 = .ok (.aload_n 0, 1) := by decide +kernel
theorem dX7_partMoney_115 : decode cX7_partMoney 115 = .ok (.aload_n 0, 1) := by decide +kernel
theorem dX7_partMoney_116 : decode cX7_partMoney 116 = .ok (.getfield 94, 3) := by decide +kernel
theorem dX7_partMoney_119 : decode cX7_partMoney 119 = .ok (.iconst 0, 1) := by decide +kernel
theorem dX7_partMoney_120 : decode cX7_partMoney 120 = .ok (.iload_n 1, 1) := by decide +kernel
theorem dX7_partMoney_121 : decode cX7_partMoney 121 = .ok (.iload_n 2, 1) := by decide +kernel
theorem dX7_partMoney_122 : decode cX7_partMoney 122 = .ok (.isub, 1) := by decide +kernel
theorem dX7_partMoney_123 : decode cX7_partMoney 123 = .ok (.invokestatic 210, 3) := by decide +kernel
theorem dX7_partMoney_126 : decode cX7_partMoney 126 = .ok (.invokevirtual 117, 3) := by decide +kernel
theorem dX7_partMoney_129 : decode cX7_partMoney 129 = .ok (.pop, 1) := by decide +kernel
theorem dX7_partMoney_130 : decode cX7_partMoney 130 = .ok (.return_, 1) := by decide +kernel
def X7_partMoney_b80 (k80 : Int32 → Int32 → Int32 → Wd → Option (Wd)) (y1 : Int32) (y2 : Int32) (y3 : Int32) (w : Wd) : Option (Wd) :=
  if (w.1 8 8) ≤ y3 then
  (cl (f_X7_partLeft (w.1 8 9) (if (0 : Int32) < (y1 - y2) then y1 - y2 else 0) w) fun r9 w8 =>
  some w8)
  else
  if inb y3 32 = true then
  (if inb (w.1 15 (Int32.toNatClampNeg y3)) 8 = true then
  (if inb y3 32 = true then
  (if inb (w.1 15 (Int32.toNatClampNeg y3)) 8 = true then
  (lt (wI w 10 (Int32.toNatClampNeg (w.1 15 (Int32.toNatClampNeg y3))) ((w.1 10 (Int32.toNatClampNeg (w.1 15 (Int32.toNatClampNeg y3)))) + (w.1 14 (Int32.toNatClampNeg y3)))) fun w10 =>
  k80 y1 y2 (y3 + 1) w10)
  else none)
  else none)
  else none)
  else none
set_option maxRecDepth 100000 in
set_option maxHeartbeats 4000000 in
theorem t_X7_partMoney_b80 {Z : Cz (Wd)} (hZ : OKZ Z SC cX7_partMoney RX7 4 none 5) (hE : EndV Z) (k80 : Int32 → Int32 → Int32 → Wd → Option (Wd)) (hk80 : ∀ (y1 : Int32) (y2 : Int32) (y3 : Int32)  (w : Wd), BW Z 4 80 [(0, .ref (ph (zY Z) 8)), (1, .int y1), (2, .int y2), (3, .int y3)] [] w (k80 y1 y2 y3 w)) (y1 : Int32) (y2 : Int32) (y3 : Int32)  (w : Wd) : BW Z 4 80 [(0, .ref (ph (zY Z) 8)), (1, .int y1), (2, .int y2), (3, .int y3)] [] w (X7_partMoney_b80 k80 y1 y2 y3 w) :=
  bw_iload_n hZ 3 rfl dX7_partMoney_80 <|
  bw_aload_n hZ 0 rfl dX7_partMoney_81 <|
  bw_getI hZ fl_RX7_204 (by decide) obC_8 dX7_partMoney_82 <|
  bw_icmp_ge hZ (tgt := 114) (by decide) dX7_partMoney_85 (fun _ =>
  bw_aload_n hZ 0 rfl dX7_partMoney_114 <|
  bw_aload_n hZ 0 rfl dX7_partMoney_115 <|
  bw_getI hZ fl_RX7_94 (by decide) obC_8 dX7_partMoney_116 <|
  bw_iconst hZ 0 (by decide) dX7_partMoney_119 <|
  bw_iload_n hZ 1 rfl dX7_partMoney_120 <|
  bw_iload_n hZ 2 rfl dX7_partMoney_121 <|
  bw_isub hZ dX7_partMoney_122 <|
  bw_mmax hZ kl_RX7_210 km_max (by decide) (Nat.le_of_ble_eq_true rfl) dX7_partMoney_123 <|
  bw_callVI (As := [.int (w.1 8 9), .int (if (0 : Int32) < (y1 - y2) then y1 - y2 else 0)]) hZ ml_RX7_117 rc_7 obC_8 (by decide) (c_X7_partLeft (zl Z) (zY Z) (hZ_S hZ) (w.1 8 9) (if (0 : Int32) < (y1 - y2) then y1 - y2 else 0) w) rfl rfl (Nat.le_of_ble_eq_true rfl) dX7_partMoney_126 fun r9 w8 =>
  bw_pop hZ rfl dX7_partMoney_129 <|
  bw_vret hZ hE dX7_partMoney_130) (fun _ =>
  bw_aload_n hZ 0 rfl dX7_partMoney_88 <|
  bw_getR hZ fl_RX7_15 obC_8 rfl dX7_partMoney_89 <|
  bw_aload_n hZ 0 rfl dX7_partMoney_92 <|
  bw_getR hZ fl_RX7_33 obC_8 rfl dX7_partMoney_93 <|
  bw_iload_n hZ 3 rfl dX7_partMoney_96 <|
  bw_iald hZ (arC_15 _) dX7_partMoney_97 <|
  bw_dup2 hZ rfl rfl dX7_partMoney_98 <|
  bw_iald hZ (arC_10 _) dX7_partMoney_99 <|
  bw_aload_n hZ 0 rfl dX7_partMoney_100 <|
  bw_getR hZ fl_RX7_30 obC_8 rfl dX7_partMoney_101 <|
  bw_iload_n hZ 3 rfl dX7_partMoney_104 <|
  bw_iald hZ (arC_14 _) dX7_partMoney_105 <|
  bw_iadd hZ dX7_partMoney_106 <|
  bw_iast hZ (arC_10 _) dX7_partMoney_107 fun w10 =>
  bw_iinc hZ 1 3 rfl (by decide) (by decide) rfl dX7_partMoney_108 <|
  bw_goto hZ (tgt := 80) (by decide) dX7_partMoney_111 <|
  bw_sub [1, 2, 3, 0] rfl (hk80 y1 y2 (y3 + 1) w10))
def X7_partMoney_b80_L  : Int32 → Int32 → Int32 → Wd → Option (Wd) :=
  lp fu (fun _ _ _ _ => none) (fun k80 => X7_partMoney_b80 k80)
theorem t_X7_partMoney_b80_L {Z : Cz (Wd)} (hZ : OKZ Z SC cX7_partMoney RX7 4 none 5) (hE : EndV Z)  : ∀ (y1 : Int32) (y2 : Int32) (y3 : Int32)  (w : Wd), BW Z 4 80 [(0, .ref (ph (zY Z) 8)), (1, .int y1), (2, .int y2), (3, .int y3)] [] w (X7_partMoney_b80_L y1 y2 y3 w) :=
  lp_bw (fun k80 => ∀ (y1 : Int32) (y2 : Int32) (y3 : Int32)  (w : Wd), BW Z 4 80 [(0, .ref (ph (zY Z) 8)), (1, .int y1), (2, .int y2), (3, .int y3)] [] w (k80 y1 y2 y3 w)) (fun _ _ _ _ => bw_none) (fun k80 hk80 y1 y2 y3 w => t_X7_partMoney_b80 hZ hE k80 hk80 y1 y2 y3 w) fu
def X7_partMoney_b44 (k44 : Int32 → Int32 → Int32 → Wd → Option (Wd)) (y1 : Int32) (y2 : Int32) (y3 : Int32) (w : Wd) : Option (Wd) :=
  if (w.1 8 8) ≤ y3 then
  (if y2 ≤ y1 then
  (X7_partMoney_b80_L y1 y2 0 w)
  else
  cv (f_X7_cutPays y2 y1 w) fun w11 =>
  X7_partMoney_b80_L y1 y2 0 w11)
  else
  if inb y3 32 = true then
  (lt (y2 + (w.1 14 (Int32.toNatClampNeg y3))) fun v12 =>
  k44 y1 v12 (y3 + 1) w)
  else none
set_option maxRecDepth 100000 in
set_option maxHeartbeats 4000000 in
theorem t_X7_partMoney_b44 {Z : Cz (Wd)} (hZ : OKZ Z SC cX7_partMoney RX7 4 none 5) (hE : EndV Z) (k44 : Int32 → Int32 → Int32 → Wd → Option (Wd)) (hk44 : ∀ (y1 : Int32) (y2 : Int32) (y3 : Int32)  (w : Wd), BW Z 4 44 [(0, .ref (ph (zY Z) 8)), (1, .int y1), (2, .int y2), (3, .int y3)] [] w (k44 y1 y2 y3 w)) (y1 : Int32) (y2 : Int32) (y3 : Int32)  (w : Wd) : BW Z 4 44 [(0, .ref (ph (zY Z) 8)), (1, .int y1), (2, .int y2), (3, .int y3)] [] w (X7_partMoney_b44 k44 y1 y2 y3 w) :=
  bw_iload_n hZ 3 rfl dX7_partMoney_44 <|
  bw_aload_n hZ 0 rfl dX7_partMoney_45 <|
  bw_getI hZ fl_RX7_204 (by decide) obC_8 dX7_partMoney_46 <|
  bw_icmp_ge hZ (tgt := 67) (by decide) dX7_partMoney_49 (fun _ =>
  bw_iload_n hZ 2 rfl dX7_partMoney_67 <|
  bw_iload_n hZ 1 rfl dX7_partMoney_68 <|
  bw_icmp_le hZ (tgt := 78) (by decide) dX7_partMoney_69 (fun _ =>
  bw_iconst hZ 0 (by decide) dX7_partMoney_78 <|
  bw_istore_n hZ rfl (by decide) rfl dX7_partMoney_79 <|
  bw_sub [1, 2, 3, 0] rfl (t_X7_partMoney_b80_L hZ hE y1 y2 0 w)) (fun _ =>
  bw_aload_n hZ 0 rfl dX7_partMoney_72 <|
  bw_iload_n hZ 2 rfl dX7_partMoney_73 <|
  bw_iload_n hZ 1 rfl dX7_partMoney_74 <|
  bw_callVV (As := [.int y2, .int y1]) hZ ml_RX7_207 rc_7 obC_8 (by decide) (c_X7_cutPays (zl Z) (zY Z) (hZ_S hZ) y2 y1 w) rfl rfl (Nat.le_of_ble_eq_true rfl) dX7_partMoney_75 fun w11 =>
  bw_iconst hZ 0 (by decide) dX7_partMoney_78 <|
  bw_istore_n hZ rfl (by decide) rfl dX7_partMoney_79 <|
  bw_sub [1, 2, 3, 0] rfl (t_X7_partMoney_b80_L hZ hE y1 y2 0 w11))) (fun _ =>
  bw_iload_n hZ 2 rfl dX7_partMoney_52 <|
  bw_aload_n hZ 0 rfl dX7_partMoney_53 <|
  bw_getR hZ fl_RX7_30 obC_8 rfl dX7_partMoney_54 <|
  bw_iload_n hZ 3 rfl dX7_partMoney_57 <|
  bw_iald hZ (arC_14 _) dX7_partMoney_58 <|
  bw_iadd hZ dX7_partMoney_59 <|
  bw_nm fun v12 =>
  bw_istore_n hZ rfl (by decide) rfl dX7_partMoney_60 <|
  bw_iinc hZ 1 3 rfl (by decide) (by decide) rfl dX7_partMoney_61 <|
  bw_goto hZ (tgt := 44) (by decide) dX7_partMoney_64 <|
  bw_sub [2, 3, 1, 0] rfl (hk44 y1 v12 (y3 + 1) w))
def X7_partMoney_b44_L  : Int32 → Int32 → Int32 → Wd → Option (Wd) :=
  lp fu (fun _ _ _ _ => none) (fun k44 => X7_partMoney_b44 k44)
theorem t_X7_partMoney_b44_L {Z : Cz (Wd)} (hZ : OKZ Z SC cX7_partMoney RX7 4 none 5) (hE : EndV Z)  : ∀ (y1 : Int32) (y2 : Int32) (y3 : Int32)  (w : Wd), BW Z 4 44 [(0, .ref (ph (zY Z) 8)), (1, .int y1), (2, .int y2), (3, .int y3)] [] w (X7_partMoney_b44_L y1 y2 y3 w) :=
  lp_bw (fun k44 => ∀ (y1 : Int32) (y2 : Int32) (y3 : Int32)  (w : Wd), BW Z 4 44 [(0, .ref (ph (zY Z) 8)), (1, .int y1), (2, .int y2), (3, .int y3)] [] w (k44 y1 y2 y3 w)) (fun _ _ _ _ => bw_none) (fun k44 hk44 y1 y2 y3 w => t_X7_partMoney_b44 hZ hE k44 hk44 y1 y2 y3 w) fu
def f_X7_partMoney (w : Wd) : Option (Wd) :=
  cv (f_J7_fill_53178 9 8 0 w) fun w1 =>
  cv (f_J7_fill_53178 10 8 0 w1) fun w2 =>
  if inb (w2.1 8 9) 4 = true then
  (cv (f_X7_findPays (84 + 3 * Int32.toNatClampNeg (w2.1 8 9)) w2) fun w5 =>
  cl (f_X0_moneyThereIs w5) fun r7 w6 =>
  X7_partMoney_b44_L r7 0 0 w6)
  else none
set_option maxRecDepth 100000 in
set_option maxHeartbeats 4000000 in
theorem t_X7_partMoney {Z : Cz (Wd)} (hZ : OKZ Z SC cX7_partMoney RX7 4 none 5) (hE : EndV Z)   (w : Wd) : BW Z 4 0 [(0, .ref (ph (zY Z) 8))] [] w (f_X7_partMoney w) :=
  bw_aload_n hZ 0 rfl dX7_partMoney_0 <|
  bw_getR hZ fl_RX7_9 obC_8 rfl dX7_partMoney_1 <|
  bw_iconst hZ 0 (by decide) dX7_partMoney_4 <|
  bw_callSV (As := [.ref (ph (zY Z) 9), .int 0]) hZ ms_RX7_104 (by decide) (c_J7_fill_53178 (zl Z) (zY Z) (hZ_S hZ) 9 8 0 (arC_9 _) w) rfl rfl (Nat.le_of_ble_eq_true rfl) dX7_partMoney_5 fun w1 =>
  bw_aload_n hZ 0 rfl dX7_partMoney_8 <|
  bw_getR hZ fl_RX7_15 obC_8 rfl dX7_partMoney_9 <|
  bw_iconst hZ 0 (by decide) dX7_partMoney_12 <|
  bw_callSV (As := [.ref (ph (zY Z) 10), .int 0]) hZ ms_RX7_104 (by decide) (c_J7_fill_53178 (zl Z) (zY Z) (hZ_S hZ) 10 8 0 (arC_10 _) w1) rfl rfl (Nat.le_of_ble_eq_true rfl) dX7_partMoney_13 fun w2 =>
  bw_aload_n hZ 0 rfl dX7_partMoney_16 <|
  bw_aload_n hZ 0 rfl dX7_partMoney_17 <|
  bw_getR hZ fl_RX7_23 obC_8 rfl dX7_partMoney_18 <|
  bw_aload_n hZ 0 rfl dX7_partMoney_21 <|
  bw_getI hZ fl_RX7_94 (by decide) obC_8 dX7_partMoney_22 <|
  bw_aald (84 + 3 * Int32.toNatClampNeg (w2.1 8 9)) hZ (arC_12 _) (Or.inr (Or.inr ⟨rfl, rfl⟩)) rfl dX7_partMoney_25 fun hi3 =>
  bw_callVV (As := [.ref (ph (zY Z) (84 + 3 * Int32.toNatClampNeg (w2.1 8 9)))]) hZ ml_RX7_197 rc_7 obC_8 (by decide) (c_X7_findPays (zl Z) (zY Z) (hZ_S hZ) (84 + 3 * Int32.toNatClampNeg (w2.1 8 9)) (isS_of hi3) w2) rfl rfl (Nat.le_of_ble_eq_true rfl) dX7_partMoney_26 fun w5 =>
  bw_aload_n hZ 0 rfl dX7_partMoney_29 <|
  bw_getR hZ fl_RX7_40 obC_8 rfl dX7_partMoney_30 <|
  bw_getR hZ fl_RX7_72 obC_3 rfl dX7_partMoney_33 <|
  bw_callVI (As := []) hZ ml_RX7_201 rc_0 obC_31 (by decide) (c_X0_moneyThereIs (zl Z) (zY Z) (hZ_S hZ) w5) rfl rfl (Nat.le_of_ble_eq_true rfl) dX7_partMoney_36 fun r7 w6 =>
  bw_istore_n hZ rfl (by decide) rfl dX7_partMoney_39 <|
  bw_iconst hZ 0 (by decide) dX7_partMoney_40 <|
  bw_istore_n hZ rfl (by decide) rfl dX7_partMoney_41 <|
  bw_iconst hZ 0 (by decide) dX7_partMoney_42 <|
  bw_istore_n hZ rfl (by decide) rfl dX7_partMoney_43 <|
  bw_sub [3, 2, 1, 0] rfl (t_X7_partMoney_b44_L hZ hE r7 0 0 w6)
theorem c_X7_partMoney (l : Launch) (Y : Ev) (hY : Y.1 = SC)   (w : Wd) : CV l Y yX7_partMoney cX7_partMoney 4 5 [.ref (ph Y 8)] w (f_X7_partMoney w) := by
  refine CV_of (S := SC) (by decide) (Nat.le_of_ble_eq_true rfl) hY ?_
  intro Z hl hY2 hZ hE
  subst hY2
  exact t_X7_partMoney hZ hE w
-- WhichWill$Shares.addUp
theorem dX7_addUp_0 : decode cX7_addUp 0 = .ok (.aload_n 0, 1) := by decide +kernel
theorem dX7_addUp_1 : decode cX7_addUp 1 = .ok (.invokevirtual 222, 3) := by decide +kernel
theorem dX7_addUp_4 : decode cX7_addUp 4 = .ok (.iconst 0, 1) := by decide +kernel
theorem dX7_addUp_5 : decode cX7_addUp 5 = .ok (.istore_n 1, 1) := by decide +kernel
theorem dX7_addUp_6 : decode cX7_addUp 6 = .ok (.iload_n 1, 1) := by decide +kernel
theorem dX7_addUp_7 : decode cX7_addUp 7 = .ok (.bipush 8, 2) := by decide +kernel
theorem dX7_addUp_9 : decode cX7_addUp 9 = .ok (.if_icmp .ge 28, 3) := by decide +kernel
theorem dX7_addUp_12 : decode cX7_addUp 12 = .ok (.aload_n 0, 1) := by decide +kernel
theorem dX7_addUp_13 : decode cX7_addUp 13 = .ok (.getfield 18, 3) := by decide +kernel
theorem dX7_addUp_16 : decode cX7_addUp 16 = .ok (.iload_n 1, 1) := by decide +kernel
theorem dX7_addUp_17 : decode cX7_addUp 17 = .ok (.aload_n 0, 1) := by decide +kernel
theorem dX7_addUp_18 : decode cX7_addUp 18 = .ok (.getfield 15, 3) := by decide +kernel
theorem dX7_addUp_21 : decode cX7_addUp 21 = .ok (.iload_n 1, 1) := by decide +kernel
theorem dX7_addUp_22 : decode cX7_addUp 22 = .ok (.iaload, 1) := by decide +kernel
theorem dX7_addUp_23 : decode cX7_addUp 23 = .ok (.aload_n 0, 1) := by decide +kernel
theorem dX7_addUp_24 : decode cX7_addUp 24 = .ok (.getfield 9, 3) := by decide +kernel
theorem dX7_addUp_27 : decode cX7_addUp 27 = .ok (.iload_n 1, 1) := by decide +kernel
theorem dX7_addUp_28 : decode cX7_addUp 28 = .ok (.iaload, 1) := by decide +kernel
theorem dX7_addUp_29 : decode cX7_addUp 29 = .ok (.iadd, 1) := by decide +kernel
theorem dX7_addUp_30 : decode cX7_addUp 30 = .ok (.iastore, 1) := by decide +kernel
theorem dX7_addUp_31 : decode cX7_addUp 31 = .ok (.iinc 1 1, 3) := by decide +kernel
theorem dX7_addUp_34 : decode cX7_addUp 34 = .ok (.goto (-28), 3) := by decide +kernel
theorem dX7_addUp_37 : decode cX7_addUp 37 = .ok (.iconst 0, 1) := by decide +kernel
theorem dX7_addUp_38 : decode cX7_addUp 38 = .ok (.istore_n 1, 1) := by decide +kernel
theorem dX7_addUp_39 : decode cX7_addUp 39 = .ok (.iload_n 1, 1) := by decide +kernel
theorem dX7_addUp_40 : decode cX7_addUp 40 = .ok (.aload_n 0, 1) := by decide +kernel
theorem dX7_addUp_41 : decode cX7_addUp 41 = .ok (.getfield 40, 3) := by decide +kernel
theorem dX7_addUp_44 : decode cX7_addUp 44 = .ok (.getfield 72, 3) := by decide +kernel
theorem dX7_addUp_47 : decode cX7_addUp 47 = .ok (.getfield 97, 3) := by decide +kernel
theorem dX7_addUp_50 : decode cX7_addUp 50 = .ok (.getfield 82, 3) := by decide +kernel
theorem dX7_addUp_53 : decode cX7_addUp 53 = .ok (.if_icmp .ge 44, 3) := by decide +kernel
theorem dX7_addUp_56 : decode cX7_addUp 56 = .ok (.aload_n 0, 1) := by decide +kernel
theorem dX7_addUp_57 : decode cX7_addUp 57 = .ok (.iload_n 1, 1) := by decide +kernel
theorem dX7_addUp_58 : decode cX7_addUp 58 = .ok (.invokevirtual 225, 3) := by decide +kernel
theorem dX7_addUp_61 : decode cX7_addUp 61 = .ok (.pop, 1) := by decide +kernel
theorem dX7_addUp_62 : decode cX7_addUp 62 = .ok (.iconst 0, 1) := by decide +kernel
theorem dX7_addUp_63 : decode cX7_addUp 63 = .ok (.istore_n 2, 1) := by decide +kernel
theorem dX7_addUp_64 : decode cX7_addUp 64 = .ok (.iload_n 2, 1) := by decide +kernel
theorem dX7_addUp_65 : decode cX7_addUp 65 = .ok (.bipush 8, 2) := by decide +kernel
theorem dX7_addUp_67 : decode cX7_addUp 67 = .ok (.if_icmp .ge 24, 3) := by decide +kernel
theorem dX7_addUp_70 : decode cX7_addUp 70 = .ok (.aload_n 0, 1) := by decide +kernel
theorem dX7_addUp_71 : decode cX7_addUp 71 = .ok (.getfield 18, 3) := by decide +kernel
theorem dX7_addUp_74 : decode cX7_addUp 74 = .ok (.iload_n 2, 1) := by decide +kernel
theorem dX7_addUp_75 : decode cX7_addUp 75 = .ok (.dup2, 1) := by decide +kernel
theorem dX7_addUp_76 : decode cX7_addUp 76 = .ok (.iaload, 1) := by decide +kernel
theorem dX7_addUp_77 : decode cX7_addUp 77 = .ok (.aload_n 0, 1) := by decide +kernel
theorem dX7_addUp_78 : decode cX7_addUp 78 = .ok (.getfield 9, 3) := by decide +kernel
theorem dX7_addUp_81 : decode cX7_addUp 81 = .ok (.iload_n 2, 1) := by decide +kernel
theorem dX7_addUp_82 : decode cX7_addUp 82 = .ok (.iaload, 1) := by decide +kernel
theorem dX7_addUp_83 : decode cX7_addUp 83 = .ok (.iadd, 1) := by decide +kernel
theorem dX7_addUp_84 : decode cX7_addUp 84 = .ok (.iastore, 1) := by decide +kernel
theorem dX7_addUp_85 : decode cX7_addUp 85 = .ok (.iinc 2 1, 3) := by decide +kernel
theorem dX7_addUp_88 : decode cX7_addUp 88 = .ok (.goto (-24), 3) := by decide +kernel
theorem dX7_addUp_91 : decode cX7_addUp 91 = .ok (.iinc 1 1, 3) := by decide +kernel
theorem dX7_addUp_94 : decode cX7_addUp 94 = .ok (.goto (-55), 3) := by decide +kernel
theorem dX7_addUp_97 : decode cX7_addUp 97 = .ok (.return_, 1) := by decide +kernel
def X7_addUp_b64 (k39 : Int32 → Wd → Option (Wd)) (k64 : Int32 → Int32 → Wd → Option (Wd)) (y1 : Int32) (y2 : Int32) (w : Wd) : Option (Wd) :=
  if 8 ≤ y2 then
  (k39 (y1 + 1) w)
  else
  if inb y2 8 = true then
  (if inb y2 8 = true then
  (if inb y2 8 = true then
  (lt (wI w 11 (Int32.toNatClampNeg y2) ((w.1 11 (Int32.toNatClampNeg y2)) + (w.1 9 (Int32.toNatClampNeg y2)))) fun w4 =>
  k64 y1 (y2 + 1) w4)
  else none)
  else none)
  else none
set_option maxRecDepth 100000 in
set_option maxHeartbeats 4000000 in
theorem t_X7_addUp_b64 {Z : Cz (Wd)} (hZ : OKZ Z SC cX7_addUp RX7 3 none 6) (hE : EndV Z) (k39 : Int32 → Wd → Option (Wd)) (hk39 : ∀ (y1 : Int32)  (w : Wd), BW Z 3 39 [(0, .ref (ph (zY Z) 8)), (1, .int y1)] [] w (k39 y1 w)) (k64 : Int32 → Int32 → Wd → Option (Wd)) (hk64 : ∀ (y1 : Int32) (y2 : Int32)  (w : Wd), BW Z 3 64 [(0, .ref (ph (zY Z) 8)), (1, .int y1), (2, .int y2)] [] w (k64 y1 y2 w)) (y1 : Int32) (y2 : Int32)  (w : Wd) : BW Z 3 64 [(0, .ref (ph (zY Z) 8)), (1, .int y1), (2, .int y2)] [] w (X7_addUp_b64 k39 k64 y1 y2 w) :=
  bw_iload_n hZ 2 rfl dX7_addUp_64 <|
  bw_bipush hZ 8 (by decide) dX7_addUp_65 <|
  bw_icmp_ge hZ (tgt := 91) (by decide) dX7_addUp_67 (fun _ =>
  bw_iinc hZ 1 1 rfl (by decide) (by decide) rfl dX7_addUp_91 <|
  bw_goto hZ (tgt := 39) (by decide) dX7_addUp_94 <|
  bw_sub [1, 0] rfl (hk39 (y1 + 1) w)) (fun _ =>
  bw_aload_n hZ 0 rfl dX7_addUp_70 <|
  bw_getR hZ fl_RX7_18 obC_8 rfl dX7_addUp_71 <|
  bw_iload_n hZ 2 rfl dX7_addUp_74 <|
  bw_dup2 hZ rfl rfl dX7_addUp_75 <|
  bw_iald hZ (arC_11 _) dX7_addUp_76 <|
  bw_aload_n hZ 0 rfl dX7_addUp_77 <|
  bw_getR hZ fl_RX7_9 obC_8 rfl dX7_addUp_78 <|
  bw_iload_n hZ 2 rfl dX7_addUp_81 <|
  bw_iald hZ (arC_9 _) dX7_addUp_82 <|
  bw_iadd hZ dX7_addUp_83 <|
  bw_iast hZ (arC_11 _) dX7_addUp_84 fun w4 =>
  bw_iinc hZ 1 2 rfl (by decide) (by decide) rfl dX7_addUp_85 <|
  bw_goto hZ (tgt := 64) (by decide) dX7_addUp_88 <|
  bw_sub [1, 2, 0] rfl (hk64 y1 (y2 + 1) w4))
def X7_addUp_b64_L (k39 : Int32 → Wd → Option (Wd)) : Int32 → Int32 → Wd → Option (Wd) :=
  lp fu (fun _ _ _ => none) (fun k64 => X7_addUp_b64 k39 k64)
theorem t_X7_addUp_b64_L {Z : Cz (Wd)} (hZ : OKZ Z SC cX7_addUp RX7 3 none 6) (hE : EndV Z) (k39 : Int32 → Wd → Option (Wd)) (hk39 : ∀ (y1 : Int32)  (w : Wd), BW Z 3 39 [(0, .ref (ph (zY Z) 8)), (1, .int y1)] [] w (k39 y1 w)) : ∀ (y1 : Int32) (y2 : Int32)  (w : Wd), BW Z 3 64 [(0, .ref (ph (zY Z) 8)), (1, .int y1), (2, .int y2)] [] w (X7_addUp_b64_L k39 y1 y2 w) :=
  lp_bw (fun k64 => ∀ (y1 : Int32) (y2 : Int32)  (w : Wd), BW Z 3 64 [(0, .ref (ph (zY Z) 8)), (1, .int y1), (2, .int y2)] [] w (k64 y1 y2 w)) (fun _ _ _ => bw_none) (fun k64 hk64 y1 y2 w => t_X7_addUp_b64 hZ hE k39 hk39 k64 hk64 y1 y2 w) fu
def X7_addUp_b39 (k39 : Int32 → Wd → Option (Wd)) (y1 : Int32) (w : Wd) : Option (Wd) :=
  if (w.1 36 1) ≤ y1 then
  (some w)
  else
  cl (f_X7_partThing y1 w) fun r3 w2 =>
  X7_addUp_b64_L k39 y1 0 w2
set_option maxRecDepth 100000 in
set_option maxHeartbeats 4000000 in
theorem t_X7_addUp_b39 {Z : Cz (Wd)} (hZ : OKZ Z SC cX7_addUp RX7 3 none 6) (hE : EndV Z) (k39 : Int32 → Wd → Option (Wd)) (hk39 : ∀ (y1 : Int32)  (w : Wd), BW Z 3 39 [(0, .ref (ph (zY Z) 8)), (1, .int y1)] [] w (k39 y1 w)) (y1 : Int32)  (w : Wd) : BW Z 3 39 [(0, .ref (ph (zY Z) 8)), (1, .int y1)] [] w (X7_addUp_b39 k39 y1 w) :=
  bw_iload_n hZ 1 rfl dX7_addUp_39 <|
  bw_aload_n hZ 0 rfl dX7_addUp_40 <|
  bw_getR hZ fl_RX7_40 obC_8 rfl dX7_addUp_41 <|
  bw_getR hZ fl_RX7_72 obC_3 rfl dX7_addUp_44 <|
  bw_getR hZ fl_RX7_97 obC_31 rfl dX7_addUp_47 <|
  bw_getI hZ fl_RX7_82 (by decide) obC_36 dX7_addUp_50 <|
  bw_icmp_ge hZ (tgt := 97) (by decide) dX7_addUp_53 (fun _ =>
  bw_vret hZ hE dX7_addUp_97) (fun _ =>
  bw_aload_n hZ 0 rfl dX7_addUp_56 <|
  bw_iload_n hZ 1 rfl dX7_addUp_57 <|
  bw_callVI (As := [.int y1]) hZ ml_RX7_225 rc_7 obC_8 (by decide) (c_X7_partThing (zl Z) (zY Z) (hZ_S hZ) y1 w) rfl rfl (Nat.le_of_ble_eq_true rfl) dX7_addUp_58 fun r3 w2 =>
  bw_pop hZ rfl dX7_addUp_61 <|
  bw_iconst hZ 0 (by decide) dX7_addUp_62 <|
  bw_istore_n hZ rfl (by decide) rfl dX7_addUp_63 <|
  bw_sub [1, 2, 0] rfl (t_X7_addUp_b64_L hZ hE k39 hk39 y1 0 w2))
def X7_addUp_b39_L  : Int32 → Wd → Option (Wd) :=
  lp fu (fun _ _ => none) (fun k39 => X7_addUp_b39 k39)
theorem t_X7_addUp_b39_L {Z : Cz (Wd)} (hZ : OKZ Z SC cX7_addUp RX7 3 none 6) (hE : EndV Z)  : ∀ (y1 : Int32)  (w : Wd), BW Z 3 39 [(0, .ref (ph (zY Z) 8)), (1, .int y1)] [] w (X7_addUp_b39_L y1 w) :=
  lp_bw (fun k39 => ∀ (y1 : Int32)  (w : Wd), BW Z 3 39 [(0, .ref (ph (zY Z) 8)), (1, .int y1)] [] w (k39 y1 w)) (fun _ _ => bw_none) (fun k39 hk39 y1 w => t_X7_addUp_b39 hZ hE k39 hk39 y1 w) fu
def X7_addUp_b6 (k6 : Int32 → Wd → Option (Wd)) (y1 : Int32) (w : Wd) : Option (Wd) :=
  if 8 ≤ y1 then
  (X7_addUp_b39_L 0 w)
  else
  if inb y1 8 = true then
  (if inb y1 8 = true then
  (if inb y1 8 = true then
  (lt (wI w 11 (Int32.toNatClampNeg y1) ((w.1 10 (Int32.toNatClampNeg y1)) + (w.1 9 (Int32.toNatClampNeg y1)))) fun w5 =>
  k6 (y1 + 1) w5)
  else none)
  else none)
  else none
set_option maxRecDepth 100000 in
set_option maxHeartbeats 4000000 in
theorem t_X7_addUp_b6 {Z : Cz (Wd)} (hZ : OKZ Z SC cX7_addUp RX7 3 none 6) (hE : EndV Z) (k6 : Int32 → Wd → Option (Wd)) (hk6 : ∀ (y1 : Int32)  (w : Wd), BW Z 3 6 [(0, .ref (ph (zY Z) 8)), (1, .int y1)] [] w (k6 y1 w)) (y1 : Int32)  (w : Wd) : BW Z 3 6 [(0, .ref (ph (zY Z) 8)), (1, .int y1)] [] w (X7_addUp_b6 k6 y1 w) :=
  bw_iload_n hZ 1 rfl dX7_addUp_6 <|
  bw_bipush hZ 8 (by decide) dX7_addUp_7 <|
  bw_icmp_ge hZ (tgt := 37) (by decide) dX7_addUp_9 (fun _ =>
  bw_iconst hZ 0 (by decide) dX7_addUp_37 <|
  bw_istore_n hZ rfl (by decide) rfl dX7_addUp_38 <|
  bw_sub [1, 0] rfl (t_X7_addUp_b39_L hZ hE 0 w)) (fun _ =>
  bw_aload_n hZ 0 rfl dX7_addUp_12 <|
  bw_getR hZ fl_RX7_18 obC_8 rfl dX7_addUp_13 <|
  bw_iload_n hZ 1 rfl dX7_addUp_16 <|
  bw_aload_n hZ 0 rfl dX7_addUp_17 <|
  bw_getR hZ fl_RX7_15 obC_8 rfl dX7_addUp_18 <|
  bw_iload_n hZ 1 rfl dX7_addUp_21 <|
  bw_iald hZ (arC_10 _) dX7_addUp_22 <|
  bw_aload_n hZ 0 rfl dX7_addUp_23 <|
  bw_getR hZ fl_RX7_9 obC_8 rfl dX7_addUp_24 <|
  bw_iload_n hZ 1 rfl dX7_addUp_27 <|
  bw_iald hZ (arC_9 _) dX7_addUp_28 <|
  bw_iadd hZ dX7_addUp_29 <|
  bw_iast hZ (arC_11 _) dX7_addUp_30 fun w5 =>
  bw_iinc hZ 1 1 rfl (by decide) (by decide) rfl dX7_addUp_31 <|
  bw_goto hZ (tgt := 6) (by decide) dX7_addUp_34 <|
  bw_sub [1, 0] rfl (hk6 (y1 + 1) w5))
def X7_addUp_b6_L  : Int32 → Wd → Option (Wd) :=
  lp fu (fun _ _ => none) (fun k6 => X7_addUp_b6 k6)
theorem t_X7_addUp_b6_L {Z : Cz (Wd)} (hZ : OKZ Z SC cX7_addUp RX7 3 none 6) (hE : EndV Z)  : ∀ (y1 : Int32)  (w : Wd), BW Z 3 6 [(0, .ref (ph (zY Z) 8)), (1, .int y1)] [] w (X7_addUp_b6_L y1 w) :=
  lp_bw (fun k6 => ∀ (y1 : Int32)  (w : Wd), BW Z 3 6 [(0, .ref (ph (zY Z) 8)), (1, .int y1)] [] w (k6 y1 w)) (fun _ _ => bw_none) (fun k6 hk6 y1 w => t_X7_addUp_b6 hZ hE k6 hk6 y1 w) fu
def f_X7_addUp (w : Wd) : Option (Wd) :=
  cv (f_X7_partMoney w) fun w1 =>
  X7_addUp_b6_L 0 w1
set_option maxRecDepth 100000 in
set_option maxHeartbeats 4000000 in
theorem t_X7_addUp {Z : Cz (Wd)} (hZ : OKZ Z SC cX7_addUp RX7 3 none 6) (hE : EndV Z)   (w : Wd) : BW Z 3 0 [(0, .ref (ph (zY Z) 8))] [] w (f_X7_addUp w) :=
  bw_aload_n hZ 0 rfl dX7_addUp_0 <|
  bw_callVV (As := []) hZ ml_RX7_222 rc_7 obC_8 (by decide) (c_X7_partMoney (zl Z) (zY Z) (hZ_S hZ) w) rfl rfl (Nat.le_of_ble_eq_true rfl) dX7_addUp_1 fun w1 =>
  bw_iconst hZ 0 (by decide) dX7_addUp_4 <|
  bw_istore_n hZ rfl (by decide) rfl dX7_addUp_5 <|
  bw_sub [1, 0] rfl (t_X7_addUp_b6_L hZ hE 0 w1)
theorem c_X7_addUp (l : Launch) (Y : Ev) (hY : Y.1 = SC)   (w : Wd) : CV l Y yX7_addUp cX7_addUp 3 6 [.ref (ph Y 8)] w (f_X7_addUp w) := by
  refine CV_of (S := SC) (by decide) (Nat.le_of_ble_eq_true rfl) hY ?_
  intro Z hl hY2 hZ hE
  subst hY2
  exact t_X7_addUp hZ hE w
-- WhichWill$Shares.shortOfForce
theorem dX7_shortOfForce_0 : decode cX7_shortOfForce 0 = .ok (.aload_n 0, 1) := by decide +kernel
theorem dX7_shortOfForce_1 : decode cX7_shortOfForce 1 = .ok (.getfield 40, 3) := by decide +kernel
theorem dX7_shortOfForce_4 : decode cX7_shortOfForce 4 = .ok (.getfield 72, 3) := by decide +kernel
theorem dX7_shortOfForce_7 : decode cX7_shortOfForce 7 = .ok (.astore_n 1, 1) := by decide +kernel
theorem dX7_shortOfForce_8 : decode cX7_shortOfForce 8 = .ok (.aload_n 1, 1) := by decide +kernel
theorem dX7_shortOfForce_9 : decode cX7_shortOfForce 9 = .ok (.invokevirtual 201, 3) := by decide +kernel
theorem dX7_shortOfForce_12 : decode cX7_shortOfForce 12 = .ok (.istore_n 2, 1) := by decide +kernel
theorem dX7_shortOfForce_13 : decode cX7_shortOfForce 13 = .ok (.iconst 0, 1) := by decide +kernel
theorem dX7_shortOfForce_14 : decode cX7_shortOfForce 14 = .ok (.istore_n 3, 1) := by decide +kernel
theorem dX7_shortOfForce_15 : decode cX7_shortOfForce 15 = .ok (.iload_n 3, 1) := by decide +kernel
theorem dX7_shortOfForce_16 : decode cX7_shortOfForce 16 = .ok (.aload_n 1, 1) := by decide +kernel
theorem dX7_shortOfForce_17 : decode cX7_shortOfForce 17 = .ok (.getfield 97, 3) := by decide +kernel
theorem dX7_shortOfForce_20 : decode cX7_shortOfForce 20 = .ok (.getfield 82, 3) := by decide +kernel
theorem dX7_shortOfForce_23 : decode cX7_shortOfForce 23 = .ok (.if_icmp .ge 18, 3) := by decide +kernel
theorem dX7_shortOfForce_26 : decode cX7_shortOfForce 26 = .ok (.iload_n 2, 1) := by decide +kernel
theorem dX7_shortOfForce_27 : decode cX7_shortOfForce 27 = .ok (.aload_n 1, 1) := by decide +kernel
theorem dX7_shortOfForce_28 : decode cX7_shortOfForce 28 = .ok (.getfield 110, 3) := by decide +kernel
theorem dX7_shortOfForce_31 : decode cX7_shortOfForce 31 = .ok (.iload_n 3, 1) := by decide +kernel
theorem dX7_shortOfForce_32 : decode cX7_shortOfForce 32 = .ok (.iaload, 1) := by decide +kernel
theorem dX7_shortOfForce_33 : decode cX7_shortOfForce 33 = .ok (.iadd, 1) := by decide +kernel
theorem dX7_shortOfForce_34 : decode cX7_shortOfForce 34 = .ok (.istore_n 2, 1) := by decide +kernel
theorem dX7_shortOfForce_35 : decode cX7_shortOfForce 35 = .ok (.iinc 3 1, 3) := by decide +kernel
theorem dX7_shortOfForce_38 : decode cX7_shortOfForce 38 = .ok (.goto (-23), 3) := by decide +kernel
theorem dX7_shortOfForce_41 : decode cX7_shortOfForce 41 = .ok (.iload_n 2, 1) := by decide +kernel
theorem dX7_shortOfForce_42 : decode cX7_shortOfForce 42 = .ok (.aload_n 1, 1) := by decide +kernel
theorem dX7_shortOfForce_43 : decode cX7_shortOfForce 43 = .ok (.aload_n 0, 1) := by decide +kernel
theorem dX7_shortOfForce_44 : decode cX7_shortOfForce 44 = .ok (.getfield 94, 3) := by decide +kernel
theorem dX7_shortOfForce_47 : decode cX7_shortOfForce 47 = .ok (.bipush 10, 2) := by decide +kernel
theorem dX7_shortOfForce_49 : decode cX7_shortOfForce 49 = .ok (.invokevirtual 180, 3) := by decide +kernel
theorem dX7_shortOfForce_52 : decode cX7_shortOfForce 52 = .ok (.imul, 1) := by decide +kernel
theorem dX7_shortOfForce_53 : decode cX7_shortOfForce 53 = .ok (.bipush 100, 2) := by decide +kernel
theorem dX7_shortOfForce_55 : decode cX7_shortOfForce 55 = .ok (.idiv, 1) := by decide +kernel
theorem dX7_shortOfForce_56 : decode cX7_shortOfForce 56 = .ok (.istore_n 3, 1) := by decide +kernel
theorem dX7_shortOfForce_57 : decode cX7_shortOfForce 57 = .ok (.iconst 0, 1) := by decide +kernel
theorem dX7_shortOfForce_58 : decode cX7_shortOfForce 58 = .ok (.istore 4, 2) := by decide +kernel
theorem dX7_shortOfForce_60 : decode cX7_shortOfForce 60 = .ok (.iload 4, 2) := by decide +kernel
theorem dX7_shortOfForce_62 : decode cX7_shortOfForce 62 = .ok (.aload_n 1, 1) := by decide +kernel
theorem dX7_shortOfForce_63 : decode cX7_shortOfForce 63 = .ok (.getfield 183, 3) := by decide +kernel
theorem dX7_shortOfForce_66 : decode cX7_shortOfForce 66 = .ok (.getfield 82, 3) := by decide +kernel
theorem dX7_shortOfForce_69 : decode cX7_shortOfForce 69 = .ok (.if_icmp .ge 32, 3) := by decide +kernel
theorem dX7_shortOfForce_72 : decode cX7_shortOfForce 72 = .ok (.iload_n 3, 1) := by decide +kernel
theorem dX7_shortOfForce_73 : decode cX7_shortOfForce 73 = .ok (.aload_n 1, 1) := by decide +kernel
theorem dX7_shortOfForce_74 : decode cX7_shortOfForce 74 = .ok (.iload 4, 2) := by decide +kernel
theorem dX7_shortOfForce_76 : decode cX7_shortOfForce 76 = .ok (.invokevirtual 228, 3) := by decide +kernel
theorem dX7_shortOfForce_79 : decode cX7_shortOfForce 79 = .ok (.ifCond .eq 13, 3) := by decide +kernel
theorem dX7_shortOfForce_82 : decode cX7_shortOfForce 82 = .ok (.aload_n 0, 1) := by decide +kernel
theorem dX7_shortOfForce_83 : decode cX7_shortOfForce 83 = .ok (.getfield 18, 3) := by decide +kernel
theorem dX7_shortOfForce_86 : decode cX7_shortOfForce 86 = .ok (.iload 4, 2) := by decide +kernel
theorem dX7_shortOfForce_88 : decode cX7_shortOfForce 88 = .ok (.iaload, 1) := by decide +kernel
theorem dX7_shortOfForce_89 : decode cX7_shortOfForce 89 = .ok (.goto 4, 3) := by decide +kernel
theorem dX7_shortOfForce_92 : decode cX7_shortOfForce 92 = .ok (.iconst 0, 1) := by decide +kernel
theorem dX7_shortOfForce_93 : decode cX7_shortOfForce 93 = .ok (.isub, 1) := by decide +kernel
theorem dX7_shortOfForce_94 : decode cX7_shortOfForce 94 = .ok (.istore_n 3, 1) := by decide +kernel
theorem dX7_shortOfForce_95 : decode cX7_shortOfForce 95 = .ok (.iinc 4 1, 3) := by decide +kernel
theorem dX7_shortOfForce_98 : decode cX7_shortOfForce 98 = .ok (.goto (-38), 3) := by decide +kernel
theorem dX7_shortOfForce_101 : decode cX7_shortOfForce 101 = .ok (.iconst 0, 1) := by decide +kernel
theorem dX7_shortOfForce_102 : decode cX7_shortOfForce 102 = .ok (.iload_n 3, 1) := by decide +kernel
theorem dX7_shortOfForce_103 : decode cX7_shortOfForce 103 = .ok (.invokestatic 210, 3) := by decide +kernel
theorem dX7_shortOfForce_106 : decode cX7_shortOfForce 106 = .ok (.ireturn, 1) := by decide +kernel
def X7_shortOfForce_b60 (k60 : Int32 → Int32 → Wd → Option (Int32 × Wd)) (y3 : Int32) (y4 : Int32) (w : Wd) : Option (Int32 × Wd) :=
  if (w.1 34 1) ≤ y4 then
  (some (if (0 : Int32) < y3 then y3 else 0, w))
  else
  cl (f_X0_isOfTheLine y4 w) fun r7 w6 =>
  if r7 = 0 then
  (lt (y3 - 0) fun v8 =>
  k60 v8 (y4 + 1) w6)
  else
  if inb y4 8 = true then
  (lt (y3 - (w6.1 11 (Int32.toNatClampNeg y4))) fun v9 =>
  k60 v9 (y4 + 1) w6)
  else none
set_option maxRecDepth 100000 in
set_option maxHeartbeats 4000000 in
theorem t_X7_shortOfForce_b60 {Z : Cz (Int32 × Wd)} (hZ : OKZ Z SC cX7_shortOfForce RX7 5 (some .int) 2) (hE : EndI Z) (k60 : Int32 → Int32 → Wd → Option (Int32 × Wd)) (hk60 : ∀ (y3 : Int32) (y4 : Int32)  (w : Wd), BW Z 5 60 [(0, .ref (ph (zY Z) 8)), (1, .ref (ph (zY Z) 31)), (3, .int y3), (4, .int y4)] [] w (k60 y3 y4 w)) (y3 : Int32) (y4 : Int32)  (w : Wd) : BW Z 5 60 [(0, .ref (ph (zY Z) 8)), (1, .ref (ph (zY Z) 31)), (3, .int y3), (4, .int y4)] [] w (X7_shortOfForce_b60 k60 y3 y4 w) :=
  bw_iload hZ 3 rfl dX7_shortOfForce_60 <|
  bw_aload_n hZ 1 rfl dX7_shortOfForce_62 <|
  bw_getR hZ fl_RX7_183 obC_31 rfl dX7_shortOfForce_63 <|
  bw_getI hZ fl_RX7_82 (by decide) obC_34 dX7_shortOfForce_66 <|
  bw_icmp_ge hZ (tgt := 101) (by decide) dX7_shortOfForce_69 (fun _ =>
  bw_iconst hZ 0 (by decide) dX7_shortOfForce_101 <|
  bw_iload_n hZ 2 rfl dX7_shortOfForce_102 <|
  bw_mmax hZ kl_RX7_210 km_max (by decide) (Nat.le_of_ble_eq_true rfl) dX7_shortOfForce_103 <|
  bw_iret hZ hE dX7_shortOfForce_106) (fun _ =>
  bw_iload_n hZ 2 rfl dX7_shortOfForce_72 <|
  bw_aload_n hZ 1 rfl dX7_shortOfForce_73 <|
  bw_iload hZ 3 rfl dX7_shortOfForce_74 <|
  bw_callVI (As := [.int y4]) hZ ml_RX7_228 rc_0 obC_31 (by decide) (c_X0_isOfTheLine (zl Z) (zY Z) (hZ_S hZ) y4 w) rfl rfl (Nat.le_of_ble_eq_true rfl) dX7_shortOfForce_76 fun r7 w6 =>
  bw_if_eq hZ (tgt := 92) (by decide) dX7_shortOfForce_79 (fun _ =>
  bw_iconst hZ 0 (by decide) dX7_shortOfForce_92 <|
  bw_isub hZ dX7_shortOfForce_93 <|
  bw_nm fun v8 =>
  bw_istore_n hZ rfl (by decide) rfl dX7_shortOfForce_94 <|
  bw_iinc hZ 1 3 rfl (by decide) (by decide) rfl dX7_shortOfForce_95 <|
  bw_goto hZ (tgt := 60) (by decide) dX7_shortOfForce_98 <|
  bw_sub [2, 3, 1, 0] rfl (hk60 v8 (y4 + 1) w6)) (fun _ =>
  bw_aload_n hZ 0 rfl dX7_shortOfForce_82 <|
  bw_getR hZ fl_RX7_18 obC_8 rfl dX7_shortOfForce_83 <|
  bw_iload hZ 3 rfl dX7_shortOfForce_86 <|
  bw_iald hZ (arC_11 _) dX7_shortOfForce_88 <|
  bw_goto hZ (tgt := 93) (by decide) dX7_shortOfForce_89 <|
  bw_isub hZ dX7_shortOfForce_93 <|
  bw_nm fun v9 =>
  bw_istore_n hZ rfl (by decide) rfl dX7_shortOfForce_94 <|
  bw_iinc hZ 1 3 rfl (by decide) (by decide) rfl dX7_shortOfForce_95 <|
  bw_goto hZ (tgt := 60) (by decide) dX7_shortOfForce_98 <|
  bw_sub [2, 3, 1, 0] rfl (hk60 v9 (y4 + 1) w6)))
def X7_shortOfForce_b60_L  : Int32 → Int32 → Wd → Option (Int32 × Wd) :=
  lp fu (fun _ _ _ => none) (fun k60 => X7_shortOfForce_b60 k60)
theorem t_X7_shortOfForce_b60_L {Z : Cz (Int32 × Wd)} (hZ : OKZ Z SC cX7_shortOfForce RX7 5 (some .int) 2) (hE : EndI Z)  : ∀ (y3 : Int32) (y4 : Int32)  (w : Wd), BW Z 5 60 [(0, .ref (ph (zY Z) 8)), (1, .ref (ph (zY Z) 31)), (3, .int y3), (4, .int y4)] [] w (X7_shortOfForce_b60_L y3 y4 w) :=
  lp_bw (fun k60 => ∀ (y3 : Int32) (y4 : Int32)  (w : Wd), BW Z 5 60 [(0, .ref (ph (zY Z) 8)), (1, .ref (ph (zY Z) 31)), (3, .int y3), (4, .int y4)] [] w (k60 y3 y4 w)) (fun _ _ _ => bw_none) (fun k60 hk60 y3 y4 w => t_X7_shortOfForce_b60 hZ hE k60 hk60 y3 y4 w) fu
def X7_shortOfForce_b15 (k15 : Int32 → Int32 → Wd → Option (Int32 × Wd)) (y2 : Int32) (y3 : Int32) (w : Wd) : Option (Int32 × Wd) :=
  if (w.1 36 1) ≤ y3 then
  (cl (f_X0_ruleOf (w.1 8 9) 10 w) fun r4 w3 =>
  lt ((y2 * r4) / 100) fun v5 =>
  X7_shortOfForce_b60_L v5 0 w3)
  else
  if inb y3 8 = true then
  (lt (y2 + (w.1 41 (Int32.toNatClampNeg y3))) fun v10 =>
  k15 v10 (y3 + 1) w)
  else none
set_option maxRecDepth 100000 in
set_option maxHeartbeats 4000000 in
theorem t_X7_shortOfForce_b15 {Z : Cz (Int32 × Wd)} (hZ : OKZ Z SC cX7_shortOfForce RX7 5 (some .int) 2) (hE : EndI Z) (k15 : Int32 → Int32 → Wd → Option (Int32 × Wd)) (hk15 : ∀ (y2 : Int32) (y3 : Int32)  (w : Wd), BW Z 5 15 [(0, .ref (ph (zY Z) 8)), (1, .ref (ph (zY Z) 31)), (2, .int y2), (3, .int y3)] [] w (k15 y2 y3 w)) (y2 : Int32) (y3 : Int32)  (w : Wd) : BW Z 5 15 [(0, .ref (ph (zY Z) 8)), (1, .ref (ph (zY Z) 31)), (2, .int y2), (3, .int y3)] [] w (X7_shortOfForce_b15 k15 y2 y3 w) :=
  bw_iload_n hZ 3 rfl dX7_shortOfForce_15 <|
  bw_aload_n hZ 1 rfl dX7_shortOfForce_16 <|
  bw_getR hZ fl_RX7_97 obC_31 rfl dX7_shortOfForce_17 <|
  bw_getI hZ fl_RX7_82 (by decide) obC_36 dX7_shortOfForce_20 <|
  bw_icmp_ge hZ (tgt := 41) (by decide) dX7_shortOfForce_23 (fun _ =>
  bw_iload_n hZ 2 rfl dX7_shortOfForce_41 <|
  bw_aload_n hZ 1 rfl dX7_shortOfForce_42 <|
  bw_aload_n hZ 0 rfl dX7_shortOfForce_43 <|
  bw_getI hZ fl_RX7_94 (by decide) obC_8 dX7_shortOfForce_44 <|
  bw_bipush hZ 10 (by decide) dX7_shortOfForce_47 <|
  bw_callVI (As := [.int (w.1 8 9), .int 10]) hZ ml_RX7_180 rc_0 obC_31 (by decide) (c_X0_ruleOf (zl Z) (zY Z) (hZ_S hZ) (w.1 8 9) 10 w) rfl rfl (Nat.le_of_ble_eq_true rfl) dX7_shortOfForce_49 fun r4 w3 =>
  bw_imul hZ dX7_shortOfForce_52 <|
  bw_bipush hZ 100 (by decide) dX7_shortOfForce_53 <|
  bw_idivN hZ (by decide) dX7_shortOfForce_55 <|
  bw_nm fun v5 =>
  bw_istore_n hZ rfl (by decide) rfl dX7_shortOfForce_56 <|
  bw_iconst hZ 0 (by decide) dX7_shortOfForce_57 <|
  bw_istore hZ (by decide) rfl dX7_shortOfForce_58 <|
  bw_sub [2, 3, 1, 0] rfl (t_X7_shortOfForce_b60_L hZ hE v5 0 w3)) (fun _ =>
  bw_iload_n hZ 2 rfl dX7_shortOfForce_26 <|
  bw_aload_n hZ 1 rfl dX7_shortOfForce_27 <|
  bw_getR hZ fl_RX7_110 obC_31 rfl dX7_shortOfForce_28 <|
  bw_iload_n hZ 3 rfl dX7_shortOfForce_31 <|
  bw_iald hZ (arC_41 _) dX7_shortOfForce_32 <|
  bw_iadd hZ dX7_shortOfForce_33 <|
  bw_nm fun v10 =>
  bw_istore_n hZ rfl (by decide) rfl dX7_shortOfForce_34 <|
  bw_iinc hZ 1 3 rfl (by decide) (by decide) rfl dX7_shortOfForce_35 <|
  bw_goto hZ (tgt := 15) (by decide) dX7_shortOfForce_38 <|
  bw_sub [2, 3, 1, 0] rfl (hk15 v10 (y3 + 1) w))
def X7_shortOfForce_b15_L  : Int32 → Int32 → Wd → Option (Int32 × Wd) :=
  lp fu (fun _ _ _ => none) (fun k15 => X7_shortOfForce_b15 k15)
theorem t_X7_shortOfForce_b15_L {Z : Cz (Int32 × Wd)} (hZ : OKZ Z SC cX7_shortOfForce RX7 5 (some .int) 2) (hE : EndI Z)  : ∀ (y2 : Int32) (y3 : Int32)  (w : Wd), BW Z 5 15 [(0, .ref (ph (zY Z) 8)), (1, .ref (ph (zY Z) 31)), (2, .int y2), (3, .int y3)] [] w (X7_shortOfForce_b15_L y2 y3 w) :=
  lp_bw (fun k15 => ∀ (y2 : Int32) (y3 : Int32)  (w : Wd), BW Z 5 15 [(0, .ref (ph (zY Z) 8)), (1, .ref (ph (zY Z) 31)), (2, .int y2), (3, .int y3)] [] w (k15 y2 y3 w)) (fun _ _ _ => bw_none) (fun k15 hk15 y2 y3 w => t_X7_shortOfForce_b15 hZ hE k15 hk15 y2 y3 w) fu
def f_X7_shortOfForce (w : Wd) : Option (Int32 × Wd) :=
  cl (f_X0_moneyThereIs w) fun r2 w1 =>
  X7_shortOfForce_b15_L r2 0 w1
set_option maxRecDepth 100000 in
set_option maxHeartbeats 4000000 in
theorem t_X7_shortOfForce {Z : Cz (Int32 × Wd)} (hZ : OKZ Z SC cX7_shortOfForce RX7 5 (some .int) 2) (hE : EndI Z)   (w : Wd) : BW Z 5 0 [(0, .ref (ph (zY Z) 8))] [] w (f_X7_shortOfForce w) :=
  bw_aload_n hZ 0 rfl dX7_shortOfForce_0 <|
  bw_getR hZ fl_RX7_40 obC_8 rfl dX7_shortOfForce_1 <|
  bw_getR hZ fl_RX7_72 obC_3 rfl dX7_shortOfForce_4 <|
  bw_astore_n hZ rfl (by decide) rfl dX7_shortOfForce_7 <|
  bw_aload_n hZ 0 rfl dX7_shortOfForce_8 <|
  bw_callVI (As := []) hZ ml_RX7_201 rc_0 obC_31 (by decide) (c_X0_moneyThereIs (zl Z) (zY Z) (hZ_S hZ) w) rfl rfl (Nat.le_of_ble_eq_true rfl) dX7_shortOfForce_9 fun r2 w1 =>
  bw_istore_n hZ rfl (by decide) rfl dX7_shortOfForce_12 <|
  bw_iconst hZ 0 (by decide) dX7_shortOfForce_13 <|
  bw_istore_n hZ rfl (by decide) rfl dX7_shortOfForce_14 <|
  bw_sub [3, 2, 1, 0] rfl (t_X7_shortOfForce_b15_L hZ hE r2 0 w1)
theorem c_X7_shortOfForce (l : Launch) (Y : Ev) (hY : Y.1 = SC)   (w : Wd) : CI l Y yX7_shortOfForce cX7_shortOfForce 5 2 [.ref (ph Y 8)] w .int (f_X7_shortOfForce w) := by
  refine CI_of (S := SC) (by decide) (Nat.le_of_ble_eq_true rfl) hY ?_
  intro Z hl hY2 hZ hE
  subst hY2
  exact t_X7_shortOfForce hZ hE w
-- WhichWill$Stories.addFact
theorem dX9_addFact_0 : decode cX9_addFact 0 = .ok (.aload_n 0, 1) := by decide +kernel
theorem dX9_addFact_1 : decode cX9_addFact 1 = .ok (.getfield 35, 3) := by decide +kernel
theorem dX9_addFact_4 : decode cX9_addFact 4 = .ok (.bipush 8, 2) := by decide +kernel
theorem dX9_addFact_6 : decode cX9_addFact 6 = .ok (.if_icmp .lt 6, 3) := by decide +kernel
theorem dX9_addFact_9 : decode cX9_addFact 9 = .ok (.bipush (-3), 2) := by decide +kernel
theorem dX9_addFact_11 : decode cX9_addFact 11 = .ok (.ireturn, 1) := by decide +kernel
theorem dX9_addFact_12 : decode cX9_addFact 12 = .ok (.aload_n 0, 1) := by decide +kernel
theorem dX9_addFact_13 : decode cX9_addFact 13 = .ok (.getfield 9, 3) := by decide +kernel
theorem dX9_addFact_16 : decode cX9_addFact 16 = .ok (.aload_n 0, 1) := by decide +kernel
theorem dX9_addFact_17 : decode cX9_addFact 17 = .ok (.getfield 35, 3) := by decide +kernel
theorem dX9_addFact_20 : decode cX9_addFact 20 = .ok (.iload_n 1, 1) := by decide +kernel
theorem dX9_addFact_21 : decode cX9_addFact 21 = .ok (.iastore, 1) := by decide +kernel
theorem dX9_addFact_22 : decode cX9_addFact 22 = .ok (.aload_n 0, 1) := by decide +kernel
theorem dX9_addFact_23 : decode cX9_addFact 23 = .ok (.getfield 15, 3) := by decide +kernel
theorem dX9_addFact_26 : decode cX9_addFact 26 = .ok (.aload_n 0, 1) := by decide +kernel
theorem dX9_addFact_27 : decode cX9_addFact 27 = .ok (.getfield 35, 3) := by decide +kernel
theorem dX9_addFact_30 : decode cX9_addFact 30 = .ok (.iload_n 2, 1) := by decide +kernel
theorem dX9_addFact_31 : decode cX9_addFact 31 = .ok (.iastore, 1) := by decide +kernel
theorem dX9_addFact_32 : decode cX9_addFact 32 = .ok (.aload_n 0, 1) := by decide +kernel
theorem dX9_addFact_33 : decode cX9_addFact 33 = .ok (.getfield 18, 3) := by decide +kernel
theorem dX9_addFact_36 : decode cX9_addFact 36 = .ok (.aload_n 0, 1) := by decide +kernel
theorem dX9_addFact_37 : decode cX9_addFact 37 = .ok (.getfield 35, 3) := by decide +kernel
theorem dX9_addFact_40 : decode cX9_addFact 40 = .ok (.iload_n 3, 1) := by decide +kernel
theorem dX9_addFact_41 : decode cX9_addFact 41 = .ok (.iastore, 1) := by decide +kernel
theorem dX9_addFact_42 : decode cX9_addFact 42 = .ok (.aload_n 0, 1) := by decide +kernel
theorem dX9_addFact_43 : decode cX9_addFact 43 = .ok (.dup, 1) := by decide +kernel
theorem dX9_addFact_44 : decode cX9_addFact 44 = .ok (.getfield 35, 3) := by decide +kernel
theorem dX9_addFact_47 : decode cX9_addFact 47 = .ok (.iconst 1, 1) := by decide +kernel
theorem dX9_addFact_48 : decode cX9_addFact 48 = .ok (.iadd, 1) := by decide +kernel
theorem dX9_addFact_49 : decode cX9_addFact 49 = .ok (.putfield 35, 3) := by decide +kernel
theorem dX9_addFact_52 : decode cX9_addFact 52 = .ok (.aload_n 0, 1) := by decide +kernel
theorem dX9_addFact_53 : decode cX9_addFact 53 = .ok (.getfield 35, 3) := by decide +kernel
theorem dX9_addFact_56 : decode cX9_addFact 56 = .ok (.iconst 1, 1) := by decide +kernel
theorem dX9_addFact_57 : decode cX9_addFact 57 = .ok (.isub, 1) := by decide +kernel
theorem dX9_addFact_58 : decode cX9_addFact 58 = .ok (.ireturn, 1) := by decide +kernel
def f_X9_addFact (x1 : Int32) (x2 : Int32) (x3 : Int32) (w : Wd) : Option (Int32 × Wd) :=
  if (w.1 22 0) < 8 then
  (if inb (w.1 22 0) 8 = true then
  (lt (wI w 23 (Int32.toNatClampNeg (w.1 22 0)) x1) fun w1 =>
  if inb (w1.1 22 0) 8 = true then
  (lt (wI w1 24 (Int32.toNatClampNeg (w1.1 22 0)) x2) fun w2 =>
  if inb (w2.1 22 0) 8 = true then
  (lt (wI w2 25 (Int32.toNatClampNeg (w2.1 22 0)) x3) fun w3 =>
  lt (wI w3 22 0 ((w3.1 22 0) + 1)) fun w4 =>
  some ((w4.1 22 0) - 1, w4))
  else none)
  else none)
  else none)
  else
  some ((-3), w)
set_option maxRecDepth 100000 in
set_option maxHeartbeats 4000000 in
theorem t_X9_addFact {Z : Cz (Int32 × Wd)} (hZ : OKZ Z SC cX9_addFact RX9 4 (some .int) 1) (hE : EndI Z) (x1 : Int32) (x2 : Int32) (x3 : Int32)  (w : Wd) : BW Z 4 0 [(0, .ref (ph (zY Z) 22)), (1, .int x1), (2, .int x2), (3, .int x3)] [] w (f_X9_addFact x1 x2 x3 w) :=
  bw_aload_n hZ 0 rfl dX9_addFact_0 <|
  bw_getI hZ fl_RX9_35 (by decide) obC_22 dX9_addFact_1 <|
  bw_bipush hZ 8 (by decide) dX9_addFact_4 <|
  bw_icmp_lt hZ (tgt := 12) (by decide) dX9_addFact_6 (fun _ =>
  bw_aload_n hZ 0 rfl dX9_addFact_12 <|
  bw_getR hZ fl_RX9_9 obC_22 rfl dX9_addFact_13 <|
  bw_aload_n hZ 0 rfl dX9_addFact_16 <|
  bw_getI hZ fl_RX9_35 (by decide) obC_22 dX9_addFact_17 <|
  bw_iload_n hZ 1 rfl dX9_addFact_20 <|
  bw_iast hZ (arC_23 _) dX9_addFact_21 fun w1 =>
  bw_aload_n hZ 0 rfl dX9_addFact_22 <|
  bw_getR hZ fl_RX9_15 obC_22 rfl dX9_addFact_23 <|
  bw_aload_n hZ 0 rfl dX9_addFact_26 <|
  bw_getI hZ fl_RX9_35 (by decide) obC_22 dX9_addFact_27 <|
  bw_iload_n hZ 2 rfl dX9_addFact_30 <|
  bw_iast hZ (arC_24 _) dX9_addFact_31 fun w2 =>
  bw_aload_n hZ 0 rfl dX9_addFact_32 <|
  bw_getR hZ fl_RX9_18 obC_22 rfl dX9_addFact_33 <|
  bw_aload_n hZ 0 rfl dX9_addFact_36 <|
  bw_getI hZ fl_RX9_35 (by decide) obC_22 dX9_addFact_37 <|
  bw_iload_n hZ 3 rfl dX9_addFact_40 <|
  bw_iast hZ (arC_25 _) dX9_addFact_41 fun w3 =>
  bw_aload_n hZ 0 rfl dX9_addFact_42 <|
  bw_dup hZ rfl dX9_addFact_43 <|
  bw_getI hZ fl_RX9_35 (by decide) obC_22 dX9_addFact_44 <|
  bw_iconst hZ 1 (by decide) dX9_addFact_47 <|
  bw_iadd hZ dX9_addFact_48 <|
  bw_putI hZ fl_RX9_35 rfl rfl (by decide) obC_22 dX9_addFact_49 fun w4 =>
  bw_aload_n hZ 0 rfl dX9_addFact_52 <|
  bw_getI hZ fl_RX9_35 (by decide) obC_22 dX9_addFact_53 <|
  bw_iconst hZ 1 (by decide) dX9_addFact_56 <|
  bw_isub hZ dX9_addFact_57 <|
  bw_iret hZ hE dX9_addFact_58) (fun _ =>
  bw_bipush hZ (-3) (by decide) dX9_addFact_9 <|
  bw_iret hZ hE dX9_addFact_11)
theorem c_X9_addFact (l : Launch) (Y : Ev) (hY : Y.1 = SC) (x1 : Int32) (x2 : Int32) (x3 : Int32)  (w : Wd) : CI l Y yX9_addFact cX9_addFact 4 1 [.ref (ph Y 22), .int x1, .int x2, .int x3] w .int (f_X9_addFact x1 x2 x3 w) := by
  refine CI_of (S := SC) (by decide) (Nat.le_of_ble_eq_true rfl) hY ?_
  intro Z hl hY2 hZ hE
  subst hY2
  exact t_X9_addFact hZ hE x1 x2 x3 w
-- WhichWill$Stories.lasting
theorem dX9_lasting_0 : decode cX9_lasting 0 = .ok (.iload_n 1, 1) := by decide +kernel
theorem dX9_lasting_1 : decode cX9_lasting 1 = .ok (.aload_n 0, 1) := by decide +kernel
theorem dX9_lasting_2 : decode cX9_lasting 2 = .ok (.getfield 27, 3) := by decide +kernel
theorem dX9_lasting_5 : decode cX9_lasting 5 = .ok (.getfield 43, 3) := by decide +kernel
theorem dX9_lasting_8 : decode cX9_lasting 8 = .ok (.if_icmp .ge 7, 3) := by decide +kernel
theorem dX9_lasting_11 : decode cX9_lasting 11 = .ok (.iload_n 1, 1) := by decide +kernel
theorem dX9_lasting_12 : decode cX9_lasting 12 = .ok (.goto 15, 3) := by decide +kernel
theorem dX9_lasting_15 : decode cX9_lasting 15 = .ok (.bipush 16, 2) := by decide +kernel
theorem dX9_lasting_17 : decode cX9_lasting 17 = .ok (.iload_n 1, 1) := by decide +kernel
theorem dX9_lasting_18 : decode cX9_lasting 18 = .ok (.iadd, 1) := by decide +kernel
theorem dX9_lasting_19 : decode cX9_lasting 19 = .ok (.aload_n 0, 1) := by decide +kernel
theorem dX9_lasting_20 : decode cX9_lasting 20 = .ok (.getfield 27, 3) := by decide +kernel
theorem dX9_lasting_23 : decode cX9_lasting 23 = .ok (.getfield 43, 3) := by decide +kernel
theorem dX9_lasting_26 : decode cX9_lasting 26 = .ok (.isub, 1) := by decide +kernel
theorem dX9_lasting_27 : decode cX9_lasting 27 = .ok (.ireturn, 1) := by decide +kernel
def f_X9_lasting (x1 : Int32) (w : Wd) : Option (Int32 × Wd) :=
  if (w.1 3 3) ≤ x1 then
  (some ((16 + x1) - (w.1 3 3), w))
  else
  some (x1, w)
set_option maxRecDepth 100000 in
set_option maxHeartbeats 4000000 in
theorem t_X9_lasting {Z : Cz (Int32 × Wd)} (hZ : OKZ Z SC cX9_lasting RX9 2 (some .int) 1) (hE : EndI Z) (x1 : Int32)  (w : Wd) : BW Z 2 0 [(0, .ref (ph (zY Z) 22)), (1, .int x1)] [] w (f_X9_lasting x1 w) :=
  bw_iload_n hZ 1 rfl dX9_lasting_0 <|
  bw_aload_n hZ 0 rfl dX9_lasting_1 <|
  bw_getR hZ fl_RX9_27 obC_22 rfl dX9_lasting_2 <|
  bw_getI hZ fl_RX9_43 (by decide) obC_3 dX9_lasting_5 <|
  bw_icmp_ge hZ (tgt := 15) (by decide) dX9_lasting_8 (fun _ =>
  bw_bipush hZ 16 (by decide) dX9_lasting_15 <|
  bw_iload_n hZ 1 rfl dX9_lasting_17 <|
  bw_iadd hZ dX9_lasting_18 <|
  bw_aload_n hZ 0 rfl dX9_lasting_19 <|
  bw_getR hZ fl_RX9_27 obC_22 rfl dX9_lasting_20 <|
  bw_getI hZ fl_RX9_43 (by decide) obC_3 dX9_lasting_23 <|
  bw_isub hZ dX9_lasting_26 <|
  bw_iret hZ hE dX9_lasting_27) (fun _ =>
  bw_iload_n hZ 1 rfl dX9_lasting_11 <|
  bw_goto hZ (tgt := 27) (by decide) dX9_lasting_12 <|
  bw_iret hZ hE dX9_lasting_27)
theorem c_X9_lasting (l : Launch) (Y : Ev) (hY : Y.1 = SC) (x1 : Int32)  (w : Wd) : CI l Y yX9_lasting cX9_lasting 2 1 [.ref (ph Y 22), .int x1] w .int (f_X9_lasting x1 w) := by
  refine CI_of (S := SC) (by decide) (Nat.le_of_ble_eq_true rfl) hY ?_
  intro Z hl hY2 hZ hE
  subst hY2
  exact t_X9_lasting hZ hE x1 w
-- WhichWill$Stories.addAhead
theorem dX9_addAhead_0 : decode cX9_addAhead 0 = .ok (.aload_n 0, 1) := by decide +kernel
theorem dX9_addAhead_1 : decode cX9_addAhead 1 = .ok (.getfield 35, 3) := by decide +kernel
theorem dX9_addAhead_4 : decode cX9_addAhead 4 = .ok (.bipush 8, 2) := by decide +kernel
theorem dX9_addAhead_6 : decode cX9_addAhead 6 = .ok (.if_icmp .lt 6, 3) := by decide +kernel
theorem dX9_addAhead_9 : decode cX9_addAhead 9 = .ok (.bipush (-3), 2) := by decide +kernel
theorem dX9_addAhead_11 : decode cX9_addAhead 11 = .ok (.ireturn, 1) := by decide +kernel
theorem dX9_addAhead_12 : decode cX9_addAhead 12 = .ok (.aload_n 0, 1) := by decide +kernel
theorem dX9_addAhead_13 : decode cX9_addAhead 13 = .ok (.getfield 9, 3) := by decide +kernel
theorem dX9_addAhead_16 : decode cX9_addAhead 16 = .ok (.aload_n 0, 1) := by decide +kernel
theorem dX9_addAhead_17 : decode cX9_addAhead 17 = .ok (.getfield 35, 3) := by decide +kernel
theorem dX9_addAhead_20 : decode cX9_addAhead 20 = .ok (.iload_n 1, 1) := by decide +kernel
theorem dX9_addAhead_21 : decode cX9_addAhead 21 = .ok (.iastore, 1) := by decide +kernel
theorem dX9_addAhead_22 : decode cX9_addAhead 22 = .ok (.aload_n 0, 1) := by decide +kernel
theorem dX9_addAhead_23 : decode cX9_addAhead 23 = .ok (.getfield 15, 3) := by decide +kernel
theorem dX9_addAhead_26 : decode cX9_addAhead 26 = .ok (.aload_n 0, 1) := by decide +kernel
theorem dX9_addAhead_27 : decode cX9_addAhead 27 = .ok (.getfield 35, 3) := by decide +kernel
theorem dX9_addAhead_30 : decode cX9_addAhead 30 = .ok (.iconst (-1), 1) := by decide +kernel
theorem dX9_addAhead_31 : decode cX9_addAhead 31 = .ok (.iastore, 1) := by decide +kernel
theorem dX9_addAhead_32 : decode cX9_addAhead 32 = .ok (.aload_n 0, 1) := by decide +kernel
theorem dX9_addAhead_33 : decode cX9_addAhead 33 = .ok (.getfield 21, 3) := by decide +kernel
theorem dX9_addAhead_36 : decode cX9_addAhead 36 = .ok (.aload_n 0, 1) := by decide +kernel
theorem dX9_addAhead_37 : decode cX9_addAhead 37 = .ok (.getfield 35, 3) := by decide +kernel
theorem dX9_addAhead_40 : decode cX9_addAhead 40 = .ok (.aload_n 0, 1) := by decide +kernel
theorem dX9_addAhead_41 : decode cX9_addAhead 41 = .ok (.iload_n 2, 1) := by decide +kernel
theorem dX9_addAhead_42 : decode cX9_addAhead 42 = .ok (.invokevirtual 39, 3) := by decide +kernel
theorem dX9_addAhead_45 : decode cX9_addAhead 45 = .ok (.iastore, 1) := by decide +kernel
theorem dX9_addAhead_46 : decode cX9_addAhead 46 = .ok (.aload_n 0, 1) := by decide +kernel
theorem dX9_addAhead_47 : decode cX9_addAhead 47 = .ok (.getfield 24, 3) := by decide +kernel
theorem dX9_addAhead_50 : decode cX9_addAhead 50 = .ok (.aload_n 0, 1) := by decide +kernel
theorem dX9_addAhead_51 : decode cX9_addAhead 51 = .ok (.getfield 35, 3) := by decide +kernel
theorem dX9_addAhead_54 : decode cX9_addAhead 54 = .ok (.aload_n 0, 1) := by decide +kernel
theorem dX9_addAhead_55 : decode cX9_addAhead 55 = .ok (.iload_n 3, 1) := by decide +kernel
theorem dX9_addAhead_56 : decode cX9_addAhead 56 = .ok (.invokevirtual 39, 3) := by decide +kernel
theorem dX9_addAhead_59 : decode cX9_addAhead 59 = .ok (.iastore, 1) := by decide +kernel
theorem dX9_addAhead_60 : decode cX9_addAhead 60 = .ok (.aload_n 0, 1) := by decide +kernel
theorem dX9_addAhead_61 : decode cX9_addAhead 61 = .ok (.dup, 1) := by decide +kernel
theorem dX9_addAhead_62 : decode cX9_addAhead 62 = .ok (.getfield 35, 3) := by decide +kernel
theorem dX9_addAhead_65 : decode cX9_addAhead 65 = .ok (.iconst 1, 1) := by decide +kernel
theorem dX9_addAhead_66 : decode cX9_addAhead 66 = .ok (.iadd, 1) := by decide +kernel
theorem dX9_addAhead_67 : decode cX9_addAhead 67 = .ok (.putfield 35, 3) := by decide +kernel
theorem dX9_addAhead_70 : decode cX9_addAhead 70 = .ok (.aload_n 0, 1) := by decide +kernel
theorem dX9_addAhead_71 : decode cX9_addAhead 71 = .ok (.getfield 35, 3) := by decide +kernel
theorem dX9_addAhead_74 : decode cX9_addAhead 74 = .ok (.iconst 1, 1) := by decide +kernel
theorem dX9_addAhead_75 : decode cX9_addAhead 75 = .ok (.isub, 1) := by decide +kernel
theorem dX9_addAhead_76 : decode cX9_addAhead 76 = .ok (.ireturn, 1) := by decide +kernel
def f_X9_addAhead (x1 : Int32) (x2 : Int32) (x3 : Int32) (w : Wd) : Option (Int32 × Wd) :=
  if (w.1 22 0) < 8 then
  (if inb (w.1 22 0) 8 = true then
  (lt (wI w 23 (Int32.toNatClampNeg (w.1 22 0)) x1) fun w1 =>
  if inb (w1.1 22 0) 8 = true then
  (lt (wI w1 24 (Int32.toNatClampNeg (w1.1 22 0)) ((-1))) fun w2 =>
  cl (f_X9_lasting x2 w2) fun r4 w3 =>
  if inb (w2.1 22 0) 8 = true then
  (lt (wI w3 26 (Int32.toNatClampNeg (w2.1 22 0)) r4) fun w5 =>
  cl (f_X9_lasting x3 w5) fun r7 w6 =>
  if inb (w5.1 22 0) 8 = true then
  (lt (wI w6 27 (Int32.toNatClampNeg (w5.1 22 0)) r7) fun w8 =>
  lt (wI w8 22 0 ((w8.1 22 0) + 1)) fun w9 =>
  some ((w9.1 22 0) - 1, w9))
  else none)
  else none)
  else none)
  else none)
  else
  some ((-3), w)
set_option maxRecDepth 100000 in
set_option maxHeartbeats 4000000 in
theorem t_X9_addAhead {Z : Cz (Int32 × Wd)} (hZ : OKZ Z SC cX9_addAhead RX9 4 (some .int) 2) (hE : EndI Z) (x1 : Int32) (x2 : Int32) (x3 : Int32)  (w : Wd) : BW Z 4 0 [(0, .ref (ph (zY Z) 22)), (1, .int x1), (2, .int x2), (3, .int x3)] [] w (f_X9_addAhead x1 x2 x3 w) :=
  bw_aload_n hZ 0 rfl dX9_addAhead_0 <|
  bw_getI hZ fl_RX9_35 (by decide) obC_22 dX9_addAhead_1 <|
  bw_bipush hZ 8 (by decide) dX9_addAhead_4 <|
  bw_icmp_lt hZ (tgt := 12) (by decide) dX9_addAhead_6 (fun _ =>
  bw_aload_n hZ 0 rfl dX9_addAhead_12 <|
  bw_getR hZ fl_RX9_9 obC_22 rfl dX9_addAhead_13 <|
  bw_aload_n hZ 0 rfl dX9_addAhead_16 <|
  bw_getI hZ fl_RX9_35 (by decide) obC_22 dX9_addAhead_17 <|
  bw_iload_n hZ 1 rfl dX9_addAhead_20 <|
  bw_iast hZ (arC_23 _) dX9_addAhead_21 fun w1 =>
  bw_aload_n hZ 0 rfl dX9_addAhead_22 <|
  bw_getR hZ fl_RX9_15 obC_22 rfl dX9_addAhead_23 <|
  bw_aload_n hZ 0 rfl dX9_addAhead_26 <|
  bw_getI hZ fl_RX9_35 (by decide) obC_22 dX9_addAhead_27 <|
  bw_iconst hZ (-1) (by decide) dX9_addAhead_30 <|
  bw_iast hZ (arC_24 _) dX9_addAhead_31 fun w2 =>
  bw_aload_n hZ 0 rfl dX9_addAhead_32 <|
  bw_getR hZ fl_RX9_21 obC_22 rfl dX9_addAhead_33 <|
  bw_aload_n hZ 0 rfl dX9_addAhead_36 <|
  bw_getI hZ fl_RX9_35 (by decide) obC_22 dX9_addAhead_37 <|
  bw_aload_n hZ 0 rfl dX9_addAhead_40 <|
  bw_iload_n hZ 2 rfl dX9_addAhead_41 <|
  bw_callVI (As := [.int x2]) hZ ml_RX9_39 rc_9 obC_22 (by decide) (c_X9_lasting (zl Z) (zY Z) (hZ_S hZ) x2 w2) rfl rfl (Nat.le_of_ble_eq_true rfl) dX9_addAhead_42 fun r4 w3 =>
  bw_iast hZ (arC_26 _) dX9_addAhead_45 fun w5 =>
  bw_aload_n hZ 0 rfl dX9_addAhead_46 <|
  bw_getR hZ fl_RX9_24 obC_22 rfl dX9_addAhead_47 <|
  bw_aload_n hZ 0 rfl dX9_addAhead_50 <|
  bw_getI hZ fl_RX9_35 (by decide) obC_22 dX9_addAhead_51 <|
  bw_aload_n hZ 0 rfl dX9_addAhead_54 <|
  bw_iload_n hZ 3 rfl dX9_addAhead_55 <|
  bw_callVI (As := [.int x3]) hZ ml_RX9_39 rc_9 obC_22 (by decide) (c_X9_lasting (zl Z) (zY Z) (hZ_S hZ) x3 w5) rfl rfl (Nat.le_of_ble_eq_true rfl) dX9_addAhead_56 fun r7 w6 =>
  bw_iast hZ (arC_27 _) dX9_addAhead_59 fun w8 =>
  bw_aload_n hZ 0 rfl dX9_addAhead_60 <|
  bw_dup hZ rfl dX9_addAhead_61 <|
  bw_getI hZ fl_RX9_35 (by decide) obC_22 dX9_addAhead_62 <|
  bw_iconst hZ 1 (by decide) dX9_addAhead_65 <|
  bw_iadd hZ dX9_addAhead_66 <|
  bw_putI hZ fl_RX9_35 rfl rfl (by decide) obC_22 dX9_addAhead_67 fun w9 =>
  bw_aload_n hZ 0 rfl dX9_addAhead_70 <|
  bw_getI hZ fl_RX9_35 (by decide) obC_22 dX9_addAhead_71 <|
  bw_iconst hZ 1 (by decide) dX9_addAhead_74 <|
  bw_isub hZ dX9_addAhead_75 <|
  bw_iret hZ hE dX9_addAhead_76) (fun _ =>
  bw_bipush hZ (-3) (by decide) dX9_addAhead_9 <|
  bw_iret hZ hE dX9_addAhead_11)
theorem c_X9_addAhead (l : Launch) (Y : Ev) (hY : Y.1 = SC) (x1 : Int32) (x2 : Int32) (x3 : Int32)  (w : Wd) : CI l Y yX9_addAhead cX9_addAhead 4 2 [.ref (ph Y 22), .int x1, .int x2, .int x3] w .int (f_X9_addAhead x1 x2 x3 w) := by
  refine CI_of (S := SC) (by decide) (Nat.le_of_ble_eq_true rfl) hY ?_
  intro Z hl hY2 hZ hE
  subst hY2
  exact t_X9_addAhead hZ hE x1 x2 x3 w
-- WhichWill$Stories.itemNow
theorem dX9_itemNow_0 : decode cX9_itemNow 0 = .ok (.iload_n 1, 1) := by decide +kernel
theorem dX9_itemNow_1 : decode cX9_itemNow 1 = .ok (.bipush 16, 2) := by decide +kernel
theorem dX9_itemNow_3 : decode cX9_itemNow 3 = .ok (.if_icmp .ge 7, 3) := by decide +kernel
theorem dX9_itemNow_6 : decode cX9_itemNow 6 = .ok (.iload_n 1, 1) := by decide +kernel
theorem dX9_itemNow_7 : decode cX9_itemNow 7 = .ok (.goto 15, 3) := by decide +kernel
theorem dX9_itemNow_10 : decode cX9_itemNow 10 = .ok (.aload_n 0, 1) := by decide +kernel
theorem dX9_itemNow_11 : decode cX9_itemNow 11 = .ok (.getfield 27, 3) := by decide +kernel
theorem dX9_itemNow_14 : decode cX9_itemNow 14 = .ok (.getfield 43, 3) := by decide +kernel
theorem dX9_itemNow_17 : decode cX9_itemNow 17 = .ok (.iload_n 1, 1) := by decide +kernel
theorem dX9_itemNow_18 : decode cX9_itemNow 18 = .ok (.iadd, 1) := by decide +kernel
theorem dX9_itemNow_19 : decode cX9_itemNow 19 = .ok (.bipush 16, 2) := by decide +kernel
theorem dX9_itemNow_21 : decode cX9_itemNow 21 = .ok (.isub, 1) := by decide +kernel
theorem dX9_itemNow_22 : decode cX9_itemNow 22 = .ok (.ireturn, 1) := by decide +kernel
def f_X9_itemNow (x1 : Int32) (w : Wd) : Option (Int32 × Wd) :=
  if 16 ≤ x1 then
  (some (((w.1 3 3) + x1) - 16, w))
  else
  some (x1, w)
set_option maxRecDepth 100000 in
set_option maxHeartbeats 4000000 in
theorem t_X9_itemNow {Z : Cz (Int32 × Wd)} (hZ : OKZ Z SC cX9_itemNow RX9 2 (some .int) 1) (hE : EndI Z) (x1 : Int32)  (w : Wd) : BW Z 2 0 [(0, .ref (ph (zY Z) 22)), (1, .int x1)] [] w (f_X9_itemNow x1 w) :=
  bw_iload_n hZ 1 rfl dX9_itemNow_0 <|
  bw_bipush hZ 16 (by decide) dX9_itemNow_1 <|
  bw_icmp_ge hZ (tgt := 10) (by decide) dX9_itemNow_3 (fun _ =>
  bw_aload_n hZ 0 rfl dX9_itemNow_10 <|
  bw_getR hZ fl_RX9_27 obC_22 rfl dX9_itemNow_11 <|
  bw_getI hZ fl_RX9_43 (by decide) obC_3 dX9_itemNow_14 <|
  bw_iload_n hZ 1 rfl dX9_itemNow_17 <|
  bw_iadd hZ dX9_itemNow_18 <|
  bw_bipush hZ 16 (by decide) dX9_itemNow_19 <|
  bw_isub hZ dX9_itemNow_21 <|
  bw_iret hZ hE dX9_itemNow_22) (fun _ =>
  bw_iload_n hZ 1 rfl dX9_itemNow_6 <|
  bw_goto hZ (tgt := 22) (by decide) dX9_itemNow_7 <|
  bw_iret hZ hE dX9_itemNow_22)
theorem c_X9_itemNow (l : Launch) (Y : Ev) (hY : Y.1 = SC) (x1 : Int32)  (w : Wd) : CI l Y yX9_itemNow cX9_itemNow 2 1 [.ref (ph Y 22), .int x1] w .int (f_X9_itemNow x1 w) := by
  refine CI_of (S := SC) (by decide) (Nat.le_of_ble_eq_true rfl) hY ?_
  intro Z hl hY2 hZ hE
  subst hY2
  exact t_X9_itemNow hZ hE x1 w
-- WhichWill$Stories.isTrue
theorem dX9_isTrue_0 : decode cX9_isTrue 0 = .ok (.aload_n 0, 1) := by decide +kernel
theorem dX9_isTrue_1 : decode cX9_isTrue 1 = .ok (.getfield 15, 3) := by decide +kernel
theorem dX9_isTrue_4 : decode cX9_isTrue 4 = .ok (.iload_n 1, 1) := by decide +kernel
theorem dX9_isTrue_5 : decode cX9_isTrue 5 = .ok (.iaload, 1) := by decide +kernel
theorem dX9_isTrue_6 : decode cX9_isTrue 6 = .ok (.iconst (-1), 1) := by decide +kernel
theorem dX9_isTrue_7 : decode cX9_isTrue 7 = .ok (.if_icmp .eq 28, 3) := by decide +kernel
theorem dX9_isTrue_10 : decode cX9_isTrue 10 = .ok (.iload_n 2, 1) := by decide +kernel
theorem dX9_isTrue_11 : decode cX9_isTrue 11 = .ok (.aload_n 0, 1) := by decide +kernel
theorem dX9_isTrue_12 : decode cX9_isTrue 12 = .ok (.getfield 15, 3) := by decide +kernel
theorem dX9_isTrue_15 : decode cX9_isTrue 15 = .ok (.iload_n 1, 1) := by decide +kernel
theorem dX9_isTrue_16 : decode cX9_isTrue 16 = .ok (.iaload, 1) := by decide +kernel
theorem dX9_isTrue_17 : decode cX9_isTrue 17 = .ok (.ishr, 1) := by decide +kernel
theorem dX9_isTrue_18 : decode cX9_isTrue 18 = .ok (.iconst 1, 1) := by decide +kernel
theorem dX9_isTrue_19 : decode cX9_isTrue 19 = .ok (.iand, 1) := by decide +kernel
theorem dX9_isTrue_20 : decode cX9_isTrue 20 = .ok (.aload_n 0, 1) := by decide +kernel
theorem dX9_isTrue_21 : decode cX9_isTrue 21 = .ok (.getfield 18, 3) := by decide +kernel
theorem dX9_isTrue_24 : decode cX9_isTrue 24 = .ok (.iload_n 1, 1) := by decide +kernel
theorem dX9_isTrue_25 : decode cX9_isTrue 25 = .ok (.iaload, 1) := by decide +kernel
theorem dX9_isTrue_26 : decode cX9_isTrue 26 = .ok (.if_icmp .ne 7, 3) := by decide +kernel
theorem dX9_isTrue_29 : decode cX9_isTrue 29 = .ok (.iconst 1, 1) := by decide +kernel
theorem dX9_isTrue_30 : decode cX9_isTrue 30 = .ok (.goto 4, 3) := by decide +kernel
theorem dX9_isTrue_33 : decode cX9_isTrue 33 = .ok (.iconst 0, 1) := by decide +kernel
theorem dX9_isTrue_34 : decode cX9_isTrue 34 = .ok (.ireturn, 1) := by decide +kernel
theorem dX9_isTrue_35 : decode cX9_isTrue 35 = .ok (.aload_n 0, 1) := by decide +kernel
theorem dX9_isTrue_36 : decode cX9_isTrue 36 = .ok (.aload_n 0, 1) := by decide +kernel
theorem dX9_isTrue_37 : decode cX9_isTrue 37 = .ok (.getfield 21, 3) := by decide +kernel
theorem dX9_isTrue_40 : decode cX9_isTrue 40 = .ok (.iload_n 1, 1) := by decide +kernel
theorem dX9_isTrue_41 : decode cX9_isTrue 41 = .ok (.iaload, 1) := by decide +kernel
theorem dX9_isTrue_42 : decode cX9_isTrue 42 = .ok (.invokevirtual 48, 3) := by decide +kernel
theorem dX9_isTrue_45 : decode cX9_isTrue 45 = .ok (.istore_n 3, 1) := by decide +kernel
theorem dX9_isTrue_46 : decode cX9_isTrue 46 = .ok (.aload_n 0, 1) := by decide +kernel
theorem dX9_isTrue_47 : decode cX9_isTrue 47 = .ok (.aload_n 0, 1) := by decide +kernel
theorem dX9_isTrue_48 : decode cX9_isTrue 48 = .ok (.getfield 24, 3) := by decide +kernel
theorem dX9_isTrue_51 : decode cX9_isTrue 51 = .ok (.iload_n 1, 1) := by decide +kernel
theorem dX9_isTrue_52 : decode cX9_isTrue 52 = .ok (.iaload, 1) := by decide +kernel
theorem dX9_isTrue_53 : decode cX9_isTrue 53 = .ok (.invokevirtual 48, 3) := by decide +kernel
theorem dX9_isTrue_56 : decode cX9_isTrue 56 = .ok (.istore 4, 2) := by decide +kernel
theorem dX9_isTrue_58 : decode cX9_isTrue 58 = .ok (.aload_n 0, 1) := by decide +kernel
theorem dX9_isTrue_59 : decode cX9_isTrue 59 = .ok (.getfield 27, 3) := by decide +kernel
theorem dX9_isTrue_62 : decode cX9_isTrue 62 = .ok (.iload_n 2, 1) := by decide +kernel
theorem dX9_isTrue_63 : decode cX9_isTrue 63 = .ok (.bipush 8, 2) := by decide +kernel
theorem dX9_isTrue_65 : decode cX9_isTrue 65 = .ok (.idiv, 1) := by decide +kernel
theorem dX9_isTrue_66 : decode cX9_isTrue 66 = .ok (.iload_n 3, 1) := by decide +kernel
theorem dX9_isTrue_67 : decode cX9_isTrue 67 = .ok (.iload 4, 2) := by decide +kernel
theorem dX9_isTrue_69 : decode cX9_isTrue 69 = .ok (.invokevirtual 51, 3) := by decide +kernel
theorem dX9_isTrue_72 : decode cX9_isTrue 72 = .ok (.ireturn, 1) := by decide +kernel
def f_X9_isTrue (x1 : Int32) (x2 : Int32) (w : Wd) : Option (Int32 × Wd) :=
  if inb x1 8 = true then
  (if (w.1 24 (Int32.toNatClampNeg x1)) = ((-1)) then
  (if inb x1 8 = true then
  (cl (f_X9_itemNow (w.1 26 (Int32.toNatClampNeg x1)) w) fun r2 w1 =>
  if inb x1 8 = true then
  (cl (f_X9_itemNow (w1.1 27 (Int32.toNatClampNeg x1)) w1) fun r4 w3 =>
  cl (f_X2_isAhead (x2 / 8) r2 r4 w3) fun r6 w5 =>
  if isB r6 = true then some (r6, w5) else none)
  else none)
  else none)
  else
  if inb x1 8 = true then
  (if inb x1 8 = true then
  (if ((x2 >>> ((w.1 24 (Int32.toNatClampNeg x1)) &&& 31)) &&& 1) = (w.1 25 (Int32.toNatClampNeg x1)) then
  (some (1, w))
  else
  some (0, w))
  else none)
  else none)
  else none
set_option maxRecDepth 100000 in
set_option maxHeartbeats 4000000 in
theorem t_X9_isTrue {Z : Cz (Int32 × Wd)} (hZ : OKZ Z SC cX9_isTrue RX9 5 (some .boolean) 3) (hE : EndI Z) (x1 : Int32) (x2 : Int32)  (w : Wd) : BW Z 5 0 [(0, .ref (ph (zY Z) 22)), (1, .int x1), (2, .int x2)] [] w (f_X9_isTrue x1 x2 w) :=
  bw_aload_n hZ 0 rfl dX9_isTrue_0 <|
  bw_getR hZ fl_RX9_15 obC_22 rfl dX9_isTrue_1 <|
  bw_iload_n hZ 1 rfl dX9_isTrue_4 <|
  bw_iald hZ (arC_24 _) dX9_isTrue_5 <|
  bw_iconst hZ (-1) (by decide) dX9_isTrue_6 <|
  bw_icmp_eq hZ (tgt := 35) (by decide) dX9_isTrue_7 (fun _ =>
  bw_aload_n hZ 0 rfl dX9_isTrue_35 <|
  bw_aload_n hZ 0 rfl dX9_isTrue_36 <|
  bw_getR hZ fl_RX9_21 obC_22 rfl dX9_isTrue_37 <|
  bw_iload_n hZ 1 rfl dX9_isTrue_40 <|
  bw_iald hZ (arC_26 _) dX9_isTrue_41 <|
  bw_callVI (As := [.int (w.1 26 (Int32.toNatClampNeg x1))]) hZ ml_RX9_48 rc_9 obC_22 (by decide) (c_X9_itemNow (zl Z) (zY Z) (hZ_S hZ) (w.1 26 (Int32.toNatClampNeg x1)) w) rfl rfl (Nat.le_of_ble_eq_true rfl) dX9_isTrue_42 fun r2 w1 =>
  bw_istore_n hZ rfl (by decide) rfl dX9_isTrue_45 <|
  bw_aload_n hZ 1 rfl dX9_isTrue_46 <|
  bw_aload_n hZ 1 rfl dX9_isTrue_47 <|
  bw_getR hZ fl_RX9_24 obC_22 rfl dX9_isTrue_48 <|
  bw_iload_n hZ 2 rfl dX9_isTrue_51 <|
  bw_iald hZ (arC_27 _) dX9_isTrue_52 <|
  bw_callVI (As := [.int (w1.1 27 (Int32.toNatClampNeg x1))]) hZ ml_RX9_48 rc_9 obC_22 (by decide) (c_X9_itemNow (zl Z) (zY Z) (hZ_S hZ) (w1.1 27 (Int32.toNatClampNeg x1)) w1) rfl rfl (Nat.le_of_ble_eq_true rfl) dX9_isTrue_53 fun r4 w3 =>
  bw_istore hZ (by decide) rfl dX9_isTrue_56 <|
  bw_aload_n hZ 2 rfl dX9_isTrue_58 <|
  bw_getR hZ fl_RX9_27 obC_22 rfl dX9_isTrue_59 <|
  bw_iload_n hZ 4 rfl dX9_isTrue_62 <|
  bw_bipush hZ 8 (by decide) dX9_isTrue_63 <|
  bw_idivN hZ (by decide) dX9_isTrue_65 <|
  bw_iload_n hZ 1 rfl dX9_isTrue_66 <|
  bw_iload hZ 0 rfl dX9_isTrue_67 <|
  bw_callVI (As := [.int (x2 / 8), .int r2, .int r4]) hZ ml_RX9_51 rc_2 obC_3 (by decide) (c_X2_isAhead (zl Z) (zY Z) (hZ_S hZ) (x2 / 8) r2 r4 w3) rfl rfl (Nat.le_of_ble_eq_true rfl) dX9_isTrue_69 fun r6 w5 =>
  bw_zretC hZ hE dX9_isTrue_72) (fun _ =>
  bw_iload_n hZ 2 rfl dX9_isTrue_10 <|
  bw_aload_n hZ 0 rfl dX9_isTrue_11 <|
  bw_getR hZ fl_RX9_15 obC_22 rfl dX9_isTrue_12 <|
  bw_iload_n hZ 1 rfl dX9_isTrue_15 <|
  bw_iald hZ (arC_24 _) dX9_isTrue_16 <|
  bw_ishr hZ dX9_isTrue_17 <|
  bw_iconst hZ 1 (by decide) dX9_isTrue_18 <|
  bw_iand hZ dX9_isTrue_19 <|
  bw_aload_n hZ 0 rfl dX9_isTrue_20 <|
  bw_getR hZ fl_RX9_18 obC_22 rfl dX9_isTrue_21 <|
  bw_iload_n hZ 1 rfl dX9_isTrue_24 <|
  bw_iald hZ (arC_25 _) dX9_isTrue_25 <|
  bw_icmp_ne hZ (tgt := 33) (by decide) dX9_isTrue_26 (fun _ =>
  bw_iconst hZ 0 (by decide) dX9_isTrue_33 <|
  bw_zret hZ hE (by decide) dX9_isTrue_34) (fun _ =>
  bw_iconst hZ 1 (by decide) dX9_isTrue_29 <|
  bw_goto hZ (tgt := 34) (by decide) dX9_isTrue_30 <|
  bw_zret hZ hE (by decide) dX9_isTrue_34))
theorem c_X9_isTrue (l : Launch) (Y : Ev) (hY : Y.1 = SC) (x1 : Int32) (x2 : Int32)  (w : Wd) : CI l Y yX9_isTrue cX9_isTrue 5 3 [.ref (ph Y 22), .int x1, .int x2] w .boolean (f_X9_isTrue x1 x2 w) := by
  refine CI_of (S := SC) (by decide) (Nat.le_of_ble_eq_true rfl) hY ?_
  intro Z hl hY2 hZ hE
  subst hY2
  exact t_X9_isTrue hZ hE x1 x2 w
-- WhichWill$Stories.falseIn
theorem dX9_falseIn_0 : decode cX9_falseIn 0 = .ok (.iconst 0, 1) := by decide +kernel
theorem dX9_falseIn_1 : decode cX9_falseIn 1 = .ok (.istore_n 2, 1) := by decide +kernel
theorem dX9_falseIn_2 : decode cX9_falseIn 2 = .ok (.iconst 0, 1) := by decide +kernel
theorem dX9_falseIn_3 : decode cX9_falseIn 3 = .ok (.istore_n 3, 1) := by decide +kernel
theorem dX9_falseIn_4 : decode cX9_falseIn 4 = .ok (.iload_n 3, 1) := by decide +kernel
theorem dX9_falseIn_5 : decode cX9_falseIn 5 = .ok (.aload_n 0, 1) := by decide +kernel
theorem dX9_falseIn_6 : decode cX9_falseIn 6 = .ok (.getfield 35, 3) := by decide +kernel
theorem dX9_falseIn_9 : decode cX9_falseIn 9 = .ok (.if_icmp .ge 28, 3) := by decide +kernel
theorem dX9_falseIn_12 : decode cX9_falseIn 12 = .ok (.iload_n 2, 1) := by decide +kernel
theorem dX9_falseIn_13 : decode cX9_falseIn 13 = .ok (.aload_n 0, 1) := by decide +kernel
theorem dX9_falseIn_14 : decode cX9_falseIn 14 = .ok (.iload_n 3, 1) := by decide +kernel
theorem dX9_falseIn_15 : decode cX9_falseIn 15 = .ok (.iload_n 1, 1) := by decide +kernel
theorem dX9_falseIn_16 : decode cX9_falseIn 16 = .ok (.invokevirtual 55, 3) := by decide +kernel
theorem dX9_falseIn_19 : decode cX9_falseIn 19 = .ok (.ifCond .eq 7, 3) := by decide +kernel
theorem dX9_falseIn_22 : decode cX9_falseIn 22 = .ok (.iconst 0, 1) := by decide +kernel
theorem dX9_falseIn_23 : decode cX9_falseIn 23 = .ok (.goto 6, 3) := by decide +kernel
theorem dX9_falseIn_26 : decode cX9_falseIn 26 = .ok (.iconst 1, 1) := by decide +kernel
theorem dX9_falseIn_27 : decode cX9_falseIn 27 = .ok (.iload_n 3, 1) := by decide +kernel
theorem dX9_falseIn_28 : decode cX9_falseIn 28 = .ok (.ishl, 1) := by decide +kernel
theorem dX9_falseIn_29 : decode cX9_falseIn 29 = .ok (.ior, 1) := by decide +kernel
theorem dX9_falseIn_30 : decode cX9_falseIn 30 = .ok (.istore_n 2, 1) := by decide +kernel
theorem dX9_falseIn_31 : decode cX9_falseIn 31 = .ok (.iinc 3 1, 3) := by decide +kernel
theorem dX9_falseIn_34 : decode cX9_falseIn 34 = .ok (.goto (-30), 3) := by decide +kernel
theorem dX9_falseIn_37 : decode cX9_falseIn 37 = .ok (.iload_n 2, 1) := by decide +kernel
theorem dX9_falseIn_38 : decode cX9_falseIn 38 = .ok (.ireturn, 1) := by decide +kernel
def X9_falseIn_b4 (k4 : Int32 → Int32 → Int32 → Wd → Option (Int32 × Wd)) (y1 : Int32) (y2 : Int32) (y3 : Int32) (w : Wd) : Option (Int32 × Wd) :=
  if (w.1 22 0) ≤ y3 then
  (some (y2, w))
  else
  cl (f_X9_isTrue y3 y1 w) fun r2 w1 =>
  if r2 = 0 then
  (lt (y2 ||| (1 <<< (y3 &&& 31))) fun v3 =>
  k4 y1 v3 (y3 + 1) w1)
  else
  lt (y2 ||| 0) fun v4 =>
  k4 y1 v4 (y3 + 1) w1
set_option maxRecDepth 100000 in
set_option maxHeartbeats 4000000 in
theorem t_X9_falseIn_b4 {Z : Cz (Int32 × Wd)} (hZ : OKZ Z SC cX9_falseIn RX9 4 (some .int) 4) (hE : EndI Z) (k4 : Int32 → Int32 → Int32 → Wd → Option (Int32 × Wd)) (hk4 : ∀ (y1 : Int32) (y2 : Int32) (y3 : Int32)  (w : Wd), BW Z 4 4 [(0, .ref (ph (zY Z) 22)), (1, .int y1), (2, .int y2), (3, .int y3)] [] w (k4 y1 y2 y3 w)) (y1 : Int32) (y2 : Int32) (y3 : Int32)  (w : Wd) : BW Z 4 4 [(0, .ref (ph (zY Z) 22)), (1, .int y1), (2, .int y2), (3, .int y3)] [] w (X9_falseIn_b4 k4 y1 y2 y3 w) :=
  bw_iload_n hZ 3 rfl dX9_falseIn_4 <|
  bw_aload_n hZ 0 rfl dX9_falseIn_5 <|
  bw_getI hZ fl_RX9_35 (by decide) obC_22 dX9_falseIn_6 <|
  bw_icmp_ge hZ (tgt := 37) (by decide) dX9_falseIn_9 (fun _ =>
  bw_iload_n hZ 2 rfl dX9_falseIn_37 <|
  bw_iret hZ hE dX9_falseIn_38) (fun _ =>
  bw_iload_n hZ 2 rfl dX9_falseIn_12 <|
  bw_aload_n hZ 0 rfl dX9_falseIn_13 <|
  bw_iload_n hZ 3 rfl dX9_falseIn_14 <|
  bw_iload_n hZ 1 rfl dX9_falseIn_15 <|
  bw_callVI (As := [.int y3, .int y1]) hZ ml_RX9_55 rc_9 obC_22 (by decide) (c_X9_isTrue (zl Z) (zY Z) (hZ_S hZ) y3 y1 w) rfl rfl (Nat.le_of_ble_eq_true rfl) dX9_falseIn_16 fun r2 w1 =>
  bw_if_eq hZ (tgt := 26) (by decide) dX9_falseIn_19 (fun _ =>
  bw_iconst hZ 1 (by decide) dX9_falseIn_26 <|
  bw_iload_n hZ 3 rfl dX9_falseIn_27 <|
  bw_ishl hZ dX9_falseIn_28 <|
  bw_ior hZ dX9_falseIn_29 <|
  bw_nm fun v3 =>
  bw_istore_n hZ rfl (by decide) rfl dX9_falseIn_30 <|
  bw_iinc hZ 1 3 rfl (by decide) (by decide) rfl dX9_falseIn_31 <|
  bw_goto hZ (tgt := 4) (by decide) dX9_falseIn_34 <|
  bw_sub [2, 3, 1, 0] rfl (hk4 y1 v3 (y3 + 1) w1)) (fun _ =>
  bw_iconst hZ 0 (by decide) dX9_falseIn_22 <|
  bw_goto hZ (tgt := 29) (by decide) dX9_falseIn_23 <|
  bw_ior hZ dX9_falseIn_29 <|
  bw_nm fun v4 =>
  bw_istore_n hZ rfl (by decide) rfl dX9_falseIn_30 <|
  bw_iinc hZ 1 3 rfl (by decide) (by decide) rfl dX9_falseIn_31 <|
  bw_goto hZ (tgt := 4) (by decide) dX9_falseIn_34 <|
  bw_sub [2, 3, 1, 0] rfl (hk4 y1 v4 (y3 + 1) w1)))
def X9_falseIn_b4_L  : Int32 → Int32 → Int32 → Wd → Option (Int32 × Wd) :=
  lp fu (fun _ _ _ _ => none) (fun k4 => X9_falseIn_b4 k4)
theorem t_X9_falseIn_b4_L {Z : Cz (Int32 × Wd)} (hZ : OKZ Z SC cX9_falseIn RX9 4 (some .int) 4) (hE : EndI Z)  : ∀ (y1 : Int32) (y2 : Int32) (y3 : Int32)  (w : Wd), BW Z 4 4 [(0, .ref (ph (zY Z) 22)), (1, .int y1), (2, .int y2), (3, .int y3)] [] w (X9_falseIn_b4_L y1 y2 y3 w) :=
  lp_bw (fun k4 => ∀ (y1 : Int32) (y2 : Int32) (y3 : Int32)  (w : Wd), BW Z 4 4 [(0, .ref (ph (zY Z) 22)), (1, .int y1), (2, .int y2), (3, .int y3)] [] w (k4 y1 y2 y3 w)) (fun _ _ _ _ => bw_none) (fun k4 hk4 y1 y2 y3 w => t_X9_falseIn_b4 hZ hE k4 hk4 y1 y2 y3 w) fu
def f_X9_falseIn (x1 : Int32) (w : Wd) : Option (Int32 × Wd) :=
  X9_falseIn_b4_L x1 0 0 w
set_option maxRecDepth 100000 in
set_option maxHeartbeats 4000000 in
theorem t_X9_falseIn {Z : Cz (Int32 × Wd)} (hZ : OKZ Z SC cX9_falseIn RX9 4 (some .int) 4) (hE : EndI Z) (x1 : Int32)  (w : Wd) : BW Z 4 0 [(0, .ref (ph (zY Z) 22)), (1, .int x1)] [] w (f_X9_falseIn x1 w) :=
  bw_iconst hZ 0 (by decide) dX9_falseIn_0 <|
  bw_istore_n hZ rfl (by decide) rfl dX9_falseIn_1 <|
  bw_iconst hZ 0 (by decide) dX9_falseIn_2 <|
  bw_istore_n hZ rfl (by decide) rfl dX9_falseIn_3 <|
  bw_sub [2, 3, 1, 0] rfl (t_X9_falseIn_b4_L hZ hE x1 0 0 w)
theorem c_X9_falseIn (l : Launch) (Y : Ev) (hY : Y.1 = SC) (x1 : Int32)  (w : Wd) : CI l Y yX9_falseIn cX9_falseIn 4 4 [.ref (ph Y 22), .int x1] w .int (f_X9_falseIn x1 w) := by
  refine CI_of (S := SC) (by decide) (Nat.le_of_ble_eq_true rfl) hY ?_
  intro Z hl hY2 hZ hE
  subst hY2
  exact t_X9_falseIn hZ hE x1 w
-- WhichWill$Stories.weigh
theorem dX9_weigh_0 : decode cX9_weigh 0 = .ok (.aload_n 0, 1) := by decide +kernel
theorem dX9_weigh_1 : decode cX9_weigh 1 = .ok (.bipush 9, 2) := by decide +kernel
theorem dX9_weigh_3 : decode cX9_weigh 3 = .ok (.putfield 59, 3) := by decide +kernel
theorem dX9_weigh_6 : decode cX9_weigh 6 = .ok (.aload_n 0, 1) := by decide +kernel
theorem dX9_weigh_7 : decode cX9_weigh 7 = .ok (.iconst 0, 1) := by decide +kernel
theorem dX9_weigh_8 : decode cX9_weigh 8 = .ok (.putfield 62, 3) := by decide +kernel
theorem dX9_weigh_11 : decode cX9_weigh 11 = .ok (.aload_n 0, 1) := by decide +kernel
theorem dX9_weigh_12 : decode cX9_weigh 12 = .ok (.iconst 0, 1) := by decide +kernel
theorem dX9_weigh_13 : decode cX9_weigh 13 = .ok (.putfield 65, 3) := by decide +kernel
theorem dX9_weigh_16 : decode cX9_weigh 16 = .ok (.aload_n 0, 1) := by decide +kernel
theorem dX9_weigh_17 : decode cX9_weigh 17 = .ok (.getfield 27, 3) := by decide +kernel
theorem dX9_weigh_20 : decode cX9_weigh 20 = .ok (.invokevirtual 68, 3) := by decide +kernel
theorem dX9_weigh_23 : decode cX9_weigh 23 = .ok (.istore_n 1, 1) := by decide +kernel
theorem dX9_weigh_24 : decode cX9_weigh 24 = .ok (.iconst 0, 1) := by decide +kernel
theorem dX9_weigh_25 : decode cX9_weigh 25 = .ok (.istore_n 2, 1) := by decide +kernel
theorem dX9_weigh_26 : decode cX9_weigh 26 = .ok (.iload_n 2, 1) := by decide +kernel
theorem dX9_weigh_27 : decode cX9_weigh 27 = .ok (.iload_n 1, 1) := by decide +kernel
theorem dX9_weigh_28 : decode cX9_weigh 28 = .ok (.if_icmp .ge 78, 3) := by decide +kernel
theorem dX9_weigh_31 : decode cX9_weigh 31 = .ok (.aload_n 0, 1) := by decide +kernel
theorem dX9_weigh_32 : decode cX9_weigh 32 = .ok (.iload_n 2, 1) := by decide +kernel
theorem dX9_weigh_33 : decode cX9_weigh 33 = .ok (.invokevirtual 72, 3) := by decide +kernel
theorem dX9_weigh_36 : decode cX9_weigh 36 = .ok (.istore_n 3, 1) := by decide +kernel
theorem dX9_weigh_37 : decode cX9_weigh 37 = .ok (.iload_n 3, 1) := by decide +kernel
theorem dX9_weigh_38 : decode cX9_weigh 38 = .ok (.invokestatic 75, 3) := by decide +kernel
theorem dX9_weigh_41 : decode cX9_weigh 41 = .ok (.istore 4, 2) := by decide +kernel
theorem dX9_weigh_43 : decode cX9_weigh 43 = .ok (.iload 4, 2) := by decide +kernel
theorem dX9_weigh_45 : decode cX9_weigh 45 = .ok (.aload_n 0, 1) := by decide +kernel
theorem dX9_weigh_46 : decode cX9_weigh 46 = .ok (.getfield 59, 3) := by decide +kernel
theorem dX9_weigh_49 : decode cX9_weigh 49 = .ok (.if_icmp .ge 22, 3) := by decide +kernel
theorem dX9_weigh_52 : decode cX9_weigh 52 = .ok (.aload_n 0, 1) := by decide +kernel
theorem dX9_weigh_53 : decode cX9_weigh 53 = .ok (.iload 4, 2) := by decide +kernel
theorem dX9_weigh_55 : decode cX9_weigh 55 = .ok (.putfield 59, 3) := by decide +kernel
theorem dX9_weigh_58 : decode cX9_weigh 58 = .ok (.aload_n 0, 1) := by decide +kernel
theorem dX9_weigh_59 : decode cX9_weigh 59 = .ok (.iload_n 3, 1) := by decide +kernel
theorem dX9_weigh_60 : decode cX9_weigh 60 = .ok (.putfield 62, 3) := by decide +kernel
theorem dX9_weigh_63 : decode cX9_weigh 63 = .ok (.aload_n 0, 1) := by decide +kernel
theorem dX9_weigh_64 : decode cX9_weigh 64 = .ok (.iconst 1, 1) := by decide +kernel
theorem dX9_weigh_65 : decode cX9_weigh 65 = .ok (.putfield 65, 3) := by decide +kernel
theorem dX9_weigh_68 : decode cX9_weigh 68 = .ok (.goto 32, 3) := by decide +kernel
theorem dX9_weigh_71 : decode cX9_weigh 71 = .ok (.iload 4, 2) := by decide +kernel
theorem dX9_weigh_73 : decode cX9_weigh 73 = .ok (.aload_n 0, 1) := by decide +kernel
theorem dX9_weigh_74 : decode cX9_weigh 74 = .ok (.getfield 59, 3) := by decide +kernel
theorem dX9_weigh_77 : decode cX9_weigh 77 = .ok (.if_icmp .ne 23, 3) := by decide +kernel
theorem dX9_weigh_80 : decode cX9_weigh 80 = .ok (.aload_n 0, 1) := by decide +kernel
theorem dX9_weigh_81 : decode cX9_weigh 81 = .ok (.dup, 1) := by decide +kernel
theorem dX9_weigh_82 : decode cX9_weigh 82 = .ok (.getfield 62, 3) := by decide +kernel
theorem dX9_weigh_85 : decode cX9_weigh 85 = .ok (.iload_n 3, 1) := by decide +kernel
theorem dX9_weigh_86 : decode cX9_weigh 86 = .ok (.iand, 1) := by decide +kernel
theorem dX9_weigh_87 : decode cX9_weigh 87 = .ok (.putfield 62, 3) := by decide +kernel
theorem dX9_weigh_90 : decode cX9_weigh 90 = .ok (.aload_n 0, 1) := by decide +kernel
theorem dX9_weigh_91 : decode cX9_weigh 91 = .ok (.dup, 1) := by decide +kernel
theorem dX9_weigh_92 : decode cX9_weigh 92 = .ok (.getfield 65, 3) := by decide +kernel
theorem dX9_weigh_95 : decode cX9_weigh 95 = .ok (.iconst 1, 1) := by decide +kernel
theorem dX9_weigh_96 : decode cX9_weigh 96 = .ok (.iadd, 1) := by decide +kernel
theorem dX9_weigh_97 : decode cX9_weigh 97 = .ok (.putfield 65, 3) := by decide +kernel
theorem dX9_weigh_100 : decode cX9_weigh 100 = .ok (.iinc 2 1, 3) := by decide +kernel
theorem dX9_weigh_103 : decode cX9_weigh 103 = .ok (.goto (-77), 3) := by decide +kernel
theorem dX9_weigh_106 : decode cX9_weigh 106 = .ok (.return_, 1) := by decide +kernel
def X9_weigh_b26 (k26 : Int32 → Int32 → Wd → Option (Wd)) (y1 : Int32) (y2 : Int32) (w : Wd) : Option (Wd) :=
  if y1 ≤ y2 then
  (some w)
  else
  cl (f_X9_falseIn y2 w) fun r7 w6 =>
  cl (f_J6_bitCount_0f7a4 r7 w6) fun r9 w8 =>
  if (w8.1 22 1) ≤ r9 then
  (if r9 = (w8.1 22 1) then
  (lt (wI w8 22 2 ((w8.1 22 2) &&& r7)) fun w10 =>
  lt (wI w10 22 3 ((w10.1 22 3) + 1)) fun w11 =>
  k26 y1 (y2 + 1) w11)
  else
  k26 y1 (y2 + 1) w8)
  else
  lt (wI w8 22 1 r9) fun w12 =>
  lt (wI w12 22 2 r7) fun w13 =>
  lt (wI w13 22 3 1) fun w14 =>
  k26 y1 (y2 + 1) w14
set_option maxRecDepth 100000 in
set_option maxHeartbeats 4000000 in
theorem t_X9_weigh_b26 {Z : Cz (Wd)} (hZ : OKZ Z SC cX9_weigh RX9 5 none 5) (hE : EndV Z) (k26 : Int32 → Int32 → Wd → Option (Wd)) (hk26 : ∀ (y1 : Int32) (y2 : Int32)  (w : Wd), BW Z 5 26 [(0, .ref (ph (zY Z) 22)), (1, .int y1), (2, .int y2)] [] w (k26 y1 y2 w)) (y1 : Int32) (y2 : Int32)  (w : Wd) : BW Z 5 26 [(0, .ref (ph (zY Z) 22)), (1, .int y1), (2, .int y2)] [] w (X9_weigh_b26 k26 y1 y2 w) :=
  bw_iload_n hZ 2 rfl dX9_weigh_26 <|
  bw_iload_n hZ 1 rfl dX9_weigh_27 <|
  bw_icmp_ge hZ (tgt := 106) (by decide) dX9_weigh_28 (fun _ =>
  bw_vret hZ hE dX9_weigh_106) (fun _ =>
  bw_aload_n hZ 0 rfl dX9_weigh_31 <|
  bw_iload_n hZ 2 rfl dX9_weigh_32 <|
  bw_callVI (As := [.int y2]) hZ ml_RX9_72 rc_9 obC_22 (by decide) (c_X9_falseIn (zl Z) (zY Z) (hZ_S hZ) y2 w) rfl rfl (Nat.le_of_ble_eq_true rfl) dX9_weigh_33 fun r7 w6 =>
  bw_istore_n hZ rfl (by decide) rfl dX9_weigh_36 <|
  bw_iload_n hZ 0 rfl dX9_weigh_37 <|
  bw_callSI (As := [.int r7]) hZ ms_RX9_75 (by decide) (c_J6_bitCount_0f7a4 (zl Z) (zY Z) (hZ_S hZ) r7 w6) rfl rfl (Nat.le_of_ble_eq_true rfl) dX9_weigh_38 fun r9 w8 =>
  bw_istore hZ (by decide) rfl dX9_weigh_41 <|
  bw_iload hZ 0 rfl dX9_weigh_43 <|
  bw_aload_n hZ 2 rfl dX9_weigh_45 <|
  bw_getI hZ fl_RX9_59 (by decide) obC_22 dX9_weigh_46 <|
  bw_icmp_ge hZ (tgt := 71) (by decide) dX9_weigh_49 (fun _ =>
  bw_iload hZ 0 rfl dX9_weigh_71 <|
  bw_aload_n hZ 2 rfl dX9_weigh_73 <|
  bw_getI hZ fl_RX9_59 (by decide) obC_22 dX9_weigh_74 <|
  bw_icmp_ne hZ (tgt := 100) (by decide) dX9_weigh_77 (fun _ =>
  bw_iinc hZ 1 4 rfl (by decide) (by decide) rfl dX9_weigh_100 <|
  bw_goto hZ (tgt := 26) (by decide) dX9_weigh_103 <|
  bw_sub [3, 4, 0] rfl (hk26 y1 (y2 + 1) w8)) (fun _ =>
  bw_aload_n hZ 2 rfl dX9_weigh_80 <|
  bw_dup hZ rfl dX9_weigh_81 <|
  bw_getI hZ fl_RX9_62 (by decide) obC_22 dX9_weigh_82 <|
  bw_iload_n hZ 1 rfl dX9_weigh_85 <|
  bw_iand hZ dX9_weigh_86 <|
  bw_putI hZ fl_RX9_62 rfl rfl (by decide) obC_22 dX9_weigh_87 fun w10 =>
  bw_aload_n hZ 2 rfl dX9_weigh_90 <|
  bw_dup hZ rfl dX9_weigh_91 <|
  bw_getI hZ fl_RX9_65 (by decide) obC_22 dX9_weigh_92 <|
  bw_iconst hZ 1 (by decide) dX9_weigh_95 <|
  bw_iadd hZ dX9_weigh_96 <|
  bw_putI hZ fl_RX9_65 rfl rfl (by decide) obC_22 dX9_weigh_97 fun w11 =>
  bw_iinc hZ 1 4 rfl (by decide) (by decide) rfl dX9_weigh_100 <|
  bw_goto hZ (tgt := 26) (by decide) dX9_weigh_103 <|
  bw_sub [3, 4, 0] rfl (hk26 y1 (y2 + 1) w11))) (fun _ =>
  bw_aload_n hZ 2 rfl dX9_weigh_52 <|
  bw_iload hZ 0 rfl dX9_weigh_53 <|
  bw_putI hZ fl_RX9_59 rfl rfl (by decide) obC_22 dX9_weigh_55 fun w12 =>
  bw_aload_n hZ 2 rfl dX9_weigh_58 <|
  bw_iload_n hZ 1 rfl dX9_weigh_59 <|
  bw_putI hZ fl_RX9_62 rfl rfl (by decide) obC_22 dX9_weigh_60 fun w13 =>
  bw_aload_n hZ 2 rfl dX9_weigh_63 <|
  bw_iconst hZ 1 (by decide) dX9_weigh_64 <|
  bw_putI hZ fl_RX9_65 rfl rfl (by decide) obC_22 dX9_weigh_65 fun w14 =>
  bw_goto hZ (tgt := 100) (by decide) dX9_weigh_68 <|
  bw_iinc hZ 1 4 rfl (by decide) (by decide) rfl dX9_weigh_100 <|
  bw_goto hZ (tgt := 26) (by decide) dX9_weigh_103 <|
  bw_sub [3, 4, 0] rfl (hk26 y1 (y2 + 1) w14)))
def X9_weigh_b26_L  : Int32 → Int32 → Wd → Option (Wd) :=
  lp fu (fun _ _ _ => none) (fun k26 => X9_weigh_b26 k26)
theorem t_X9_weigh_b26_L {Z : Cz (Wd)} (hZ : OKZ Z SC cX9_weigh RX9 5 none 5) (hE : EndV Z)  : ∀ (y1 : Int32) (y2 : Int32)  (w : Wd), BW Z 5 26 [(0, .ref (ph (zY Z) 22)), (1, .int y1), (2, .int y2)] [] w (X9_weigh_b26_L y1 y2 w) :=
  lp_bw (fun k26 => ∀ (y1 : Int32) (y2 : Int32)  (w : Wd), BW Z 5 26 [(0, .ref (ph (zY Z) 22)), (1, .int y1), (2, .int y2)] [] w (k26 y1 y2 w)) (fun _ _ _ => bw_none) (fun k26 hk26 y1 y2 w => t_X9_weigh_b26 hZ hE k26 hk26 y1 y2 w) fu
def f_X9_weigh (w : Wd) : Option (Wd) :=
  lt (wI w 22 1 9) fun w1 =>
  lt (wI w1 22 2 0) fun w2 =>
  lt (wI w2 22 3 0) fun w3 =>
  cl (f_X2_waysFound w3) fun r5 w4 =>
  X9_weigh_b26_L r5 0 w4
set_option maxRecDepth 100000 in
set_option maxHeartbeats 4000000 in
theorem t_X9_weigh {Z : Cz (Wd)} (hZ : OKZ Z SC cX9_weigh RX9 5 none 5) (hE : EndV Z)   (w : Wd) : BW Z 5 0 [(0, .ref (ph (zY Z) 22))] [] w (f_X9_weigh w) :=
  bw_aload_n hZ 0 rfl dX9_weigh_0 <|
  bw_bipush hZ 9 (by decide) dX9_weigh_1 <|
  bw_putI hZ fl_RX9_59 rfl rfl (by decide) obC_22 dX9_weigh_3 fun w1 =>
  bw_aload_n hZ 0 rfl dX9_weigh_6 <|
  bw_iconst hZ 0 (by decide) dX9_weigh_7 <|
  bw_putI hZ fl_RX9_62 rfl rfl (by decide) obC_22 dX9_weigh_8 fun w2 =>
  bw_aload_n hZ 0 rfl dX9_weigh_11 <|
  bw_iconst hZ 0 (by decide) dX9_weigh_12 <|
  bw_putI hZ fl_RX9_65 rfl rfl (by decide) obC_22 dX9_weigh_13 fun w3 =>
  bw_aload_n hZ 0 rfl dX9_weigh_16 <|
  bw_getR hZ fl_RX9_27 obC_22 rfl dX9_weigh_17 <|
  bw_callVI (As := []) hZ ml_RX9_68 rc_2 obC_3 (by decide) (c_X2_waysFound (zl Z) (zY Z) (hZ_S hZ) w3) rfl rfl (Nat.le_of_ble_eq_true rfl) dX9_weigh_20 fun r5 w4 =>
  bw_istore_n hZ rfl (by decide) rfl dX9_weigh_23 <|
  bw_iconst hZ 0 (by decide) dX9_weigh_24 <|
  bw_istore_n hZ rfl (by decide) rfl dX9_weigh_25 <|
  bw_sub [2, 1, 0] rfl (t_X9_weigh_b26_L hZ hE r5 0 w4)
theorem c_X9_weigh (l : Launch) (Y : Ev) (hY : Y.1 = SC)   (w : Wd) : CV l Y yX9_weigh cX9_weigh 5 5 [.ref (ph Y 22)] w (f_X9_weigh w) := by
  refine CV_of (S := SC) (by decide) (Nat.le_of_ble_eq_true rfl) hY ?_
  intro Z hl hY2 hZ hE
  subst hY2
  exact t_X9_weigh hZ hE w
