-- WhichWill$Estate.readSeat
theorem dX0_readSeat_0 : decode cX0_readSeat 0 = .ok (.aload_n 0, 1) := by decide +kernel
theorem dX0_readSeat_1 : decode cX0_readSeat 1 = .ok (.aload_n 1, 1) := by decide +kernel
theorem dX0_readSeat_2 : decode cX0_readSeat 2 = .ok (.iload_n 2, 1) := by decide +kernel
theorem dX0_readSeat_3 : decode cX0_readSeat 3 = .ok (.invokevirtual 144, 3) := by decide +kernel
theorem dX0_readSeat_6 : decode cX0_readSeat 6 = .ok (.aload_n 1, 1) := by decide +kernel
theorem dX0_readSeat_7 : decode cX0_readSeat 7 = .ok (.aload_n 0, 1) := by decide +kernel
theorem dX0_readSeat_8 : decode cX0_readSeat 8 = .ok (.getfield 14, 3) := by decide +kernel
theorem dX0_readSeat_11 : decode cX0_readSeat 11 = .ok (.iconst 0, 1) := by decide +kernel
theorem dX0_readSeat_12 : decode cX0_readSeat 12 = .ok (.invokevirtual 148, 3) := by decide +kernel
theorem dX0_readSeat_15 : decode cX0_readSeat 15 = .ok (.ireturn, 1) := by decide +kernel
def f_X0_readSeat (x2 : Int32) (w : Wd) : Option (Int32 × Wd) :=
  cv (f_X0_passOnce x2 w) fun w1 =>
  cl (f_X10_known 45 4 0 w1) fun r3 w2 =>
  some (r3, w2)
set_option maxRecDepth 100000 in
set_option maxHeartbeats 4000000 in
theorem t_X0_readSeat {Z : Cz (Int32 × Wd)} (hZ : OKZ Z SC cX0_readSeat RX0 3 (some .int) 3) (hE : EndI Z) (x2 : Int32)  (w : Wd) : BW Z 3 0 [(0, .ref (ph (zY Z) 44)), (1, .ref (ph (zY Z) 1)), (2, .int x2)] [] w (f_X0_readSeat x2 w) :=
  bw_aload_n hZ 0 rfl dX0_readSeat_0 <|
  bw_aload_n hZ 1 rfl dX0_readSeat_1 <|
  bw_iload_n hZ 2 rfl dX0_readSeat_2 <|
  bw_callVV (As := [.ref (ph (zY Z) 1), .int x2]) hZ ml_RX0_144 rc_0 obC_44 (by decide) (c_X0_passOnce (zl Z) (zY Z) (hZ_S hZ) x2 w) rfl rfl (Nat.le_of_ble_eq_true rfl) dX0_readSeat_3 fun w1 =>
  bw_aload_n hZ 1 rfl dX0_readSeat_6 <|
  bw_aload_n hZ 0 rfl dX0_readSeat_7 <|
  bw_getR hZ fl_RX0_14 obC_44 rfl dX0_readSeat_8 <|
  bw_iconst hZ 0 (by decide) dX0_readSeat_11 <|
  bw_callVI (As := [.ref (ph (zY Z) 45), .int 0]) hZ ml_RX0_148 rc_10 obC_1 (by decide) (c_X10_known (zl Z) (zY Z) (hZ_S hZ) 45 4 0 isN45 w1) rfl rfl (Nat.le_of_ble_eq_true rfl) dX0_readSeat_12 fun r3 w2 =>
  bw_iret hZ hE dX0_readSeat_15
theorem c_X0_readSeat (l : Launch) (Y : Ev) (hY : Y.1 = SC) (x2 : Int32)  (w : Wd) : CI l Y yX0_readSeat cX0_readSeat 3 3 [.ref (ph Y 44), .ref (ph Y 1), .int x2] w .int (f_X0_readSeat x2 w) := by
  refine CI_of (S := SC) (by decide) (Nat.le_of_ble_eq_true rfl) hY ?_
  intro Z hl hY2 hZ hE
  subst hY2
  exact t_X0_readSeat hZ hE x2 w
-- WhichWill$Estate.readThing
theorem dX0_readThing_0 : decode cX0_readThing 0 = .ok (.aload_n 1, 1) := by decide +kernel
theorem dX0_readThing_1 : decode cX0_readThing 1 = .ok (.aload_n 0, 1) := by decide +kernel
theorem dX0_readThing_2 : decode cX0_readThing 2 = .ok (.getfield 23, 3) := by decide +kernel
theorem dX0_readThing_5 : decode cX0_readThing 5 = .ok (.invokestatic 160, 3) := by decide +kernel
theorem dX0_readThing_8 : decode cX0_readThing 8 = .ok (.aload_n 1, 1) := by decide +kernel
theorem dX0_readThing_9 : decode cX0_readThing 9 = .ok (.aload_n 0, 1) := by decide +kernel
theorem dX0_readThing_10 : decode cX0_readThing 10 = .ok (.getfield 23, 3) := by decide +kernel
theorem dX0_readThing_13 : decode cX0_readThing 13 = .ok (.invokevirtual 164, 3) := by decide +kernel
theorem dX0_readThing_16 : decode cX0_readThing 16 = .ok (.ifCond .ne 4, 3) := by decide +kernel
theorem dX0_readThing_19 : decode cX0_readThing 19 = .ok (.return_, 1) := by decide +kernel
theorem dX0_readThing_20 : decode cX0_readThing 20 = .ok (.aload_n 0, 1) := by decide +kernel
theorem dX0_readThing_21 : decode cX0_readThing 21 = .ok (.getfield 23, 3) := by decide +kernel
theorem dX0_readThing_24 : decode cX0_readThing 24 = .ok (.getfield 58, 3) := by decide +kernel
theorem dX0_readThing_27 : decode cX0_readThing 27 = .ok (.istore_n 2, 1) := by decide +kernel
theorem dX0_readThing_28 : decode cX0_readThing 28 = .ok (.aload_n 0, 1) := by decide +kernel
theorem dX0_readThing_29 : decode cX0_readThing 29 = .ok (.getfield 23, 3) := by decide +kernel
theorem dX0_readThing_32 : decode cX0_readThing 32 = .ok (.aload_n 1, 1) := by decide +kernel
theorem dX0_readThing_33 : decode cX0_readThing 33 = .ok (.getfield 168, 3) := by decide +kernel
theorem dX0_readThing_36 : decode cX0_readThing 36 = .ok (.invokevirtual 172, 3) := by decide +kernel
theorem dX0_readThing_39 : decode cX0_readThing 39 = .ok (.aload_n 1, 1) := by decide +kernel
theorem dX0_readThing_40 : decode cX0_readThing 40 = .ok (.invokevirtual 141, 3) := by decide +kernel
theorem dX0_readThing_43 : decode cX0_readThing 43 = .ok (.aload_n 0, 1) := by decide +kernel
theorem dX0_readThing_44 : decode cX0_readThing 44 = .ok (.getfield 36, 3) := by decide +kernel
theorem dX0_readThing_47 : decode cX0_readThing 47 = .ok (.iload_n 2, 1) := by decide +kernel
theorem dX0_readThing_48 : decode cX0_readThing 48 = .ok (.aload_n 1, 1) := by decide +kernel
theorem dX0_readThing_49 : decode cX0_readThing 49 = .ok (.iconst 1, 1) := by decide +kernel
theorem dX0_readThing_50 : decode cX0_readThing 50 = .ok (.sipush 9999, 3) := by decide +kernel
theorem dX0_readThing_53 : decode cX0_readThing 53 = .ok (.invokevirtual 153, 3) := by decide +kernel
theorem dX0_readThing_56 : decode cX0_readThing 56 = .ok (.iastore, 1) := by decide +kernel
theorem dX0_readThing_57 : decode cX0_readThing 57 = .ok (.aload_n 0, 1) := by decide +kernel
theorem dX0_readThing_58 : decode cX0_readThing 58 = .ok (.getfield 39, 3) := by decide +kernel
theorem dX0_readThing_61 : decode cX0_readThing 61 = .ok (.iload_n 2, 1) := by decide +kernel
theorem dX0_readThing_62 : decode cX0_readThing 62 = .ok (.aload_n 1, 1) := by decide +kernel
theorem dX0_readThing_63 : decode cX0_readThing 63 = .ok (.ldc 241, 2) := by decide +kernel
theorem dX0_readThing_65 : decode cX0_readThing 65 = .ok (.invokevirtual 232, 3) := by decide +kernel
theorem dX0_readThing_68 : decode cX0_readThing 68 = .ok (.ifCond .eq 15, 3) := by decide +kernel
theorem dX0_readThing_71 : decode cX0_readThing 71 = .ok (.aload_n 1, 1) := by decide +kernel
theorem dX0_readThing_72 : decode cX0_readThing 72 = .ok (.aload_n 0, 1) := by decide +kernel
theorem dX0_readThing_73 : decode cX0_readThing 73 = .ok (.getfield 14, 3) := by decide +kernel
theorem dX0_readThing_76 : decode cX0_readThing 76 = .ok (.iconst 0, 1) := by decide +kernel
theorem dX0_readThing_77 : decode cX0_readThing 77 = .ok (.invokevirtual 148, 3) := by decide +kernel
theorem dX0_readThing_80 : decode cX0_readThing 80 = .ok (.goto 4, 3) := by decide +kernel
theorem dX0_readThing_83 : decode cX0_readThing 83 = .ok (.iconst (-1), 1) := by decide +kernel
theorem dX0_readThing_84 : decode cX0_readThing 84 = .ok (.iastore, 1) := by decide +kernel
theorem dX0_readThing_85 : decode cX0_readThing 85 = .ok (.return_, 1) := by decide +kernel
def f_X0_readThing (w : Wd) : Option (Wd) :=
  cv (f_X0_passUnlessFull 49 8 w) fun w1 =>
  cl (f_X10_hasNewName 49 8 w1) fun r3 w2 =>
  if r3 = 0 then
  (some w2)
  else
  lt (w2.1 49 1) fun v4 =>
  cv (f_X4_add 49 8 (w2.2 1 3) w2) fun w5 =>
  cv (f_X10_step w5) fun w6 =>
  cl (f_X10_number 1 9999 w6) fun r8 w7 =>
  if inb v4 8 = true then
  (lt (wI w7 54 (Int32.toNatClampNeg v4) r8) fun w9 =>
  cl (f_X10_passes 28 w9) fun r11 w10 =>
  if r11 = 0 then
  (if inb v4 8 = true then
  (lt (wI w10 55 (Int32.toNatClampNeg v4) ((-1))) fun w12 =>
  some w12)
  else none)
  else
  cl (f_X10_known 45 4 0 w10) fun r14 w13 =>
  if inb v4 8 = true then
  (lt (wI w13 55 (Int32.toNatClampNeg v4) r14) fun w15 =>
  some w15)
  else none)
  else none
set_option maxRecDepth 100000 in
set_option maxHeartbeats 4000000 in
theorem t_X0_readThing {Z : Cz (Wd)} (hZ : OKZ Z SC cX0_readThing RX0 3 none 7) (hE : EndV Z)   (w : Wd) : BW Z 3 0 [(0, .ref (ph (zY Z) 44)), (1, .ref (ph (zY Z) 1))] [] w (f_X0_readThing w) :=
  bw_aload_n hZ 1 rfl dX0_readThing_0 <|
  bw_aload_n hZ 0 rfl dX0_readThing_1 <|
  bw_getR hZ fl_RX0_23 obC_44 rfl dX0_readThing_2 <|
  bw_callSV (As := [.ref (ph (zY Z) 1), .ref (ph (zY Z) 49)]) hZ ms_RX0_160 (by decide) (c_X0_passUnlessFull (zl Z) (zY Z) (hZ_S hZ) 49 8 isN49 w) rfl rfl (Nat.le_of_ble_eq_true rfl) dX0_readThing_5 fun w1 =>
  bw_aload_n hZ 1 rfl dX0_readThing_8 <|
  bw_aload_n hZ 0 rfl dX0_readThing_9 <|
  bw_getR hZ fl_RX0_23 obC_44 rfl dX0_readThing_10 <|
  bw_callVI (As := [.ref (ph (zY Z) 49)]) hZ ml_RX0_164 rc_10 obC_1 (by decide) (c_X10_hasNewName (zl Z) (zY Z) (hZ_S hZ) 49 8 isN49 w1) rfl rfl (Nat.le_of_ble_eq_true rfl) dX0_readThing_13 fun r3 w2 =>
  bw_if_ne hZ (tgt := 20) (by decide) dX0_readThing_16 (fun _ =>
  bw_aload_n hZ 0 rfl dX0_readThing_20 <|
  bw_getR hZ fl_RX0_23 obC_44 rfl dX0_readThing_21 <|
  bw_getI hZ fl_RX0_58 (by decide) obC_49 dX0_readThing_24 <|
  bw_nm fun v4 =>
  bw_istore_n hZ rfl (by decide) rfl dX0_readThing_27 <|
  bw_aload_n hZ 1 rfl dX0_readThing_28 <|
  bw_getR hZ fl_RX0_23 obC_44 rfl dX0_readThing_29 <|
  bw_aload_n hZ 2 rfl dX0_readThing_32 <|
  bw_getG hZ fl_RX0_168 obC_1 dX0_readThing_33 <|
  bw_callVV (As := [.long (w2.2 1 3)]) hZ ml_RX0_172 rc_4 obC_49 (by decide) (c_X4_add (zl Z) (zY Z) (hZ_S hZ) 49 8 (w2.2 1 3) isN49 w2) rfl rfl (Nat.le_of_ble_eq_true rfl) dX0_readThing_36 fun w5 =>
  bw_aload_n hZ 2 rfl dX0_readThing_39 <|
  bw_callVV (As := []) hZ ml_RX0_141 rc_10 obC_1 (by decide) (c_X10_step (zl Z) (zY Z) (hZ_S hZ) w5) rfl rfl (Nat.le_of_ble_eq_true rfl) dX0_readThing_40 fun w6 =>
  bw_aload_n hZ 1 rfl dX0_readThing_43 <|
  bw_getR hZ fl_RX0_36 obC_44 rfl dX0_readThing_44 <|
  bw_iload_n hZ 0 rfl dX0_readThing_47 <|
  bw_aload_n hZ 2 rfl dX0_readThing_48 <|
  bw_iconst hZ 1 (by decide) dX0_readThing_49 <|
  bw_sipush hZ 9999 (by decide) dX0_readThing_50 <|
  bw_callVI (As := [.int 1, .int 9999]) hZ ml_RX0_153 rc_10 obC_1 (by decide) (c_X10_number (zl Z) (zY Z) (hZ_S hZ) 1 9999 w6) rfl rfl (Nat.le_of_ble_eq_true rfl) dX0_readThing_53 fun r8 w7 =>
  bw_iast hZ (arC_54 _) dX0_readThing_56 fun w9 =>
  bw_aload_n hZ 1 rfl dX0_readThing_57 <|
  bw_getR hZ fl_RX0_39 obC_44 rfl dX0_readThing_58 <|
  bw_iload_n hZ 0 rfl dX0_readThing_61 <|
  bw_aload_n hZ 2 rfl dX0_readThing_62 <|
  bw_ldcS hZ 28 rfl dX0_readThing_63 <|
  bw_callVI (As := [.ref (sK (zY Z) 28)]) hZ ml_RX0_232 rc_10 obC_1 (by decide) (c_X10_passes (zl Z) (zY Z) (hZ_S hZ) 28 (by decide) w9) rfl rfl (Nat.le_of_ble_eq_true rfl) dX0_readThing_65 fun r11 w10 =>
  bw_if_eq hZ (tgt := 83) (by decide) dX0_readThing_68 (fun _ =>
  bw_iconst hZ (-1) (by decide) dX0_readThing_83 <|
  bw_iast hZ (arC_55 _) dX0_readThing_84 fun w12 =>
  bw_vret hZ hE dX0_readThing_85) (fun _ =>
  bw_aload_n hZ 2 rfl dX0_readThing_71 <|
  bw_aload_n hZ 1 rfl dX0_readThing_72 <|
  bw_getR hZ fl_RX0_14 obC_44 rfl dX0_readThing_73 <|
  bw_iconst hZ 0 (by decide) dX0_readThing_76 <|
  bw_callVI (As := [.ref (ph (zY Z) 45), .int 0]) hZ ml_RX0_148 rc_10 obC_1 (by decide) (c_X10_known (zl Z) (zY Z) (hZ_S hZ) 45 4 0 isN45 w10) rfl rfl (Nat.le_of_ble_eq_true rfl) dX0_readThing_77 fun r14 w13 =>
  bw_goto hZ (tgt := 84) (by decide) dX0_readThing_80 <|
  bw_iast hZ (arC_55 _) dX0_readThing_84 fun w15 =>
  bw_vret hZ hE dX0_readThing_85)) (fun _ =>
  bw_vret hZ hE dX0_readThing_19)
theorem c_X0_readThing (l : Launch) (Y : Ev) (hY : Y.1 = SC)   (w : Wd) : CV l Y yX0_readThing cX0_readThing 3 7 [.ref (ph Y 44), .ref (ph Y 1)] w (f_X0_readThing w) := by
  refine CV_of (S := SC) (by decide) (Nat.le_of_ble_eq_true rfl) hY ?_
  intro Z hl hY2 hZ hE
  subst hY2
  exact t_X0_readThing hZ hE w
-- WhichWill$Estate.readClause
theorem dX0_readClause_0 : decode cX0_readClause 0 = .ok (.aload_n 1, 1) := by decide +kernel
theorem dX0_readClause_1 : decode cX0_readClause 1 = .ok (.ldc 107, 2) := by decide +kernel
theorem dX0_readClause_3 : decode cX0_readClause 3 = .ok (.invokevirtual 109, 3) := by decide +kernel
theorem dX0_readClause_6 : decode cX0_readClause 6 = .ok (.ifCond .eq 11, 3) := by decide +kernel
theorem dX0_readClause_9 : decode cX0_readClause 9 = .ok (.aload_n 0, 1) := by decide +kernel
theorem dX0_readClause_10 : decode cX0_readClause 10 = .ok (.aload_n 1, 1) := by decide +kernel
theorem dX0_readClause_11 : decode cX0_readClause 11 = .ok (.invokevirtual 113, 3) := by decide +kernel
theorem dX0_readClause_14 : decode cX0_readClause 14 = .ok (.goto 154, 3) := by decide +kernel
theorem dX0_readClause_17 : decode cX0_readClause 17 = .ok (.aload_n 1, 1) := by decide +kernel
theorem dX0_readClause_18 : decode cX0_readClause 18 = .ok (.ldc 116, 2) := by decide +kernel
theorem dX0_readClause_20 : decode cX0_readClause 20 = .ok (.invokevirtual 109, 3) := by decide +kernel
theorem dX0_readClause_23 : decode cX0_readClause 23 = .ok (.ifCond .eq 16, 3) := by decide +kernel
theorem dX0_readClause_26 : decode cX0_readClause 26 = .ok (.aload_n 0, 1) := by decide +kernel
theorem dX0_readClause_27 : decode cX0_readClause 27 = .ok (.aload_n 0, 1) := by decide +kernel
theorem dX0_readClause_28 : decode cX0_readClause 28 = .ok (.aload_n 1, 1) := by decide +kernel
theorem dX0_readClause_29 : decode cX0_readClause 29 = .ok (.iconst 1, 1) := by decide +kernel
theorem dX0_readClause_30 : decode cX0_readClause 30 = .ok (.invokevirtual 117, 3) := by decide +kernel
theorem dX0_readClause_33 : decode cX0_readClause 33 = .ok (.putfield 49, 3) := by decide +kernel
theorem dX0_readClause_36 : decode cX0_readClause 36 = .ok (.goto 132, 3) := by decide +kernel
theorem dX0_readClause_39 : decode cX0_readClause 39 = .ok (.aload_n 1, 1) := by decide +kernel
theorem dX0_readClause_40 : decode cX0_readClause 40 = .ok (.ldc 121, 2) := by decide +kernel
theorem dX0_readClause_42 : decode cX0_readClause 42 = .ok (.invokevirtual 109, 3) := by decide +kernel
theorem dX0_readClause_45 : decode cX0_readClause 45 = .ok (.ifCond .eq 16, 3) := by decide +kernel
theorem dX0_readClause_48 : decode cX0_readClause 48 = .ok (.aload_n 0, 1) := by decide +kernel
theorem dX0_readClause_49 : decode cX0_readClause 49 = .ok (.aload_n 0, 1) := by decide +kernel
theorem dX0_readClause_50 : decode cX0_readClause 50 = .ok (.aload_n 1, 1) := by decide +kernel
theorem dX0_readClause_51 : decode cX0_readClause 51 = .ok (.iconst 2, 1) := by decide +kernel
theorem dX0_readClause_52 : decode cX0_readClause 52 = .ok (.invokevirtual 117, 3) := by decide +kernel
theorem dX0_readClause_55 : decode cX0_readClause 55 = .ok (.putfield 52, 3) := by decide +kernel
theorem dX0_readClause_58 : decode cX0_readClause 58 = .ok (.goto 110, 3) := by decide +kernel
theorem dX0_readClause_61 : decode cX0_readClause 61 = .ok (.aload_n 1, 1) := by decide +kernel
theorem dX0_readClause_62 : decode cX0_readClause 62 = .ok (.ldc 122, 2) := by decide +kernel
theorem dX0_readClause_64 : decode cX0_readClause 64 = .ok (.invokevirtual 109, 3) := by decide +kernel
theorem dX0_readClause_67 : decode cX0_readClause 67 = .ok (.ifCond .eq 16, 3) := by decide +kernel
theorem dX0_readClause_70 : decode cX0_readClause 70 = .ok (.aload_n 0, 1) := by decide +kernel
theorem dX0_readClause_71 : decode cX0_readClause 71 = .ok (.aload_n 0, 1) := by decide +kernel
theorem dX0_readClause_72 : decode cX0_readClause 72 = .ok (.aload_n 1, 1) := by decide +kernel
theorem dX0_readClause_73 : decode cX0_readClause 73 = .ok (.iconst 4, 1) := by decide +kernel
theorem dX0_readClause_74 : decode cX0_readClause 74 = .ok (.invokevirtual 117, 3) := by decide +kernel
theorem dX0_readClause_77 : decode cX0_readClause 77 = .ok (.putfield 55, 3) := by decide +kernel
theorem dX0_readClause_80 : decode cX0_readClause 80 = .ok (.goto 88, 3) := by decide +kernel
theorem dX0_readClause_83 : decode cX0_readClause 83 = .ok (.aload_n 1, 1) := by decide +kernel
theorem dX0_readClause_84 : decode cX0_readClause 84 = .ok (.ldc 123, 2) := by decide +kernel
theorem dX0_readClause_86 : decode cX0_readClause 86 = .ok (.invokevirtual 109, 3) := by decide +kernel
theorem dX0_readClause_89 : decode cX0_readClause 89 = .ok (.ifCond .eq 11, 3) := by decide +kernel
theorem dX0_readClause_92 : decode cX0_readClause 92 = .ok (.aload_n 0, 1) := by decide +kernel
theorem dX0_readClause_93 : decode cX0_readClause 93 = .ok (.aload_n 1, 1) := by decide +kernel
theorem dX0_readClause_94 : decode cX0_readClause 94 = .ok (.invokevirtual 125, 3) := by decide +kernel
theorem dX0_readClause_97 : decode cX0_readClause 97 = .ok (.goto 71, 3) := by decide +kernel
theorem dX0_readClause_100 : decode cX0_readClause 100 = .ok (.aload_n 1, 1) := by decide +kernel
theorem dX0_readClause_101 : decode cX0_readClause 101 = .ok (.ldc 128, 2) := by decide +kernel
theorem dX0_readClause_103 : decode cX0_readClause 103 = .ok (.invokevirtual 109, 3) := by decide +kernel
theorem dX0_readClause_106 : decode cX0_readClause 106 = .ok (.ifCond .eq 11, 3) := by decide +kernel
theorem dX0_readClause_109 : decode cX0_readClause 109 = .ok (.aload_n 0, 1) := by decide +kernel
theorem dX0_readClause_110 : decode cX0_readClause 110 = .ok (.aload_n 1, 1) := by decide +kernel
theorem dX0_readClause_111 : decode cX0_readClause 111 = .ok (.invokevirtual 130, 3) := by decide +kernel
theorem dX0_readClause_114 : decode cX0_readClause 114 = .ok (.goto 54, 3) := by decide +kernel
theorem dX0_readClause_117 : decode cX0_readClause 117 = .ok (.aload_n 1, 1) := by decide +kernel
theorem dX0_readClause_118 : decode cX0_readClause 118 = .ok (.ldc 133, 2) := by decide +kernel
theorem dX0_readClause_120 : decode cX0_readClause 120 = .ok (.invokevirtual 109, 3) := by decide +kernel
theorem dX0_readClause_123 : decode cX0_readClause 123 = .ok (.ifCond .eq 17, 3) := by decide +kernel
theorem dX0_readClause_126 : decode cX0_readClause 126 = .ok (.aload_n 0, 1) := by decide +kernel
theorem dX0_readClause_127 : decode cX0_readClause 127 = .ok (.aload_n 0, 1) := by decide +kernel
theorem dX0_readClause_128 : decode cX0_readClause 128 = .ok (.aload_n 1, 1) := by decide +kernel
theorem dX0_readClause_129 : decode cX0_readClause 129 = .ok (.bipush 8, 2) := by decide +kernel
theorem dX0_readClause_131 : decode cX0_readClause 131 = .ok (.invokevirtual 134, 3) := by decide +kernel
theorem dX0_readClause_134 : decode cX0_readClause 134 = .ok (.putfield 67, 3) := by decide +kernel
theorem dX0_readClause_137 : decode cX0_readClause 137 = .ok (.goto 31, 3) := by decide +kernel
theorem dX0_readClause_140 : decode cX0_readClause 140 = .ok (.aload_n 1, 1) := by decide +kernel
theorem dX0_readClause_141 : decode cX0_readClause 141 = .ok (.ldc 137, 2) := by decide +kernel
theorem dX0_readClause_143 : decode cX0_readClause 143 = .ok (.invokevirtual 109, 3) := by decide +kernel
theorem dX0_readClause_146 : decode cX0_readClause 146 = .ok (.ifCond .eq 17, 3) := by decide +kernel
theorem dX0_readClause_149 : decode cX0_readClause 149 = .ok (.aload_n 0, 1) := by decide +kernel
theorem dX0_readClause_150 : decode cX0_readClause 150 = .ok (.aload_n 0, 1) := by decide +kernel
theorem dX0_readClause_151 : decode cX0_readClause 151 = .ok (.aload_n 1, 1) := by decide +kernel
theorem dX0_readClause_152 : decode cX0_readClause 152 = .ok (.bipush 16, 2) := by decide +kernel
theorem dX0_readClause_154 : decode cX0_readClause 154 = .ok (.invokevirtual 134, 3) := by decide +kernel
theorem dX0_readClause_157 : decode cX0_readClause 157 = .ok (.putfield 70, 3) := by decide +kernel
theorem dX0_readClause_160 : decode cX0_readClause 160 = .ok (.goto 8, 3) := by decide +kernel
theorem dX0_readClause_163 : decode cX0_readClause 163 = .ok (.aload_n 1, 1) := by decide +kernel
theorem dX0_readClause_164 : decode cX0_readClause 164 = .ok (.iconst 1, 1) := by decide +kernel
theorem dX0_readClause_165 : decode cX0_readClause 165 = .ok (.invokevirtual 138, 3) := by decide +kernel
theorem dX0_readClause_168 : decode cX0_readClause 168 = .ok (.return_, 1) := by decide +kernel
def f_X0_readClause (w : Wd) : Option (Wd) :=
  cl (f_X10_is 0 w) fun r2 w1 =>
  if r2 = 0 then
  (cl (f_X10_is 21 w1) fun r4 w3 =>
  if r4 = 0 then
  (cl (f_X10_is 19 w3) fun r6 w5 =>
  if r6 = 0 then
  (cl (f_X10_is 20 w5) fun r8 w7 =>
  if r8 = 0 then
  (cl (f_X10_is 22 w7) fun r10 w9 =>
  if r10 = 0 then
  (cl (f_X10_is 27 w9) fun r12 w11 =>
  if r12 = 0 then
  (cl (f_X10_is 29 w11) fun r14 w13 =>
  if r14 = 0 then
  (cl (f_X10_is 30 w13) fun r16 w15 =>
  if r16 = 0 then
  (cv (f_X10_fail 1 w15) fun w17 =>
  some w17)
  else
  cl (f_X0_readAmount 16 w15) fun r19 w18 =>
  lt (wI w18 44 16 r19) fun w20 =>
  some w20)
  else
  cl (f_X0_readAmount 8 w13) fun r22 w21 =>
  lt (wI w21 44 15 r22) fun w23 =>
  some w23)
  else
  cv (f_X0_readThing w11) fun w24 =>
  some w24)
  else
  cv (f_X0_readPerson w9) fun w25 =>
  some w25)
  else
  cl (f_X0_readSeat 4 w7) fun r27 w26 =>
  lt (wI w26 44 14 r27) fun w28 =>
  some w28)
  else
  cl (f_X0_readSeat 2 w5) fun r30 w29 =>
  lt (wI w29 44 13 r30) fun w31 =>
  some w31)
  else
  cl (f_X0_readSeat 1 w3) fun r33 w32 =>
  lt (wI w32 44 12 r33) fun w34 =>
  some w34)
  else
  cv (f_X0_readLand w1) fun w35 =>
  some w35
set_option maxRecDepth 100000 in
set_option maxHeartbeats 4000000 in
theorem t_X0_readClause {Z : Cz (Wd)} (hZ : OKZ Z SC cX0_readClause RX0 2 none 9) (hE : EndV Z)   (w : Wd) : BW Z 2 0 [(0, .ref (ph (zY Z) 44)), (1, .ref (ph (zY Z) 1))] [] w (f_X0_readClause w) :=
  bw_aload_n hZ 1 rfl dX0_readClause_0 <|
  bw_ldcS hZ 0 rfl dX0_readClause_1 <|
  bw_callVI (As := [.ref (sK (zY Z) 0)]) hZ ml_RX0_109 rc_10 obC_1 (by decide) (c_X10_is (zl Z) (zY Z) (hZ_S hZ) 0 (by decide) w) rfl rfl (Nat.le_of_ble_eq_true rfl) dX0_readClause_3 fun r2 w1 =>
  bw_if_eq hZ (tgt := 17) (by decide) dX0_readClause_6 (fun _ =>
  bw_aload_n hZ 1 rfl dX0_readClause_17 <|
  bw_ldcS hZ 21 rfl dX0_readClause_18 <|
  bw_callVI (As := [.ref (sK (zY Z) 21)]) hZ ml_RX0_109 rc_10 obC_1 (by decide) (c_X10_is (zl Z) (zY Z) (hZ_S hZ) 21 (by decide) w1) rfl rfl (Nat.le_of_ble_eq_true rfl) dX0_readClause_20 fun r4 w3 =>
  bw_if_eq hZ (tgt := 39) (by decide) dX0_readClause_23 (fun _ =>
  bw_aload_n hZ 1 rfl dX0_readClause_39 <|
  bw_ldcS hZ 19 rfl dX0_readClause_40 <|
  bw_callVI (As := [.ref (sK (zY Z) 19)]) hZ ml_RX0_109 rc_10 obC_1 (by decide) (c_X10_is (zl Z) (zY Z) (hZ_S hZ) 19 (by decide) w3) rfl rfl (Nat.le_of_ble_eq_true rfl) dX0_readClause_42 fun r6 w5 =>
  bw_if_eq hZ (tgt := 61) (by decide) dX0_readClause_45 (fun _ =>
  bw_aload_n hZ 1 rfl dX0_readClause_61 <|
  bw_ldcS hZ 20 rfl dX0_readClause_62 <|
  bw_callVI (As := [.ref (sK (zY Z) 20)]) hZ ml_RX0_109 rc_10 obC_1 (by decide) (c_X10_is (zl Z) (zY Z) (hZ_S hZ) 20 (by decide) w5) rfl rfl (Nat.le_of_ble_eq_true rfl) dX0_readClause_64 fun r8 w7 =>
  bw_if_eq hZ (tgt := 83) (by decide) dX0_readClause_67 (fun _ =>
  bw_aload_n hZ 1 rfl dX0_readClause_83 <|
  bw_ldcS hZ 22 rfl dX0_readClause_84 <|
  bw_callVI (As := [.ref (sK (zY Z) 22)]) hZ ml_RX0_109 rc_10 obC_1 (by decide) (c_X10_is (zl Z) (zY Z) (hZ_S hZ) 22 (by decide) w7) rfl rfl (Nat.le_of_ble_eq_true rfl) dX0_readClause_86 fun r10 w9 =>
  bw_if_eq hZ (tgt := 100) (by decide) dX0_readClause_89 (fun _ =>
  bw_aload_n hZ 1 rfl dX0_readClause_100 <|
  bw_ldcS hZ 27 rfl dX0_readClause_101 <|
  bw_callVI (As := [.ref (sK (zY Z) 27)]) hZ ml_RX0_109 rc_10 obC_1 (by decide) (c_X10_is (zl Z) (zY Z) (hZ_S hZ) 27 (by decide) w9) rfl rfl (Nat.le_of_ble_eq_true rfl) dX0_readClause_103 fun r12 w11 =>
  bw_if_eq hZ (tgt := 117) (by decide) dX0_readClause_106 (fun _ =>
  bw_aload_n hZ 1 rfl dX0_readClause_117 <|
  bw_ldcS hZ 29 rfl dX0_readClause_118 <|
  bw_callVI (As := [.ref (sK (zY Z) 29)]) hZ ml_RX0_109 rc_10 obC_1 (by decide) (c_X10_is (zl Z) (zY Z) (hZ_S hZ) 29 (by decide) w11) rfl rfl (Nat.le_of_ble_eq_true rfl) dX0_readClause_120 fun r14 w13 =>
  bw_if_eq hZ (tgt := 140) (by decide) dX0_readClause_123 (fun _ =>
  bw_aload_n hZ 1 rfl dX0_readClause_140 <|
  bw_ldcS hZ 30 rfl dX0_readClause_141 <|
  bw_callVI (As := [.ref (sK (zY Z) 30)]) hZ ml_RX0_109 rc_10 obC_1 (by decide) (c_X10_is (zl Z) (zY Z) (hZ_S hZ) 30 (by decide) w13) rfl rfl (Nat.le_of_ble_eq_true rfl) dX0_readClause_143 fun r16 w15 =>
  bw_if_eq hZ (tgt := 163) (by decide) dX0_readClause_146 (fun _ =>
  bw_aload_n hZ 1 rfl dX0_readClause_163 <|
  bw_iconst hZ 1 (by decide) dX0_readClause_164 <|
  bw_callVV (As := [.int 1]) hZ ml_RX0_138 rc_10 obC_1 (by decide) (c_X10_fail (zl Z) (zY Z) (hZ_S hZ) 1 w15) rfl rfl (Nat.le_of_ble_eq_true rfl) dX0_readClause_165 fun w17 =>
  bw_vret hZ hE dX0_readClause_168) (fun _ =>
  bw_aload_n hZ 0 rfl dX0_readClause_149 <|
  bw_aload_n hZ 0 rfl dX0_readClause_150 <|
  bw_aload_n hZ 1 rfl dX0_readClause_151 <|
  bw_bipush hZ 16 (by decide) dX0_readClause_152 <|
  bw_callVI (As := [.ref (ph (zY Z) 1), .int 16]) hZ ml_RX0_134 rc_0 obC_44 (by decide) (c_X0_readAmount (zl Z) (zY Z) (hZ_S hZ) 16 w15) rfl rfl (Nat.le_of_ble_eq_true rfl) dX0_readClause_154 fun r19 w18 =>
  bw_putI hZ fl_RX0_70 rfl rfl (by decide) obC_44 dX0_readClause_157 fun w20 =>
  bw_goto hZ (tgt := 168) (by decide) dX0_readClause_160 <|
  bw_vret hZ hE dX0_readClause_168)) (fun _ =>
  bw_aload_n hZ 0 rfl dX0_readClause_126 <|
  bw_aload_n hZ 0 rfl dX0_readClause_127 <|
  bw_aload_n hZ 1 rfl dX0_readClause_128 <|
  bw_bipush hZ 8 (by decide) dX0_readClause_129 <|
  bw_callVI (As := [.ref (ph (zY Z) 1), .int 8]) hZ ml_RX0_134 rc_0 obC_44 (by decide) (c_X0_readAmount (zl Z) (zY Z) (hZ_S hZ) 8 w13) rfl rfl (Nat.le_of_ble_eq_true rfl) dX0_readClause_131 fun r22 w21 =>
  bw_putI hZ fl_RX0_67 rfl rfl (by decide) obC_44 dX0_readClause_134 fun w23 =>
  bw_goto hZ (tgt := 168) (by decide) dX0_readClause_137 <|
  bw_vret hZ hE dX0_readClause_168)) (fun _ =>
  bw_aload_n hZ 0 rfl dX0_readClause_109 <|
  bw_aload_n hZ 1 rfl dX0_readClause_110 <|
  bw_callVV (As := [.ref (ph (zY Z) 1)]) hZ ml_RX0_130 rc_0 obC_44 (by decide) (c_X0_readThing (zl Z) (zY Z) (hZ_S hZ) w11) rfl rfl (Nat.le_of_ble_eq_true rfl) dX0_readClause_111 fun w24 =>
  bw_goto hZ (tgt := 168) (by decide) dX0_readClause_114 <|
  bw_vret hZ hE dX0_readClause_168)) (fun _ =>
  bw_aload_n hZ 0 rfl dX0_readClause_92 <|
  bw_aload_n hZ 1 rfl dX0_readClause_93 <|
  bw_callVV (As := [.ref (ph (zY Z) 1)]) hZ ml_RX0_125 rc_0 obC_44 (by decide) (c_X0_readPerson (zl Z) (zY Z) (hZ_S hZ) w9) rfl rfl (Nat.le_of_ble_eq_true rfl) dX0_readClause_94 fun w25 =>
  bw_goto hZ (tgt := 168) (by decide) dX0_readClause_97 <|
  bw_vret hZ hE dX0_readClause_168)) (fun _ =>
  bw_aload_n hZ 0 rfl dX0_readClause_70 <|
  bw_aload_n hZ 0 rfl dX0_readClause_71 <|
  bw_aload_n hZ 1 rfl dX0_readClause_72 <|
  bw_iconst hZ 4 (by decide) dX0_readClause_73 <|
  bw_callVI (As := [.ref (ph (zY Z) 1), .int 4]) hZ ml_RX0_117 rc_0 obC_44 (by decide) (c_X0_readSeat (zl Z) (zY Z) (hZ_S hZ) 4 w7) rfl rfl (Nat.le_of_ble_eq_true rfl) dX0_readClause_74 fun r27 w26 =>
  bw_putI hZ fl_RX0_55 rfl rfl (by decide) obC_44 dX0_readClause_77 fun w28 =>
  bw_goto hZ (tgt := 168) (by decide) dX0_readClause_80 <|
  bw_vret hZ hE dX0_readClause_168)) (fun _ =>
  bw_aload_n hZ 0 rfl dX0_readClause_48 <|
  bw_aload_n hZ 0 rfl dX0_readClause_49 <|
  bw_aload_n hZ 1 rfl dX0_readClause_50 <|
  bw_iconst hZ 2 (by decide) dX0_readClause_51 <|
  bw_callVI (As := [.ref (ph (zY Z) 1), .int 2]) hZ ml_RX0_117 rc_0 obC_44 (by decide) (c_X0_readSeat (zl Z) (zY Z) (hZ_S hZ) 2 w5) rfl rfl (Nat.le_of_ble_eq_true rfl) dX0_readClause_52 fun r30 w29 =>
  bw_putI hZ fl_RX0_52 rfl rfl (by decide) obC_44 dX0_readClause_55 fun w31 =>
  bw_goto hZ (tgt := 168) (by decide) dX0_readClause_58 <|
  bw_vret hZ hE dX0_readClause_168)) (fun _ =>
  bw_aload_n hZ 0 rfl dX0_readClause_26 <|
  bw_aload_n hZ 0 rfl dX0_readClause_27 <|
  bw_aload_n hZ 1 rfl dX0_readClause_28 <|
  bw_iconst hZ 1 (by decide) dX0_readClause_29 <|
  bw_callVI (As := [.ref (ph (zY Z) 1), .int 1]) hZ ml_RX0_117 rc_0 obC_44 (by decide) (c_X0_readSeat (zl Z) (zY Z) (hZ_S hZ) 1 w3) rfl rfl (Nat.le_of_ble_eq_true rfl) dX0_readClause_30 fun r33 w32 =>
  bw_putI hZ fl_RX0_49 rfl rfl (by decide) obC_44 dX0_readClause_33 fun w34 =>
  bw_goto hZ (tgt := 168) (by decide) dX0_readClause_36 <|
  bw_vret hZ hE dX0_readClause_168)) (fun _ =>
  bw_aload_n hZ 0 rfl dX0_readClause_9 <|
  bw_aload_n hZ 1 rfl dX0_readClause_10 <|
  bw_callVV (As := [.ref (ph (zY Z) 1)]) hZ ml_RX0_113 rc_0 obC_44 (by decide) (c_X0_readLand (zl Z) (zY Z) (hZ_S hZ) w1) rfl rfl (Nat.le_of_ble_eq_true rfl) dX0_readClause_11 fun w35 =>
  bw_goto hZ (tgt := 168) (by decide) dX0_readClause_14 <|
  bw_vret hZ hE dX0_readClause_168)
theorem c_X0_readClause (l : Launch) (Y : Ev) (hY : Y.1 = SC)   (w : Wd) : CV l Y yX0_readClause cX0_readClause 2 9 [.ref (ph Y 44), .ref (ph Y 1)] w (f_X0_readClause w) := by
  refine CV_of (S := SC) (by decide) (Nat.le_of_ble_eq_true rfl) hY ?_
  intro Z hl hY2 hZ hE
  subst hY2
  exact t_X0_readClause hZ hE w
-- WhichWill$Tape.goesOn
theorem dX10_goesOn_0 : decode cX10_goesOn 0 = .ok (.aload_n 0, 1) := by decide +kernel
theorem dX10_goesOn_1 : decode cX10_goesOn 1 = .ok (.getfield 22, 3) := by decide +kernel
theorem dX10_goesOn_4 : decode cX10_goesOn 4 = .ok (.ifCond .ne 14, 3) := by decide +kernel
theorem dX10_goesOn_7 : decode cX10_goesOn 7 = .ok (.aload_n 0, 1) := by decide +kernel
theorem dX10_goesOn_8 : decode cX10_goesOn 8 = .ok (.getfield 31, 3) := by decide +kernel
theorem dX10_goesOn_11 : decode cX10_goesOn 11 = .ok (.ifCond .eq 7, 3) := by decide +kernel
theorem dX10_goesOn_14 : decode cX10_goesOn 14 = .ok (.iconst 1, 1) := by decide +kernel
theorem dX10_goesOn_15 : decode cX10_goesOn 15 = .ok (.goto 4, 3) := by decide +kernel
theorem dX10_goesOn_18 : decode cX10_goesOn 18 = .ok (.iconst 0, 1) := by decide +kernel
theorem dX10_goesOn_19 : decode cX10_goesOn 19 = .ok (.ireturn, 1) := by decide +kernel
def f_X10_goesOn (w : Wd) : Option (Int32 × Wd) :=
  if (w.1 1 4) = 0 then
  (if (w.1 1 2) = 0 then
  (some (0, w))
  else
  some (1, w))
  else
  some (0, w)
set_option maxRecDepth 100000 in
set_option maxHeartbeats 4000000 in
theorem t_X10_goesOn {Z : Cz (Int32 × Wd)} (hZ : OKZ Z SC cX10_goesOn RX10 1 (some .boolean) 1) (hE : EndI Z)   (w : Wd) : BW Z 1 0 [(0, .ref (ph (zY Z) 1))] [] w (f_X10_goesOn w) :=
  bw_aload_n hZ 0 rfl dX10_goesOn_0 <|
  bw_getI hZ fl_RX10_22 (by decide) obC_1 dX10_goesOn_1 <|
  bw_if_ne hZ (tgt := 18) (by decide) dX10_goesOn_4 (fun _ =>
  bw_iconst hZ 0 (by decide) dX10_goesOn_18 <|
  bw_zret hZ hE (by decide) dX10_goesOn_19) (fun _ =>
  bw_aload_n hZ 0 rfl dX10_goesOn_7 <|
  bw_getI hZ fl_RX10_31 (by decide) obC_1 dX10_goesOn_8 <|
  bw_if_eq hZ (tgt := 18) (by decide) dX10_goesOn_11 (fun _ =>
  bw_iconst hZ 0 (by decide) dX10_goesOn_18 <|
  bw_zret hZ hE (by decide) dX10_goesOn_19) (fun _ =>
  bw_iconst hZ 1 (by decide) dX10_goesOn_14 <|
  bw_goto hZ (tgt := 19) (by decide) dX10_goesOn_15 <|
  bw_zret hZ hE (by decide) dX10_goesOn_19))
theorem c_X10_goesOn (l : Launch) (Y : Ev) (hY : Y.1 = SC)   (w : Wd) : CI l Y yX10_goesOn cX10_goesOn 1 1 [.ref (ph Y 1)] w .boolean (f_X10_goesOn w) := by
  refine CI_of (S := SC) (by decide) (Nat.le_of_ble_eq_true rfl) hY ?_
  intro Z hl hY2 hZ hE
  subst hY2
  exact t_X10_goesOn hZ hE w
-- WhichWill$Tape.needMark
theorem dX10_needMark_0 : decode cX10_needMark 0 = .ok (.aload_n 0, 1) := by decide +kernel
theorem dX10_needMark_1 : decode cX10_needMark 1 = .ok (.getfield 31, 3) := by decide +kernel
theorem dX10_needMark_4 : decode cX10_needMark 4 = .ok (.iconst 3, 1) := by decide +kernel
theorem dX10_needMark_5 : decode cX10_needMark 5 = .ok (.if_icmp .ne 10, 3) := by decide +kernel
theorem dX10_needMark_8 : decode cX10_needMark 8 = .ok (.aload_n 0, 1) := by decide +kernel
theorem dX10_needMark_9 : decode cX10_needMark 9 = .ok (.invokevirtual 28, 3) := by decide +kernel
theorem dX10_needMark_12 : decode cX10_needMark 12 = .ok (.goto 8, 3) := by decide +kernel
theorem dX10_needMark_15 : decode cX10_needMark 15 = .ok (.aload_n 0, 1) := by decide +kernel
theorem dX10_needMark_16 : decode cX10_needMark 16 = .ok (.iconst 1, 1) := by decide +kernel
theorem dX10_needMark_17 : decode cX10_needMark 17 = .ok (.invokevirtual 57, 3) := by decide +kernel
theorem dX10_needMark_20 : decode cX10_needMark 20 = .ok (.return_, 1) := by decide +kernel
def f_X10_needMark (w : Wd) : Option (Wd) :=
  if (w.1 1 2) = 3 then
  (cv (f_X10_step w) fun w2 =>
  some w2)
  else
  cv (f_X10_fail 1 w) fun w1 =>
  some w1
set_option maxRecDepth 100000 in
set_option maxHeartbeats 4000000 in
theorem t_X10_needMark {Z : Cz (Wd)} (hZ : OKZ Z SC cX10_needMark RX10 1 none 2) (hE : EndV Z)   (w : Wd) : BW Z 1 0 [(0, .ref (ph (zY Z) 1))] [] w (f_X10_needMark w) :=
  bw_aload_n hZ 0 rfl dX10_needMark_0 <|
  bw_getI hZ fl_RX10_31 (by decide) obC_1 dX10_needMark_1 <|
  bw_iconst hZ 3 (by decide) dX10_needMark_4 <|
  bw_icmp_ne hZ (tgt := 15) (by decide) dX10_needMark_5 (fun _ =>
  bw_aload_n hZ 0 rfl dX10_needMark_15 <|
  bw_iconst hZ 1 (by decide) dX10_needMark_16 <|
  bw_callVV (As := [.int 1]) hZ ml_RX10_57 rc_10 obC_1 (by decide) (c_X10_fail (zl Z) (zY Z) (hZ_S hZ) 1 w) rfl rfl (Nat.le_of_ble_eq_true rfl) dX10_needMark_17 fun w1 =>
  bw_vret hZ hE dX10_needMark_20) (fun _ =>
  bw_aload_n hZ 0 rfl dX10_needMark_8 <|
  bw_callVV (As := []) hZ ml_RX10_28 rc_10 obC_1 (by decide) (c_X10_step (zl Z) (zY Z) (hZ_S hZ) w) rfl rfl (Nat.le_of_ble_eq_true rfl) dX10_needMark_9 fun w2 =>
  bw_goto hZ (tgt := 20) (by decide) dX10_needMark_12 <|
  bw_vret hZ hE dX10_needMark_20)
theorem c_X10_needMark (l : Launch) (Y : Ev) (hY : Y.1 = SC)   (w : Wd) : CV l Y yX10_needMark cX10_needMark 1 2 [.ref (ph Y 1)] w (f_X10_needMark w) := by
  refine CV_of (S := SC) (by decide) (Nat.le_of_ble_eq_true rfl) hY ?_
  intro Z hl hY2 hZ hE
  subst hY2
  exact t_X10_needMark hZ hE w
-- WhichWill$Tape.open
theorem dX10_open_0 : decode cX10_open 0 = .ok (.aload_n 0, 1) := by decide +kernel
theorem dX10_open_1 : decode cX10_open 1 = .ok (.iconst 0, 1) := by decide +kernel
theorem dX10_open_2 : decode cX10_open 2 = .ok (.putfield 22, 3) := by decide +kernel
theorem dX10_open_5 : decode cX10_open 5 = .ok (.aload_n 0, 1) := by decide +kernel
theorem dX10_open_6 : decode cX10_open 6 = .ok (.iconst (-1), 1) := by decide +kernel
theorem dX10_open_7 : decode cX10_open 7 = .ok (.putfield 15, 3) := by decide +kernel
theorem dX10_open_10 : decode cX10_open 10 = .ok (.aload_n 0, 1) := by decide +kernel
theorem dX10_open_11 : decode cX10_open 11 = .ok (.iconst 0, 1) := by decide +kernel
theorem dX10_open_12 : decode cX10_open 12 = .ok (.putfield 25, 3) := by decide +kernel
theorem dX10_open_15 : decode cX10_open 15 = .ok (.aload_n 0, 1) := by decide +kernel
theorem dX10_open_16 : decode cX10_open 16 = .ok (.invokevirtual 28, 3) := by decide +kernel
theorem dX10_open_19 : decode cX10_open 19 = .ok (.return_, 1) := by decide +kernel
def f_X10_open (w : Wd) : Option (Wd) :=
  lt (wI w 1 4 0) fun w1 =>
  lt (wI w1 1 5 ((-1))) fun w2 =>
  lt (wI w2 1 8 0) fun w3 =>
  cv (f_X10_step w3) fun w4 =>
  some w4
set_option maxRecDepth 100000 in
set_option maxHeartbeats 4000000 in
theorem t_X10_open {Z : Cz (Wd)} (hZ : OKZ Z SC cX10_open RX10 1 none 2) (hE : EndV Z)   (w : Wd) : BW Z 1 0 [(0, .ref (ph (zY Z) 1))] [] w (f_X10_open w) :=
  bw_aload_n hZ 0 rfl dX10_open_0 <|
  bw_iconst hZ 0 (by decide) dX10_open_1 <|
  bw_putI hZ fl_RX10_22 rfl rfl (by decide) obC_1 dX10_open_2 fun w1 =>
  bw_aload_n hZ 0 rfl dX10_open_5 <|
  bw_iconst hZ (-1) (by decide) dX10_open_6 <|
  bw_putI hZ fl_RX10_15 rfl rfl (by decide) obC_1 dX10_open_7 fun w2 =>
  bw_aload_n hZ 0 rfl dX10_open_10 <|
  bw_iconst hZ 0 (by decide) dX10_open_11 <|
  bw_putI hZ fl_RX10_25 rfl rfl (by decide) obC_1 dX10_open_12 fun w3 =>
  bw_aload_n hZ 0 rfl dX10_open_15 <|
  bw_callVV (As := []) hZ ml_RX10_28 rc_10 obC_1 (by decide) (c_X10_step (zl Z) (zY Z) (hZ_S hZ) w3) rfl rfl (Nat.le_of_ble_eq_true rfl) dX10_open_16 fun w4 =>
  bw_vret hZ hE dX10_open_19
theorem c_X10_open (l : Launch) (Y : Ev) (hY : Y.1 = SC)   (w : Wd) : CV l Y yX10_open cX10_open 1 2 [.ref (ph Y 1)] w (f_X10_open w) := by
  refine CV_of (S := SC) (by decide) (Nat.le_of_ble_eq_true rfl) hY ?_
  intro Z hl hY2 hZ hE
  subst hY2
  exact t_X10_open hZ hE w
-- WhichWill$Estate.readText
theorem dX0_readText_0 : decode cX0_readText 0 = .ok (.aload_n 0, 1) := by decide +kernel
theorem dX0_readText_1 : decode cX0_readText 1 = .ok (.invokevirtual 79, 3) := by decide +kernel
theorem dX0_readText_4 : decode cX0_readText 4 = .ok (.aload_n 1, 1) := by decide +kernel
theorem dX0_readText_5 : decode cX0_readText 5 = .ok (.invokevirtual 82, 3) := by decide +kernel
theorem dX0_readText_8 : decode cX0_readText 8 = .ok (.iconst 0, 1) := by decide +kernel
theorem dX0_readText_9 : decode cX0_readText 9 = .ok (.istore_n 2, 1) := by decide +kernel
theorem dX0_readText_10 : decode cX0_readText 10 = .ok (.iload_n 2, 1) := by decide +kernel
theorem dX0_readText_11 : decode cX0_readText 11 = .ok (.sipush 900, 3) := by decide +kernel
theorem dX0_readText_14 : decode cX0_readText 14 = .ok (.if_icmp .ge 35, 3) := by decide +kernel
theorem dX0_readText_17 : decode cX0_readText 17 = .ok (.aload_n 1, 1) := by decide +kernel
theorem dX0_readText_18 : decode cX0_readText 18 = .ok (.invokevirtual 87, 3) := by decide +kernel
theorem dX0_readText_21 : decode cX0_readText 21 = .ok (.ifCond .eq 28, 3) := by decide +kernel
theorem dX0_readText_24 : decode cX0_readText 24 = .ok (.aload_n 0, 1) := by decide +kernel
theorem dX0_readText_25 : decode cX0_readText 25 = .ok (.aload_n 1, 1) := by decide +kernel
theorem dX0_readText_26 : decode cX0_readText 26 = .ok (.invokevirtual 91, 3) := by decide +kernel
theorem dX0_readText_29 : decode cX0_readText 29 = .ok (.aload_n 1, 1) := by decide +kernel
theorem dX0_readText_30 : decode cX0_readText 30 = .ok (.invokevirtual 95, 3) := by decide +kernel
theorem dX0_readText_33 : decode cX0_readText 33 = .ok (.aload_n 0, 1) := by decide +kernel
theorem dX0_readText_34 : decode cX0_readText 34 = .ok (.dup, 1) := by decide +kernel
theorem dX0_readText_35 : decode cX0_readText 35 = .ok (.getfield 73, 3) := by decide +kernel
theorem dX0_readText_38 : decode cX0_readText 38 = .ok (.iconst 1, 1) := by decide +kernel
theorem dX0_readText_39 : decode cX0_readText 39 = .ok (.iadd, 1) := by decide +kernel
theorem dX0_readText_40 : decode cX0_readText 40 = .ok (.putfield 73, 3) := by decide +kernel
theorem dX0_readText_43 : decode cX0_readText 43 = .ok (.iinc 2 1, 3) := by decide +kernel
theorem dX0_readText_46 : decode cX0_readText 46 = .ok (.goto (-36), 3) := by decide +kernel
theorem dX0_readText_49 : decode cX0_readText 49 = .ok (.aload_n 1, 1) := by decide +kernel
theorem dX0_readText_50 : decode cX0_readText 50 = .ok (.invokevirtual 98, 3) := by decide +kernel
theorem dX0_readText_53 : decode cX0_readText 53 = .ok (.ifCond .eq 5, 3) := by decide +kernel
theorem dX0_readText_56 : decode cX0_readText 56 = .ok (.iconst 0, 1) := by decide +kernel
theorem dX0_readText_57 : decode cX0_readText 57 = .ok (.ireturn, 1) := by decide +kernel
theorem dX0_readText_58 : decode cX0_readText 58 = .ok (.aload_n 0, 1) := by decide +kernel
theorem dX0_readText_59 : decode cX0_readText 59 = .ok (.invokevirtual 101, 3) := by decide +kernel
theorem dX0_readText_62 : decode cX0_readText 62 = .ok (.aload_n 0, 1) := by decide +kernel
theorem dX0_readText_63 : decode cX0_readText 63 = .ok (.invokevirtual 104, 3) := by decide +kernel
theorem dX0_readText_66 : decode cX0_readText 66 = .ok (.iconst 1, 1) := by decide +kernel
theorem dX0_readText_67 : decode cX0_readText 67 = .ok (.ireturn, 1) := by decide +kernel
def X0_readText_b49 (w : Wd) : Option (Int32 × Wd) :=
  cl (f_X10_hasFailed w) fun r4 w3 =>
  if r4 = 0 then
  (cv (f_X0_fillUntoldLands w3) fun w5 =>
  cv (f_X0_findStems w5) fun w6 =>
  some (1, w6))
  else
  some (0, w3)
set_option maxRecDepth 100000 in
set_option maxHeartbeats 4000000 in
theorem t_X0_readText_b49 {Z : Cz (Int32 × Wd)} (hZ : OKZ Z SC cX0_readText RX0 3 (some .boolean) 10) (hE : EndI Z)    (w : Wd) : BW Z 3 49 [(0, .ref (ph (zY Z) 44)), (1, .ref (ph (zY Z) 1))] [] w (X0_readText_b49 w) :=
  bw_aload_n hZ 1 rfl dX0_readText_49 <|
  bw_callVI (As := []) hZ ml_RX0_98 rc_10 obC_1 (by decide) (c_X10_hasFailed (zl Z) (zY Z) (hZ_S hZ) w) rfl rfl (Nat.le_of_ble_eq_true rfl) dX0_readText_50 fun r4 w3 =>
  bw_if_eq hZ (tgt := 58) (by decide) dX0_readText_53 (fun _ =>
  bw_aload_n hZ 0 rfl dX0_readText_58 <|
  bw_callVV (As := []) hZ ml_RX0_101 rc_0 obC_44 (by decide) (c_X0_fillUntoldLands (zl Z) (zY Z) (hZ_S hZ) w3) rfl rfl (Nat.le_of_ble_eq_true rfl) dX0_readText_59 fun w5 =>
  bw_aload_n hZ 0 rfl dX0_readText_62 <|
  bw_callVV (As := []) hZ ml_RX0_104 rc_0 obC_44 (by decide) (c_X0_findStems (zl Z) (zY Z) (hZ_S hZ) w5) rfl rfl (Nat.le_of_ble_eq_true rfl) dX0_readText_63 fun w6 =>
  bw_iconst hZ 1 (by decide) dX0_readText_66 <|
  bw_zret hZ hE (by decide) dX0_readText_67) (fun _ =>
  bw_iconst hZ 0 (by decide) dX0_readText_56 <|
  bw_zret hZ hE (by decide) dX0_readText_57)
def X0_readText_b10 (k10 : Int32 → Wd → Option (Int32 × Wd)) (y2 : Int32) (w : Wd) : Option (Int32 × Wd) :=
  if 900 ≤ y2 then
  (X0_readText_b49 w)
  else
  cl (f_X10_goesOn w) fun r8 w7 =>
  if r8 = 0 then
  (X0_readText_b49 w7)
  else
  cv (f_X0_readClause w7) fun w9 =>
  cv (f_X10_needMark w9) fun w10 =>
  lt (wI w10 44 17 ((w10.1 44 17) + 1)) fun w11 =>
  k10 (y2 + 1) w11
set_option maxRecDepth 100000 in
set_option maxHeartbeats 4000000 in
theorem t_X0_readText_b10 {Z : Cz (Int32 × Wd)} (hZ : OKZ Z SC cX0_readText RX0 3 (some .boolean) 10) (hE : EndI Z) (k10 : Int32 → Wd → Option (Int32 × Wd)) (hk10 : ∀ (y2 : Int32)  (w : Wd), BW Z 3 10 [(0, .ref (ph (zY Z) 44)), (1, .ref (ph (zY Z) 1)), (2, .int y2)] [] w (k10 y2 w)) (y2 : Int32)  (w : Wd) : BW Z 3 10 [(0, .ref (ph (zY Z) 44)), (1, .ref (ph (zY Z) 1)), (2, .int y2)] [] w (X0_readText_b10 k10 y2 w) :=
  bw_iload_n hZ 2 rfl dX0_readText_10 <|
  bw_sipush hZ 900 (by decide) dX0_readText_11 <|
  bw_icmp_ge hZ (tgt := 49) (by decide) dX0_readText_14 (fun _ =>
  bw_sub [0, 1] rfl (t_X0_readText_b49 hZ hE w)) (fun _ =>
  bw_aload_n hZ 1 rfl dX0_readText_17 <|
  bw_callVI (As := []) hZ ml_RX0_87 rc_10 obC_1 (by decide) (c_X10_goesOn (zl Z) (zY Z) (hZ_S hZ) w) rfl rfl (Nat.le_of_ble_eq_true rfl) dX0_readText_18 fun r8 w7 =>
  bw_if_eq hZ (tgt := 49) (by decide) dX0_readText_21 (fun _ =>
  bw_sub [0, 1] rfl (t_X0_readText_b49 hZ hE w7)) (fun _ =>
  bw_aload_n hZ 0 rfl dX0_readText_24 <|
  bw_aload_n hZ 1 rfl dX0_readText_25 <|
  bw_callVV (As := [.ref (ph (zY Z) 1)]) hZ ml_RX0_91 rc_0 obC_44 (by decide) (c_X0_readClause (zl Z) (zY Z) (hZ_S hZ) w7) rfl rfl (Nat.le_of_ble_eq_true rfl) dX0_readText_26 fun w9 =>
  bw_aload_n hZ 1 rfl dX0_readText_29 <|
  bw_callVV (As := []) hZ ml_RX0_95 rc_10 obC_1 (by decide) (c_X10_needMark (zl Z) (zY Z) (hZ_S hZ) w9) rfl rfl (Nat.le_of_ble_eq_true rfl) dX0_readText_30 fun w10 =>
  bw_aload_n hZ 0 rfl dX0_readText_33 <|
  bw_dup hZ rfl dX0_readText_34 <|
  bw_getI hZ fl_RX0_73 (by decide) obC_44 dX0_readText_35 <|
  bw_iconst hZ 1 (by decide) dX0_readText_38 <|
  bw_iadd hZ dX0_readText_39 <|
  bw_putI hZ fl_RX0_73 rfl rfl (by decide) obC_44 dX0_readText_40 fun w11 =>
  bw_iinc hZ 1 2 rfl (by decide) (by decide) rfl dX0_readText_43 <|
  bw_goto hZ (tgt := 10) (by decide) dX0_readText_46 <|
  bw_sub [1, 2, 0] rfl (hk10 (y2 + 1) w11)))
def X0_readText_b10_L  : Int32 → Wd → Option (Int32 × Wd) :=
  lp fu (fun _ _ => none) (fun k10 => X0_readText_b10 k10)
theorem t_X0_readText_b10_L {Z : Cz (Int32 × Wd)} (hZ : OKZ Z SC cX0_readText RX0 3 (some .boolean) 10) (hE : EndI Z)  : ∀ (y2 : Int32)  (w : Wd), BW Z 3 10 [(0, .ref (ph (zY Z) 44)), (1, .ref (ph (zY Z) 1)), (2, .int y2)] [] w (X0_readText_b10_L y2 w) :=
  lp_bw (fun k10 => ∀ (y2 : Int32)  (w : Wd), BW Z 3 10 [(0, .ref (ph (zY Z) 44)), (1, .ref (ph (zY Z) 1)), (2, .int y2)] [] w (k10 y2 w)) (fun _ _ => bw_none) (fun k10 hk10 y2 w => t_X0_readText_b10 hZ hE k10 hk10 y2 w) fu
def f_X0_readText (w : Wd) : Option (Int32 × Wd) :=
  cv (f_X0_clear w) fun w1 =>
  cv (f_X10_open w1) fun w2 =>
  X0_readText_b10_L 0 w2
set_option maxRecDepth 100000 in
set_option maxHeartbeats 4000000 in
theorem t_X0_readText {Z : Cz (Int32 × Wd)} (hZ : OKZ Z SC cX0_readText RX0 3 (some .boolean) 10) (hE : EndI Z)   (w : Wd) : BW Z 3 0 [(0, .ref (ph (zY Z) 44)), (1, .ref (ph (zY Z) 1))] [] w (f_X0_readText w) :=
  bw_aload_n hZ 0 rfl dX0_readText_0 <|
  bw_callVV (As := []) hZ ml_RX0_79 rc_0 obC_44 (by decide) (c_X0_clear (zl Z) (zY Z) (hZ_S hZ) w) rfl rfl (Nat.le_of_ble_eq_true rfl) dX0_readText_1 fun w1 =>
  bw_aload_n hZ 1 rfl dX0_readText_4 <|
  bw_callVV (As := []) hZ ml_RX0_82 rc_10 obC_1 (by decide) (c_X10_open (zl Z) (zY Z) (hZ_S hZ) w1) rfl rfl (Nat.le_of_ble_eq_true rfl) dX0_readText_5 fun w2 =>
  bw_iconst hZ 0 (by decide) dX0_readText_8 <|
  bw_istore_n hZ rfl (by decide) rfl dX0_readText_9 <|
  bw_sub [1, 2, 0] rfl (t_X0_readText_b10_L hZ hE 0 w2)
theorem c_X0_readText (l : Launch) (Y : Ev) (hY : Y.1 = SC)   (w : Wd) : CI l Y yX0_readText cX0_readText 3 10 [.ref (ph Y 44), .ref (ph Y 1)] w .boolean (f_X0_readText w) := by
  refine CI_of (S := SC) (by decide) (Nat.le_of_ble_eq_true rfl) hY ?_
  intro Z hl hY2 hZ hE
  subst hY2
  exact t_X0_readText hZ hE w
-- WhichWill$Estate.isOfTheLine
theorem dX0_isOfTheLine_0 : decode cX0_isOfTheLine 0 = .ok (.aload_n 0, 1) := by decide +kernel
theorem dX0_isOfTheLine_1 : decode cX0_isOfTheLine 1 = .ok (.getfield 30, 3) := by decide +kernel
theorem dX0_isOfTheLine_4 : decode cX0_isOfTheLine 4 = .ok (.iload_n 1, 1) := by decide +kernel
theorem dX0_isOfTheLine_5 : decode cX0_isOfTheLine 5 = .ok (.iaload, 1) := by decide +kernel
theorem dX0_isOfTheLine_6 : decode cX0_isOfTheLine 6 = .ok (.iconst 1, 1) := by decide +kernel
theorem dX0_isOfTheLine_7 : decode cX0_isOfTheLine 7 = .ok (.if_icmp .eq 13, 3) := by decide +kernel
theorem dX0_isOfTheLine_10 : decode cX0_isOfTheLine 10 = .ok (.aload_n 0, 1) := by decide +kernel
theorem dX0_isOfTheLine_11 : decode cX0_isOfTheLine 11 = .ok (.getfield 30, 3) := by decide +kernel
theorem dX0_isOfTheLine_14 : decode cX0_isOfTheLine 14 = .ok (.iload_n 1, 1) := by decide +kernel
theorem dX0_isOfTheLine_15 : decode cX0_isOfTheLine 15 = .ok (.iaload, 1) := by decide +kernel
theorem dX0_isOfTheLine_16 : decode cX0_isOfTheLine 16 = .ok (.iconst 2, 1) := by decide +kernel
theorem dX0_isOfTheLine_17 : decode cX0_isOfTheLine 17 = .ok (.if_icmp .ne 7, 3) := by decide +kernel
theorem dX0_isOfTheLine_20 : decode cX0_isOfTheLine 20 = .ok (.iconst 1, 1) := by decide +kernel
theorem dX0_isOfTheLine_21 : decode cX0_isOfTheLine 21 = .ok (.goto 4, 3) := by decide +kernel
theorem dX0_isOfTheLine_24 : decode cX0_isOfTheLine 24 = .ok (.iconst 0, 1) := by decide +kernel
theorem dX0_isOfTheLine_25 : decode cX0_isOfTheLine 25 = .ok (.ireturn, 1) := by decide +kernel
def f_X0_isOfTheLine (x1 : Int32) (w : Wd) : Option (Int32 × Wd) :=
  if inb x1 8 = true then
  (if (w.1 39 (Int32.toNatClampNeg x1)) = 1 then
  (some (1, w))
  else
  if inb x1 8 = true then
  (if (w.1 39 (Int32.toNatClampNeg x1)) = 2 then
  (some (1, w))
  else
  some (0, w))
  else none)
  else none
set_option maxRecDepth 100000 in
set_option maxHeartbeats 4000000 in
theorem t_X0_isOfTheLine {Z : Cz (Int32 × Wd)} (hZ : OKZ Z SC cX0_isOfTheLine RX0 2 (some .boolean) 1) (hE : EndI Z) (x1 : Int32)  (w : Wd) : BW Z 2 0 [(0, .ref (ph (zY Z) 31)), (1, .int x1)] [] w (f_X0_isOfTheLine x1 w) :=
  bw_aload_n hZ 0 rfl dX0_isOfTheLine_0 <|
  bw_getR hZ fl_RX0_30 obC_31 rfl dX0_isOfTheLine_1 <|
  bw_iload_n hZ 1 rfl dX0_isOfTheLine_4 <|
  bw_iald hZ (arC_39 _) dX0_isOfTheLine_5 <|
  bw_iconst hZ 1 (by decide) dX0_isOfTheLine_6 <|
  bw_icmp_eq hZ (tgt := 20) (by decide) dX0_isOfTheLine_7 (fun _ =>
  bw_iconst hZ 1 (by decide) dX0_isOfTheLine_20 <|
  bw_goto hZ (tgt := 25) (by decide) dX0_isOfTheLine_21 <|
  bw_zret hZ hE (by decide) dX0_isOfTheLine_25) (fun _ =>
  bw_aload_n hZ 0 rfl dX0_isOfTheLine_10 <|
  bw_getR hZ fl_RX0_30 obC_31 rfl dX0_isOfTheLine_11 <|
  bw_iload_n hZ 1 rfl dX0_isOfTheLine_14 <|
  bw_iald hZ (arC_39 _) dX0_isOfTheLine_15 <|
  bw_iconst hZ 2 (by decide) dX0_isOfTheLine_16 <|
  bw_icmp_ne hZ (tgt := 24) (by decide) dX0_isOfTheLine_17 (fun _ =>
  bw_iconst hZ 0 (by decide) dX0_isOfTheLine_24 <|
  bw_zret hZ hE (by decide) dX0_isOfTheLine_25) (fun _ =>
  bw_iconst hZ 1 (by decide) dX0_isOfTheLine_20 <|
  bw_goto hZ (tgt := 25) (by decide) dX0_isOfTheLine_21 <|
  bw_zret hZ hE (by decide) dX0_isOfTheLine_25))
theorem c_X0_isOfTheLine (l : Launch) (Y : Ev) (hY : Y.1 = SC) (x1 : Int32)  (w : Wd) : CI l Y yX0_isOfTheLine cX0_isOfTheLine 2 1 [.ref (ph Y 31), .int x1] w .boolean (f_X0_isOfTheLine x1 w) := by
  refine CI_of (S := SC) (by decide) (Nat.le_of_ble_eq_true rfl) hY ?_
  intro Z hl hY2 hZ hE
  subst hY2
  exact t_X0_isOfTheLine hZ hE x1 w
-- WhichWill$Estate.ruleOf
theorem dX0_ruleOf_0 : decode cX0_ruleOf 0 = .ok (.aload_n 0, 1) := by decide +kernel
theorem dX0_ruleOf_1 : decode cX0_ruleOf 1 = .ok (.getfield 26, 3) := by decide +kernel
theorem dX0_ruleOf_4 : decode cX0_ruleOf 4 = .ok (.iload_n 1, 1) := by decide +kernel
theorem dX0_ruleOf_5 : decode cX0_ruleOf 5 = .ok (.bipush 13, 2) := by decide +kernel
theorem dX0_ruleOf_7 : decode cX0_ruleOf 7 = .ok (.imul, 1) := by decide +kernel
theorem dX0_ruleOf_8 : decode cX0_ruleOf 8 = .ok (.iload_n 2, 1) := by decide +kernel
theorem dX0_ruleOf_9 : decode cX0_ruleOf 9 = .ok (.iadd, 1) := by decide +kernel
theorem dX0_ruleOf_10 : decode cX0_ruleOf 10 = .ok (.iaload, 1) := by decide +kernel
theorem dX0_ruleOf_11 : decode cX0_ruleOf 11 = .ok (.ireturn, 1) := by decide +kernel
def f_X0_ruleOf (x1 : Int32) (x2 : Int32) (w : Wd) : Option (Int32 × Wd) :=
  if inb ((x1 * 13) + x2) 52 = true then
  (some (w.1 38 (Int32.toNatClampNeg ((x1 * 13) + x2)), w))
  else none
set_option maxRecDepth 100000 in
set_option maxHeartbeats 4000000 in
theorem t_X0_ruleOf {Z : Cz (Int32 × Wd)} (hZ : OKZ Z SC cX0_ruleOf RX0 3 (some .int) 1) (hE : EndI Z) (x1 : Int32) (x2 : Int32)  (w : Wd) : BW Z 3 0 [(0, .ref (ph (zY Z) 31)), (1, .int x1), (2, .int x2)] [] w (f_X0_ruleOf x1 x2 w) :=
  bw_aload_n hZ 0 rfl dX0_ruleOf_0 <|
  bw_getR hZ fl_RX0_26 obC_31 rfl dX0_ruleOf_1 <|
  bw_iload_n hZ 1 rfl dX0_ruleOf_4 <|
  bw_bipush hZ 13 (by decide) dX0_ruleOf_5 <|
  bw_imul hZ dX0_ruleOf_7 <|
  bw_iload_n hZ 2 rfl dX0_ruleOf_8 <|
  bw_iadd hZ dX0_ruleOf_9 <|
  bw_iald hZ (arC_38 _) dX0_ruleOf_10 <|
  bw_iret hZ hE dX0_ruleOf_11
theorem c_X0_ruleOf (l : Launch) (Y : Ev) (hY : Y.1 = SC) (x1 : Int32) (x2 : Int32)  (w : Wd) : CI l Y yX0_ruleOf cX0_ruleOf 3 1 [.ref (ph Y 31), .int x1, .int x2] w .int (f_X0_ruleOf x1 x2 w) := by
  refine CI_of (S := SC) (by decide) (Nat.le_of_ble_eq_true rfl) hY ?_
  intro Z hl hY2 hZ hE
  subst hY2
  exact t_X0_ruleOf hZ hE x1 x2 w
-- WhichWill$Estate.moneyThereIs
theorem dX0_moneyThereIs_0 : decode cX0_moneyThereIs 0 = .ok (.iconst 0, 1) := by decide +kernel
theorem dX0_moneyThereIs_1 : decode cX0_moneyThereIs 1 = .ok (.aload_n 0, 1) := by decide +kernel
theorem dX0_moneyThereIs_2 : decode cX0_moneyThereIs 2 = .ok (.getfield 67, 3) := by decide +kernel
theorem dX0_moneyThereIs_5 : decode cX0_moneyThereIs 5 = .ok (.aload_n 0, 1) := by decide +kernel
theorem dX0_moneyThereIs_6 : decode cX0_moneyThereIs 6 = .ok (.getfield 70, 3) := by decide +kernel
theorem dX0_moneyThereIs_9 : decode cX0_moneyThereIs 9 = .ok (.isub, 1) := by decide +kernel
theorem dX0_moneyThereIs_10 : decode cX0_moneyThereIs 10 = .ok (.invokestatic 247, 3) := by decide +kernel
theorem dX0_moneyThereIs_13 : decode cX0_moneyThereIs 13 = .ok (.ireturn, 1) := by decide +kernel
def f_X0_moneyThereIs (w : Wd) : Option (Int32 × Wd) :=
  some (if (0 : Int32) < ((w.1 31 15) - (w.1 31 16)) then (w.1 31 15) - (w.1 31 16) else 0, w)
set_option maxRecDepth 100000 in
set_option maxHeartbeats 4000000 in
theorem t_X0_moneyThereIs {Z : Cz (Int32 × Wd)} (hZ : OKZ Z SC cX0_moneyThereIs RX0 1 (some .int) 1) (hE : EndI Z)   (w : Wd) : BW Z 1 0 [(0, .ref (ph (zY Z) 31))] [] w (f_X0_moneyThereIs w) :=
  bw_iconst hZ 0 (by decide) dX0_moneyThereIs_0 <|
  bw_aload_n hZ 0 rfl dX0_moneyThereIs_1 <|
  bw_getI hZ fl_RX0_67 (by decide) obC_31 dX0_moneyThereIs_2 <|
  bw_aload_n hZ 0 rfl dX0_moneyThereIs_5 <|
  bw_getI hZ fl_RX0_70 (by decide) obC_31 dX0_moneyThereIs_6 <|
  bw_isub hZ dX0_moneyThereIs_9 <|
  bw_mmax hZ kl_RX0_247 km_max (by decide) (Nat.le_of_ble_eq_true rfl) dX0_moneyThereIs_10 <|
  bw_iret hZ hE dX0_moneyThereIs_13
theorem c_X0_moneyThereIs (l : Launch) (Y : Ev) (hY : Y.1 = SC)   (w : Wd) : CI l Y yX0_moneyThereIs cX0_moneyThereIs 1 1 [.ref (ph Y 31)] w .int (f_X0_moneyThereIs w) := by
  refine CI_of (S := SC) (by decide) (Nat.le_of_ble_eq_true rfl) hY ?_
  intro Z hl hY2 hZ hE
  subst hY2
  exact t_X0_moneyThereIs hZ hE w
-- WhichWill$Estate.landNamedBy
theorem dX0_landNamedBy_0 : decode cX0_landNamedBy 0 = .ok (.aload_n 0, 1) := by decide +kernel
theorem dX0_landNamedBy_1 : decode cX0_landNamedBy 1 = .ok (.iload_n 1, 1) := by decide +kernel
theorem dX0_landNamedBy_2 : decode cX0_landNamedBy 2 = .ok (.iload_n 2, 1) := by decide +kernel
theorem dX0_landNamedBy_3 : decode cX0_landNamedBy 3 = .ok (.iconst (-1), 1) := by decide +kernel
theorem dX0_landNamedBy_4 : decode cX0_landNamedBy 4 = .ok (.if_icmp .ne 8, 3) := by decide +kernel
theorem dX0_landNamedBy_7 : decode cX0_landNamedBy 7 = .ok (.bipush 12, 2) := by decide +kernel
theorem dX0_landNamedBy_9 : decode cX0_landNamedBy 9 = .ok (.goto 5, 3) := by decide +kernel
theorem dX0_landNamedBy_12 : decode cX0_landNamedBy 12 = .ok (.bipush 11, 2) := by decide +kernel
theorem dX0_landNamedBy_14 : decode cX0_landNamedBy 14 = .ok (.invokevirtual 255, 3) := by decide +kernel
theorem dX0_landNamedBy_17 : decode cX0_landNamedBy 17 = .ok (.tableswitch 48 1 3 #[27, 38, 43], 27) := by decide +kernel
theorem dX0_landNamedBy_44 : decode cX0_landNamedBy 44 = .ok (.iload_n 2, 1) := by decide +kernel
theorem dX0_landNamedBy_45 : decode cX0_landNamedBy 45 = .ok (.iconst (-1), 1) := by decide +kernel
theorem dX0_landNamedBy_46 : decode cX0_landNamedBy 46 = .ok (.if_icmp .ne 7, 3) := by decide +kernel
theorem dX0_landNamedBy_49 : decode cX0_landNamedBy 49 = .ok (.iload_n 1, 1) := by decide +kernel
theorem dX0_landNamedBy_50 : decode cX0_landNamedBy 50 = .ok (.goto 4, 3) := by decide +kernel
theorem dX0_landNamedBy_53 : decode cX0_landNamedBy 53 = .ok (.iload_n 2, 1) := by decide +kernel
theorem dX0_landNamedBy_54 : decode cX0_landNamedBy 54 = .ok (.ireturn, 1) := by decide +kernel
theorem dX0_landNamedBy_55 : decode cX0_landNamedBy 55 = .ok (.aload_n 0, 1) := by decide +kernel
theorem dX0_landNamedBy_56 : decode cX0_landNamedBy 56 = .ok (.getfield 52, 3) := by decide +kernel
theorem dX0_landNamedBy_59 : decode cX0_landNamedBy 59 = .ok (.ireturn, 1) := by decide +kernel
theorem dX0_landNamedBy_60 : decode cX0_landNamedBy 60 = .ok (.aload_n 0, 1) := by decide +kernel
theorem dX0_landNamedBy_61 : decode cX0_landNamedBy 61 = .ok (.getfield 55, 3) := by decide +kernel
theorem dX0_landNamedBy_64 : decode cX0_landNamedBy 64 = .ok (.ireturn, 1) := by decide +kernel
theorem dX0_landNamedBy_65 : decode cX0_landNamedBy 65 = .ok (.iload_n 1, 1) := by decide +kernel
theorem dX0_landNamedBy_66 : decode cX0_landNamedBy 66 = .ok (.ireturn, 1) := by decide +kernel
def X0_landNamedBy_b14 (y1 : Int32) (y2 : Int32) (t0 : Int32) (t1 : Int32) (w : Wd) : Option (Int32 × Wd) :=
  cl (f_X0_ruleOf t1 t0 w) fun r2 w1 =>
  if r2 = 1 then
  (if y2 = ((-1)) then
  (some (y1, w1))
  else
  some (y2, w1))
  else
  if r2 = 2 then
  (some (w1.1 31 13, w1))
  else
  if r2 = 3 then
  (some (w1.1 31 14, w1))
  else
  some (y1, w1)
set_option maxRecDepth 100000 in
set_option maxHeartbeats 4000000 in
theorem t_X0_landNamedBy_b14 {Z : Cz (Int32 × Wd)} (hZ : OKZ Z SC cX0_landNamedBy RX0 3 (some .int) 2) (hE : EndI Z)  (y1 : Int32) (y2 : Int32) (t0 : Int32) (t1 : Int32)  (w : Wd) : BW Z 3 14 [(0, .ref (ph (zY Z) 31)), (1, .int y1), (2, .int y2)] [.int t0, .int t1, .ref (ph (zY Z) 31)] w (X0_landNamedBy_b14 y1 y2 t0 t1 w) :=
  bw_callVI (As := [.int t1, .int t0]) hZ ml_RX0_255 rc_0 obC_31 (by decide) (c_X0_ruleOf (zl Z) (zY Z) (hZ_S hZ) t1 t0 w) rfl rfl (Nat.le_of_ble_eq_true rfl) dX0_landNamedBy_14 fun r2 w1 =>
  bw_if (fun h => bw_tabIn hZ (tgt := 44) (off := 27) 1 (by rw [h]; decide) (by decide) (by decide) (by decide) (by decide) dX0_landNamedBy_17 <|
  bw_iload_n hZ 2 rfl dX0_landNamedBy_44 <|
  bw_iconst hZ (-1) (by decide) dX0_landNamedBy_45 <|
  bw_icmp_ne hZ (tgt := 53) (by decide) dX0_landNamedBy_46 (fun _ =>
  bw_iload_n hZ 2 rfl dX0_landNamedBy_53 <|
  bw_iret hZ hE dX0_landNamedBy_54) (fun _ =>
  bw_iload_n hZ 1 rfl dX0_landNamedBy_49 <|
  bw_goto hZ (tgt := 54) (by decide) dX0_landNamedBy_50 <|
  bw_iret hZ hE dX0_landNamedBy_54)) (fun h1 =>
  bw_if (fun h => bw_tabIn hZ (tgt := 55) (off := 38) 2 (by rw [h]; decide) (by decide) (by decide) (by decide) (by decide) dX0_landNamedBy_17 <|
  bw_aload_n hZ 0 rfl dX0_landNamedBy_55 <|
  bw_getI hZ fl_RX0_52 (by decide) obC_31 dX0_landNamedBy_56 <|
  bw_iret hZ hE dX0_landNamedBy_59) (fun h2 =>
  bw_if (fun h => bw_tabIn hZ (tgt := 60) (off := 43) 3 (by rw [h]; decide) (by decide) (by decide) (by decide) (by decide) dX0_landNamedBy_17 <|
  bw_aload_n hZ 0 rfl dX0_landNamedBy_60 <|
  bw_getI hZ fl_RX0_55 (by decide) obC_31 dX0_landNamedBy_61 <|
  bw_iret hZ hE dX0_landNamedBy_64) (fun h3 =>
  bw_tabOut hZ (tgt := 65) (by have q1 := ne_int h1 (n := 1) (by decide); have q2 := ne_int h2 (n := 2) (by decide); have q3 := ne_int h3 (n := 3) (by decide); omega) (by decide) dX0_landNamedBy_17 <|
  bw_iload_n hZ 1 rfl dX0_landNamedBy_65 <|
  bw_iret hZ hE dX0_landNamedBy_66)))
def f_X0_landNamedBy (x1 : Int32) (x2 : Int32) (w : Wd) : Option (Int32 × Wd) :=
  if x2 = ((-1)) then
  (X0_landNamedBy_b14 x1 x2 12 x1 w)
  else
  X0_landNamedBy_b14 x1 x2 11 x1 w
set_option maxRecDepth 100000 in
set_option maxHeartbeats 4000000 in
theorem t_X0_landNamedBy {Z : Cz (Int32 × Wd)} (hZ : OKZ Z SC cX0_landNamedBy RX0 3 (some .int) 2) (hE : EndI Z) (x1 : Int32) (x2 : Int32)  (w : Wd) : BW Z 3 0 [(0, .ref (ph (zY Z) 31)), (1, .int x1), (2, .int x2)] [] w (f_X0_landNamedBy x1 x2 w) :=
  bw_aload_n hZ 0 rfl dX0_landNamedBy_0 <|
  bw_iload_n hZ 1 rfl dX0_landNamedBy_1 <|
  bw_iload_n hZ 2 rfl dX0_landNamedBy_2 <|
  bw_iconst hZ (-1) (by decide) dX0_landNamedBy_3 <|
  bw_icmp_ne hZ (tgt := 12) (by decide) dX0_landNamedBy_4 (fun _ =>
  bw_bipush hZ 11 (by decide) dX0_landNamedBy_12 <|
  bw_sub [0, 1, 2] rfl (t_X0_landNamedBy_b14 hZ hE x1 x2 11 x1 w)) (fun _ =>
  bw_bipush hZ 12 (by decide) dX0_landNamedBy_7 <|
  bw_goto hZ (tgt := 14) (by decide) dX0_landNamedBy_9 <|
  bw_sub [0, 1, 2] rfl (t_X0_landNamedBy_b14 hZ hE x1 x2 12 x1 w))
theorem c_X0_landNamedBy (l : Launch) (Y : Ev) (hY : Y.1 = SC) (x1 : Int32) (x2 : Int32)  (w : Wd) : CI l Y yX0_landNamedBy cX0_landNamedBy 3 2 [.ref (ph Y 31), .int x1, .int x2] w .int (f_X0_landNamedBy x1 x2 w) := by
  refine CI_of (S := SC) (by decide) (Nat.le_of_ble_eq_true rfl) hY ?_
  intro Z hl hY2 hZ hE
  subst hY2
  exact t_X0_landNamedBy hZ hE x1 x2 w
-- WhichWill$Estate.lawAndRing
theorem dX0_lawAndRing_0 : decode cX0_lawAndRing 0 = .ok (.iload_n 1, 1) := by decide +kernel
theorem dX0_lawAndRing_1 : decode cX0_lawAndRing 1 = .ok (.iconst (-1), 1) := by decide +kernel
theorem dX0_lawAndRing_2 : decode cX0_lawAndRing 2 = .ok (.if_icmp .ne 7, 3) := by decide +kernel
theorem dX0_lawAndRing_5 : decode cX0_lawAndRing 5 = .ok (.iconst (-1), 1) := by decide +kernel
theorem dX0_lawAndRing_6 : decode cX0_lawAndRing 6 = .ok (.goto 9, 3) := by decide +kernel
theorem dX0_lawAndRing_9 : decode cX0_lawAndRing 9 = .ok (.aload_n 0, 1) := by decide +kernel
theorem dX0_lawAndRing_10 : decode cX0_lawAndRing 10 = .ok (.getfield 39, 3) := by decide +kernel
theorem dX0_lawAndRing_13 : decode cX0_lawAndRing 13 = .ok (.iload_n 1, 1) := by decide +kernel
theorem dX0_lawAndRing_14 : decode cX0_lawAndRing 14 = .ok (.iaload, 1) := by decide +kernel
theorem dX0_lawAndRing_15 : decode cX0_lawAndRing 15 = .ok (.istore_n 2, 1) := by decide +kernel
theorem dX0_lawAndRing_16 : decode cX0_lawAndRing 16 = .ok (.aload_n 0, 1) := by decide +kernel
theorem dX0_lawAndRing_17 : decode cX0_lawAndRing 17 = .ok (.getfield 49, 3) := by decide +kernel
theorem dX0_lawAndRing_20 : decode cX0_lawAndRing 20 = .ok (.istore_n 3, 1) := by decide +kernel
theorem dX0_lawAndRing_21 : decode cX0_lawAndRing 21 = .ok (.iconst 0, 1) := by decide +kernel
theorem dX0_lawAndRing_22 : decode cX0_lawAndRing 22 = .ok (.istore 4, 2) := by decide +kernel
theorem dX0_lawAndRing_24 : decode cX0_lawAndRing 24 = .ok (.iconst 0, 1) := by decide +kernel
theorem dX0_lawAndRing_25 : decode cX0_lawAndRing 25 = .ok (.istore 5, 2) := by decide +kernel
theorem dX0_lawAndRing_27 : decode cX0_lawAndRing 27 = .ok (.iload 5, 2) := by decide +kernel
theorem dX0_lawAndRing_29 : decode cX0_lawAndRing 29 = .ok (.iconst 4, 1) := by decide +kernel
theorem dX0_lawAndRing_30 : decode cX0_lawAndRing 30 = .ok (.if_icmp .ge 55, 3) := by decide +kernel
theorem dX0_lawAndRing_33 : decode cX0_lawAndRing 33 = .ok (.iload 4, 2) := by decide +kernel
theorem dX0_lawAndRing_35 : decode cX0_lawAndRing 35 = .ok (.iconst 1, 1) := by decide +kernel
theorem dX0_lawAndRing_36 : decode cX0_lawAndRing 36 = .ok (.iload_n 3, 1) := by decide +kernel
theorem dX0_lawAndRing_37 : decode cX0_lawAndRing 37 = .ok (.ishl, 1) := by decide +kernel
theorem dX0_lawAndRing_38 : decode cX0_lawAndRing 38 = .ok (.ior, 1) := by decide +kernel
theorem dX0_lawAndRing_39 : decode cX0_lawAndRing 39 = .ok (.istore 4, 2) := by decide +kernel
theorem dX0_lawAndRing_41 : decode cX0_lawAndRing 41 = .ok (.aload_n 0, 1) := by decide +kernel
theorem dX0_lawAndRing_42 : decode cX0_lawAndRing 42 = .ok (.iload_n 3, 1) := by decide +kernel
theorem dX0_lawAndRing_43 : decode cX0_lawAndRing 43 = .ok (.iload_n 2, 1) := by decide +kernel
theorem dX0_lawAndRing_44 : decode cX0_lawAndRing 44 = .ok (.invokevirtual 252, 3) := by decide +kernel
theorem dX0_lawAndRing_47 : decode cX0_lawAndRing 47 = .ok (.istore 6, 2) := by decide +kernel
theorem dX0_lawAndRing_49 : decode cX0_lawAndRing 49 = .ok (.iload 6, 2) := by decide +kernel
theorem dX0_lawAndRing_51 : decode cX0_lawAndRing 51 = .ok (.iload_n 3, 1) := by decide +kernel
theorem dX0_lawAndRing_52 : decode cX0_lawAndRing 52 = .ok (.if_icmp .ne 7, 3) := by decide +kernel
theorem dX0_lawAndRing_55 : decode cX0_lawAndRing 55 = .ok (.iload_n 3, 1) := by decide +kernel
theorem dX0_lawAndRing_56 : decode cX0_lawAndRing 56 = .ok (.iconst 2, 1) := by decide +kernel
theorem dX0_lawAndRing_57 : decode cX0_lawAndRing 57 = .ok (.imul, 1) := by decide +kernel
theorem dX0_lawAndRing_58 : decode cX0_lawAndRing 58 = .ok (.ireturn, 1) := by decide +kernel
theorem dX0_lawAndRing_59 : decode cX0_lawAndRing 59 = .ok (.iload 4, 2) := by decide +kernel
theorem dX0_lawAndRing_61 : decode cX0_lawAndRing 61 = .ok (.iload 6, 2) := by decide +kernel
theorem dX0_lawAndRing_63 : decode cX0_lawAndRing 63 = .ok (.ishr, 1) := by decide +kernel
theorem dX0_lawAndRing_64 : decode cX0_lawAndRing 64 = .ok (.iconst 1, 1) := by decide +kernel
theorem dX0_lawAndRing_65 : decode cX0_lawAndRing 65 = .ok (.iand, 1) := by decide +kernel
theorem dX0_lawAndRing_66 : decode cX0_lawAndRing 66 = .ok (.ifCond .eq 10, 3) := by decide +kernel
theorem dX0_lawAndRing_69 : decode cX0_lawAndRing 69 = .ok (.iload 6, 2) := by decide +kernel
theorem dX0_lawAndRing_71 : decode cX0_lawAndRing 71 = .ok (.iconst 2, 1) := by decide +kernel
theorem dX0_lawAndRing_72 : decode cX0_lawAndRing 72 = .ok (.imul, 1) := by decide +kernel
theorem dX0_lawAndRing_73 : decode cX0_lawAndRing 73 = .ok (.iconst 1, 1) := by decide +kernel
theorem dX0_lawAndRing_74 : decode cX0_lawAndRing 74 = .ok (.iadd, 1) := by decide +kernel
theorem dX0_lawAndRing_75 : decode cX0_lawAndRing 75 = .ok (.ireturn, 1) := by decide +kernel
theorem dX0_lawAndRing_76 : decode cX0_lawAndRing 76 = .ok (.iload 6, 2) := by decide +kernel
theorem dX0_lawAndRing_78 : decode cX0_lawAndRing 78 = .ok (.istore_n 3, 1) := by decide +kernel
theorem dX0_lawAndRing_79 : decode cX0_lawAndRing 79 = .ok (.iinc 5 1, 3) := by decide +kernel
theorem dX0_lawAndRing_82 : decode cX0_lawAndRing 82 = .ok (.goto (-55), 3) := by decide +kernel
theorem dX0_lawAndRing_85 : decode cX0_lawAndRing 85 = .ok (.iload_n 3, 1) := by decide +kernel
theorem dX0_lawAndRing_86 : decode cX0_lawAndRing 86 = .ok (.iconst 2, 1) := by decide +kernel
theorem dX0_lawAndRing_87 : decode cX0_lawAndRing 87 = .ok (.imul, 1) := by decide +kernel
theorem dX0_lawAndRing_88 : decode cX0_lawAndRing 88 = .ok (.ireturn, 1) := by decide +kernel
def X0_lawAndRing_b27 (k27 : Int32 → Int32 → Int32 → Int32 → Wd → Option (Int32 × Wd)) (y2 : Int32) (y3 : Int32) (y4 : Int32) (y5 : Int32) (w : Wd) : Option (Int32 × Wd) :=
  if 4 ≤ y5 then
  (some (y3 * 2, w))
  else
  lt (y4 ||| (1 <<< (y3 &&& 31))) fun v2 =>
  cl (f_X0_landNamedBy y3 y2 w) fun r4 w3 =>
  if r4 = y3 then
  (some (y3 * 2, w3))
  else
  if ((v2 >>> (r4 &&& 31)) &&& 1) = 0 then
  (k27 y2 r4 v2 (y5 + 1) w3)
  else
  some ((r4 * 2) + 1, w3)
set_option maxRecDepth 100000 in
set_option maxHeartbeats 4000000 in
theorem t_X0_lawAndRing_b27 {Z : Cz (Int32 × Wd)} (hZ : OKZ Z SC cX0_lawAndRing RX0 7 (some .int) 3) (hE : EndI Z) (k27 : Int32 → Int32 → Int32 → Int32 → Wd → Option (Int32 × Wd)) (hk27 : ∀ (y2 : Int32) (y3 : Int32) (y4 : Int32) (y5 : Int32)  (w : Wd), BW Z 7 27 [(0, .ref (ph (zY Z) 31)), (2, .int y2), (3, .int y3), (4, .int y4), (5, .int y5)] [] w (k27 y2 y3 y4 y5 w)) (y2 : Int32) (y3 : Int32) (y4 : Int32) (y5 : Int32)  (w : Wd) : BW Z 7 27 [(0, .ref (ph (zY Z) 31)), (2, .int y2), (3, .int y3), (4, .int y4), (5, .int y5)] [] w (X0_lawAndRing_b27 k27 y2 y3 y4 y5 w) :=
  bw_iload hZ 4 rfl dX0_lawAndRing_27 <|
  bw_iconst hZ 4 (by decide) dX0_lawAndRing_29 <|
  bw_icmp_ge hZ (tgt := 85) (by decide) dX0_lawAndRing_30 (fun _ =>
  bw_iload_n hZ 2 rfl dX0_lawAndRing_85 <|
  bw_iconst hZ 2 (by decide) dX0_lawAndRing_86 <|
  bw_imul hZ dX0_lawAndRing_87 <|
  bw_iret hZ hE dX0_lawAndRing_88) (fun _ =>
  bw_iload hZ 3 rfl dX0_lawAndRing_33 <|
  bw_iconst hZ 1 (by decide) dX0_lawAndRing_35 <|
  bw_iload_n hZ 2 rfl dX0_lawAndRing_36 <|
  bw_ishl hZ dX0_lawAndRing_37 <|
  bw_ior hZ dX0_lawAndRing_38 <|
  bw_nm fun v2 =>
  bw_istore hZ (by decide) rfl dX0_lawAndRing_39 <|
  bw_aload_n hZ 1 rfl dX0_lawAndRing_41 <|
  bw_iload_n hZ 3 rfl dX0_lawAndRing_42 <|
  bw_iload_n hZ 2 rfl dX0_lawAndRing_43 <|
  bw_callVI (As := [.int y3, .int y2]) hZ ml_RX0_252 rc_0 obC_31 (by decide) (c_X0_landNamedBy (zl Z) (zY Z) (hZ_S hZ) y3 y2 w) rfl rfl (Nat.le_of_ble_eq_true rfl) dX0_lawAndRing_44 fun r4 w3 =>
  bw_istore hZ (by decide) rfl dX0_lawAndRing_47 <|
  bw_iload hZ 0 rfl dX0_lawAndRing_49 <|
  bw_iload_n hZ 4 rfl dX0_lawAndRing_51 <|
  bw_icmp_ne hZ (tgt := 59) (by decide) dX0_lawAndRing_52 (fun _ =>
  bw_iload hZ 1 rfl dX0_lawAndRing_59 <|
  bw_iload hZ 0 rfl dX0_lawAndRing_61 <|
  bw_ishr hZ dX0_lawAndRing_63 <|
  bw_iconst hZ 1 (by decide) dX0_lawAndRing_64 <|
  bw_iand hZ dX0_lawAndRing_65 <|
  bw_if_eq hZ (tgt := 76) (by decide) dX0_lawAndRing_66 (fun _ =>
  bw_iload hZ 0 rfl dX0_lawAndRing_76 <|
  bw_istore_n hZ rfl (by decide) rfl dX0_lawAndRing_78 <|
  bw_iinc hZ 1 5 rfl (by decide) (by decide) rfl dX0_lawAndRing_79 <|
  bw_goto hZ (tgt := 27) (by decide) dX0_lawAndRing_82 <|
  bw_sub [4, 5, 1, 3, 0] rfl (hk27 y2 r4 v2 (y5 + 1) w3)) (fun _ =>
  bw_iload hZ 0 rfl dX0_lawAndRing_69 <|
  bw_iconst hZ 2 (by decide) dX0_lawAndRing_71 <|
  bw_imul hZ dX0_lawAndRing_72 <|
  bw_iconst hZ 1 (by decide) dX0_lawAndRing_73 <|
  bw_iadd hZ dX0_lawAndRing_74 <|
  bw_iret hZ hE dX0_lawAndRing_75)) (fun _ =>
  bw_iload_n hZ 4 rfl dX0_lawAndRing_55 <|
  bw_iconst hZ 2 (by decide) dX0_lawAndRing_56 <|
  bw_imul hZ dX0_lawAndRing_57 <|
  bw_iret hZ hE dX0_lawAndRing_58))
def X0_lawAndRing_b27_L  : Int32 → Int32 → Int32 → Int32 → Wd → Option (Int32 × Wd) :=
  lp fu (fun _ _ _ _ _ => none) (fun k27 => X0_lawAndRing_b27 k27)
theorem t_X0_lawAndRing_b27_L {Z : Cz (Int32 × Wd)} (hZ : OKZ Z SC cX0_lawAndRing RX0 7 (some .int) 3) (hE : EndI Z)  : ∀ (y2 : Int32) (y3 : Int32) (y4 : Int32) (y5 : Int32)  (w : Wd), BW Z 7 27 [(0, .ref (ph (zY Z) 31)), (2, .int y2), (3, .int y3), (4, .int y4), (5, .int y5)] [] w (X0_lawAndRing_b27_L y2 y3 y4 y5 w) :=
  lp_bw (fun k27 => ∀ (y2 : Int32) (y3 : Int32) (y4 : Int32) (y5 : Int32)  (w : Wd), BW Z 7 27 [(0, .ref (ph (zY Z) 31)), (2, .int y2), (3, .int y3), (4, .int y4), (5, .int y5)] [] w (k27 y2 y3 y4 y5 w)) (fun _ _ _ _ _ => bw_none) (fun k27 hk27 y2 y3 y4 y5 w => t_X0_lawAndRing_b27 hZ hE k27 hk27 y2 y3 y4 y5 w) fu
def X0_lawAndRing_b15 (t0 : Int32) (w : Wd) : Option (Int32 × Wd) :=
  lt (w.1 31 12) fun v1 =>
  X0_lawAndRing_b27_L t0 v1 0 0 w
set_option maxRecDepth 100000 in
set_option maxHeartbeats 4000000 in
theorem t_X0_lawAndRing_b15 {Z : Cz (Int32 × Wd)} (hZ : OKZ Z SC cX0_lawAndRing RX0 7 (some .int) 3) (hE : EndI Z)  (t0 : Int32)  (w : Wd) : BW Z 7 15 [(0, .ref (ph (zY Z) 31))] [.int t0] w (X0_lawAndRing_b15 t0 w) :=
  bw_istore_n hZ rfl (by decide) rfl dX0_lawAndRing_15 <|
  bw_aload_n hZ 1 rfl dX0_lawAndRing_16 <|
  bw_getI hZ fl_RX0_49 (by decide) obC_31 dX0_lawAndRing_17 <|
  bw_nm fun v1 =>
  bw_istore_n hZ rfl (by decide) rfl dX0_lawAndRing_20 <|
  bw_iconst hZ 0 (by decide) dX0_lawAndRing_21 <|
  bw_istore hZ (by decide) rfl dX0_lawAndRing_22 <|
  bw_iconst hZ 0 (by decide) dX0_lawAndRing_24 <|
  bw_istore hZ (by decide) rfl dX0_lawAndRing_25 <|
  bw_sub [4, 3, 2, 1, 0] rfl (t_X0_lawAndRing_b27_L hZ hE t0 v1 0 0 w)
def f_X0_lawAndRing (x1 : Int32) (w : Wd) : Option (Int32 × Wd) :=
  if x1 = ((-1)) then
  (X0_lawAndRing_b15 ((-1)) w)
  else
  if inb x1 8 = true then
  (X0_lawAndRing_b15 (w.1 42 (Int32.toNatClampNeg x1)) w)
  else none
set_option maxRecDepth 100000 in
set_option maxHeartbeats 4000000 in
theorem t_X0_lawAndRing {Z : Cz (Int32 × Wd)} (hZ : OKZ Z SC cX0_lawAndRing RX0 7 (some .int) 3) (hE : EndI Z) (x1 : Int32)  (w : Wd) : BW Z 7 0 [(0, .ref (ph (zY Z) 31)), (1, .int x1)] [] w (f_X0_lawAndRing x1 w) :=
  bw_iload_n hZ 1 rfl dX0_lawAndRing_0 <|
  bw_iconst hZ (-1) (by decide) dX0_lawAndRing_1 <|
  bw_icmp_ne hZ (tgt := 9) (by decide) dX0_lawAndRing_2 (fun _ =>
  bw_aload_n hZ 0 rfl dX0_lawAndRing_9 <|
  bw_getR hZ fl_RX0_39 obC_31 rfl dX0_lawAndRing_10 <|
  bw_iload_n hZ 1 rfl dX0_lawAndRing_13 <|
  bw_iald hZ (arC_42 _) dX0_lawAndRing_14 <|
  bw_sub [0] rfl (t_X0_lawAndRing_b15 hZ hE (w.1 42 (Int32.toNatClampNeg x1)) w)) (fun _ =>
  bw_iconst hZ (-1) (by decide) dX0_lawAndRing_5 <|
  bw_goto hZ (tgt := 15) (by decide) dX0_lawAndRing_6 <|
  bw_sub [0] rfl (t_X0_lawAndRing_b15 hZ hE ((-1)) w))
theorem c_X0_lawAndRing (l : Launch) (Y : Ev) (hY : Y.1 = SC) (x1 : Int32)  (w : Wd) : CI l Y yX0_lawAndRing cX0_lawAndRing 7 3 [.ref (ph Y 31), .int x1] w .int (f_X0_lawAndRing x1 w) := by
  refine CI_of (S := SC) (by decide) (Nat.le_of_ble_eq_true rfl) hY ?_
  intro Z hl hY2 hZ hE
  subst hY2
  exact t_X0_lawAndRing hZ hE x1 w
-- WhichWill$Event.isSo
theorem dX1_isSo_0 : decode cX1_isSo 0 = .ok (.aload_n 0, 1) := by decide +kernel
theorem dX1_isSo_1 : decode cX1_isSo 1 = .ok (.getfield 7, 3) := by decide +kernel
theorem dX1_isSo_4 : decode cX1_isSo 4 = .ok (.ifCond .lt 14, 3) := by decide +kernel
theorem dX1_isSo_7 : decode cX1_isSo 7 = .ok (.iload_n 1, 1) := by decide +kernel
theorem dX1_isSo_8 : decode cX1_isSo 8 = .ok (.aload_n 0, 1) := by decide +kernel
theorem dX1_isSo_9 : decode cX1_isSo 9 = .ok (.getfield 7, 3) := by decide +kernel
theorem dX1_isSo_12 : decode cX1_isSo 12 = .ok (.ishr, 1) := by decide +kernel
theorem dX1_isSo_13 : decode cX1_isSo 13 = .ok (.iconst 1, 1) := by decide +kernel
theorem dX1_isSo_14 : decode cX1_isSo 14 = .ok (.iand, 1) := by decide +kernel
theorem dX1_isSo_15 : decode cX1_isSo 15 = .ok (.ifCond .eq 7, 3) := by decide +kernel
theorem dX1_isSo_18 : decode cX1_isSo 18 = .ok (.iconst 1, 1) := by decide +kernel
theorem dX1_isSo_19 : decode cX1_isSo 19 = .ok (.goto 4, 3) := by decide +kernel
theorem dX1_isSo_22 : decode cX1_isSo 22 = .ok (.iconst 0, 1) := by decide +kernel
theorem dX1_isSo_23 : decode cX1_isSo 23 = .ok (.ireturn, 1) := by decide +kernel
def f_X1_isSo (o0 : Nat) (x1 : Int32) (w : Wd) : Option (Int32 × Wd) :=
  if (w.1 o0 4) < 0 then
  (some (1, w))
  else
  if ((x1 >>> ((w.1 o0 4) &&& 31)) &&& 1) = 0 then
  (some (0, w))
  else
  some (1, w)
set_option maxRecDepth 100000 in
set_option maxHeartbeats 4000000 in
theorem t_X1_isSo {Z : Cz (Int32 × Wd)} (hZ : OKZ Z SC cX1_isSo RX1 2 (some .boolean) 1) (hE : EndI Z) (o0 : Nat) (x1 : Int32) (ho0 : IsV o0) (w : Wd) : BW Z 2 0 [(0, .ref (ph (zY Z) o0)), (1, .int x1)] [] w (f_X1_isSo o0 x1 w) :=
  bw_aload_n hZ 0 rfl dX1_isSo_0 <|
  bw_getI hZ fl_RX1_7 (by decide) (obV ho0) dX1_isSo_1 <|
  bw_if_lt hZ (tgt := 18) (by decide) dX1_isSo_4 (fun _ =>
  bw_iconst hZ 1 (by decide) dX1_isSo_18 <|
  bw_goto hZ (tgt := 23) (by decide) dX1_isSo_19 <|
  bw_zret hZ hE (by decide) dX1_isSo_23) (fun _ =>
  bw_iload_n hZ 1 rfl dX1_isSo_7 <|
  bw_aload_n hZ 0 rfl dX1_isSo_8 <|
  bw_getI hZ fl_RX1_7 (by decide) (obV ho0) dX1_isSo_9 <|
  bw_ishr hZ dX1_isSo_12 <|
  bw_iconst hZ 1 (by decide) dX1_isSo_13 <|
  bw_iand hZ dX1_isSo_14 <|
  bw_if_eq hZ (tgt := 22) (by decide) dX1_isSo_15 (fun _ =>
  bw_iconst hZ 0 (by decide) dX1_isSo_22 <|
  bw_zret hZ hE (by decide) dX1_isSo_23) (fun _ =>
  bw_iconst hZ 1 (by decide) dX1_isSo_18 <|
  bw_goto hZ (tgt := 23) (by decide) dX1_isSo_19 <|
  bw_zret hZ hE (by decide) dX1_isSo_23))
theorem c_X1_isSo (l : Launch) (Y : Ev) (hY : Y.1 = SC) (o0 : Nat) (x1 : Int32) (ho0 : IsV o0) (w : Wd) : CI l Y yX1_isSo cX1_isSo 2 1 [.ref (ph Y o0), .int x1] w .boolean (f_X1_isSo o0 x1 w) := by
  refine CI_of (S := SC) (by decide) (Nat.le_of_ble_eq_true rfl) hY ?_
  intro Z hl hY2 hZ hE
  subst hY2
  exact t_X1_isSo hZ hE o0 x1 ho0 w
-- WhichWill$Matter.firstDay
theorem dX2_firstDay_0 : decode cX2_firstDay 0 = .ok (.iload_n 1, 1) := by decide +kernel
theorem dX2_firstDay_1 : decode cX2_firstDay 1 = .ok (.aload_n 0, 1) := by decide +kernel
theorem dX2_firstDay_2 : decode cX2_firstDay 2 = .ok (.getfield 46, 3) := by decide +kernel
theorem dX2_firstDay_5 : decode cX2_firstDay 5 = .ok (.if_icmp .ge 15, 3) := by decide +kernel
theorem dX2_firstDay_8 : decode cX2_firstDay 8 = .ok (.aload_n 0, 1) := by decide +kernel
theorem dX2_firstDay_9 : decode cX2_firstDay 9 = .ok (.getfield 20, 3) := by decide +kernel
theorem dX2_firstDay_12 : decode cX2_firstDay 12 = .ok (.iload_n 1, 1) := by decide +kernel
theorem dX2_firstDay_13 : decode cX2_firstDay 13 = .ok (.aaload, 1) := by decide +kernel
theorem dX2_firstDay_14 : decode cX2_firstDay 14 = .ok (.getfield 115, 3) := by decide +kernel
theorem dX2_firstDay_17 : decode cX2_firstDay 17 = .ok (.goto 17, 3) := by decide +kernel
theorem dX2_firstDay_20 : decode cX2_firstDay 20 = .ok (.aload_n 0, 1) := by decide +kernel
theorem dX2_firstDay_21 : decode cX2_firstDay 21 = .ok (.getfield 26, 3) := by decide +kernel
theorem dX2_firstDay_24 : decode cX2_firstDay 24 = .ok (.iload_n 1, 1) := by decide +kernel
theorem dX2_firstDay_25 : decode cX2_firstDay 25 = .ok (.aload_n 0, 1) := by decide +kernel
theorem dX2_firstDay_26 : decode cX2_firstDay 26 = .ok (.getfield 46, 3) := by decide +kernel
theorem dX2_firstDay_29 : decode cX2_firstDay 29 = .ok (.isub, 1) := by decide +kernel
theorem dX2_firstDay_30 : decode cX2_firstDay 30 = .ok (.aaload, 1) := by decide +kernel
theorem dX2_firstDay_31 : decode cX2_firstDay 31 = .ok (.getfield 61, 3) := by decide +kernel
theorem dX2_firstDay_34 : decode cX2_firstDay 34 = .ok (.ireturn, 1) := by decide +kernel
def f_X2_firstDay (x1 : Int32) (w : Wd) : Option (Int32 × Wd) :=
  if (w.1 3 3) ≤ x1 then
  (if inb (x1 - (w.1 3 3)) 3 = true then
  (some (w.1 (81 + Int32.toNatClampNeg (x1 - (w.1 3 3))) 2, w))
  else none)
  else
  if inb x1 4 = true then
  (some (w.1 (57 + 6 * Int32.toNatClampNeg x1) 0, w))
  else none
set_option maxRecDepth 100000 in
set_option maxHeartbeats 4000000 in
theorem t_X2_firstDay {Z : Cz (Int32 × Wd)} (hZ : OKZ Z SC cX2_firstDay RX2 2 (some .int) 1) (hE : EndI Z) (x1 : Int32)  (w : Wd) : BW Z 2 0 [(0, .ref (ph (zY Z) 3)), (1, .int x1)] [] w (f_X2_firstDay x1 w) :=
  bw_iload_n hZ 1 rfl dX2_firstDay_0 <|
  bw_aload_n hZ 0 rfl dX2_firstDay_1 <|
  bw_getI hZ fl_RX2_46 (by decide) obC_3 dX2_firstDay_2 <|
  bw_icmp_ge hZ (tgt := 20) (by decide) dX2_firstDay_5 (fun _ =>
  bw_aload_n hZ 0 rfl dX2_firstDay_20 <|
  bw_getR hZ fl_RX2_26 obC_3 rfl dX2_firstDay_21 <|
  bw_iload_n hZ 1 rfl dX2_firstDay_24 <|
  bw_aload_n hZ 0 rfl dX2_firstDay_25 <|
  bw_getI hZ fl_RX2_46 (by decide) obC_3 dX2_firstDay_26 <|
  bw_isub hZ dX2_firstDay_29 <|
  bw_aald (81 + Int32.toNatClampNeg (x1 - (w.1 3 3))) hZ (arC_5 _) (Or.inr (Or.inl ⟨rfl, rfl⟩)) rfl dX2_firstDay_30 fun hi1 =>
  bw_getI hZ fl_RX2_61 (by decide) (obV (isV_of hi1)) dX2_firstDay_31 <|
  bw_iret hZ hE dX2_firstDay_34) (fun _ =>
  bw_aload_n hZ 0 rfl dX2_firstDay_8 <|
  bw_getR hZ fl_RX2_20 obC_3 rfl dX2_firstDay_9 <|
  bw_iload_n hZ 1 rfl dX2_firstDay_12 <|
  bw_aald (57 + 6 * Int32.toNatClampNeg x1) hZ (arC_4 _) (Or.inl ⟨rfl, rfl⟩) rfl dX2_firstDay_13 fun hi3 =>
  bw_getI hZ fl_RX2_115 (by decide) (obP (isP_of hi3)) dX2_firstDay_14 <|
  bw_goto hZ (tgt := 34) (by decide) dX2_firstDay_17 <|
  bw_iret hZ hE dX2_firstDay_34)
theorem c_X2_firstDay (l : Launch) (Y : Ev) (hY : Y.1 = SC) (x1 : Int32)  (w : Wd) : CI l Y yX2_firstDay cX2_firstDay 2 1 [.ref (ph Y 3), .int x1] w .int (f_X2_firstDay x1 w) := by
  refine CI_of (S := SC) (by decide) (Nat.le_of_ble_eq_true rfl) hY ?_
  intro Z hl hY2 hZ hE
  subst hY2
  exact t_X2_firstDay hZ hE x1 w
-- WhichWill$Matter.lastDay
theorem dX2_lastDay_0 : decode cX2_lastDay 0 = .ok (.iload_n 1, 1) := by decide +kernel
theorem dX2_lastDay_1 : decode cX2_lastDay 1 = .ok (.aload_n 0, 1) := by decide +kernel
theorem dX2_lastDay_2 : decode cX2_lastDay 2 = .ok (.getfield 46, 3) := by decide +kernel
theorem dX2_lastDay_5 : decode cX2_lastDay 5 = .ok (.if_icmp .ge 15, 3) := by decide +kernel
theorem dX2_lastDay_8 : decode cX2_lastDay 8 = .ok (.aload_n 0, 1) := by decide +kernel
theorem dX2_lastDay_9 : decode cX2_lastDay 9 = .ok (.getfield 20, 3) := by decide +kernel
theorem dX2_lastDay_12 : decode cX2_lastDay 12 = .ok (.iload_n 1, 1) := by decide +kernel
theorem dX2_lastDay_13 : decode cX2_lastDay 13 = .ok (.aaload, 1) := by decide +kernel
theorem dX2_lastDay_14 : decode cX2_lastDay 14 = .ok (.getfield 116, 3) := by decide +kernel
theorem dX2_lastDay_17 : decode cX2_lastDay 17 = .ok (.goto 17, 3) := by decide +kernel
theorem dX2_lastDay_20 : decode cX2_lastDay 20 = .ok (.aload_n 0, 1) := by decide +kernel
theorem dX2_lastDay_21 : decode cX2_lastDay 21 = .ok (.getfield 26, 3) := by decide +kernel
theorem dX2_lastDay_24 : decode cX2_lastDay 24 = .ok (.iload_n 1, 1) := by decide +kernel
theorem dX2_lastDay_25 : decode cX2_lastDay 25 = .ok (.aload_n 0, 1) := by decide +kernel
theorem dX2_lastDay_26 : decode cX2_lastDay 26 = .ok (.getfield 46, 3) := by decide +kernel
theorem dX2_lastDay_29 : decode cX2_lastDay 29 = .ok (.isub, 1) := by decide +kernel
theorem dX2_lastDay_30 : decode cX2_lastDay 30 = .ok (.aaload, 1) := by decide +kernel
theorem dX2_lastDay_31 : decode cX2_lastDay 31 = .ok (.getfield 64, 3) := by decide +kernel
theorem dX2_lastDay_34 : decode cX2_lastDay 34 = .ok (.ireturn, 1) := by decide +kernel
def f_X2_lastDay (x1 : Int32) (w : Wd) : Option (Int32 × Wd) :=
  if (w.1 3 3) ≤ x1 then
  (if inb (x1 - (w.1 3 3)) 3 = true then
  (some (w.1 (81 + Int32.toNatClampNeg (x1 - (w.1 3 3))) 3, w))
  else none)
  else
  if inb x1 4 = true then
  (some (w.1 (57 + 6 * Int32.toNatClampNeg x1) 1, w))
  else none
set_option maxRecDepth 100000 in
set_option maxHeartbeats 4000000 in
theorem t_X2_lastDay {Z : Cz (Int32 × Wd)} (hZ : OKZ Z SC cX2_lastDay RX2 2 (some .int) 1) (hE : EndI Z) (x1 : Int32)  (w : Wd) : BW Z 2 0 [(0, .ref (ph (zY Z) 3)), (1, .int x1)] [] w (f_X2_lastDay x1 w) :=
  bw_iload_n hZ 1 rfl dX2_lastDay_0 <|
  bw_aload_n hZ 0 rfl dX2_lastDay_1 <|
  bw_getI hZ fl_RX2_46 (by decide) obC_3 dX2_lastDay_2 <|
  bw_icmp_ge hZ (tgt := 20) (by decide) dX2_lastDay_5 (fun _ =>
  bw_aload_n hZ 0 rfl dX2_lastDay_20 <|
  bw_getR hZ fl_RX2_26 obC_3 rfl dX2_lastDay_21 <|
  bw_iload_n hZ 1 rfl dX2_lastDay_24 <|
  bw_aload_n hZ 0 rfl dX2_lastDay_25 <|
  bw_getI hZ fl_RX2_46 (by decide) obC_3 dX2_lastDay_26 <|
  bw_isub hZ dX2_lastDay_29 <|
  bw_aald (81 + Int32.toNatClampNeg (x1 - (w.1 3 3))) hZ (arC_5 _) (Or.inr (Or.inl ⟨rfl, rfl⟩)) rfl dX2_lastDay_30 fun hi1 =>
  bw_getI hZ fl_RX2_64 (by decide) (obV (isV_of hi1)) dX2_lastDay_31 <|
  bw_iret hZ hE dX2_lastDay_34) (fun _ =>
  bw_aload_n hZ 0 rfl dX2_lastDay_8 <|
  bw_getR hZ fl_RX2_20 obC_3 rfl dX2_lastDay_9 <|
  bw_iload_n hZ 1 rfl dX2_lastDay_12 <|
  bw_aald (57 + 6 * Int32.toNatClampNeg x1) hZ (arC_4 _) (Or.inl ⟨rfl, rfl⟩) rfl dX2_lastDay_13 fun hi3 =>
  bw_getI hZ fl_RX2_116 (by decide) (obP (isP_of hi3)) dX2_lastDay_14 <|
  bw_goto hZ (tgt := 34) (by decide) dX2_lastDay_17 <|
  bw_iret hZ hE dX2_lastDay_34)
theorem c_X2_lastDay (l : Launch) (Y : Ev) (hY : Y.1 = SC) (x1 : Int32)  (w : Wd) : CI l Y yX2_lastDay cX2_lastDay 2 1 [.ref (ph Y 3), .int x1] w .int (f_X2_lastDay x1 w) := by
  refine CI_of (S := SC) (by decide) (Nat.le_of_ble_eq_true rfl) hY ?_
  intro Z hl hY2 hZ hE
  subst hY2
  exact t_X2_lastDay hZ hE x1 w
-- WhichWill$Matter.hasDays
theorem dX2_hasDays_0 : decode cX2_hasDays 0 = .ok (.iconst 0, 1) := by decide +kernel
theorem dX2_hasDays_1 : decode cX2_hasDays 1 = .ok (.istore_n 2, 1) := by decide +kernel
theorem dX2_hasDays_2 : decode cX2_hasDays 2 = .ok (.iconst 0, 1) := by decide +kernel
theorem dX2_hasDays_3 : decode cX2_hasDays 3 = .ok (.istore_n 3, 1) := by decide +kernel
theorem dX2_hasDays_4 : decode cX2_hasDays 4 = .ok (.iload_n 3, 1) := by decide +kernel
theorem dX2_hasDays_5 : decode cX2_hasDays 5 = .ok (.iload_n 1, 1) := by decide +kernel
theorem dX2_hasDays_6 : decode cX2_hasDays 6 = .ok (.if_icmp .ge 40, 3) := by decide +kernel
theorem dX2_hasDays_9 : decode cX2_hasDays 9 = .ok (.iload_n 2, 1) := by decide +kernel
theorem dX2_hasDays_10 : decode cX2_hasDays 10 = .ok (.aload_n 0, 1) := by decide +kernel
theorem dX2_hasDays_11 : decode cX2_hasDays 11 = .ok (.aload_n 0, 1) := by decide +kernel
theorem dX2_hasDays_12 : decode cX2_hasDays 12 = .ok (.getfield 37, 3) := by decide +kernel
theorem dX2_hasDays_15 : decode cX2_hasDays 15 = .ok (.iload_n 3, 1) := by decide +kernel
theorem dX2_hasDays_16 : decode cX2_hasDays 16 = .ok (.iaload, 1) := by decide +kernel
theorem dX2_hasDays_17 : decode cX2_hasDays 17 = .ok (.invokevirtual 104, 3) := by decide +kernel
theorem dX2_hasDays_20 : decode cX2_hasDays 20 = .ok (.invokestatic 107, 3) := by decide +kernel
theorem dX2_hasDays_23 : decode cX2_hasDays 23 = .ok (.istore_n 2, 1) := by decide +kernel
theorem dX2_hasDays_24 : decode cX2_hasDays 24 = .ok (.iload_n 2, 1) := by decide +kernel
theorem dX2_hasDays_25 : decode cX2_hasDays 25 = .ok (.aload_n 0, 1) := by decide +kernel
theorem dX2_hasDays_26 : decode cX2_hasDays 26 = .ok (.aload_n 0, 1) := by decide +kernel
theorem dX2_hasDays_27 : decode cX2_hasDays 27 = .ok (.getfield 37, 3) := by decide +kernel
theorem dX2_hasDays_30 : decode cX2_hasDays 30 = .ok (.iload_n 3, 1) := by decide +kernel
theorem dX2_hasDays_31 : decode cX2_hasDays 31 = .ok (.iaload, 1) := by decide +kernel
theorem dX2_hasDays_32 : decode cX2_hasDays 32 = .ok (.invokevirtual 112, 3) := by decide +kernel
theorem dX2_hasDays_35 : decode cX2_hasDays 35 = .ok (.if_icmp .le 5, 3) := by decide +kernel
theorem dX2_hasDays_38 : decode cX2_hasDays 38 = .ok (.iconst 0, 1) := by decide +kernel
theorem dX2_hasDays_39 : decode cX2_hasDays 39 = .ok (.ireturn, 1) := by decide +kernel
theorem dX2_hasDays_40 : decode cX2_hasDays 40 = .ok (.iinc 3 1, 3) := by decide +kernel
theorem dX2_hasDays_43 : decode cX2_hasDays 43 = .ok (.goto (-39), 3) := by decide +kernel
theorem dX2_hasDays_46 : decode cX2_hasDays 46 = .ok (.iconst 1, 1) := by decide +kernel
theorem dX2_hasDays_47 : decode cX2_hasDays 47 = .ok (.ireturn, 1) := by decide +kernel
def X2_hasDays_b4 (k4 : Int32 → Int32 → Int32 → Wd → Option (Int32 × Wd)) (y1 : Int32) (y2 : Int32) (y3 : Int32) (w : Wd) : Option (Int32 × Wd) :=
  if y1 ≤ y3 then
  (some (1, w))
  else
  if inb y3 6 = true then
  (cl (f_X2_firstDay (w.1 7 (Int32.toNatClampNeg y3)) w) fun r2 w1 =>
  lt (if y2 < r2 then r2 else y2) fun v3 =>
  if inb y3 6 = true then
  (cl (f_X2_lastDay (w1.1 7 (Int32.toNatClampNeg y3)) w1) fun r5 w4 =>
  if v3 ≤ r5 then
  (k4 y1 v3 (y3 + 1) w4)
  else
  some (0, w4))
  else none)
  else none
set_option maxRecDepth 100000 in
set_option maxHeartbeats 4000000 in
theorem t_X2_hasDays_b4 {Z : Cz (Int32 × Wd)} (hZ : OKZ Z SC cX2_hasDays RX2 4 (some .boolean) 2) (hE : EndI Z) (k4 : Int32 → Int32 → Int32 → Wd → Option (Int32 × Wd)) (hk4 : ∀ (y1 : Int32) (y2 : Int32) (y3 : Int32)  (w : Wd), BW Z 4 4 [(0, .ref (ph (zY Z) 3)), (1, .int y1), (2, .int y2), (3, .int y3)] [] w (k4 y1 y2 y3 w)) (y1 : Int32) (y2 : Int32) (y3 : Int32)  (w : Wd) : BW Z 4 4 [(0, .ref (ph (zY Z) 3)), (1, .int y1), (2, .int y2), (3, .int y3)] [] w (X2_hasDays_b4 k4 y1 y2 y3 w) :=
  bw_iload_n hZ 3 rfl dX2_hasDays_4 <|
  bw_iload_n hZ 1 rfl dX2_hasDays_5 <|
  bw_icmp_ge hZ (tgt := 46) (by decide) dX2_hasDays_6 (fun _ =>
  bw_iconst hZ 1 (by decide) dX2_hasDays_46 <|
  bw_zret hZ hE (by decide) dX2_hasDays_47) (fun _ =>
  bw_iload_n hZ 2 rfl dX2_hasDays_9 <|
  bw_aload_n hZ 0 rfl dX2_hasDays_10 <|
  bw_aload_n hZ 0 rfl dX2_hasDays_11 <|
  bw_getR hZ fl_RX2_37 obC_3 rfl dX2_hasDays_12 <|
  bw_iload_n hZ 3 rfl dX2_hasDays_15 <|
  bw_iald hZ (arC_7 _) dX2_hasDays_16 <|
  bw_callVI (As := [.int (w.1 7 (Int32.toNatClampNeg y3))]) hZ ml_RX2_104 rc_2 obC_3 (by decide) (c_X2_firstDay (zl Z) (zY Z) (hZ_S hZ) (w.1 7 (Int32.toNatClampNeg y3)) w) rfl rfl (Nat.le_of_ble_eq_true rfl) dX2_hasDays_17 fun r2 w1 =>
  bw_mmax hZ kl_RX2_107 km_max (by decide) (Nat.le_of_ble_eq_true rfl) dX2_hasDays_20 <|
  bw_nm fun v3 =>
  bw_istore_n hZ rfl (by decide) rfl dX2_hasDays_23 <|
  bw_iload_n hZ 0 rfl dX2_hasDays_24 <|
  bw_aload_n hZ 1 rfl dX2_hasDays_25 <|
  bw_aload_n hZ 1 rfl dX2_hasDays_26 <|
  bw_getR hZ fl_RX2_37 obC_3 rfl dX2_hasDays_27 <|
  bw_iload_n hZ 3 rfl dX2_hasDays_30 <|
  bw_iald hZ (arC_7 _) dX2_hasDays_31 <|
  bw_callVI (As := [.int (w1.1 7 (Int32.toNatClampNeg y3))]) hZ ml_RX2_112 rc_2 obC_3 (by decide) (c_X2_lastDay (zl Z) (zY Z) (hZ_S hZ) (w1.1 7 (Int32.toNatClampNeg y3)) w1) rfl rfl (Nat.le_of_ble_eq_true rfl) dX2_hasDays_32 fun r5 w4 =>
  bw_icmp_le hZ (tgt := 40) (by decide) dX2_hasDays_35 (fun _ =>
  bw_iinc hZ 1 3 rfl (by decide) (by decide) rfl dX2_hasDays_40 <|
  bw_goto hZ (tgt := 4) (by decide) dX2_hasDays_43 <|
  bw_sub [2, 3, 1, 0] rfl (hk4 y1 v3 (y3 + 1) w4)) (fun _ =>
  bw_iconst hZ 0 (by decide) dX2_hasDays_38 <|
  bw_zret hZ hE (by decide) dX2_hasDays_39))
def X2_hasDays_b4_L  : Int32 → Int32 → Int32 → Wd → Option (Int32 × Wd) :=
  lp fu (fun _ _ _ _ => none) (fun k4 => X2_hasDays_b4 k4)
theorem t_X2_hasDays_b4_L {Z : Cz (Int32 × Wd)} (hZ : OKZ Z SC cX2_hasDays RX2 4 (some .boolean) 2) (hE : EndI Z)  : ∀ (y1 : Int32) (y2 : Int32) (y3 : Int32)  (w : Wd), BW Z 4 4 [(0, .ref (ph (zY Z) 3)), (1, .int y1), (2, .int y2), (3, .int y3)] [] w (X2_hasDays_b4_L y1 y2 y3 w) :=
  lp_bw (fun k4 => ∀ (y1 : Int32) (y2 : Int32) (y3 : Int32)  (w : Wd), BW Z 4 4 [(0, .ref (ph (zY Z) 3)), (1, .int y1), (2, .int y2), (3, .int y3)] [] w (k4 y1 y2 y3 w)) (fun _ _ _ _ => bw_none) (fun k4 hk4 y1 y2 y3 w => t_X2_hasDays_b4 hZ hE k4 hk4 y1 y2 y3 w) fu
def f_X2_hasDays (x1 : Int32) (w : Wd) : Option (Int32 × Wd) :=
  X2_hasDays_b4_L x1 0 0 w
set_option maxRecDepth 100000 in
set_option maxHeartbeats 4000000 in
theorem t_X2_hasDays {Z : Cz (Int32 × Wd)} (hZ : OKZ Z SC cX2_hasDays RX2 4 (some .boolean) 2) (hE : EndI Z) (x1 : Int32)  (w : Wd) : BW Z 4 0 [(0, .ref (ph (zY Z) 3)), (1, .int x1)] [] w (f_X2_hasDays x1 w) :=
  bw_iconst hZ 0 (by decide) dX2_hasDays_0 <|
  bw_istore_n hZ rfl (by decide) rfl dX2_hasDays_1 <|
  bw_iconst hZ 0 (by decide) dX2_hasDays_2 <|
  bw_istore_n hZ rfl (by decide) rfl dX2_hasDays_3 <|
  bw_sub [2, 3, 1, 0] rfl (t_X2_hasDays_b4_L hZ hE x1 0 0 w)
theorem c_X2_hasDays (l : Launch) (Y : Ev) (hY : Y.1 = SC) (x1 : Int32)  (w : Wd) : CI l Y yX2_hasDays cX2_hasDays 4 2 [.ref (ph Y 3), .int x1] w .boolean (f_X2_hasDays x1 w) := by
  refine CI_of (S := SC) (by decide) (Nat.le_of_ble_eq_true rfl) hY ?_
  intro Z hl hY2 hZ hE
  subst hY2
  exact t_X2_hasDays hZ hE x1 w
-- WhichWill$Matter.itemsTold
theorem dX2_itemsTold_0 : decode cX2_itemsTold 0 = .ok (.aload_n 0, 1) := by decide +kernel
theorem dX2_itemsTold_1 : decode cX2_itemsTold 1 = .ok (.getfield 46, 3) := by decide +kernel
theorem dX2_itemsTold_4 : decode cX2_itemsTold 4 = .ok (.aload_n 0, 1) := by decide +kernel
theorem dX2_itemsTold_5 : decode cX2_itemsTold 5 = .ok (.getfield 49, 3) := by decide +kernel
theorem dX2_itemsTold_8 : decode cX2_itemsTold 8 = .ok (.iadd, 1) := by decide +kernel
theorem dX2_itemsTold_9 : decode cX2_itemsTold 9 = .ok (.ireturn, 1) := by decide +kernel
def f_X2_itemsTold (w : Wd) : Option (Int32 × Wd) :=
  some ((w.1 3 3) + (w.1 3 4), w)
set_option maxRecDepth 100000 in
set_option maxHeartbeats 4000000 in
theorem t_X2_itemsTold {Z : Cz (Int32 × Wd)} (hZ : OKZ Z SC cX2_itemsTold RX2 1 (some .int) 1) (hE : EndI Z)   (w : Wd) : BW Z 1 0 [(0, .ref (ph (zY Z) 3))] [] w (f_X2_itemsTold w) :=
  bw_aload_n hZ 0 rfl dX2_itemsTold_0 <|
  bw_getI hZ fl_RX2_46 (by decide) obC_3 dX2_itemsTold_1 <|
  bw_aload_n hZ 0 rfl dX2_itemsTold_4 <|
  bw_getI hZ fl_RX2_49 (by decide) obC_3 dX2_itemsTold_5 <|
  bw_iadd hZ dX2_itemsTold_8 <|
  bw_iret hZ hE dX2_itemsTold_9
theorem c_X2_itemsTold (l : Launch) (Y : Ev) (hY : Y.1 = SC)   (w : Wd) : CI l Y yX2_itemsTold cX2_itemsTold 1 1 [.ref (ph Y 3)] w .int (f_X2_itemsTold w) := by
  refine CI_of (S := SC) (by decide) (Nat.le_of_ble_eq_true rfl) hY ?_
  intro Z hl hY2 hZ hE
  subst hY2
  exact t_X2_itemsTold hZ hE w
-- WhichWill$Matter.packedRow
theorem dX2_packedRow_0 : decode cX2_packedRow 0 = .ok (.iconst 0, 1) := by decide +kernel
theorem dX2_packedRow_1 : decode cX2_packedRow 1 = .ok (.istore_n 2, 1) := by decide +kernel
theorem dX2_packedRow_2 : decode cX2_packedRow 2 = .ok (.iconst 0, 1) := by decide +kernel
theorem dX2_packedRow_3 : decode cX2_packedRow 3 = .ok (.istore_n 3, 1) := by decide +kernel
theorem dX2_packedRow_4 : decode cX2_packedRow 4 = .ok (.iload_n 3, 1) := by decide +kernel
theorem dX2_packedRow_5 : decode cX2_packedRow 5 = .ok (.iload_n 1, 1) := by decide +kernel
theorem dX2_packedRow_6 : decode cX2_packedRow 6 = .ok (.if_icmp .ge 22, 3) := by decide +kernel
theorem dX2_packedRow_9 : decode cX2_packedRow 9 = .ok (.iload_n 2, 1) := by decide +kernel
theorem dX2_packedRow_10 : decode cX2_packedRow 10 = .ok (.aload_n 0, 1) := by decide +kernel
theorem dX2_packedRow_11 : decode cX2_packedRow 11 = .ok (.getfield 37, 3) := by decide +kernel
theorem dX2_packedRow_14 : decode cX2_packedRow 14 = .ok (.iload_n 3, 1) := by decide +kernel
theorem dX2_packedRow_15 : decode cX2_packedRow 15 = .ok (.iaload, 1) := by decide +kernel
theorem dX2_packedRow_16 : decode cX2_packedRow 16 = .ok (.iconst 3, 1) := by decide +kernel
theorem dX2_packedRow_17 : decode cX2_packedRow 17 = .ok (.iload_n 3, 1) := by decide +kernel
theorem dX2_packedRow_18 : decode cX2_packedRow 18 = .ok (.imul, 1) := by decide +kernel
theorem dX2_packedRow_19 : decode cX2_packedRow 19 = .ok (.ishl, 1) := by decide +kernel
theorem dX2_packedRow_20 : decode cX2_packedRow 20 = .ok (.ior, 1) := by decide +kernel
theorem dX2_packedRow_21 : decode cX2_packedRow 21 = .ok (.istore_n 2, 1) := by decide +kernel
theorem dX2_packedRow_22 : decode cX2_packedRow 22 = .ok (.iinc 3 1, 3) := by decide +kernel
theorem dX2_packedRow_25 : decode cX2_packedRow 25 = .ok (.goto (-21), 3) := by decide +kernel
theorem dX2_packedRow_28 : decode cX2_packedRow 28 = .ok (.iload_n 2, 1) := by decide +kernel
theorem dX2_packedRow_29 : decode cX2_packedRow 29 = .ok (.ireturn, 1) := by decide +kernel
def X2_packedRow_b4 (k4 : Int32 → Int32 → Int32 → Wd → Option (Int32 × Wd)) (y1 : Int32) (y2 : Int32) (y3 : Int32) (w : Wd) : Option (Int32 × Wd) :=
  if y1 ≤ y3 then
  (some (y2, w))
  else
  if inb y3 6 = true then
  (lt (y2 ||| ((w.1 7 (Int32.toNatClampNeg y3)) <<< ((3 * y3) &&& 31))) fun v1 =>
  k4 y1 v1 (y3 + 1) w)
  else none
set_option maxRecDepth 100000 in
set_option maxHeartbeats 4000000 in
theorem t_X2_packedRow_b4 {Z : Cz (Int32 × Wd)} (hZ : OKZ Z SC cX2_packedRow RX2 4 (some .int) 1) (hE : EndI Z) (k4 : Int32 → Int32 → Int32 → Wd → Option (Int32 × Wd)) (hk4 : ∀ (y1 : Int32) (y2 : Int32) (y3 : Int32)  (w : Wd), BW Z 4 4 [(0, .ref (ph (zY Z) 3)), (1, .int y1), (2, .int y2), (3, .int y3)] [] w (k4 y1 y2 y3 w)) (y1 : Int32) (y2 : Int32) (y3 : Int32)  (w : Wd) : BW Z 4 4 [(0, .ref (ph (zY Z) 3)), (1, .int y1), (2, .int y2), (3, .int y3)] [] w (X2_packedRow_b4 k4 y1 y2 y3 w) :=
  bw_iload_n hZ 3 rfl dX2_packedRow_4 <|
  bw_iload_n hZ 1 rfl dX2_packedRow_5 <|
  bw_icmp_ge hZ (tgt := 28) (by decide) dX2_packedRow_6 (fun _ =>
  bw_iload_n hZ 2 rfl dX2_packedRow_28 <|
  bw_iret hZ hE dX2_packedRow_29) (fun _ =>
  bw_iload_n hZ 2 rfl dX2_packedRow_9 <|
  bw_aload_n hZ 0 rfl dX2_packedRow_10 <|
  bw_getR hZ fl_RX2_37 obC_3 rfl dX2_packedRow_11 <|
  bw_iload_n hZ 3 rfl dX2_packedRow_14 <|
  bw_iald hZ (arC_7 _) dX2_packedRow_15 <|
  bw_iconst hZ 3 (by decide) dX2_packedRow_16 <|
  bw_iload_n hZ 3 rfl dX2_packedRow_17 <|
  bw_imul hZ dX2_packedRow_18 <|
  bw_ishl hZ dX2_packedRow_19 <|
  bw_ior hZ dX2_packedRow_20 <|
  bw_nm fun v1 =>
  bw_istore_n hZ rfl (by decide) rfl dX2_packedRow_21 <|
  bw_iinc hZ 1 3 rfl (by decide) (by decide) rfl dX2_packedRow_22 <|
  bw_goto hZ (tgt := 4) (by decide) dX2_packedRow_25 <|
  bw_sub [2, 3, 1, 0] rfl (hk4 y1 v1 (y3 + 1) w))
def X2_packedRow_b4_L  : Int32 → Int32 → Int32 → Wd → Option (Int32 × Wd) :=
  lp fu (fun _ _ _ _ => none) (fun k4 => X2_packedRow_b4 k4)
theorem t_X2_packedRow_b4_L {Z : Cz (Int32 × Wd)} (hZ : OKZ Z SC cX2_packedRow RX2 4 (some .int) 1) (hE : EndI Z)  : ∀ (y1 : Int32) (y2 : Int32) (y3 : Int32)  (w : Wd), BW Z 4 4 [(0, .ref (ph (zY Z) 3)), (1, .int y1), (2, .int y2), (3, .int y3)] [] w (X2_packedRow_b4_L y1 y2 y3 w) :=
  lp_bw (fun k4 => ∀ (y1 : Int32) (y2 : Int32) (y3 : Int32)  (w : Wd), BW Z 4 4 [(0, .ref (ph (zY Z) 3)), (1, .int y1), (2, .int y2), (3, .int y3)] [] w (k4 y1 y2 y3 w)) (fun _ _ _ _ => bw_none) (fun k4 hk4 y1 y2 y3 w => t_X2_packedRow_b4 hZ hE k4 hk4 y1 y2 y3 w) fu
def f_X2_packedRow (x1 : Int32) (w : Wd) : Option (Int32 × Wd) :=
  X2_packedRow_b4_L x1 0 0 w
set_option maxRecDepth 100000 in
set_option maxHeartbeats 4000000 in
theorem t_X2_packedRow {Z : Cz (Int32 × Wd)} (hZ : OKZ Z SC cX2_packedRow RX2 4 (some .int) 1) (hE : EndI Z) (x1 : Int32)  (w : Wd) : BW Z 4 0 [(0, .ref (ph (zY Z) 3)), (1, .int x1)] [] w (f_X2_packedRow x1 w) :=
  bw_iconst hZ 0 (by decide) dX2_packedRow_0 <|
  bw_istore_n hZ rfl (by decide) rfl dX2_packedRow_1 <|
  bw_iconst hZ 0 (by decide) dX2_packedRow_2 <|
  bw_istore_n hZ rfl (by decide) rfl dX2_packedRow_3 <|
  bw_sub [2, 3, 1, 0] rfl (t_X2_packedRow_b4_L hZ hE x1 0 0 w)
theorem c_X2_packedRow (l : Launch) (Y : Ev) (hY : Y.1 = SC) (x1 : Int32)  (w : Wd) : CI l Y yX2_packedRow cX2_packedRow 4 1 [.ref (ph Y 3), .int x1] w .int (f_X2_packedRow x1 w) := by
  refine CI_of (S := SC) (by decide) (Nat.le_of_ble_eq_true rfl) hY ?_
  intro Z hl hY2 hZ hE
  subst hY2
  exact t_X2_packedRow hZ hE x1 w
-- WhichWill$Matter.swapInRow
theorem dX2_swapInRow_0 : decode cX2_swapInRow 0 = .ok (.aload_n 0, 1) := by decide +kernel
theorem dX2_swapInRow_1 : decode cX2_swapInRow 1 = .ok (.getfield 37, 3) := by decide +kernel
theorem dX2_swapInRow_4 : decode cX2_swapInRow 4 = .ok (.iload_n 1, 1) := by decide +kernel
theorem dX2_swapInRow_5 : decode cX2_swapInRow 5 = .ok (.iaload, 1) := by decide +kernel
theorem dX2_swapInRow_6 : decode cX2_swapInRow 6 = .ok (.istore_n 3, 1) := by decide +kernel
theorem dX2_swapInRow_7 : decode cX2_swapInRow 7 = .ok (.aload_n 0, 1) := by decide +kernel
theorem dX2_swapInRow_8 : decode cX2_swapInRow 8 = .ok (.getfield 37, 3) := by decide +kernel
theorem dX2_swapInRow_11 : decode cX2_swapInRow 11 = .ok (.iload_n 1, 1) := by decide +kernel
theorem dX2_swapInRow_12 : decode cX2_swapInRow 12 = .ok (.aload_n 0, 1) := by decide +kernel
theorem dX2_swapInRow_13 : decode cX2_swapInRow 13 = .ok (.getfield 37, 3) := by decide +kernel
theorem dX2_swapInRow_16 : decode cX2_swapInRow 16 = .ok (.iload_n 2, 1) := by decide +kernel
theorem dX2_swapInRow_17 : decode cX2_swapInRow 17 = .ok (.iaload, 1) := by decide +kernel
theorem dX2_swapInRow_18 : decode cX2_swapInRow 18 = .ok (.iastore, 1) := by decide +kernel
theorem dX2_swapInRow_19 : decode cX2_swapInRow 19 = .ok (.aload_n 0, 1) := by decide +kernel
theorem dX2_swapInRow_20 : decode cX2_swapInRow 20 = .ok (.getfield 37, 3) := by decide +kernel
theorem dX2_swapInRow_23 : decode cX2_swapInRow 23 = .ok (.iload_n 2, 1) := by decide +kernel
theorem dX2_swapInRow_24 : decode cX2_swapInRow 24 = .ok (.iload_n 3, 1) := by decide +kernel
theorem dX2_swapInRow_25 : decode cX2_swapInRow 25 = .ok (.iastore, 1) := by decide +kernel
theorem dX2_swapInRow_26 : decode cX2_swapInRow 26 = .ok (.return_, 1) := by decide +kernel
def f_X2_swapInRow (x1 : Int32) (x2 : Int32) (w : Wd) : Option (Wd) :=
  if inb x1 6 = true then
  (lt (w.1 7 (Int32.toNatClampNeg x1)) fun v1 =>
  if inb x2 6 = true then
  (if inb x1 6 = true then
  (lt (wI w 7 (Int32.toNatClampNeg x1) (w.1 7 (Int32.toNatClampNeg x2))) fun w2 =>
  if inb x2 6 = true then
  (lt (wI w2 7 (Int32.toNatClampNeg x2) v1) fun w3 =>
  some w3)
  else none)
  else none)
  else none)
  else none
set_option maxRecDepth 100000 in
set_option maxHeartbeats 4000000 in
theorem t_X2_swapInRow {Z : Cz (Wd)} (hZ : OKZ Z SC cX2_swapInRow RX2 4 none 1) (hE : EndV Z) (x1 : Int32) (x2 : Int32)  (w : Wd) : BW Z 4 0 [(0, .ref (ph (zY Z) 3)), (1, .int x1), (2, .int x2)] [] w (f_X2_swapInRow x1 x2 w) :=
  bw_aload_n hZ 0 rfl dX2_swapInRow_0 <|
  bw_getR hZ fl_RX2_37 obC_3 rfl dX2_swapInRow_1 <|
  bw_iload_n hZ 1 rfl dX2_swapInRow_4 <|
  bw_iald hZ (arC_7 _) dX2_swapInRow_5 <|
  bw_nm fun v1 =>
  bw_istore_n hZ rfl (by decide) rfl dX2_swapInRow_6 <|
  bw_aload_n hZ 1 rfl dX2_swapInRow_7 <|
  bw_getR hZ fl_RX2_37 obC_3 rfl dX2_swapInRow_8 <|
  bw_iload_n hZ 2 rfl dX2_swapInRow_11 <|
  bw_aload_n hZ 1 rfl dX2_swapInRow_12 <|
  bw_getR hZ fl_RX2_37 obC_3 rfl dX2_swapInRow_13 <|
  bw_iload_n hZ 3 rfl dX2_swapInRow_16 <|
  bw_iald hZ (arC_7 _) dX2_swapInRow_17 <|
  bw_iast hZ (arC_7 _) dX2_swapInRow_18 fun w2 =>
  bw_aload_n hZ 1 rfl dX2_swapInRow_19 <|
  bw_getR hZ fl_RX2_37 obC_3 rfl dX2_swapInRow_20 <|
  bw_iload_n hZ 3 rfl dX2_swapInRow_23 <|
  bw_iload_n hZ 0 rfl dX2_swapInRow_24 <|
  bw_iast hZ (arC_7 _) dX2_swapInRow_25 fun w3 =>
  bw_vret hZ hE dX2_swapInRow_26
theorem c_X2_swapInRow (l : Launch) (Y : Ev) (hY : Y.1 = SC) (x1 : Int32) (x2 : Int32)  (w : Wd) : CV l Y yX2_swapInRow cX2_swapInRow 4 1 [.ref (ph Y 3), .int x1, .int x2] w (f_X2_swapInRow x1 x2 w) := by
  refine CV_of (S := SC) (by decide) (Nat.le_of_ble_eq_true rfl) hY ?_
  intro Z hl hY2 hZ hE
  subst hY2
  exact t_X2_swapInRow hZ hE x1 x2 w
-- WhichWill$Matter.stepRow
theorem dX2_stepRow_0 : decode cX2_stepRow 0 = .ok (.iload_n 1, 1) := by decide +kernel
theorem dX2_stepRow_1 : decode cX2_stepRow 1 = .ok (.iconst 2, 1) := by decide +kernel
theorem dX2_stepRow_2 : decode cX2_stepRow 2 = .ok (.isub, 1) := by decide +kernel
theorem dX2_stepRow_3 : decode cX2_stepRow 3 = .ok (.istore_n 2, 1) := by decide +kernel
theorem dX2_stepRow_4 : decode cX2_stepRow 4 = .ok (.iload_n 2, 1) := by decide +kernel
theorem dX2_stepRow_5 : decode cX2_stepRow 5 = .ok (.ifCond .lt 26, 3) := by decide +kernel
theorem dX2_stepRow_8 : decode cX2_stepRow 8 = .ok (.aload_n 0, 1) := by decide +kernel
theorem dX2_stepRow_9 : decode cX2_stepRow 9 = .ok (.getfield 37, 3) := by decide +kernel
theorem dX2_stepRow_12 : decode cX2_stepRow 12 = .ok (.iload_n 2, 1) := by decide +kernel
theorem dX2_stepRow_13 : decode cX2_stepRow 13 = .ok (.iaload, 1) := by decide +kernel
theorem dX2_stepRow_14 : decode cX2_stepRow 14 = .ok (.aload_n 0, 1) := by decide +kernel
theorem dX2_stepRow_15 : decode cX2_stepRow 15 = .ok (.getfield 37, 3) := by decide +kernel
theorem dX2_stepRow_18 : decode cX2_stepRow 18 = .ok (.iload_n 2, 1) := by decide +kernel
theorem dX2_stepRow_19 : decode cX2_stepRow 19 = .ok (.iconst 1, 1) := by decide +kernel
theorem dX2_stepRow_20 : decode cX2_stepRow 20 = .ok (.iadd, 1) := by decide +kernel
theorem dX2_stepRow_21 : decode cX2_stepRow 21 = .ok (.iaload, 1) := by decide +kernel
theorem dX2_stepRow_22 : decode cX2_stepRow 22 = .ok (.if_icmp .le 9, 3) := by decide +kernel
theorem dX2_stepRow_25 : decode cX2_stepRow 25 = .ok (.iinc 2 (-1), 3) := by decide +kernel
theorem dX2_stepRow_28 : decode cX2_stepRow 28 = .ok (.goto (-24), 3) := by decide +kernel
theorem dX2_stepRow_31 : decode cX2_stepRow 31 = .ok (.iload_n 2, 1) := by decide +kernel
theorem dX2_stepRow_32 : decode cX2_stepRow 32 = .ok (.ifCond .ge 5, 3) := by decide +kernel
theorem dX2_stepRow_35 : decode cX2_stepRow 35 = .ok (.iconst 0, 1) := by decide +kernel
theorem dX2_stepRow_36 : decode cX2_stepRow 36 = .ok (.ireturn, 1) := by decide +kernel
theorem dX2_stepRow_37 : decode cX2_stepRow 37 = .ok (.iload_n 1, 1) := by decide +kernel
theorem dX2_stepRow_38 : decode cX2_stepRow 38 = .ok (.iconst 1, 1) := by decide +kernel
theorem dX2_stepRow_39 : decode cX2_stepRow 39 = .ok (.isub, 1) := by decide +kernel
theorem dX2_stepRow_40 : decode cX2_stepRow 40 = .ok (.istore_n 3, 1) := by decide +kernel
theorem dX2_stepRow_41 : decode cX2_stepRow 41 = .ok (.iload_n 3, 1) := by decide +kernel
theorem dX2_stepRow_42 : decode cX2_stepRow 42 = .ok (.iload_n 2, 1) := by decide +kernel
theorem dX2_stepRow_43 : decode cX2_stepRow 43 = .ok (.if_icmp .le 24, 3) := by decide +kernel
theorem dX2_stepRow_46 : decode cX2_stepRow 46 = .ok (.aload_n 0, 1) := by decide +kernel
theorem dX2_stepRow_47 : decode cX2_stepRow 47 = .ok (.getfield 37, 3) := by decide +kernel
theorem dX2_stepRow_50 : decode cX2_stepRow 50 = .ok (.iload_n 3, 1) := by decide +kernel
theorem dX2_stepRow_51 : decode cX2_stepRow 51 = .ok (.iaload, 1) := by decide +kernel
theorem dX2_stepRow_52 : decode cX2_stepRow 52 = .ok (.aload_n 0, 1) := by decide +kernel
theorem dX2_stepRow_53 : decode cX2_stepRow 53 = .ok (.getfield 37, 3) := by decide +kernel
theorem dX2_stepRow_56 : decode cX2_stepRow 56 = .ok (.iload_n 2, 1) := by decide +kernel
theorem dX2_stepRow_57 : decode cX2_stepRow 57 = .ok (.iaload, 1) := by decide +kernel
theorem dX2_stepRow_58 : decode cX2_stepRow 58 = .ok (.if_icmp .ge 9, 3) := by decide +kernel
theorem dX2_stepRow_61 : decode cX2_stepRow 61 = .ok (.iinc 3 (-1), 3) := by decide +kernel
theorem dX2_stepRow_64 : decode cX2_stepRow 64 = .ok (.goto (-23), 3) := by decide +kernel
theorem dX2_stepRow_67 : decode cX2_stepRow 67 = .ok (.aload_n 0, 1) := by decide +kernel
theorem dX2_stepRow_68 : decode cX2_stepRow 68 = .ok (.iload_n 2, 1) := by decide +kernel
theorem dX2_stepRow_69 : decode cX2_stepRow 69 = .ok (.iload_n 3, 1) := by decide +kernel
theorem dX2_stepRow_70 : decode cX2_stepRow 70 = .ok (.invokevirtual 117, 3) := by decide +kernel
theorem dX2_stepRow_73 : decode cX2_stepRow 73 = .ok (.iload_n 1, 1) := by decide +kernel
theorem dX2_stepRow_74 : decode cX2_stepRow 74 = .ok (.iconst 1, 1) := by decide +kernel
theorem dX2_stepRow_75 : decode cX2_stepRow 75 = .ok (.isub, 1) := by decide +kernel
theorem dX2_stepRow_76 : decode cX2_stepRow 76 = .ok (.iload_n 2, 1) := by decide +kernel
theorem dX2_stepRow_77 : decode cX2_stepRow 77 = .ok (.isub, 1) := by decide +kernel
theorem dX2_stepRow_78 : decode cX2_stepRow 78 = .ok (.istore 4, 2) := by decide +kernel
theorem dX2_stepRow_80 : decode cX2_stepRow 80 = .ok (.iconst 0, 1) := by decide +kernel
theorem dX2_stepRow_81 : decode cX2_stepRow 81 = .ok (.istore 5, 2) := by decide +kernel
theorem dX2_stepRow_83 : decode cX2_stepRow 83 = .ok (.iload 5, 2) := by decide +kernel
theorem dX2_stepRow_85 : decode cX2_stepRow 85 = .ok (.iload 4, 2) := by decide +kernel
theorem dX2_stepRow_87 : decode cX2_stepRow 87 = .ok (.iconst 2, 1) := by decide +kernel
theorem dX2_stepRow_88 : decode cX2_stepRow 88 = .ok (.idiv, 1) := by decide +kernel
theorem dX2_stepRow_89 : decode cX2_stepRow 89 = .ok (.if_icmp .ge 25, 3) := by decide +kernel
theorem dX2_stepRow_92 : decode cX2_stepRow 92 = .ok (.aload_n 0, 1) := by decide +kernel
theorem dX2_stepRow_93 : decode cX2_stepRow 93 = .ok (.iload_n 2, 1) := by decide +kernel
theorem dX2_stepRow_94 : decode cX2_stepRow 94 = .ok (.iconst 1, 1) := by decide +kernel
theorem dX2_stepRow_95 : decode cX2_stepRow 95 = .ok (.iadd, 1) := by decide +kernel
theorem dX2_stepRow_96 : decode cX2_stepRow 96 = .ok (.iload 5, 2) := by decide +kernel
theorem dX2_stepRow_98 : decode cX2_stepRow 98 = .ok (.iadd, 1) := by decide +kernel
theorem dX2_stepRow_99 : decode cX2_stepRow 99 = .ok (.iload_n 1, 1) := by decide +kernel
theorem dX2_stepRow_100 : decode cX2_stepRow 100 = .ok (.iconst 1, 1) := by decide +kernel
theorem dX2_stepRow_101 : decode cX2_stepRow 101 = .ok (.isub, 1) := by decide +kernel
theorem dX2_stepRow_102 : decode cX2_stepRow 102 = .ok (.iload 5, 2) := by decide +kernel
theorem dX2_stepRow_104 : decode cX2_stepRow 104 = .ok (.isub, 1) := by decide +kernel
theorem dX2_stepRow_105 : decode cX2_stepRow 105 = .ok (.invokevirtual 117, 3) := by decide +kernel
theorem dX2_stepRow_108 : decode cX2_stepRow 108 = .ok (.iinc 5 1, 3) := by decide +kernel
theorem dX2_stepRow_111 : decode cX2_stepRow 111 = .ok (.goto (-28), 3) := by decide +kernel
theorem dX2_stepRow_114 : decode cX2_stepRow 114 = .ok (.iconst 1, 1) := by decide +kernel
theorem dX2_stepRow_115 : decode cX2_stepRow 115 = .ok (.ireturn, 1) := by decide +kernel
def X2_stepRow_b83 (k83 : Int32 → Int32 → Int32 → Int32 → Wd → Option (Int32 × Wd)) (y1 : Int32) (y2 : Int32) (y4 : Int32) (y5 : Int32) (w : Wd) : Option (Int32 × Wd) :=
  if (y4 / 2) ≤ y5 then
  (some (1, w))
  else
  cv (f_X2_swapInRow ((y2 + 1) + y5) ((y1 - 1) - y5) w) fun w5 =>
  k83 y1 y2 y4 (y5 + 1) w5
set_option maxRecDepth 100000 in
set_option maxHeartbeats 4000000 in
theorem t_X2_stepRow_b83 {Z : Cz (Int32 × Wd)} (hZ : OKZ Z SC cX2_stepRow RX2 6 (some .boolean) 2) (hE : EndI Z) (k83 : Int32 → Int32 → Int32 → Int32 → Wd → Option (Int32 × Wd)) (hk83 : ∀ (y1 : Int32) (y2 : Int32) (y4 : Int32) (y5 : Int32)  (w : Wd), BW Z 6 83 [(0, .ref (ph (zY Z) 3)), (1, .int y1), (2, .int y2), (4, .int y4), (5, .int y5)] [] w (k83 y1 y2 y4 y5 w)) (y1 : Int32) (y2 : Int32) (y4 : Int32) (y5 : Int32)  (w : Wd) : BW Z 6 83 [(0, .ref (ph (zY Z) 3)), (1, .int y1), (2, .int y2), (4, .int y4), (5, .int y5)] [] w (X2_stepRow_b83 k83 y1 y2 y4 y5 w) :=
  bw_iload hZ 4 rfl dX2_stepRow_83 <|
  bw_iload hZ 3 rfl dX2_stepRow_85 <|
  bw_iconst hZ 2 (by decide) dX2_stepRow_87 <|
  bw_idivN hZ (by decide) dX2_stepRow_88 <|
  bw_icmp_ge hZ (tgt := 114) (by decide) dX2_stepRow_89 (fun _ =>
  bw_iconst hZ 1 (by decide) dX2_stepRow_114 <|
  bw_zret hZ hE (by decide) dX2_stepRow_115) (fun _ =>
  bw_aload_n hZ 0 rfl dX2_stepRow_92 <|
  bw_iload_n hZ 2 rfl dX2_stepRow_93 <|
  bw_iconst hZ 1 (by decide) dX2_stepRow_94 <|
  bw_iadd hZ dX2_stepRow_95 <|
  bw_iload hZ 4 rfl dX2_stepRow_96 <|
  bw_iadd hZ dX2_stepRow_98 <|
  bw_iload_n hZ 1 rfl dX2_stepRow_99 <|
  bw_iconst hZ 1 (by decide) dX2_stepRow_100 <|
  bw_isub hZ dX2_stepRow_101 <|
  bw_iload hZ 4 rfl dX2_stepRow_102 <|
  bw_isub hZ dX2_stepRow_104 <|
  bw_callVV (As := [.int ((y2 + 1) + y5), .int ((y1 - 1) - y5)]) hZ ml_RX2_117 rc_2 obC_3 (by decide) (c_X2_swapInRow (zl Z) (zY Z) (hZ_S hZ) ((y2 + 1) + y5) ((y1 - 1) - y5) w) rfl rfl (Nat.le_of_ble_eq_true rfl) dX2_stepRow_105 fun w5 =>
  bw_iinc hZ 1 4 rfl (by decide) (by decide) rfl dX2_stepRow_108 <|
  bw_goto hZ (tgt := 83) (by decide) dX2_stepRow_111 <|
  bw_sub [1, 2, 3, 4, 0] rfl (hk83 y1 y2 y4 (y5 + 1) w5))
def X2_stepRow_b83_L  : Int32 → Int32 → Int32 → Int32 → Wd → Option (Int32 × Wd) :=
  lp fu (fun _ _ _ _ _ => none) (fun k83 => X2_stepRow_b83 k83)
theorem t_X2_stepRow_b83_L {Z : Cz (Int32 × Wd)} (hZ : OKZ Z SC cX2_stepRow RX2 6 (some .boolean) 2) (hE : EndI Z)  : ∀ (y1 : Int32) (y2 : Int32) (y4 : Int32) (y5 : Int32)  (w : Wd), BW Z 6 83 [(0, .ref (ph (zY Z) 3)), (1, .int y1), (2, .int y2), (4, .int y4), (5, .int y5)] [] w (X2_stepRow_b83_L y1 y2 y4 y5 w) :=
  lp_bw (fun k83 => ∀ (y1 : Int32) (y2 : Int32) (y4 : Int32) (y5 : Int32)  (w : Wd), BW Z 6 83 [(0, .ref (ph (zY Z) 3)), (1, .int y1), (2, .int y2), (4, .int y4), (5, .int y5)] [] w (k83 y1 y2 y4 y5 w)) (fun _ _ _ _ _ => bw_none) (fun k83 hk83 y1 y2 y4 y5 w => t_X2_stepRow_b83 hZ hE k83 hk83 y1 y2 y4 y5 w) fu
def X2_stepRow_b67 (y1 : Int32) (y2 : Int32) (y3 : Int32) (w : Wd) : Option (Int32 × Wd) :=
  cv (f_X2_swapInRow y2 y3 w) fun w3 =>
  lt ((y1 - 1) - y2) fun v4 =>
  X2_stepRow_b83_L y1 y2 v4 0 w3
set_option maxRecDepth 100000 in
set_option maxHeartbeats 4000000 in
theorem t_X2_stepRow_b67 {Z : Cz (Int32 × Wd)} (hZ : OKZ Z SC cX2_stepRow RX2 6 (some .boolean) 2) (hE : EndI Z)  (y1 : Int32) (y2 : Int32) (y3 : Int32)  (w : Wd) : BW Z 6 67 [(0, .ref (ph (zY Z) 3)), (1, .int y1), (2, .int y2), (3, .int y3)] [] w (X2_stepRow_b67 y1 y2 y3 w) :=
  bw_aload_n hZ 0 rfl dX2_stepRow_67 <|
  bw_iload_n hZ 2 rfl dX2_stepRow_68 <|
  bw_iload_n hZ 3 rfl dX2_stepRow_69 <|
  bw_callVV (As := [.int y2, .int y3]) hZ ml_RX2_117 rc_2 obC_3 (by decide) (c_X2_swapInRow (zl Z) (zY Z) (hZ_S hZ) y2 y3 w) rfl rfl (Nat.le_of_ble_eq_true rfl) dX2_stepRow_70 fun w3 =>
  bw_iload_n hZ 1 rfl dX2_stepRow_73 <|
  bw_iconst hZ 1 (by decide) dX2_stepRow_74 <|
  bw_isub hZ dX2_stepRow_75 <|
  bw_iload_n hZ 2 rfl dX2_stepRow_76 <|
  bw_isub hZ dX2_stepRow_77 <|
  bw_nm fun v4 =>
  bw_istore hZ (by decide) rfl dX2_stepRow_78 <|
  bw_iconst hZ 0 (by decide) dX2_stepRow_80 <|
  bw_istore hZ (by decide) rfl dX2_stepRow_81 <|
  bw_sub [2, 3, 4, 1, 0] rfl (t_X2_stepRow_b83_L hZ hE y1 y2 v4 0 w3)
def X2_stepRow_b41 (k41 : Int32 → Int32 → Int32 → Wd → Option (Int32 × Wd)) (y1 : Int32) (y2 : Int32) (y3 : Int32) (w : Wd) : Option (Int32 × Wd) :=
  if y3 ≤ y2 then
  (X2_stepRow_b67 y1 y2 y3 w)
  else
  if inb y3 6 = true then
  (if inb y2 6 = true then
  (if (w.1 7 (Int32.toNatClampNeg y2)) ≤ (w.1 7 (Int32.toNatClampNeg y3)) then
  (X2_stepRow_b67 y1 y2 y3 w)
  else
  k41 y1 y2 (y3 + (-1)) w)
  else none)
  else none
set_option maxRecDepth 100000 in
set_option maxHeartbeats 4000000 in
theorem t_X2_stepRow_b41 {Z : Cz (Int32 × Wd)} (hZ : OKZ Z SC cX2_stepRow RX2 6 (some .boolean) 2) (hE : EndI Z) (k41 : Int32 → Int32 → Int32 → Wd → Option (Int32 × Wd)) (hk41 : ∀ (y1 : Int32) (y2 : Int32) (y3 : Int32)  (w : Wd), BW Z 6 41 [(0, .ref (ph (zY Z) 3)), (1, .int y1), (2, .int y2), (3, .int y3)] [] w (k41 y1 y2 y3 w)) (y1 : Int32) (y2 : Int32) (y3 : Int32)  (w : Wd) : BW Z 6 41 [(0, .ref (ph (zY Z) 3)), (1, .int y1), (2, .int y2), (3, .int y3)] [] w (X2_stepRow_b41 k41 y1 y2 y3 w) :=
  bw_iload_n hZ 3 rfl dX2_stepRow_41 <|
  bw_iload_n hZ 2 rfl dX2_stepRow_42 <|
  bw_icmp_le hZ (tgt := 67) (by decide) dX2_stepRow_43 (fun _ =>
  bw_sub [0, 1, 2, 3] rfl (t_X2_stepRow_b67 hZ hE y1 y2 y3 w)) (fun _ =>
  bw_aload_n hZ 0 rfl dX2_stepRow_46 <|
  bw_getR hZ fl_RX2_37 obC_3 rfl dX2_stepRow_47 <|
  bw_iload_n hZ 3 rfl dX2_stepRow_50 <|
  bw_iald hZ (arC_7 _) dX2_stepRow_51 <|
  bw_aload_n hZ 0 rfl dX2_stepRow_52 <|
  bw_getR hZ fl_RX2_37 obC_3 rfl dX2_stepRow_53 <|
  bw_iload_n hZ 2 rfl dX2_stepRow_56 <|
  bw_iald hZ (arC_7 _) dX2_stepRow_57 <|
  bw_icmp_ge hZ (tgt := 67) (by decide) dX2_stepRow_58 (fun _ =>
  bw_sub [0, 1, 2, 3] rfl (t_X2_stepRow_b67 hZ hE y1 y2 y3 w)) (fun _ =>
  bw_iinc hZ (-1) 3 rfl (by decide) (by decide) rfl dX2_stepRow_61 <|
  bw_goto hZ (tgt := 41) (by decide) dX2_stepRow_64 <|
  bw_sub [1, 2, 3, 0] rfl (hk41 y1 y2 (y3 + (-1)) w)))
def X2_stepRow_b41_L  : Int32 → Int32 → Int32 → Wd → Option (Int32 × Wd) :=
  lp fu (fun _ _ _ _ => none) (fun k41 => X2_stepRow_b41 k41)
theorem t_X2_stepRow_b41_L {Z : Cz (Int32 × Wd)} (hZ : OKZ Z SC cX2_stepRow RX2 6 (some .boolean) 2) (hE : EndI Z)  : ∀ (y1 : Int32) (y2 : Int32) (y3 : Int32)  (w : Wd), BW Z 6 41 [(0, .ref (ph (zY Z) 3)), (1, .int y1), (2, .int y2), (3, .int y3)] [] w (X2_stepRow_b41_L y1 y2 y3 w) :=
  lp_bw (fun k41 => ∀ (y1 : Int32) (y2 : Int32) (y3 : Int32)  (w : Wd), BW Z 6 41 [(0, .ref (ph (zY Z) 3)), (1, .int y1), (2, .int y2), (3, .int y3)] [] w (k41 y1 y2 y3 w)) (fun _ _ _ _ => bw_none) (fun k41 hk41 y1 y2 y3 w => t_X2_stepRow_b41 hZ hE k41 hk41 y1 y2 y3 w) fu
def X2_stepRow_b31 (y1 : Int32) (y2 : Int32) (w : Wd) : Option (Int32 × Wd) :=
  if 0 ≤ y2 then
  (lt (y1 - 1) fun v2 =>
  X2_stepRow_b41_L y1 y2 v2 w)
  else
  some (0, w)
set_option maxRecDepth 100000 in
set_option maxHeartbeats 4000000 in
theorem t_X2_stepRow_b31 {Z : Cz (Int32 × Wd)} (hZ : OKZ Z SC cX2_stepRow RX2 6 (some .boolean) 2) (hE : EndI Z)  (y1 : Int32) (y2 : Int32)  (w : Wd) : BW Z 6 31 [(0, .ref (ph (zY Z) 3)), (1, .int y1), (2, .int y2)] [] w (X2_stepRow_b31 y1 y2 w) :=
  bw_iload_n hZ 2 rfl dX2_stepRow_31 <|
  bw_if_ge hZ (tgt := 37) (by decide) dX2_stepRow_32 (fun _ =>
  bw_iload_n hZ 1 rfl dX2_stepRow_37 <|
  bw_iconst hZ 1 (by decide) dX2_stepRow_38 <|
  bw_isub hZ dX2_stepRow_39 <|
  bw_nm fun v2 =>
  bw_istore_n hZ rfl (by decide) rfl dX2_stepRow_40 <|
  bw_sub [1, 2, 3, 0] rfl (t_X2_stepRow_b41_L hZ hE y1 y2 v2 w)) (fun _ =>
  bw_iconst hZ 0 (by decide) dX2_stepRow_35 <|
  bw_zret hZ hE (by decide) dX2_stepRow_36)
def X2_stepRow_b4 (k4 : Int32 → Int32 → Wd → Option (Int32 × Wd)) (y1 : Int32) (y2 : Int32) (w : Wd) : Option (Int32 × Wd) :=
  if y2 < 0 then
  (X2_stepRow_b31 y1 y2 w)
  else
  if inb y2 6 = true then
  (if inb (y2 + 1) 6 = true then
  (if (w.1 7 (Int32.toNatClampNeg y2)) ≤ (w.1 7 (Int32.toNatClampNeg (y2 + 1))) then
  (X2_stepRow_b31 y1 y2 w)
  else
  k4 y1 (y2 + (-1)) w)
  else none)
  else none
set_option maxRecDepth 100000 in
set_option maxHeartbeats 4000000 in
theorem t_X2_stepRow_b4 {Z : Cz (Int32 × Wd)} (hZ : OKZ Z SC cX2_stepRow RX2 6 (some .boolean) 2) (hE : EndI Z) (k4 : Int32 → Int32 → Wd → Option (Int32 × Wd)) (hk4 : ∀ (y1 : Int32) (y2 : Int32)  (w : Wd), BW Z 6 4 [(0, .ref (ph (zY Z) 3)), (1, .int y1), (2, .int y2)] [] w (k4 y1 y2 w)) (y1 : Int32) (y2 : Int32)  (w : Wd) : BW Z 6 4 [(0, .ref (ph (zY Z) 3)), (1, .int y1), (2, .int y2)] [] w (X2_stepRow_b4 k4 y1 y2 w) :=
  bw_iload_n hZ 2 rfl dX2_stepRow_4 <|
  bw_if_lt hZ (tgt := 31) (by decide) dX2_stepRow_5 (fun _ =>
  bw_sub [0, 1, 2] rfl (t_X2_stepRow_b31 hZ hE y1 y2 w)) (fun _ =>
  bw_aload_n hZ 0 rfl dX2_stepRow_8 <|
  bw_getR hZ fl_RX2_37 obC_3 rfl dX2_stepRow_9 <|
  bw_iload_n hZ 2 rfl dX2_stepRow_12 <|
  bw_iald hZ (arC_7 _) dX2_stepRow_13 <|
  bw_aload_n hZ 0 rfl dX2_stepRow_14 <|
  bw_getR hZ fl_RX2_37 obC_3 rfl dX2_stepRow_15 <|
  bw_iload_n hZ 2 rfl dX2_stepRow_18 <|
  bw_iconst hZ 1 (by decide) dX2_stepRow_19 <|
  bw_iadd hZ dX2_stepRow_20 <|
  bw_iald hZ (arC_7 _) dX2_stepRow_21 <|
  bw_icmp_le hZ (tgt := 31) (by decide) dX2_stepRow_22 (fun _ =>
  bw_sub [0, 1, 2] rfl (t_X2_stepRow_b31 hZ hE y1 y2 w)) (fun _ =>
  bw_iinc hZ (-1) 2 rfl (by decide) (by decide) rfl dX2_stepRow_25 <|
  bw_goto hZ (tgt := 4) (by decide) dX2_stepRow_28 <|
  bw_sub [1, 2, 0] rfl (hk4 y1 (y2 + (-1)) w)))
def X2_stepRow_b4_L  : Int32 → Int32 → Wd → Option (Int32 × Wd) :=
  lp fu (fun _ _ _ => none) (fun k4 => X2_stepRow_b4 k4)
theorem t_X2_stepRow_b4_L {Z : Cz (Int32 × Wd)} (hZ : OKZ Z SC cX2_stepRow RX2 6 (some .boolean) 2) (hE : EndI Z)  : ∀ (y1 : Int32) (y2 : Int32)  (w : Wd), BW Z 6 4 [(0, .ref (ph (zY Z) 3)), (1, .int y1), (2, .int y2)] [] w (X2_stepRow_b4_L y1 y2 w) :=
  lp_bw (fun k4 => ∀ (y1 : Int32) (y2 : Int32)  (w : Wd), BW Z 6 4 [(0, .ref (ph (zY Z) 3)), (1, .int y1), (2, .int y2)] [] w (k4 y1 y2 w)) (fun _ _ _ => bw_none) (fun k4 hk4 y1 y2 w => t_X2_stepRow_b4 hZ hE k4 hk4 y1 y2 w) fu
def f_X2_stepRow (x1 : Int32) (w : Wd) : Option (Int32 × Wd) :=
  lt (x1 - 2) fun v1 =>
  X2_stepRow_b4_L x1 v1 w
set_option maxRecDepth 100000 in
set_option maxHeartbeats 4000000 in
theorem t_X2_stepRow {Z : Cz (Int32 × Wd)} (hZ : OKZ Z SC cX2_stepRow RX2 6 (some .boolean) 2) (hE : EndI Z) (x1 : Int32)  (w : Wd) : BW Z 6 0 [(0, .ref (ph (zY Z) 3)), (1, .int x1)] [] w (f_X2_stepRow x1 w) :=
  bw_iload_n hZ 1 rfl dX2_stepRow_0 <|
  bw_iconst hZ 2 (by decide) dX2_stepRow_1 <|
  bw_isub hZ dX2_stepRow_2 <|
  bw_nm fun v1 =>
  bw_istore_n hZ rfl (by decide) rfl dX2_stepRow_3 <|
  bw_sub [1, 2, 0] rfl (t_X2_stepRow_b4_L hZ hE x1 v1 w)
theorem c_X2_stepRow (l : Launch) (Y : Ev) (hY : Y.1 = SC) (x1 : Int32)  (w : Wd) : CI l Y yX2_stepRow cX2_stepRow 6 2 [.ref (ph Y 3), .int x1] w .boolean (f_X2_stepRow x1 w) := by
  refine CI_of (S := SC) (by decide) (Nat.le_of_ble_eq_true rfl) hY ?_
  intro Z hl hY2 hZ hE
  subst hY2
  exact t_X2_stepRow hZ hE x1 w
-- WhichWill$Matter.findOrders
theorem dX2_findOrders_0 : decode cX2_findOrders 0 = .ok (.aload_n 0, 1) := by decide +kernel
theorem dX2_findOrders_1 : decode cX2_findOrders 1 = .ok (.dup, 1) := by decide +kernel
theorem dX2_findOrders_2 : decode cX2_findOrders 2 = .ok (.getfield 90, 3) := by decide +kernel
theorem dX2_findOrders_5 : decode cX2_findOrders 5 = .ok (.iconst 1, 1) := by decide +kernel
theorem dX2_findOrders_6 : decode cX2_findOrders 6 = .ok (.iadd, 1) := by decide +kernel
theorem dX2_findOrders_7 : decode cX2_findOrders 7 = .ok (.putfield 90, 3) := by decide +kernel
theorem dX2_findOrders_10 : decode cX2_findOrders 10 = .ok (.aload_n 0, 1) := by decide +kernel
theorem dX2_findOrders_11 : decode cX2_findOrders 11 = .ok (.invokevirtual 83, 3) := by decide +kernel
theorem dX2_findOrders_14 : decode cX2_findOrders 14 = .ok (.istore_n 1, 1) := by decide +kernel
theorem dX2_findOrders_15 : decode cX2_findOrders 15 = .ok (.iconst 0, 1) := by decide +kernel
theorem dX2_findOrders_16 : decode cX2_findOrders 16 = .ok (.istore_n 2, 1) := by decide +kernel
theorem dX2_findOrders_17 : decode cX2_findOrders 17 = .ok (.iload_n 2, 1) := by decide +kernel
theorem dX2_findOrders_18 : decode cX2_findOrders 18 = .ok (.iload_n 1, 1) := by decide +kernel
theorem dX2_findOrders_19 : decode cX2_findOrders 19 = .ok (.if_icmp .ge 16, 3) := by decide +kernel
theorem dX2_findOrders_22 : decode cX2_findOrders 22 = .ok (.aload_n 0, 1) := by decide +kernel
theorem dX2_findOrders_23 : decode cX2_findOrders 23 = .ok (.getfield 37, 3) := by decide +kernel
theorem dX2_findOrders_26 : decode cX2_findOrders 26 = .ok (.iload_n 2, 1) := by decide +kernel
theorem dX2_findOrders_27 : decode cX2_findOrders 27 = .ok (.iload_n 2, 1) := by decide +kernel
theorem dX2_findOrders_28 : decode cX2_findOrders 28 = .ok (.iastore, 1) := by decide +kernel
theorem dX2_findOrders_29 : decode cX2_findOrders 29 = .ok (.iinc 2 1, 3) := by decide +kernel
theorem dX2_findOrders_32 : decode cX2_findOrders 32 = .ok (.goto (-15), 3) := by decide +kernel
theorem dX2_findOrders_35 : decode cX2_findOrders 35 = .ok (.aload_n 0, 1) := by decide +kernel
theorem dX2_findOrders_36 : decode cX2_findOrders 36 = .ok (.iconst 0, 1) := by decide +kernel
theorem dX2_findOrders_37 : decode cX2_findOrders 37 = .ok (.putfield 42, 3) := by decide +kernel
theorem dX2_findOrders_40 : decode cX2_findOrders 40 = .ok (.iconst 1, 1) := by decide +kernel
theorem dX2_findOrders_41 : decode cX2_findOrders 41 = .ok (.istore_n 2, 1) := by decide +kernel
theorem dX2_findOrders_42 : decode cX2_findOrders 42 = .ok (.iconst 0, 1) := by decide +kernel
theorem dX2_findOrders_43 : decode cX2_findOrders 43 = .ok (.istore_n 3, 1) := by decide +kernel
theorem dX2_findOrders_44 : decode cX2_findOrders 44 = .ok (.iload_n 3, 1) := by decide +kernel
theorem dX2_findOrders_45 : decode cX2_findOrders 45 = .ok (.sipush 720, 3) := by decide +kernel
theorem dX2_findOrders_48 : decode cX2_findOrders 48 = .ok (.if_icmp .ge 51, 3) := by decide +kernel
theorem dX2_findOrders_51 : decode cX2_findOrders 51 = .ok (.iload_n 2, 1) := by decide +kernel
theorem dX2_findOrders_52 : decode cX2_findOrders 52 = .ok (.ifCond .eq 47, 3) := by decide +kernel
theorem dX2_findOrders_55 : decode cX2_findOrders 55 = .ok (.aload_n 0, 1) := by decide +kernel
theorem dX2_findOrders_56 : decode cX2_findOrders 56 = .ok (.iload_n 1, 1) := by decide +kernel
theorem dX2_findOrders_57 : decode cX2_findOrders 57 = .ok (.invokevirtual 93, 3) := by decide +kernel
theorem dX2_findOrders_60 : decode cX2_findOrders 60 = .ok (.ifCond .eq 27, 3) := by decide +kernel
theorem dX2_findOrders_63 : decode cX2_findOrders 63 = .ok (.aload_n 0, 1) := by decide +kernel
theorem dX2_findOrders_64 : decode cX2_findOrders 64 = .ok (.getfield 33, 3) := by decide +kernel
theorem dX2_findOrders_67 : decode cX2_findOrders 67 = .ok (.aload_n 0, 1) := by decide +kernel
theorem dX2_findOrders_68 : decode cX2_findOrders 68 = .ok (.getfield 42, 3) := by decide +kernel
theorem dX2_findOrders_71 : decode cX2_findOrders 71 = .ok (.aload_n 0, 1) := by decide +kernel
theorem dX2_findOrders_72 : decode cX2_findOrders 72 = .ok (.iload_n 1, 1) := by decide +kernel
theorem dX2_findOrders_73 : decode cX2_findOrders 73 = .ok (.invokevirtual 97, 3) := by decide +kernel
theorem dX2_findOrders_76 : decode cX2_findOrders 76 = .ok (.iastore, 1) := by decide +kernel
theorem dX2_findOrders_77 : decode cX2_findOrders 77 = .ok (.aload_n 0, 1) := by decide +kernel
theorem dX2_findOrders_78 : decode cX2_findOrders 78 = .ok (.dup, 1) := by decide +kernel
theorem dX2_findOrders_79 : decode cX2_findOrders 79 = .ok (.getfield 42, 3) := by decide +kernel
theorem dX2_findOrders_82 : decode cX2_findOrders 82 = .ok (.iconst 1, 1) := by decide +kernel
theorem dX2_findOrders_83 : decode cX2_findOrders 83 = .ok (.iadd, 1) := by decide +kernel
theorem dX2_findOrders_84 : decode cX2_findOrders 84 = .ok (.putfield 42, 3) := by decide +kernel
theorem dX2_findOrders_87 : decode cX2_findOrders 87 = .ok (.aload_n 0, 1) := by decide +kernel
theorem dX2_findOrders_88 : decode cX2_findOrders 88 = .ok (.iload_n 1, 1) := by decide +kernel
theorem dX2_findOrders_89 : decode cX2_findOrders 89 = .ok (.invokevirtual 101, 3) := by decide +kernel
theorem dX2_findOrders_92 : decode cX2_findOrders 92 = .ok (.istore_n 2, 1) := by decide +kernel
theorem dX2_findOrders_93 : decode cX2_findOrders 93 = .ok (.iinc 3 1, 3) := by decide +kernel
theorem dX2_findOrders_96 : decode cX2_findOrders 96 = .ok (.goto (-52), 3) := by decide +kernel
theorem dX2_findOrders_99 : decode cX2_findOrders 99 = .ok (.return_, 1) := by decide +kernel
def X2_findOrders_b87 (k44 : Int32 → Int32 → Int32 → Wd → Option (Wd)) (y1 : Int32) (y3 : Int32) (w : Wd) : Option (Wd) :=
  cl (f_X2_stepRow y1 w) fun r8 w7 =>
  k44 y1 r8 (y3 + 1) w7
set_option maxRecDepth 100000 in
set_option maxHeartbeats 4000000 in
theorem t_X2_findOrders_b87 {Z : Cz (Wd)} (hZ : OKZ Z SC cX2_findOrders RX2 4 none 3) (hE : EndV Z) (k44 : Int32 → Int32 → Int32 → Wd → Option (Wd)) (hk44 : ∀ (y1 : Int32) (y2 : Int32) (y3 : Int32)  (w : Wd), BW Z 4 44 [(0, .ref (ph (zY Z) 3)), (1, .int y1), (2, .int y2), (3, .int y3)] [] w (k44 y1 y2 y3 w)) (y1 : Int32) (y3 : Int32)  (w : Wd) : BW Z 4 87 [(0, .ref (ph (zY Z) 3)), (1, .int y1), (3, .int y3)] [] w (X2_findOrders_b87 k44 y1 y3 w) :=
  bw_aload_n hZ 0 rfl dX2_findOrders_87 <|
  bw_iload_n hZ 1 rfl dX2_findOrders_88 <|
  bw_callVI (As := [.int y1]) hZ ml_RX2_101 rc_2 obC_3 (by decide) (c_X2_stepRow (zl Z) (zY Z) (hZ_S hZ) y1 w) rfl rfl (Nat.le_of_ble_eq_true rfl) dX2_findOrders_89 fun r8 w7 =>
  bw_istore_n hZ rfl (by decide) rfl dX2_findOrders_92 <|
  bw_iinc hZ 1 3 rfl (by decide) (by decide) rfl dX2_findOrders_93 <|
  bw_goto hZ (tgt := 44) (by decide) dX2_findOrders_96 <|
  bw_sub [2, 3, 1, 0] rfl (hk44 y1 r8 (y3 + 1) w7)
def X2_findOrders_b44 (k44 : Int32 → Int32 → Int32 → Wd → Option (Wd)) (y1 : Int32) (y2 : Int32) (y3 : Int32) (w : Wd) : Option (Wd) :=
  if 720 ≤ y3 then
  (some w)
  else
  if y2 = 0 then
  (some w)
  else
  cl (f_X2_hasDays y1 w) fun r6 w5 =>
  if r6 = 0 then
  (X2_findOrders_b87 k44 y1 y3 w5)
  else
  cl (f_X2_packedRow y1 w5) fun r10 w9 =>
  if inb (w5.1 3 5) 720 = true then
  (lt (wI w9 6 (Int32.toNatClampNeg (w5.1 3 5)) r10) fun w11 =>
  lt (wI w11 3 5 ((w11.1 3 5) + 1)) fun w12 =>
  X2_findOrders_b87 k44 y1 y3 w12)
  else none
set_option maxRecDepth 100000 in
set_option maxHeartbeats 4000000 in
theorem t_X2_findOrders_b44 {Z : Cz (Wd)} (hZ : OKZ Z SC cX2_findOrders RX2 4 none 3) (hE : EndV Z) (k44 : Int32 → Int32 → Int32 → Wd → Option (Wd)) (hk44 : ∀ (y1 : Int32) (y2 : Int32) (y3 : Int32)  (w : Wd), BW Z 4 44 [(0, .ref (ph (zY Z) 3)), (1, .int y1), (2, .int y2), (3, .int y3)] [] w (k44 y1 y2 y3 w)) (y1 : Int32) (y2 : Int32) (y3 : Int32)  (w : Wd) : BW Z 4 44 [(0, .ref (ph (zY Z) 3)), (1, .int y1), (2, .int y2), (3, .int y3)] [] w (X2_findOrders_b44 k44 y1 y2 y3 w) :=
  bw_iload_n hZ 3 rfl dX2_findOrders_44 <|
  bw_sipush hZ 720 (by decide) dX2_findOrders_45 <|
  bw_icmp_ge hZ (tgt := 99) (by decide) dX2_findOrders_48 (fun _ =>
  bw_vret hZ hE dX2_findOrders_99) (fun _ =>
  bw_iload_n hZ 2 rfl dX2_findOrders_51 <|
  bw_if_eq hZ (tgt := 99) (by decide) dX2_findOrders_52 (fun _ =>
  bw_vret hZ hE dX2_findOrders_99) (fun _ =>
  bw_aload_n hZ 0 rfl dX2_findOrders_55 <|
  bw_iload_n hZ 1 rfl dX2_findOrders_56 <|
  bw_callVI (As := [.int y1]) hZ ml_RX2_93 rc_2 obC_3 (by decide) (c_X2_hasDays (zl Z) (zY Z) (hZ_S hZ) y1 w) rfl rfl (Nat.le_of_ble_eq_true rfl) dX2_findOrders_57 fun r6 w5 =>
  bw_if_eq hZ (tgt := 87) (by decide) dX2_findOrders_60 (fun _ =>
  bw_sub [0, 1, 3] rfl (t_X2_findOrders_b87 hZ hE k44 hk44 y1 y3 w5)) (fun _ =>
  bw_aload_n hZ 0 rfl dX2_findOrders_63 <|
  bw_getR hZ fl_RX2_33 obC_3 rfl dX2_findOrders_64 <|
  bw_aload_n hZ 0 rfl dX2_findOrders_67 <|
  bw_getI hZ fl_RX2_42 (by decide) obC_3 dX2_findOrders_68 <|
  bw_aload_n hZ 0 rfl dX2_findOrders_71 <|
  bw_iload_n hZ 1 rfl dX2_findOrders_72 <|
  bw_callVI (As := [.int y1]) hZ ml_RX2_97 rc_2 obC_3 (by decide) (c_X2_packedRow (zl Z) (zY Z) (hZ_S hZ) y1 w5) rfl rfl (Nat.le_of_ble_eq_true rfl) dX2_findOrders_73 fun r10 w9 =>
  bw_iast hZ (arC_6 _) dX2_findOrders_76 fun w11 =>
  bw_aload_n hZ 0 rfl dX2_findOrders_77 <|
  bw_dup hZ rfl dX2_findOrders_78 <|
  bw_getI hZ fl_RX2_42 (by decide) obC_3 dX2_findOrders_79 <|
  bw_iconst hZ 1 (by decide) dX2_findOrders_82 <|
  bw_iadd hZ dX2_findOrders_83 <|
  bw_putI hZ fl_RX2_42 rfl rfl (by decide) obC_3 dX2_findOrders_84 fun w12 =>
  bw_sub [0, 1, 3] rfl (t_X2_findOrders_b87 hZ hE k44 hk44 y1 y3 w12))))
def X2_findOrders_b44_L  : Int32 → Int32 → Int32 → Wd → Option (Wd) :=
  lp fu (fun _ _ _ _ => none) (fun k44 => X2_findOrders_b44 k44)
theorem t_X2_findOrders_b44_L {Z : Cz (Wd)} (hZ : OKZ Z SC cX2_findOrders RX2 4 none 3) (hE : EndV Z)  : ∀ (y1 : Int32) (y2 : Int32) (y3 : Int32)  (w : Wd), BW Z 4 44 [(0, .ref (ph (zY Z) 3)), (1, .int y1), (2, .int y2), (3, .int y3)] [] w (X2_findOrders_b44_L y1 y2 y3 w) :=
  lp_bw (fun k44 => ∀ (y1 : Int32) (y2 : Int32) (y3 : Int32)  (w : Wd), BW Z 4 44 [(0, .ref (ph (zY Z) 3)), (1, .int y1), (2, .int y2), (3, .int y3)] [] w (k44 y1 y2 y3 w)) (fun _ _ _ _ => bw_none) (fun k44 hk44 y1 y2 y3 w => t_X2_findOrders_b44 hZ hE k44 hk44 y1 y2 y3 w) fu
def X2_findOrders_b17 (k17 : Int32 → Int32 → Wd → Option (Wd)) (y1 : Int32) (y2 : Int32) (w : Wd) : Option (Wd) :=
  if y1 ≤ y2 then
  (lt (wI w 3 5 0) fun w4 =>
  X2_findOrders_b44_L y1 1 0 w4)
  else
  if inb y2 6 = true then
  (lt (wI w 7 (Int32.toNatClampNeg y2) y2) fun w13 =>
  k17 y1 (y2 + 1) w13)
  else none
set_option maxRecDepth 100000 in
set_option maxHeartbeats 4000000 in
theorem t_X2_findOrders_b17 {Z : Cz (Wd)} (hZ : OKZ Z SC cX2_findOrders RX2 4 none 3) (hE : EndV Z) (k17 : Int32 → Int32 → Wd → Option (Wd)) (hk17 : ∀ (y1 : Int32) (y2 : Int32)  (w : Wd), BW Z 4 17 [(0, .ref (ph (zY Z) 3)), (1, .int y1), (2, .int y2)] [] w (k17 y1 y2 w)) (y1 : Int32) (y2 : Int32)  (w : Wd) : BW Z 4 17 [(0, .ref (ph (zY Z) 3)), (1, .int y1), (2, .int y2)] [] w (X2_findOrders_b17 k17 y1 y2 w) :=
  bw_iload_n hZ 2 rfl dX2_findOrders_17 <|
  bw_iload_n hZ 1 rfl dX2_findOrders_18 <|
  bw_icmp_ge hZ (tgt := 35) (by decide) dX2_findOrders_19 (fun _ =>
  bw_aload_n hZ 0 rfl dX2_findOrders_35 <|
  bw_iconst hZ 0 (by decide) dX2_findOrders_36 <|
  bw_putI hZ fl_RX2_42 rfl rfl (by decide) obC_3 dX2_findOrders_37 fun w4 =>
  bw_iconst hZ 1 (by decide) dX2_findOrders_40 <|
  bw_istore_n hZ rfl (by decide) rfl dX2_findOrders_41 <|
  bw_iconst hZ 0 (by decide) dX2_findOrders_42 <|
  bw_istore_n hZ rfl (by decide) rfl dX2_findOrders_43 <|
  bw_sub [2, 3, 1, 0] rfl (t_X2_findOrders_b44_L hZ hE y1 1 0 w4)) (fun _ =>
  bw_aload_n hZ 0 rfl dX2_findOrders_22 <|
  bw_getR hZ fl_RX2_37 obC_3 rfl dX2_findOrders_23 <|
  bw_iload_n hZ 2 rfl dX2_findOrders_26 <|
  bw_iload_n hZ 2 rfl dX2_findOrders_27 <|
  bw_iast hZ (arC_7 _) dX2_findOrders_28 fun w13 =>
  bw_iinc hZ 1 2 rfl (by decide) (by decide) rfl dX2_findOrders_29 <|
  bw_goto hZ (tgt := 17) (by decide) dX2_findOrders_32 <|
  bw_sub [1, 2, 0] rfl (hk17 y1 (y2 + 1) w13))
def X2_findOrders_b17_L  : Int32 → Int32 → Wd → Option (Wd) :=
  lp fu (fun _ _ _ => none) (fun k17 => X2_findOrders_b17 k17)
theorem t_X2_findOrders_b17_L {Z : Cz (Wd)} (hZ : OKZ Z SC cX2_findOrders RX2 4 none 3) (hE : EndV Z)  : ∀ (y1 : Int32) (y2 : Int32)  (w : Wd), BW Z 4 17 [(0, .ref (ph (zY Z) 3)), (1, .int y1), (2, .int y2)] [] w (X2_findOrders_b17_L y1 y2 w) :=
  lp_bw (fun k17 => ∀ (y1 : Int32) (y2 : Int32)  (w : Wd), BW Z 4 17 [(0, .ref (ph (zY Z) 3)), (1, .int y1), (2, .int y2)] [] w (k17 y1 y2 w)) (fun _ _ _ => bw_none) (fun k17 hk17 y1 y2 w => t_X2_findOrders_b17 hZ hE k17 hk17 y1 y2 w) fu
def f_X2_findOrders (w : Wd) : Option (Wd) :=
  lt (wI w 3 6 ((w.1 3 6) + 1)) fun w1 =>
  cl (f_X2_itemsTold w1) fun r3 w2 =>
  X2_findOrders_b17_L r3 0 w2
set_option maxRecDepth 100000 in
set_option maxHeartbeats 4000000 in
theorem t_X2_findOrders {Z : Cz (Wd)} (hZ : OKZ Z SC cX2_findOrders RX2 4 none 3) (hE : EndV Z)   (w : Wd) : BW Z 4 0 [(0, .ref (ph (zY Z) 3))] [] w (f_X2_findOrders w) :=
  bw_aload_n hZ 0 rfl dX2_findOrders_0 <|
  bw_dup hZ rfl dX2_findOrders_1 <|
  bw_getI hZ fl_RX2_90 (by decide) obC_3 dX2_findOrders_2 <|
  bw_iconst hZ 1 (by decide) dX2_findOrders_5 <|
  bw_iadd hZ dX2_findOrders_6 <|
  bw_putI hZ fl_RX2_90 rfl rfl (by decide) obC_3 dX2_findOrders_7 fun w1 =>
  bw_aload_n hZ 0 rfl dX2_findOrders_10 <|
  bw_callVI (As := []) hZ ml_RX2_83 rc_2 obC_3 (by decide) (c_X2_itemsTold (zl Z) (zY Z) (hZ_S hZ) w1) rfl rfl (Nat.le_of_ble_eq_true rfl) dX2_findOrders_11 fun r3 w2 =>
  bw_istore_n hZ rfl (by decide) rfl dX2_findOrders_14 <|
  bw_iconst hZ 0 (by decide) dX2_findOrders_15 <|
  bw_istore_n hZ rfl (by decide) rfl dX2_findOrders_16 <|
  bw_sub [2, 1, 0] rfl (t_X2_findOrders_b17_L hZ hE r3 0 w2)
theorem c_X2_findOrders (l : Launch) (Y : Ev) (hY : Y.1 = SC)   (w : Wd) : CV l Y yX2_findOrders cX2_findOrders 4 3 [.ref (ph Y 3)] w (f_X2_findOrders w) := by
  refine CV_of (S := SC) (by decide) (Nat.le_of_ble_eq_true rfl) hY ?_
  intro Z hl hY2 hZ hE
  subst hY2
  exact t_X2_findOrders hZ hE w
-- WhichWill$Matter.takePaper
theorem dX2_takePaper_0 : decode cX2_takePaper 0 = .ok (.aload_n 0, 1) := by decide +kernel
theorem dX2_takePaper_1 : decode cX2_takePaper 1 = .ok (.getfield 46, 3) := by decide +kernel
theorem dX2_takePaper_4 : decode cX2_takePaper 4 = .ok (.iconst 4, 1) := by decide +kernel
theorem dX2_takePaper_5 : decode cX2_takePaper 5 = .ok (.if_icmp .ge 17, 3) := by decide +kernel
theorem dX2_takePaper_8 : decode cX2_takePaper 8 = .ok (.aload_n 0, 1) := by decide +kernel
theorem dX2_takePaper_9 : decode cX2_takePaper 9 = .ok (.dup, 1) := by decide +kernel
theorem dX2_takePaper_10 : decode cX2_takePaper 10 = .ok (.getfield 46, 3) := by decide +kernel
theorem dX2_takePaper_13 : decode cX2_takePaper 13 = .ok (.iconst 1, 1) := by decide +kernel
theorem dX2_takePaper_14 : decode cX2_takePaper 14 = .ok (.iadd, 1) := by decide +kernel
theorem dX2_takePaper_15 : decode cX2_takePaper 15 = .ok (.putfield 46, 3) := by decide +kernel
theorem dX2_takePaper_18 : decode cX2_takePaper 18 = .ok (.aload_n 0, 1) := by decide +kernel
theorem dX2_takePaper_19 : decode cX2_takePaper 19 = .ok (.invokevirtual 52, 3) := by decide +kernel
theorem dX2_takePaper_22 : decode cX2_takePaper 22 = .ok (.return_, 1) := by decide +kernel
def f_X2_takePaper (w : Wd) : Option (Wd) :=
  if 4 ≤ (w.1 3 3) then
  (some w)
  else
  lt (wI w 3 3 ((w.1 3 3) + 1)) fun w1 =>
  cv (f_X2_findOrders w1) fun w2 =>
  some w2
set_option maxRecDepth 100000 in
set_option maxHeartbeats 4000000 in
theorem t_X2_takePaper {Z : Cz (Wd)} (hZ : OKZ Z SC cX2_takePaper RX2 1 none 4) (hE : EndV Z)   (w : Wd) : BW Z 1 0 [(0, .ref (ph (zY Z) 3))] [] w (f_X2_takePaper w) :=
  bw_aload_n hZ 0 rfl dX2_takePaper_0 <|
  bw_getI hZ fl_RX2_46 (by decide) obC_3 dX2_takePaper_1 <|
  bw_iconst hZ 4 (by decide) dX2_takePaper_4 <|
  bw_icmp_ge hZ (tgt := 22) (by decide) dX2_takePaper_5 (fun _ =>
  bw_vret hZ hE dX2_takePaper_22) (fun _ =>
  bw_aload_n hZ 0 rfl dX2_takePaper_8 <|
  bw_dup hZ rfl dX2_takePaper_9 <|
  bw_getI hZ fl_RX2_46 (by decide) obC_3 dX2_takePaper_10 <|
  bw_iconst hZ 1 (by decide) dX2_takePaper_13 <|
  bw_iadd hZ dX2_takePaper_14 <|
  bw_putI hZ fl_RX2_46 rfl rfl (by decide) obC_3 dX2_takePaper_15 fun w1 =>
  bw_aload_n hZ 0 rfl dX2_takePaper_18 <|
  bw_callVV (As := []) hZ ml_RX2_52 rc_2 obC_3 (by decide) (c_X2_findOrders (zl Z) (zY Z) (hZ_S hZ) w1) rfl rfl (Nat.le_of_ble_eq_true rfl) dX2_takePaper_19 fun w2 =>
  bw_vret hZ hE dX2_takePaper_22)
theorem c_X2_takePaper (l : Launch) (Y : Ev) (hY : Y.1 = SC)   (w : Wd) : CV l Y yX2_takePaper cX2_takePaper 1 4 [.ref (ph Y 3)] w (f_X2_takePaper w) := by
  refine CV_of (S := SC) (by decide) (Nat.le_of_ble_eq_true rfl) hY ?_
  intro Z hl hY2 hZ hE
  subst hY2
  exact t_X2_takePaper hZ hE w
-- WhichWill$Matter.addEvent
theorem dX2_addEvent_0 : decode cX2_addEvent 0 = .ok (.aload_n 0, 1) := by decide +kernel
theorem dX2_addEvent_1 : decode cX2_addEvent 1 = .ok (.getfield 49, 3) := by decide +kernel
theorem dX2_addEvent_4 : decode cX2_addEvent 4 = .ok (.iconst 3, 1) := by decide +kernel
theorem dX2_addEvent_5 : decode cX2_addEvent 5 = .ok (.if_icmp .lt 4, 3) := by decide +kernel
theorem dX2_addEvent_8 : decode cX2_addEvent 8 = .ok (.return_, 1) := by decide +kernel
theorem dX2_addEvent_9 : decode cX2_addEvent 9 = .ok (.aload_n 0, 1) := by decide +kernel
theorem dX2_addEvent_10 : decode cX2_addEvent 10 = .ok (.getfield 26, 3) := by decide +kernel
theorem dX2_addEvent_13 : decode cX2_addEvent 13 = .ok (.aload_n 0, 1) := by decide +kernel
theorem dX2_addEvent_14 : decode cX2_addEvent 14 = .ok (.getfield 49, 3) := by decide +kernel
theorem dX2_addEvent_17 : decode cX2_addEvent 17 = .ok (.aaload, 1) := by decide +kernel
theorem dX2_addEvent_18 : decode cX2_addEvent 18 = .ok (.astore 6, 2) := by decide +kernel
theorem dX2_addEvent_20 : decode cX2_addEvent 20 = .ok (.aload 6, 2) := by decide +kernel
theorem dX2_addEvent_22 : decode cX2_addEvent 22 = .ok (.iload_n 1, 1) := by decide +kernel
theorem dX2_addEvent_23 : decode cX2_addEvent 23 = .ok (.putfield 55, 3) := by decide +kernel
theorem dX2_addEvent_26 : decode cX2_addEvent 26 = .ok (.aload 6, 2) := by decide +kernel
theorem dX2_addEvent_28 : decode cX2_addEvent 28 = .ok (.iload_n 2, 1) := by decide +kernel
theorem dX2_addEvent_29 : decode cX2_addEvent 29 = .ok (.putfield 58, 3) := by decide +kernel
theorem dX2_addEvent_32 : decode cX2_addEvent 32 = .ok (.aload 6, 2) := by decide +kernel
theorem dX2_addEvent_34 : decode cX2_addEvent 34 = .ok (.iload_n 3, 1) := by decide +kernel
theorem dX2_addEvent_35 : decode cX2_addEvent 35 = .ok (.putfield 61, 3) := by decide +kernel
theorem dX2_addEvent_38 : decode cX2_addEvent 38 = .ok (.aload 6, 2) := by decide +kernel
theorem dX2_addEvent_40 : decode cX2_addEvent 40 = .ok (.iload 4, 2) := by decide +kernel
theorem dX2_addEvent_42 : decode cX2_addEvent 42 = .ok (.putfield 64, 3) := by decide +kernel
theorem dX2_addEvent_45 : decode cX2_addEvent 45 = .ok (.aload 6, 2) := by decide +kernel
theorem dX2_addEvent_47 : decode cX2_addEvent 47 = .ok (.iload 5, 2) := by decide +kernel
theorem dX2_addEvent_49 : decode cX2_addEvent 49 = .ok (.putfield 67, 3) := by decide +kernel
theorem dX2_addEvent_52 : decode cX2_addEvent 52 = .ok (.aload_n 0, 1) := by decide +kernel
theorem dX2_addEvent_53 : decode cX2_addEvent 53 = .ok (.dup, 1) := by decide +kernel
theorem dX2_addEvent_54 : decode cX2_addEvent 54 = .ok (.getfield 49, 3) := by decide +kernel
theorem dX2_addEvent_57 : decode cX2_addEvent 57 = .ok (.iconst 1, 1) := by decide +kernel
theorem dX2_addEvent_58 : decode cX2_addEvent 58 = .ok (.iadd, 1) := by decide +kernel
theorem dX2_addEvent_59 : decode cX2_addEvent 59 = .ok (.putfield 49, 3) := by decide +kernel
theorem dX2_addEvent_62 : decode cX2_addEvent 62 = .ok (.aload_n 0, 1) := by decide +kernel
theorem dX2_addEvent_63 : decode cX2_addEvent 63 = .ok (.invokevirtual 52, 3) := by decide +kernel
theorem dX2_addEvent_66 : decode cX2_addEvent 66 = .ok (.return_, 1) := by decide +kernel
def f_X2_addEvent (x1 : Int32) (x2 : Int32) (x3 : Int32) (x4 : Int32) (x5 : Int32) (w : Wd) : Option (Wd) :=
  if (w.1 3 4) < 3 then
  (if inb (w.1 3 4) 3 = true then
  (lt (wI w (81 + Int32.toNatClampNeg (w.1 3 4)) 0 x1) fun w3 =>
  lt (wI w3 (81 + Int32.toNatClampNeg (w.1 3 4)) 1 x2) fun w4 =>
  lt (wI w4 (81 + Int32.toNatClampNeg (w.1 3 4)) 2 x3) fun w5 =>
  lt (wI w5 (81 + Int32.toNatClampNeg (w.1 3 4)) 3 x4) fun w6 =>
  lt (wI w6 (81 + Int32.toNatClampNeg (w.1 3 4)) 4 x5) fun w7 =>
  lt (wI w7 3 4 ((w7.1 3 4) + 1)) fun w8 =>
  cv (f_X2_findOrders w8) fun w9 =>
  some w9)
  else none)
  else
  some w
set_option maxRecDepth 100000 in
set_option maxHeartbeats 4000000 in
theorem t_X2_addEvent {Z : Cz (Wd)} (hZ : OKZ Z SC cX2_addEvent RX2 7 none 4) (hE : EndV Z) (x1 : Int32) (x2 : Int32) (x3 : Int32) (x4 : Int32) (x5 : Int32)  (w : Wd) : BW Z 7 0 [(0, .ref (ph (zY Z) 3)), (1, .int x1), (2, .int x2), (3, .int x3), (4, .int x4), (5, .int x5)] [] w (f_X2_addEvent x1 x2 x3 x4 x5 w) :=
  bw_aload_n hZ 0 rfl dX2_addEvent_0 <|
  bw_getI hZ fl_RX2_49 (by decide) obC_3 dX2_addEvent_1 <|
  bw_iconst hZ 3 (by decide) dX2_addEvent_4 <|
  bw_icmp_lt hZ (tgt := 9) (by decide) dX2_addEvent_5 (fun _ =>
  bw_aload_n hZ 0 rfl dX2_addEvent_9 <|
  bw_getR hZ fl_RX2_26 obC_3 rfl dX2_addEvent_10 <|
  bw_aload_n hZ 0 rfl dX2_addEvent_13 <|
  bw_getI hZ fl_RX2_49 (by decide) obC_3 dX2_addEvent_14 <|
  bw_aald (81 + Int32.toNatClampNeg (w.1 3 4)) hZ (arC_5 _) (Or.inr (Or.inl ⟨rfl, rfl⟩)) rfl dX2_addEvent_17 fun hi1 =>
  bw_astore hZ (by decide) rfl dX2_addEvent_18 <|
  bw_aload hZ 0 rfl dX2_addEvent_20 <|
  bw_iload_n hZ 2 rfl dX2_addEvent_22 <|
  bw_putI hZ fl_RX2_55 rfl rfl (by decide) (obV (isV_of hi1)) dX2_addEvent_23 fun w3 =>
  bw_aload hZ 0 rfl dX2_addEvent_26 <|
  bw_iload_n hZ 3 rfl dX2_addEvent_28 <|
  bw_putI hZ fl_RX2_58 rfl rfl (by decide) (obV (isV_of hi1)) dX2_addEvent_29 fun w4 =>
  bw_aload hZ 0 rfl dX2_addEvent_32 <|
  bw_iload_n hZ 4 rfl dX2_addEvent_34 <|
  bw_putI hZ fl_RX2_61 rfl rfl (by decide) (obV (isV_of hi1)) dX2_addEvent_35 fun w5 =>
  bw_aload hZ 0 rfl dX2_addEvent_38 <|
  bw_iload hZ 5 rfl dX2_addEvent_40 <|
  bw_putI hZ fl_RX2_64 rfl rfl (by decide) (obV (isV_of hi1)) dX2_addEvent_42 fun w6 =>
  bw_aload hZ 0 rfl dX2_addEvent_45 <|
  bw_iload hZ 6 rfl dX2_addEvent_47 <|
  bw_putI hZ fl_RX2_67 rfl rfl (by decide) (obV (isV_of hi1)) dX2_addEvent_49 fun w7 =>
  bw_aload_n hZ 1 rfl dX2_addEvent_52 <|
  bw_dup hZ rfl dX2_addEvent_53 <|
  bw_getI hZ fl_RX2_49 (by decide) obC_3 dX2_addEvent_54 <|
  bw_iconst hZ 1 (by decide) dX2_addEvent_57 <|
  bw_iadd hZ dX2_addEvent_58 <|
  bw_putI hZ fl_RX2_49 rfl rfl (by decide) obC_3 dX2_addEvent_59 fun w8 =>
  bw_aload_n hZ 1 rfl dX2_addEvent_62 <|
  bw_callVV (As := []) hZ ml_RX2_52 rc_2 obC_3 (by decide) (c_X2_findOrders (zl Z) (zY Z) (hZ_S hZ) w8) rfl rfl (Nat.le_of_ble_eq_true rfl) dX2_addEvent_63 fun w9 =>
  bw_vret hZ hE dX2_addEvent_66) (fun _ =>
  bw_vret hZ hE dX2_addEvent_8)
theorem c_X2_addEvent (l : Launch) (Y : Ev) (hY : Y.1 = SC) (x1 : Int32) (x2 : Int32) (x3 : Int32) (x4 : Int32) (x5 : Int32)  (w : Wd) : CV l Y yX2_addEvent cX2_addEvent 7 4 [.ref (ph Y 3), .int x1, .int x2, .int x3, .int x4, .int x5] w (f_X2_addEvent x1 x2 x3 x4 x5 w) := by
  refine CV_of (S := SC) (by decide) (Nat.le_of_ble_eq_true rfl) hY ?_
  intro Z hl hY2 hZ hE
  subst hY2
  exact t_X2_addEvent hZ hE x1 x2 x3 x4 x5 w
-- WhichWill$Matter.waysFound
theorem dX2_waysFound_0 : decode cX2_waysFound 0 = .ok (.aload_n 0, 1) := by decide +kernel
theorem dX2_waysFound_1 : decode cX2_waysFound 1 = .ok (.getfield 12, 3) := by decide +kernel
theorem dX2_waysFound_4 : decode cX2_waysFound 4 = .ok (.getfield 70, 3) := by decide +kernel
theorem dX2_waysFound_7 : decode cX2_waysFound 7 = .ok (.getfield 74, 3) := by decide +kernel
theorem dX2_waysFound_10 : decode cX2_waysFound 10 = .ok (.ifCond .ne 7, 3) := by decide +kernel
theorem dX2_waysFound_13 : decode cX2_waysFound 13 = .ok (.iconst 0, 1) := by decide +kernel
theorem dX2_waysFound_14 : decode cX2_waysFound 14 = .ok (.goto 10, 3) := by decide +kernel
theorem dX2_waysFound_17 : decode cX2_waysFound 17 = .ok (.aload_n 0, 1) := by decide +kernel
theorem dX2_waysFound_18 : decode cX2_waysFound 18 = .ok (.getfield 42, 3) := by decide +kernel
theorem dX2_waysFound_21 : decode cX2_waysFound 21 = .ok (.bipush 8, 2) := by decide +kernel
theorem dX2_waysFound_23 : decode cX2_waysFound 23 = .ok (.imul, 1) := by decide +kernel
theorem dX2_waysFound_24 : decode cX2_waysFound 24 = .ok (.ireturn, 1) := by decide +kernel
def f_X2_waysFound (w : Wd) : Option (Int32 × Wd) :=
  if (w.1 32 1) = 0 then
  (some (0, w))
  else
  some ((w.1 3 5) * 8, w)
set_option maxRecDepth 100000 in
set_option maxHeartbeats 4000000 in
theorem t_X2_waysFound {Z : Cz (Int32 × Wd)} (hZ : OKZ Z SC cX2_waysFound RX2 1 (some .int) 1) (hE : EndI Z)   (w : Wd) : BW Z 1 0 [(0, .ref (ph (zY Z) 3))] [] w (f_X2_waysFound w) :=
  bw_aload_n hZ 0 rfl dX2_waysFound_0 <|
  bw_getR hZ fl_RX2_12 obC_3 rfl dX2_waysFound_1 <|
  bw_getR hZ fl_RX2_70 obC_31 rfl dX2_waysFound_4 <|
  bw_getI hZ fl_RX2_74 (by decide) obC_32 dX2_waysFound_7 <|
  bw_if_ne hZ (tgt := 17) (by decide) dX2_waysFound_10 (fun _ =>
  bw_aload_n hZ 0 rfl dX2_waysFound_17 <|
  bw_getI hZ fl_RX2_42 (by decide) obC_3 dX2_waysFound_18 <|
  bw_bipush hZ 8 (by decide) dX2_waysFound_21 <|
  bw_imul hZ dX2_waysFound_23 <|
  bw_iret hZ hE dX2_waysFound_24) (fun _ =>
  bw_iconst hZ 0 (by decide) dX2_waysFound_13 <|
  bw_goto hZ (tgt := 24) (by decide) dX2_waysFound_14 <|
  bw_iret hZ hE dX2_waysFound_24)
theorem c_X2_waysFound (l : Launch) (Y : Ev) (hY : Y.1 = SC)   (w : Wd) : CI l Y yX2_waysFound cX2_waysFound 1 1 [.ref (ph Y 3)] w .int (f_X2_waysFound w) := by
  refine CI_of (S := SC) (by decide) (Nat.le_of_ble_eq_true rfl) hY ?_
  intro Z hl hY2 hZ hE
  subst hY2
  exact t_X2_waysFound hZ hE w
-- WhichWill$Paper.bit
theorem dX6_bit_0 : decode cX6_bit 0 = .ok (.iload_n 0, 1) := by decide +kernel
theorem dX6_bit_1 : decode cX6_bit 1 = .ok (.ifCond .ge 7, 3) := by decide +kernel
theorem dX6_bit_4 : decode cX6_bit 4 = .ok (.iconst 0, 1) := by decide +kernel
theorem dX6_bit_5 : decode cX6_bit 5 = .ok (.goto 6, 3) := by decide +kernel
theorem dX6_bit_8 : decode cX6_bit 8 = .ok (.iconst 1, 1) := by decide +kernel
theorem dX6_bit_9 : decode cX6_bit 9 = .ok (.iload_n 0, 1) := by decide +kernel
theorem dX6_bit_10 : decode cX6_bit 10 = .ok (.ishl, 1) := by decide +kernel
theorem dX6_bit_11 : decode cX6_bit 11 = .ok (.ireturn, 1) := by decide +kernel
def f_X6_bit (x0 : Int32) (w : Wd) : Option (Int32 × Wd) :=
  if 0 ≤ x0 then
  (some (1 <<< (x0 &&& 31), w))
  else
  some (0, w)
set_option maxRecDepth 100000 in
set_option maxHeartbeats 4000000 in
theorem t_X6_bit {Z : Cz (Int32 × Wd)} (hZ : OKZ Z SC cX6_bit RX6 1 (some .int) 1) (hE : EndI Z) (x0 : Int32)  (w : Wd) : BW Z 1 0 [(0, .int x0)] [] w (f_X6_bit x0 w) :=
  bw_iload_n hZ 0 rfl dX6_bit_0 <|
  bw_if_ge hZ (tgt := 8) (by decide) dX6_bit_1 (fun _ =>
  bw_iconst hZ 1 (by decide) dX6_bit_8 <|
  bw_iload_n hZ 0 rfl dX6_bit_9 <|
  bw_ishl hZ dX6_bit_10 <|
  bw_iret hZ hE dX6_bit_11) (fun _ =>
  bw_iconst hZ 0 (by decide) dX6_bit_4 <|
  bw_goto hZ (tgt := 11) (by decide) dX6_bit_5 <|
  bw_iret hZ hE dX6_bit_11)
theorem c_X6_bit (l : Launch) (Y : Ev) (hY : Y.1 = SC) (x0 : Int32)  (w : Wd) : CI l Y yX6_bit cX6_bit 1 1 [.int x0] w .int (f_X6_bit x0 w) := by
  refine CI_of (S := SC) (by decide) (Nat.le_of_ble_eq_true rfl) hY ?_
  intro Z hl hY2 hZ hE
  subst hY2
  exact t_X6_bit hZ hE x0 w
-- WhichWill$Paper.usedFacts
theorem dX6_usedFacts_0 : decode cX6_usedFacts 0 = .ok (.iconst 0, 1) := by decide +kernel
theorem dX6_usedFacts_1 : decode cX6_usedFacts 1 = .ok (.istore_n 1, 1) := by decide +kernel
theorem dX6_usedFacts_2 : decode cX6_usedFacts 2 = .ok (.iconst 0, 1) := by decide +kernel
theorem dX6_usedFacts_3 : decode cX6_usedFacts 3 = .ok (.istore_n 2, 1) := by decide +kernel
theorem dX6_usedFacts_4 : decode cX6_usedFacts 4 = .ok (.iload_n 2, 1) := by decide +kernel
theorem dX6_usedFacts_5 : decode cX6_usedFacts 5 = .ok (.aload_n 0, 1) := by decide +kernel
theorem dX6_usedFacts_6 : decode cX6_usedFacts 6 = .ok (.getfield 53, 3) := by decide +kernel
theorem dX6_usedFacts_9 : decode cX6_usedFacts 9 = .ok (.if_icmp .ge 41, 3) := by decide +kernel
theorem dX6_usedFacts_12 : decode cX6_usedFacts 12 = .ok (.aload_n 0, 1) := by decide +kernel
theorem dX6_usedFacts_13 : decode cX6_usedFacts 13 = .ok (.getfield 21, 3) := by decide +kernel
theorem dX6_usedFacts_16 : decode cX6_usedFacts 16 = .ok (.iload_n 2, 1) := by decide +kernel
theorem dX6_usedFacts_17 : decode cX6_usedFacts 17 = .ok (.iaload, 1) := by decide +kernel
theorem dX6_usedFacts_18 : decode cX6_usedFacts 18 = .ok (.iconst 3, 1) := by decide +kernel
theorem dX6_usedFacts_19 : decode cX6_usedFacts 19 = .ok (.if_icmp .eq 13, 3) := by decide +kernel
theorem dX6_usedFacts_22 : decode cX6_usedFacts 22 = .ok (.aload_n 0, 1) := by decide +kernel
theorem dX6_usedFacts_23 : decode cX6_usedFacts 23 = .ok (.getfield 21, 3) := by decide +kernel
theorem dX6_usedFacts_26 : decode cX6_usedFacts 26 = .ok (.iload_n 2, 1) := by decide +kernel
theorem dX6_usedFacts_27 : decode cX6_usedFacts 27 = .ok (.iaload, 1) := by decide +kernel
theorem dX6_usedFacts_28 : decode cX6_usedFacts 28 = .ok (.iconst 4, 1) := by decide +kernel
theorem dX6_usedFacts_29 : decode cX6_usedFacts 29 = .ok (.if_icmp .ne 15, 3) := by decide +kernel
theorem dX6_usedFacts_32 : decode cX6_usedFacts 32 = .ok (.iload_n 1, 1) := by decide +kernel
theorem dX6_usedFacts_33 : decode cX6_usedFacts 33 = .ok (.aload_n 0, 1) := by decide +kernel
theorem dX6_usedFacts_34 : decode cX6_usedFacts 34 = .ok (.getfield 24, 3) := by decide +kernel
theorem dX6_usedFacts_37 : decode cX6_usedFacts 37 = .ok (.iload_n 2, 1) := by decide +kernel
theorem dX6_usedFacts_38 : decode cX6_usedFacts 38 = .ok (.iaload, 1) := by decide +kernel
theorem dX6_usedFacts_39 : decode cX6_usedFacts 39 = .ok (.invokestatic 138, 3) := by decide +kernel
theorem dX6_usedFacts_42 : decode cX6_usedFacts 42 = .ok (.ior, 1) := by decide +kernel
theorem dX6_usedFacts_43 : decode cX6_usedFacts 43 = .ok (.istore_n 1, 1) := by decide +kernel
theorem dX6_usedFacts_44 : decode cX6_usedFacts 44 = .ok (.iinc 2 1, 3) := by decide +kernel
theorem dX6_usedFacts_47 : decode cX6_usedFacts 47 = .ok (.goto (-43), 3) := by decide +kernel
theorem dX6_usedFacts_50 : decode cX6_usedFacts 50 = .ok (.iload_n 1, 1) := by decide +kernel
theorem dX6_usedFacts_51 : decode cX6_usedFacts 51 = .ok (.ireturn, 1) := by decide +kernel
def X6_usedFacts_b32 (k4 : Nat → Int32 → Int32 → Wd → Option (Int32 × Wd)) (y0 : Nat) (y1 : Int32) (y2 : Int32) (w : Wd) : Option (Int32 × Wd) :=
  if inb y2 8 = true then
  (cl (f_X6_bit (w.1 (y0 + 5) (Int32.toNatClampNeg y2)) w) fun r2 w1 =>
  lt (y1 ||| r2) fun v3 =>
  k4 y0 v3 (y2 + 1) w1)
  else none
set_option maxRecDepth 100000 in
set_option maxHeartbeats 4000000 in
theorem t_X6_usedFacts_b32 {Z : Cz (Int32 × Wd)} (hZ : OKZ Z SC cX6_usedFacts RX6 3 (some .int) 2) (hE : EndI Z) (k4 : Nat → Int32 → Int32 → Wd → Option (Int32 × Wd)) (hk4 : ∀ (y0 : Nat) (y1 : Int32) (y2 : Int32) (hy0 : IsP y0) (w : Wd), BW Z 3 4 [(0, .ref (ph (zY Z) y0)), (1, .int y1), (2, .int y2)] [] w (k4 y0 y1 y2 w)) (y0 : Nat) (y1 : Int32) (y2 : Int32) (hy0 : IsP y0) (w : Wd) : BW Z 3 32 [(0, .ref (ph (zY Z) y0)), (1, .int y1), (2, .int y2)] [] w (X6_usedFacts_b32 k4 y0 y1 y2 w) :=
  bw_iload_n hZ 1 rfl dX6_usedFacts_32 <|
  bw_aload_n hZ 0 rfl dX6_usedFacts_33 <|
  bw_getR hZ fl_RX6_24 (obP hy0) (rfP13 hy0) dX6_usedFacts_34 <|
  bw_iload_n hZ 2 rfl dX6_usedFacts_37 <|
  bw_iald hZ (arP5 hy0 _) dX6_usedFacts_38 <|
  bw_callSI (As := [.int (w.1 (y0 + 5) (Int32.toNatClampNeg y2))]) hZ ms_RX6_138 (by decide) (c_X6_bit (zl Z) (zY Z) (hZ_S hZ) (w.1 (y0 + 5) (Int32.toNatClampNeg y2)) w) rfl rfl (Nat.le_of_ble_eq_true rfl) dX6_usedFacts_39 fun r2 w1 =>
  bw_ior hZ dX6_usedFacts_42 <|
  bw_nm fun v3 =>
  bw_istore_n hZ rfl (by decide) rfl dX6_usedFacts_43 <|
  bw_iinc hZ 1 2 rfl (by decide) (by decide) rfl dX6_usedFacts_44 <|
  bw_goto hZ (tgt := 4) (by decide) dX6_usedFacts_47 <|
  bw_sub [2, 1, 0] rfl (hk4 y0 v3 (y2 + 1) hy0 w1)
def X6_usedFacts_b4 (k4 : Nat → Int32 → Int32 → Wd → Option (Int32 × Wd)) (y0 : Nat) (y1 : Int32) (y2 : Int32) (w : Wd) : Option (Int32 × Wd) :=
  if (w.1 y0 8) ≤ y2 then
  (some (y1, w))
  else
  if inb y2 8 = true then
  (if (w.1 (y0 + 4) (Int32.toNatClampNeg y2)) = 3 then
  (X6_usedFacts_b32 k4 y0 y1 y2 w)
  else
  if inb y2 8 = true then
  (if (w.1 (y0 + 4) (Int32.toNatClampNeg y2)) = 4 then
  (X6_usedFacts_b32 k4 y0 y1 y2 w)
  else
  k4 y0 y1 (y2 + 1) w)
  else none)
  else none
set_option maxRecDepth 100000 in
set_option maxHeartbeats 4000000 in
theorem t_X6_usedFacts_b4 {Z : Cz (Int32 × Wd)} (hZ : OKZ Z SC cX6_usedFacts RX6 3 (some .int) 2) (hE : EndI Z) (k4 : Nat → Int32 → Int32 → Wd → Option (Int32 × Wd)) (hk4 : ∀ (y0 : Nat) (y1 : Int32) (y2 : Int32) (hy0 : IsP y0) (w : Wd), BW Z 3 4 [(0, .ref (ph (zY Z) y0)), (1, .int y1), (2, .int y2)] [] w (k4 y0 y1 y2 w)) (y0 : Nat) (y1 : Int32) (y2 : Int32) (hy0 : IsP y0) (w : Wd) : BW Z 3 4 [(0, .ref (ph (zY Z) y0)), (1, .int y1), (2, .int y2)] [] w (X6_usedFacts_b4 k4 y0 y1 y2 w) :=
  bw_iload_n hZ 2 rfl dX6_usedFacts_4 <|
  bw_aload_n hZ 0 rfl dX6_usedFacts_5 <|
  bw_getI hZ fl_RX6_53 (by decide) (obP hy0) dX6_usedFacts_6 <|
  bw_icmp_ge hZ (tgt := 50) (by decide) dX6_usedFacts_9 (fun _ =>
  bw_iload_n hZ 1 rfl dX6_usedFacts_50 <|
  bw_iret hZ hE dX6_usedFacts_51) (fun _ =>
  bw_aload_n hZ 0 rfl dX6_usedFacts_12 <|
  bw_getR hZ fl_RX6_21 (obP hy0) (rfP12 hy0) dX6_usedFacts_13 <|
  bw_iload_n hZ 2 rfl dX6_usedFacts_16 <|
  bw_iald hZ (arP4 hy0 _) dX6_usedFacts_17 <|
  bw_iconst hZ 3 (by decide) dX6_usedFacts_18 <|
  bw_icmp_eq hZ (tgt := 32) (by decide) dX6_usedFacts_19 (fun _ =>
  bw_sub [0, 1, 2] rfl (t_X6_usedFacts_b32 hZ hE k4 hk4 y0 y1 y2 hy0 w)) (fun _ =>
  bw_aload_n hZ 0 rfl dX6_usedFacts_22 <|
  bw_getR hZ fl_RX6_21 (obP hy0) (rfP12 hy0) dX6_usedFacts_23 <|
  bw_iload_n hZ 2 rfl dX6_usedFacts_26 <|
  bw_iald hZ (arP4 hy0 _) dX6_usedFacts_27 <|
  bw_iconst hZ 4 (by decide) dX6_usedFacts_28 <|
  bw_icmp_ne hZ (tgt := 44) (by decide) dX6_usedFacts_29 (fun _ =>
  bw_iinc hZ 1 2 rfl (by decide) (by decide) rfl dX6_usedFacts_44 <|
  bw_goto hZ (tgt := 4) (by decide) dX6_usedFacts_47 <|
  bw_sub [1, 2, 0] rfl (hk4 y0 y1 (y2 + 1) hy0 w)) (fun _ =>
  bw_sub [0, 1, 2] rfl (t_X6_usedFacts_b32 hZ hE k4 hk4 y0 y1 y2 hy0 w))))
def X6_usedFacts_b4_L  : Nat → Int32 → Int32 → Wd → Option (Int32 × Wd) :=
  lp fu (fun _ _ _ _ => none) (fun k4 => X6_usedFacts_b4 k4)
theorem t_X6_usedFacts_b4_L {Z : Cz (Int32 × Wd)} (hZ : OKZ Z SC cX6_usedFacts RX6 3 (some .int) 2) (hE : EndI Z)  : ∀ (y0 : Nat) (y1 : Int32) (y2 : Int32) (hy0 : IsP y0) (w : Wd), BW Z 3 4 [(0, .ref (ph (zY Z) y0)), (1, .int y1), (2, .int y2)] [] w (X6_usedFacts_b4_L y0 y1 y2 w) :=
  lp_bw (fun k4 => ∀ (y0 : Nat) (y1 : Int32) (y2 : Int32) (hy0 : IsP y0) (w : Wd), BW Z 3 4 [(0, .ref (ph (zY Z) y0)), (1, .int y1), (2, .int y2)] [] w (k4 y0 y1 y2 w)) (fun _ _ _ _ _ => bw_none) (fun k4 hk4 y0 y1 y2 hy0 w => t_X6_usedFacts_b4 hZ hE k4 hk4 y0 y1 y2 hy0 w) fu
def f_X6_usedFacts (o0 : Nat) (w : Wd) : Option (Int32 × Wd) :=
  X6_usedFacts_b4_L o0 0 0 w
set_option maxRecDepth 100000 in
set_option maxHeartbeats 4000000 in
theorem t_X6_usedFacts {Z : Cz (Int32 × Wd)} (hZ : OKZ Z SC cX6_usedFacts RX6 3 (some .int) 2) (hE : EndI Z) (o0 : Nat) (ho0 : IsP o0) (w : Wd) : BW Z 3 0 [(0, .ref (ph (zY Z) o0))] [] w (f_X6_usedFacts o0 w) :=
  bw_iconst hZ 0 (by decide) dX6_usedFacts_0 <|
  bw_istore_n hZ rfl (by decide) rfl dX6_usedFacts_1 <|
  bw_iconst hZ 0 (by decide) dX6_usedFacts_2 <|
  bw_istore_n hZ rfl (by decide) rfl dX6_usedFacts_3 <|
  bw_sub [2, 1, 0] rfl (t_X6_usedFacts_b4_L hZ hE o0 0 0 ho0 w)
theorem c_X6_usedFacts (l : Launch) (Y : Ev) (hY : Y.1 = SC) (o0 : Nat) (ho0 : IsP o0) (w : Wd) : CI l Y yX6_usedFacts cX6_usedFacts 3 2 [.ref (ph Y o0)] w .int (f_X6_usedFacts o0 w) := by
  refine CI_of (S := SC) (by decide) (Nat.le_of_ble_eq_true rfl) hY ?_
  intro Z hl hY2 hZ hE
  subst hY2
  exact t_X6_usedFacts hZ hE o0 ho0 w
-- WhichWill$Matter.unusedFacts
theorem dX2_unusedFacts_0 : decode cX2_unusedFacts 0 = .ok (.iconst 0, 1) := by decide +kernel
theorem dX2_unusedFacts_1 : decode cX2_unusedFacts 1 = .ok (.istore_n 1, 1) := by decide +kernel
theorem dX2_unusedFacts_2 : decode cX2_unusedFacts 2 = .ok (.iconst 0, 1) := by decide +kernel
theorem dX2_unusedFacts_3 : decode cX2_unusedFacts 3 = .ok (.istore_n 2, 1) := by decide +kernel
theorem dX2_unusedFacts_4 : decode cX2_unusedFacts 4 = .ok (.iload_n 2, 1) := by decide +kernel
theorem dX2_unusedFacts_5 : decode cX2_unusedFacts 5 = .ok (.aload_n 0, 1) := by decide +kernel
theorem dX2_unusedFacts_6 : decode cX2_unusedFacts 6 = .ok (.getfield 46, 3) := by decide +kernel
theorem dX2_unusedFacts_9 : decode cX2_unusedFacts 9 = .ok (.if_icmp .ge 21, 3) := by decide +kernel
theorem dX2_unusedFacts_12 : decode cX2_unusedFacts 12 = .ok (.iload_n 1, 1) := by decide +kernel
theorem dX2_unusedFacts_13 : decode cX2_unusedFacts 13 = .ok (.aload_n 0, 1) := by decide +kernel
theorem dX2_unusedFacts_14 : decode cX2_unusedFacts 14 = .ok (.getfield 20, 3) := by decide +kernel
theorem dX2_unusedFacts_17 : decode cX2_unusedFacts 17 = .ok (.iload_n 2, 1) := by decide +kernel
theorem dX2_unusedFacts_18 : decode cX2_unusedFacts 18 = .ok (.aaload, 1) := by decide +kernel
theorem dX2_unusedFacts_19 : decode cX2_unusedFacts 19 = .ok (.invokevirtual 79, 3) := by decide +kernel
theorem dX2_unusedFacts_22 : decode cX2_unusedFacts 22 = .ok (.ior, 1) := by decide +kernel
theorem dX2_unusedFacts_23 : decode cX2_unusedFacts 23 = .ok (.istore_n 1, 1) := by decide +kernel
theorem dX2_unusedFacts_24 : decode cX2_unusedFacts 24 = .ok (.iinc 2 1, 3) := by decide +kernel
theorem dX2_unusedFacts_27 : decode cX2_unusedFacts 27 = .ok (.goto (-23), 3) := by decide +kernel
theorem dX2_unusedFacts_30 : decode cX2_unusedFacts 30 = .ok (.iconst 0, 1) := by decide +kernel
theorem dX2_unusedFacts_31 : decode cX2_unusedFacts 31 = .ok (.istore_n 2, 1) := by decide +kernel
theorem dX2_unusedFacts_32 : decode cX2_unusedFacts 32 = .ok (.iload_n 2, 1) := by decide +kernel
theorem dX2_unusedFacts_33 : decode cX2_unusedFacts 33 = .ok (.aload_n 0, 1) := by decide +kernel
theorem dX2_unusedFacts_34 : decode cX2_unusedFacts 34 = .ok (.getfield 49, 3) := by decide +kernel
theorem dX2_unusedFacts_37 : decode cX2_unusedFacts 37 = .ok (.if_icmp .ge 39, 3) := by decide +kernel
theorem dX2_unusedFacts_40 : decode cX2_unusedFacts 40 = .ok (.iload_n 1, 1) := by decide +kernel
theorem dX2_unusedFacts_41 : decode cX2_unusedFacts 41 = .ok (.aload_n 0, 1) := by decide +kernel
theorem dX2_unusedFacts_42 : decode cX2_unusedFacts 42 = .ok (.getfield 26, 3) := by decide +kernel
theorem dX2_unusedFacts_45 : decode cX2_unusedFacts 45 = .ok (.iload_n 2, 1) := by decide +kernel
theorem dX2_unusedFacts_46 : decode cX2_unusedFacts 46 = .ok (.aaload, 1) := by decide +kernel
theorem dX2_unusedFacts_47 : decode cX2_unusedFacts 47 = .ok (.getfield 67, 3) := by decide +kernel
theorem dX2_unusedFacts_50 : decode cX2_unusedFacts 50 = .ok (.ifCond .ge 7, 3) := by decide +kernel
theorem dX2_unusedFacts_53 : decode cX2_unusedFacts 53 = .ok (.iconst 0, 1) := by decide +kernel
theorem dX2_unusedFacts_54 : decode cX2_unusedFacts 54 = .ok (.goto 14, 3) := by decide +kernel
theorem dX2_unusedFacts_57 : decode cX2_unusedFacts 57 = .ok (.iconst 1, 1) := by decide +kernel
theorem dX2_unusedFacts_58 : decode cX2_unusedFacts 58 = .ok (.aload_n 0, 1) := by decide +kernel
theorem dX2_unusedFacts_59 : decode cX2_unusedFacts 59 = .ok (.getfield 26, 3) := by decide +kernel
theorem dX2_unusedFacts_62 : decode cX2_unusedFacts 62 = .ok (.iload_n 2, 1) := by decide +kernel
theorem dX2_unusedFacts_63 : decode cX2_unusedFacts 63 = .ok (.aaload, 1) := by decide +kernel
theorem dX2_unusedFacts_64 : decode cX2_unusedFacts 64 = .ok (.getfield 67, 3) := by decide +kernel
theorem dX2_unusedFacts_67 : decode cX2_unusedFacts 67 = .ok (.ishl, 1) := by decide +kernel
theorem dX2_unusedFacts_68 : decode cX2_unusedFacts 68 = .ok (.ior, 1) := by decide +kernel
theorem dX2_unusedFacts_69 : decode cX2_unusedFacts 69 = .ok (.istore_n 1, 1) := by decide +kernel
theorem dX2_unusedFacts_70 : decode cX2_unusedFacts 70 = .ok (.iinc 2 1, 3) := by decide +kernel
theorem dX2_unusedFacts_73 : decode cX2_unusedFacts 73 = .ok (.goto (-41), 3) := by decide +kernel
theorem dX2_unusedFacts_76 : decode cX2_unusedFacts 76 = .ok (.bipush 7, 2) := by decide +kernel
theorem dX2_unusedFacts_78 : decode cX2_unusedFacts 78 = .ok (.iload_n 1, 1) := by decide +kernel
theorem dX2_unusedFacts_79 : decode cX2_unusedFacts 79 = .ok (.iconst (-1), 1) := by decide +kernel
theorem dX2_unusedFacts_80 : decode cX2_unusedFacts 80 = .ok (.ixor, 1) := by decide +kernel
theorem dX2_unusedFacts_81 : decode cX2_unusedFacts 81 = .ok (.iand, 1) := by decide +kernel
theorem dX2_unusedFacts_82 : decode cX2_unusedFacts 82 = .ok (.ireturn, 1) := by decide +kernel
def X2_unusedFacts_b32 (k32 : Int32 → Int32 → Wd → Option (Int32 × Wd)) (y1 : Int32) (y2 : Int32) (w : Wd) : Option (Int32 × Wd) :=
  if (w.1 3 4) ≤ y2 then
  (some (7 &&& (y1 ^^^ ((-1))), w))
  else
  if inb y2 3 = true then
  (if 0 ≤ (w.1 (81 + Int32.toNatClampNeg y2) 4) then
  (if inb y2 3 = true then
  (lt (y1 ||| (1 <<< ((w.1 (81 + Int32.toNatClampNeg y2) 4) &&& 31))) fun v5 =>
  k32 v5 (y2 + 1) w)
  else none)
  else
  lt (y1 ||| 0) fun v6 =>
  k32 v6 (y2 + 1) w)
  else none
set_option maxRecDepth 100000 in
set_option maxHeartbeats 4000000 in
theorem t_X2_unusedFacts_b32 {Z : Cz (Int32 × Wd)} (hZ : OKZ Z SC cX2_unusedFacts RX2 3 (some .int) 3) (hE : EndI Z) (k32 : Int32 → Int32 → Wd → Option (Int32 × Wd)) (hk32 : ∀ (y1 : Int32) (y2 : Int32)  (w : Wd), BW Z 3 32 [(0, .ref (ph (zY Z) 3)), (1, .int y1), (2, .int y2)] [] w (k32 y1 y2 w)) (y1 : Int32) (y2 : Int32)  (w : Wd) : BW Z 3 32 [(0, .ref (ph (zY Z) 3)), (1, .int y1), (2, .int y2)] [] w (X2_unusedFacts_b32 k32 y1 y2 w) :=
  bw_iload_n hZ 2 rfl dX2_unusedFacts_32 <|
  bw_aload_n hZ 0 rfl dX2_unusedFacts_33 <|
  bw_getI hZ fl_RX2_49 (by decide) obC_3 dX2_unusedFacts_34 <|
  bw_icmp_ge hZ (tgt := 76) (by decide) dX2_unusedFacts_37 (fun _ =>
  bw_bipush hZ 7 (by decide) dX2_unusedFacts_76 <|
  bw_iload_n hZ 1 rfl dX2_unusedFacts_78 <|
  bw_iconst hZ (-1) (by decide) dX2_unusedFacts_79 <|
  bw_ixor hZ dX2_unusedFacts_80 <|
  bw_iand hZ dX2_unusedFacts_81 <|
  bw_iret hZ hE dX2_unusedFacts_82) (fun _ =>
  bw_iload_n hZ 1 rfl dX2_unusedFacts_40 <|
  bw_aload_n hZ 0 rfl dX2_unusedFacts_41 <|
  bw_getR hZ fl_RX2_26 obC_3 rfl dX2_unusedFacts_42 <|
  bw_iload_n hZ 2 rfl dX2_unusedFacts_45 <|
  bw_aald (81 + Int32.toNatClampNeg y2) hZ (arC_5 _) (Or.inr (Or.inl ⟨rfl, rfl⟩)) rfl dX2_unusedFacts_46 fun hi1 =>
  bw_getI hZ fl_RX2_67 (by decide) (obV (isV_of hi1)) dX2_unusedFacts_47 <|
  bw_if_ge hZ (tgt := 57) (by decide) dX2_unusedFacts_50 (fun _ =>
  bw_iconst hZ 1 (by decide) dX2_unusedFacts_57 <|
  bw_aload_n hZ 0 rfl dX2_unusedFacts_58 <|
  bw_getR hZ fl_RX2_26 obC_3 rfl dX2_unusedFacts_59 <|
  bw_iload_n hZ 2 rfl dX2_unusedFacts_62 <|
  bw_aald (81 + Int32.toNatClampNeg y2) hZ (arC_5 _) (Or.inr (Or.inl ⟨rfl, rfl⟩)) rfl dX2_unusedFacts_63 fun hi3 =>
  bw_getI hZ fl_RX2_67 (by decide) (obV (isV_of hi3)) dX2_unusedFacts_64 <|
  bw_ishl hZ dX2_unusedFacts_67 <|
  bw_ior hZ dX2_unusedFacts_68 <|
  bw_nm fun v5 =>
  bw_istore_n hZ rfl (by decide) rfl dX2_unusedFacts_69 <|
  bw_iinc hZ 1 2 rfl (by decide) (by decide) rfl dX2_unusedFacts_70 <|
  bw_goto hZ (tgt := 32) (by decide) dX2_unusedFacts_73 <|
  bw_sub [2, 1, 0] rfl (hk32 v5 (y2 + 1) w)) (fun _ =>
  bw_iconst hZ 0 (by decide) dX2_unusedFacts_53 <|
  bw_goto hZ (tgt := 68) (by decide) dX2_unusedFacts_54 <|
  bw_ior hZ dX2_unusedFacts_68 <|
  bw_nm fun v6 =>
  bw_istore_n hZ rfl (by decide) rfl dX2_unusedFacts_69 <|
  bw_iinc hZ 1 2 rfl (by decide) (by decide) rfl dX2_unusedFacts_70 <|
  bw_goto hZ (tgt := 32) (by decide) dX2_unusedFacts_73 <|
  bw_sub [2, 1, 0] rfl (hk32 v6 (y2 + 1) w)))
def X2_unusedFacts_b32_L  : Int32 → Int32 → Wd → Option (Int32 × Wd) :=
  lp fu (fun _ _ _ => none) (fun k32 => X2_unusedFacts_b32 k32)
theorem t_X2_unusedFacts_b32_L {Z : Cz (Int32 × Wd)} (hZ : OKZ Z SC cX2_unusedFacts RX2 3 (some .int) 3) (hE : EndI Z)  : ∀ (y1 : Int32) (y2 : Int32)  (w : Wd), BW Z 3 32 [(0, .ref (ph (zY Z) 3)), (1, .int y1), (2, .int y2)] [] w (X2_unusedFacts_b32_L y1 y2 w) :=
  lp_bw (fun k32 => ∀ (y1 : Int32) (y2 : Int32)  (w : Wd), BW Z 3 32 [(0, .ref (ph (zY Z) 3)), (1, .int y1), (2, .int y2)] [] w (k32 y1 y2 w)) (fun _ _ _ => bw_none) (fun k32 hk32 y1 y2 w => t_X2_unusedFacts_b32 hZ hE k32 hk32 y1 y2 w) fu
def X2_unusedFacts_b4 (k4 : Int32 → Int32 → Wd → Option (Int32 × Wd)) (y1 : Int32) (y2 : Int32) (w : Wd) : Option (Int32 × Wd) :=
  if (w.1 3 3) ≤ y2 then
  (X2_unusedFacts_b32_L y1 0 w)
  else
  if inb y2 4 = true then
  (cl (f_X6_usedFacts (57 + 6 * Int32.toNatClampNeg y2) w) fun r10 w9 =>
  lt (y1 ||| r10) fun v11 =>
  k4 v11 (y2 + 1) w9)
  else none
set_option maxRecDepth 100000 in
set_option maxHeartbeats 4000000 in
theorem t_X2_unusedFacts_b4 {Z : Cz (Int32 × Wd)} (hZ : OKZ Z SC cX2_unusedFacts RX2 3 (some .int) 3) (hE : EndI Z) (k4 : Int32 → Int32 → Wd → Option (Int32 × Wd)) (hk4 : ∀ (y1 : Int32) (y2 : Int32)  (w : Wd), BW Z 3 4 [(0, .ref (ph (zY Z) 3)), (1, .int y1), (2, .int y2)] [] w (k4 y1 y2 w)) (y1 : Int32) (y2 : Int32)  (w : Wd) : BW Z 3 4 [(0, .ref (ph (zY Z) 3)), (1, .int y1), (2, .int y2)] [] w (X2_unusedFacts_b4 k4 y1 y2 w) :=
  bw_iload_n hZ 2 rfl dX2_unusedFacts_4 <|
  bw_aload_n hZ 0 rfl dX2_unusedFacts_5 <|
  bw_getI hZ fl_RX2_46 (by decide) obC_3 dX2_unusedFacts_6 <|
  bw_icmp_ge hZ (tgt := 30) (by decide) dX2_unusedFacts_9 (fun _ =>
  bw_iconst hZ 0 (by decide) dX2_unusedFacts_30 <|
  bw_istore_n hZ rfl (by decide) rfl dX2_unusedFacts_31 <|
  bw_sub [1, 2, 0] rfl (t_X2_unusedFacts_b32_L hZ hE y1 0 w)) (fun _ =>
  bw_iload_n hZ 1 rfl dX2_unusedFacts_12 <|
  bw_aload_n hZ 0 rfl dX2_unusedFacts_13 <|
  bw_getR hZ fl_RX2_20 obC_3 rfl dX2_unusedFacts_14 <|
  bw_iload_n hZ 2 rfl dX2_unusedFacts_17 <|
  bw_aald (57 + 6 * Int32.toNatClampNeg y2) hZ (arC_4 _) (Or.inl ⟨rfl, rfl⟩) rfl dX2_unusedFacts_18 fun hi7 =>
  bw_callVI (As := []) hZ ml_RX2_79 rc_6 (obP (isP_of hi7)) (by decide) (c_X6_usedFacts (zl Z) (zY Z) (hZ_S hZ) (57 + 6 * Int32.toNatClampNeg y2) (isP_of hi7) w) rfl rfl (Nat.le_of_ble_eq_true rfl) dX2_unusedFacts_19 fun r10 w9 =>
  bw_ior hZ dX2_unusedFacts_22 <|
  bw_nm fun v11 =>
  bw_istore_n hZ rfl (by decide) rfl dX2_unusedFacts_23 <|
  bw_iinc hZ 1 2 rfl (by decide) (by decide) rfl dX2_unusedFacts_24 <|
  bw_goto hZ (tgt := 4) (by decide) dX2_unusedFacts_27 <|
  bw_sub [2, 1, 0] rfl (hk4 v11 (y2 + 1) w9))
def X2_unusedFacts_b4_L  : Int32 → Int32 → Wd → Option (Int32 × Wd) :=
  lp fu (fun _ _ _ => none) (fun k4 => X2_unusedFacts_b4 k4)
theorem t_X2_unusedFacts_b4_L {Z : Cz (Int32 × Wd)} (hZ : OKZ Z SC cX2_unusedFacts RX2 3 (some .int) 3) (hE : EndI Z)  : ∀ (y1 : Int32) (y2 : Int32)  (w : Wd), BW Z 3 4 [(0, .ref (ph (zY Z) 3)), (1, .int y1), (2, .int y2)] [] w (X2_unusedFacts_b4_L y1 y2 w) :=
  lp_bw (fun k4 => ∀ (y1 : Int32) (y2 : Int32)  (w : Wd), BW Z 3 4 [(0, .ref (ph (zY Z) 3)), (1, .int y1), (2, .int y2)] [] w (k4 y1 y2 w)) (fun _ _ _ => bw_none) (fun k4 hk4 y1 y2 w => t_X2_unusedFacts_b4 hZ hE k4 hk4 y1 y2 w) fu
def f_X2_unusedFacts (w : Wd) : Option (Int32 × Wd) :=
  X2_unusedFacts_b4_L 0 0 w
set_option maxRecDepth 100000 in
set_option maxHeartbeats 4000000 in
theorem t_X2_unusedFacts {Z : Cz (Int32 × Wd)} (hZ : OKZ Z SC cX2_unusedFacts RX2 3 (some .int) 3) (hE : EndI Z)   (w : Wd) : BW Z 3 0 [(0, .ref (ph (zY Z) 3))] [] w (f_X2_unusedFacts w) :=
  bw_iconst hZ 0 (by decide) dX2_unusedFacts_0 <|
  bw_istore_n hZ rfl (by decide) rfl dX2_unusedFacts_1 <|
  bw_iconst hZ 0 (by decide) dX2_unusedFacts_2 <|
  bw_istore_n hZ rfl (by decide) rfl dX2_unusedFacts_3 <|
  bw_sub [2, 1, 0] rfl (t_X2_unusedFacts_b4_L hZ hE 0 0 w)
theorem c_X2_unusedFacts (l : Launch) (Y : Ev) (hY : Y.1 = SC)   (w : Wd) : CI l Y yX2_unusedFacts cX2_unusedFacts 3 3 [.ref (ph Y 3)] w .int (f_X2_unusedFacts w) := by
  refine CI_of (S := SC) (by decide) (Nat.le_of_ble_eq_true rfl) hY ?_
  intro Z hl hY2 hZ hE
  subst hY2
  exact t_X2_unusedFacts hZ hE w
-- WhichWill$Matter.itemAt
theorem dX2_itemAt_0 : decode cX2_itemAt 0 = .ok (.aload_n 0, 1) := by decide +kernel
theorem dX2_itemAt_1 : decode cX2_itemAt 1 = .ok (.getfield 33, 3) := by decide +kernel
theorem dX2_itemAt_4 : decode cX2_itemAt 4 = .ok (.iload_n 1, 1) := by decide +kernel
theorem dX2_itemAt_5 : decode cX2_itemAt 5 = .ok (.iaload, 1) := by decide +kernel
theorem dX2_itemAt_6 : decode cX2_itemAt 6 = .ok (.iconst 3, 1) := by decide +kernel
theorem dX2_itemAt_7 : decode cX2_itemAt 7 = .ok (.iload_n 2, 1) := by decide +kernel
theorem dX2_itemAt_8 : decode cX2_itemAt 8 = .ok (.imul, 1) := by decide +kernel
theorem dX2_itemAt_9 : decode cX2_itemAt 9 = .ok (.ishr, 1) := by decide +kernel
theorem dX2_itemAt_10 : decode cX2_itemAt 10 = .ok (.bipush 7, 2) := by decide +kernel
theorem dX2_itemAt_12 : decode cX2_itemAt 12 = .ok (.iand, 1) := by decide +kernel
theorem dX2_itemAt_13 : decode cX2_itemAt 13 = .ok (.ireturn, 1) := by decide +kernel
def f_X2_itemAt (x1 : Int32) (x2 : Int32) (w : Wd) : Option (Int32 × Wd) :=
  if inb x1 720 = true then
  (some (((w.1 6 (Int32.toNatClampNeg x1)) >>> ((3 * x2) &&& 31)) &&& 7, w))
  else none
set_option maxRecDepth 100000 in
set_option maxHeartbeats 4000000 in
theorem t_X2_itemAt {Z : Cz (Int32 × Wd)} (hZ : OKZ Z SC cX2_itemAt RX2 3 (some .int) 1) (hE : EndI Z) (x1 : Int32) (x2 : Int32)  (w : Wd) : BW Z 3 0 [(0, .ref (ph (zY Z) 3)), (1, .int x1), (2, .int x2)] [] w (f_X2_itemAt x1 x2 w) :=
  bw_aload_n hZ 0 rfl dX2_itemAt_0 <|
  bw_getR hZ fl_RX2_33 obC_3 rfl dX2_itemAt_1 <|
  bw_iload_n hZ 1 rfl dX2_itemAt_4 <|
  bw_iald hZ (arC_6 _) dX2_itemAt_5 <|
  bw_iconst hZ 3 (by decide) dX2_itemAt_6 <|
  bw_iload_n hZ 2 rfl dX2_itemAt_7 <|
  bw_imul hZ dX2_itemAt_8 <|
  bw_ishr hZ dX2_itemAt_9 <|
  bw_bipush hZ 7 (by decide) dX2_itemAt_10 <|
  bw_iand hZ dX2_itemAt_12 <|
  bw_iret hZ hE dX2_itemAt_13
theorem c_X2_itemAt (l : Launch) (Y : Ev) (hY : Y.1 = SC) (x1 : Int32) (x2 : Int32)  (w : Wd) : CI l Y yX2_itemAt cX2_itemAt 3 1 [.ref (ph Y 3), .int x1, .int x2] w .int (f_X2_itemAt x1 x2 w) := by
  refine CI_of (S := SC) (by decide) (Nat.le_of_ble_eq_true rfl) hY ?_
  intro Z hl hY2 hZ hE
  subst hY2
  exact t_X2_itemAt hZ hE x1 x2 w
-- WhichWill$Matter.isAhead
theorem dX2_isAhead_0 : decode cX2_isAhead 0 = .ok (.aload_n 0, 1) := by decide +kernel
theorem dX2_isAhead_1 : decode cX2_isAhead 1 = .ok (.invokevirtual 83, 3) := by decide +kernel
theorem dX2_isAhead_4 : decode cX2_isAhead 4 = .ok (.istore 4, 2) := by decide +kernel
theorem dX2_isAhead_6 : decode cX2_isAhead 6 = .ok (.iconst 0, 1) := by decide +kernel
theorem dX2_isAhead_7 : decode cX2_isAhead 7 = .ok (.istore 5, 2) := by decide +kernel
theorem dX2_isAhead_9 : decode cX2_isAhead 9 = .ok (.iload 5, 2) := by decide +kernel
theorem dX2_isAhead_11 : decode cX2_isAhead 11 = .ok (.iload 4, 2) := by decide +kernel
theorem dX2_isAhead_13 : decode cX2_isAhead 13 = .ok (.if_icmp .ge 42, 3) := by decide +kernel
theorem dX2_isAhead_16 : decode cX2_isAhead 16 = .ok (.aload_n 0, 1) := by decide +kernel
theorem dX2_isAhead_17 : decode cX2_isAhead 17 = .ok (.iload_n 1, 1) := by decide +kernel
theorem dX2_isAhead_18 : decode cX2_isAhead 18 = .ok (.iload 5, 2) := by decide +kernel
theorem dX2_isAhead_20 : decode cX2_isAhead 20 = .ok (.invokevirtual 86, 3) := by decide +kernel
theorem dX2_isAhead_23 : decode cX2_isAhead 23 = .ok (.istore 6, 2) := by decide +kernel
theorem dX2_isAhead_25 : decode cX2_isAhead 25 = .ok (.iload 6, 2) := by decide +kernel
theorem dX2_isAhead_27 : decode cX2_isAhead 27 = .ok (.iload_n 2, 1) := by decide +kernel
theorem dX2_isAhead_28 : decode cX2_isAhead 28 = .ok (.if_icmp .eq 9, 3) := by decide +kernel
theorem dX2_isAhead_31 : decode cX2_isAhead 31 = .ok (.iload 6, 2) := by decide +kernel
theorem dX2_isAhead_33 : decode cX2_isAhead 33 = .ok (.iload_n 3, 1) := by decide +kernel
theorem dX2_isAhead_34 : decode cX2_isAhead 34 = .ok (.if_icmp .ne 15, 3) := by decide +kernel
theorem dX2_isAhead_37 : decode cX2_isAhead 37 = .ok (.iload 6, 2) := by decide +kernel
theorem dX2_isAhead_39 : decode cX2_isAhead 39 = .ok (.iload_n 2, 1) := by decide +kernel
theorem dX2_isAhead_40 : decode cX2_isAhead 40 = .ok (.if_icmp .ne 7, 3) := by decide +kernel
theorem dX2_isAhead_43 : decode cX2_isAhead 43 = .ok (.iconst 1, 1) := by decide +kernel
theorem dX2_isAhead_44 : decode cX2_isAhead 44 = .ok (.goto 4, 3) := by decide +kernel
theorem dX2_isAhead_47 : decode cX2_isAhead 47 = .ok (.iconst 0, 1) := by decide +kernel
theorem dX2_isAhead_48 : decode cX2_isAhead 48 = .ok (.ireturn, 1) := by decide +kernel
theorem dX2_isAhead_49 : decode cX2_isAhead 49 = .ok (.iinc 5 1, 3) := by decide +kernel
theorem dX2_isAhead_52 : decode cX2_isAhead 52 = .ok (.goto (-43), 3) := by decide +kernel
theorem dX2_isAhead_55 : decode cX2_isAhead 55 = .ok (.iconst 0, 1) := by decide +kernel
theorem dX2_isAhead_56 : decode cX2_isAhead 56 = .ok (.ireturn, 1) := by decide +kernel
def X2_isAhead_b37 (y2 : Int32) (y6 : Int32) (w : Wd) : Option (Int32 × Wd) :=
  if y6 = y2 then
  (some (1, w))
  else
  some (0, w)
set_option maxRecDepth 100000 in
set_option maxHeartbeats 4000000 in
theorem t_X2_isAhead_b37 {Z : Cz (Int32 × Wd)} (hZ : OKZ Z SC cX2_isAhead RX2 7 (some .boolean) 2) (hE : EndI Z)  (y2 : Int32) (y6 : Int32)  (w : Wd) : BW Z 7 37 [(2, .int y2), (6, .int y6)] [] w (X2_isAhead_b37 y2 y6 w) :=
  bw_iload hZ 1 rfl dX2_isAhead_37 <|
  bw_iload_n hZ 0 rfl dX2_isAhead_39 <|
  bw_icmp_ne hZ (tgt := 47) (by decide) dX2_isAhead_40 (fun _ =>
  bw_iconst hZ 0 (by decide) dX2_isAhead_47 <|
  bw_zret hZ hE (by decide) dX2_isAhead_48) (fun _ =>
  bw_iconst hZ 1 (by decide) dX2_isAhead_43 <|
  bw_goto hZ (tgt := 48) (by decide) dX2_isAhead_44 <|
  bw_zret hZ hE (by decide) dX2_isAhead_48)
def X2_isAhead_b9 (k9 : Int32 → Int32 → Int32 → Int32 → Int32 → Wd → Option (Int32 × Wd)) (y1 : Int32) (y2 : Int32) (y3 : Int32) (y4 : Int32) (y5 : Int32) (w : Wd) : Option (Int32 × Wd) :=
  if y4 ≤ y5 then
  (some (0, w))
  else
  cl (f_X2_itemAt y1 y5 w) fun r4 w3 =>
  if r4 = y2 then
  (X2_isAhead_b37 y2 r4 w3)
  else
  if r4 = y3 then
  (X2_isAhead_b37 y2 r4 w3)
  else
  k9 y1 y2 y3 y4 (y5 + 1) w3
set_option maxRecDepth 100000 in
set_option maxHeartbeats 4000000 in
theorem t_X2_isAhead_b9 {Z : Cz (Int32 × Wd)} (hZ : OKZ Z SC cX2_isAhead RX2 7 (some .boolean) 2) (hE : EndI Z) (k9 : Int32 → Int32 → Int32 → Int32 → Int32 → Wd → Option (Int32 × Wd)) (hk9 : ∀ (y1 : Int32) (y2 : Int32) (y3 : Int32) (y4 : Int32) (y5 : Int32)  (w : Wd), BW Z 7 9 [(0, .ref (ph (zY Z) 3)), (1, .int y1), (2, .int y2), (3, .int y3), (4, .int y4), (5, .int y5)] [] w (k9 y1 y2 y3 y4 y5 w)) (y1 : Int32) (y2 : Int32) (y3 : Int32) (y4 : Int32) (y5 : Int32)  (w : Wd) : BW Z 7 9 [(0, .ref (ph (zY Z) 3)), (1, .int y1), (2, .int y2), (3, .int y3), (4, .int y4), (5, .int y5)] [] w (X2_isAhead_b9 k9 y1 y2 y3 y4 y5 w) :=
  bw_iload hZ 5 rfl dX2_isAhead_9 <|
  bw_iload hZ 4 rfl dX2_isAhead_11 <|
  bw_icmp_ge hZ (tgt := 55) (by decide) dX2_isAhead_13 (fun _ =>
  bw_iconst hZ 0 (by decide) dX2_isAhead_55 <|
  bw_zret hZ hE (by decide) dX2_isAhead_56) (fun _ =>
  bw_aload_n hZ 0 rfl dX2_isAhead_16 <|
  bw_iload_n hZ 1 rfl dX2_isAhead_17 <|
  bw_iload hZ 5 rfl dX2_isAhead_18 <|
  bw_callVI (As := [.int y1, .int y5]) hZ ml_RX2_86 rc_2 obC_3 (by decide) (c_X2_itemAt (zl Z) (zY Z) (hZ_S hZ) y1 y5 w) rfl rfl (Nat.le_of_ble_eq_true rfl) dX2_isAhead_20 fun r4 w3 =>
  bw_istore hZ (by decide) rfl dX2_isAhead_23 <|
  bw_iload hZ 0 rfl dX2_isAhead_25 <|
  bw_iload_n hZ 3 rfl dX2_isAhead_27 <|
  bw_icmp_eq hZ (tgt := 37) (by decide) dX2_isAhead_28 (fun _ =>
  bw_sub [3, 0] rfl (t_X2_isAhead_b37 hZ hE y2 r4 w3)) (fun _ =>
  bw_iload hZ 0 rfl dX2_isAhead_31 <|
  bw_iload_n hZ 4 rfl dX2_isAhead_33 <|
  bw_icmp_ne hZ (tgt := 49) (by decide) dX2_isAhead_34 (fun _ =>
  bw_iinc hZ 1 6 rfl (by decide) (by decide) rfl dX2_isAhead_49 <|
  bw_goto hZ (tgt := 9) (by decide) dX2_isAhead_52 <|
  bw_sub [2, 3, 4, 5, 6, 0] rfl (hk9 y1 y2 y3 y4 (y5 + 1) w3)) (fun _ =>
  bw_sub [3, 0] rfl (t_X2_isAhead_b37 hZ hE y2 r4 w3))))
def X2_isAhead_b9_L  : Int32 → Int32 → Int32 → Int32 → Int32 → Wd → Option (Int32 × Wd) :=
  lp fu (fun _ _ _ _ _ _ => none) (fun k9 => X2_isAhead_b9 k9)
theorem t_X2_isAhead_b9_L {Z : Cz (Int32 × Wd)} (hZ : OKZ Z SC cX2_isAhead RX2 7 (some .boolean) 2) (hE : EndI Z)  : ∀ (y1 : Int32) (y2 : Int32) (y3 : Int32) (y4 : Int32) (y5 : Int32)  (w : Wd), BW Z 7 9 [(0, .ref (ph (zY Z) 3)), (1, .int y1), (2, .int y2), (3, .int y3), (4, .int y4), (5, .int y5)] [] w (X2_isAhead_b9_L y1 y2 y3 y4 y5 w) :=
  lp_bw (fun k9 => ∀ (y1 : Int32) (y2 : Int32) (y3 : Int32) (y4 : Int32) (y5 : Int32)  (w : Wd), BW Z 7 9 [(0, .ref (ph (zY Z) 3)), (1, .int y1), (2, .int y2), (3, .int y3), (4, .int y4), (5, .int y5)] [] w (k9 y1 y2 y3 y4 y5 w)) (fun _ _ _ _ _ _ => bw_none) (fun k9 hk9 y1 y2 y3 y4 y5 w => t_X2_isAhead_b9 hZ hE k9 hk9 y1 y2 y3 y4 y5 w) fu
def f_X2_isAhead (x1 : Int32) (x2 : Int32) (x3 : Int32) (w : Wd) : Option (Int32 × Wd) :=
  cl (f_X2_itemsTold w) fun r2 w1 =>
  X2_isAhead_b9_L x1 x2 x3 r2 0 w1
set_option maxRecDepth 100000 in
set_option maxHeartbeats 4000000 in
theorem t_X2_isAhead {Z : Cz (Int32 × Wd)} (hZ : OKZ Z SC cX2_isAhead RX2 7 (some .boolean) 2) (hE : EndI Z) (x1 : Int32) (x2 : Int32) (x3 : Int32)  (w : Wd) : BW Z 7 0 [(0, .ref (ph (zY Z) 3)), (1, .int x1), (2, .int x2), (3, .int x3)] [] w (f_X2_isAhead x1 x2 x3 w) :=
  bw_aload_n hZ 0 rfl dX2_isAhead_0 <|
  bw_callVI (As := []) hZ ml_RX2_83 rc_2 obC_3 (by decide) (c_X2_itemsTold (zl Z) (zY Z) (hZ_S hZ) w) rfl rfl (Nat.le_of_ble_eq_true rfl) dX2_isAhead_1 fun r2 w1 =>
  bw_istore hZ (by decide) rfl dX2_isAhead_4 <|
  bw_iconst hZ 0 (by decide) dX2_isAhead_6 <|
  bw_istore hZ (by decide) rfl dX2_isAhead_7 <|
  bw_sub [2, 3, 4, 5, 1, 0] rfl (t_X2_isAhead_b9_L hZ hE x1 x2 x3 r2 0 w1)
theorem c_X2_isAhead (l : Launch) (Y : Ev) (hY : Y.1 = SC) (x1 : Int32) (x2 : Int32) (x3 : Int32)  (w : Wd) : CI l Y yX2_isAhead cX2_isAhead 7 2 [.ref (ph Y 3), .int x1, .int x2, .int x3] w .boolean (f_X2_isAhead x1 x2 x3 w) := by
  refine CI_of (S := SC) (by decide) (Nat.le_of_ble_eq_true rfl) hY ?_
  intro Z hl hY2 hZ hE
  subst hY2
  exact t_X2_isAhead hZ hE x1 x2 x3 w
-- WhichWill$Paper.isIfSo
theorem dX6_isIfSo_0 : decode cX6_isIfSo 0 = .ok (.aload_n 0, 1) := by decide +kernel
theorem dX6_isIfSo_1 : decode cX6_isIfSo 1 = .ok (.getfield 24, 3) := by decide +kernel
theorem dX6_isIfSo_4 : decode cX6_isIfSo 4 = .ok (.iload_n 1, 1) := by decide +kernel
theorem dX6_isIfSo_5 : decode cX6_isIfSo 5 = .ok (.iaload, 1) := by decide +kernel
theorem dX6_isIfSo_6 : decode cX6_isIfSo 6 = .ok (.istore 4, 2) := by decide +kernel
theorem dX6_isIfSo_8 : decode cX6_isIfSo 8 = .ok (.aload_n 0, 1) := by decide +kernel
theorem dX6_isIfSo_9 : decode cX6_isIfSo 9 = .ok (.getfield 21, 3) := by decide +kernel
theorem dX6_isIfSo_12 : decode cX6_isIfSo 12 = .ok (.iload_n 1, 1) := by decide +kernel
theorem dX6_isIfSo_13 : decode cX6_isIfSo 13 = .ok (.iaload, 1) := by decide +kernel
theorem dX6_isIfSo_14 : decode cX6_isIfSo 14 = .ok (.tableswitch 90 1 4 #[30, 45, 60, 75], 30) := by decide +kernel
theorem dX6_isIfSo_44 : decode cX6_isIfSo 44 = .ok (.iload_n 2, 1) := by decide +kernel
theorem dX6_isIfSo_45 : decode cX6_isIfSo 45 = .ok (.iload 4, 2) := by decide +kernel
theorem dX6_isIfSo_47 : decode cX6_isIfSo 47 = .ok (.ishr, 1) := by decide +kernel
theorem dX6_isIfSo_48 : decode cX6_isIfSo 48 = .ok (.iconst 1, 1) := by decide +kernel
theorem dX6_isIfSo_49 : decode cX6_isIfSo 49 = .ok (.iand, 1) := by decide +kernel
theorem dX6_isIfSo_50 : decode cX6_isIfSo 50 = .ok (.ifCond .eq 7, 3) := by decide +kernel
theorem dX6_isIfSo_53 : decode cX6_isIfSo 53 = .ok (.iconst 1, 1) := by decide +kernel
theorem dX6_isIfSo_54 : decode cX6_isIfSo 54 = .ok (.goto 4, 3) := by decide +kernel
theorem dX6_isIfSo_57 : decode cX6_isIfSo 57 = .ok (.iconst 0, 1) := by decide +kernel
theorem dX6_isIfSo_58 : decode cX6_isIfSo 58 = .ok (.ireturn, 1) := by decide +kernel
theorem dX6_isIfSo_59 : decode cX6_isIfSo 59 = .ok (.iload_n 2, 1) := by decide +kernel
theorem dX6_isIfSo_60 : decode cX6_isIfSo 60 = .ok (.iload 4, 2) := by decide +kernel
theorem dX6_isIfSo_62 : decode cX6_isIfSo 62 = .ok (.ishr, 1) := by decide +kernel
theorem dX6_isIfSo_63 : decode cX6_isIfSo 63 = .ok (.iconst 1, 1) := by decide +kernel
theorem dX6_isIfSo_64 : decode cX6_isIfSo 64 = .ok (.iand, 1) := by decide +kernel
theorem dX6_isIfSo_65 : decode cX6_isIfSo 65 = .ok (.ifCond .ne 7, 3) := by decide +kernel
theorem dX6_isIfSo_68 : decode cX6_isIfSo 68 = .ok (.iconst 1, 1) := by decide +kernel
theorem dX6_isIfSo_69 : decode cX6_isIfSo 69 = .ok (.goto 4, 3) := by decide +kernel
theorem dX6_isIfSo_72 : decode cX6_isIfSo 72 = .ok (.iconst 0, 1) := by decide +kernel
theorem dX6_isIfSo_73 : decode cX6_isIfSo 73 = .ok (.ireturn, 1) := by decide +kernel
theorem dX6_isIfSo_74 : decode cX6_isIfSo 74 = .ok (.iload_n 3, 1) := by decide +kernel
theorem dX6_isIfSo_75 : decode cX6_isIfSo 75 = .ok (.iload 4, 2) := by decide +kernel
theorem dX6_isIfSo_77 : decode cX6_isIfSo 77 = .ok (.ishr, 1) := by decide +kernel
theorem dX6_isIfSo_78 : decode cX6_isIfSo 78 = .ok (.iconst 1, 1) := by decide +kernel
theorem dX6_isIfSo_79 : decode cX6_isIfSo 79 = .ok (.iand, 1) := by decide +kernel
theorem dX6_isIfSo_80 : decode cX6_isIfSo 80 = .ok (.ifCond .eq 7, 3) := by decide +kernel
theorem dX6_isIfSo_83 : decode cX6_isIfSo 83 = .ok (.iconst 1, 1) := by decide +kernel
theorem dX6_isIfSo_84 : decode cX6_isIfSo 84 = .ok (.goto 4, 3) := by decide +kernel
theorem dX6_isIfSo_87 : decode cX6_isIfSo 87 = .ok (.iconst 0, 1) := by decide +kernel
theorem dX6_isIfSo_88 : decode cX6_isIfSo 88 = .ok (.ireturn, 1) := by decide +kernel
theorem dX6_isIfSo_89 : decode cX6_isIfSo 89 = .ok (.iload_n 3, 1) := by decide +kernel
theorem dX6_isIfSo_90 : decode cX6_isIfSo 90 = .ok (.iload 4, 2) := by decide +kernel
theorem dX6_isIfSo_92 : decode cX6_isIfSo 92 = .ok (.ishr, 1) := by decide +kernel
theorem dX6_isIfSo_93 : decode cX6_isIfSo 93 = .ok (.iconst 1, 1) := by decide +kernel
theorem dX6_isIfSo_94 : decode cX6_isIfSo 94 = .ok (.iand, 1) := by decide +kernel
theorem dX6_isIfSo_95 : decode cX6_isIfSo 95 = .ok (.ifCond .ne 7, 3) := by decide +kernel
theorem dX6_isIfSo_98 : decode cX6_isIfSo 98 = .ok (.iconst 1, 1) := by decide +kernel
theorem dX6_isIfSo_99 : decode cX6_isIfSo 99 = .ok (.goto 4, 3) := by decide +kernel
theorem dX6_isIfSo_102 : decode cX6_isIfSo 102 = .ok (.iconst 0, 1) := by decide +kernel
theorem dX6_isIfSo_103 : decode cX6_isIfSo 103 = .ok (.ireturn, 1) := by decide +kernel
theorem dX6_isIfSo_104 : decode cX6_isIfSo 104 = .ok (.iconst 1, 1) := by decide +kernel
theorem dX6_isIfSo_105 : decode cX6_isIfSo 105 = .ok (.ireturn, 1) := by decide +kernel
def f_X6_isIfSo (o0 : Nat) (x1 : Int32) (x2 : Int32) (x3 : Int32) (w : Wd) : Option (Int32 × Wd) :=
  if inb x1 8 = true then
  (lt (w.1 (o0 + 5) (Int32.toNatClampNeg x1)) fun v1 =>
  if inb x1 8 = true then
  (lt (w.1 (o0 + 4) (Int32.toNatClampNeg x1)) fun v2 =>
  if v2 = 1 then
  (if ((x2 >>> (v1 &&& 31)) &&& 1) = 0 then
  (some (0, w))
  else
  some (1, w))
  else
  if v2 = 2 then
  (if ((x2 >>> (v1 &&& 31)) &&& 1) = 0 then
  (some (1, w))
  else
  some (0, w))
  else
  if v2 = 3 then
  (if ((x3 >>> (v1 &&& 31)) &&& 1) = 0 then
  (some (0, w))
  else
  some (1, w))
  else
  if v2 = 4 then
  (if ((x3 >>> (v1 &&& 31)) &&& 1) = 0 then
  (some (1, w))
  else
  some (0, w))
  else
  some (1, w))
  else none)
  else none
set_option maxRecDepth 100000 in
set_option maxHeartbeats 4000000 in
theorem t_X6_isIfSo {Z : Cz (Int32 × Wd)} (hZ : OKZ Z SC cX6_isIfSo RX6 5 (some .boolean) 1) (hE : EndI Z) (o0 : Nat) (x1 : Int32) (x2 : Int32) (x3 : Int32) (ho0 : IsP o0) (w : Wd) : BW Z 5 0 [(0, .ref (ph (zY Z) o0)), (1, .int x1), (2, .int x2), (3, .int x3)] [] w (f_X6_isIfSo o0 x1 x2 x3 w) :=
  bw_aload_n hZ 0 rfl dX6_isIfSo_0 <|
  bw_getR hZ fl_RX6_24 (obP ho0) (rfP13 ho0) dX6_isIfSo_1 <|
  bw_iload_n hZ 1 rfl dX6_isIfSo_4 <|
  bw_iald hZ (arP5 ho0 _) dX6_isIfSo_5 <|
  bw_nm fun v1 =>
  bw_istore hZ (by decide) rfl dX6_isIfSo_6 <|
  bw_aload_n hZ 1 rfl dX6_isIfSo_8 <|
  bw_getR hZ fl_RX6_21 (obP ho0) (rfP12 ho0) dX6_isIfSo_9 <|
  bw_iload_n hZ 2 rfl dX6_isIfSo_12 <|
  bw_iald hZ (arP4 ho0 _) dX6_isIfSo_13 <|
  bw_nm fun v2 =>
  bw_if (fun h => bw_tabIn hZ (tgt := 44) (off := 30) 1 (by rw [h]; decide) (by decide) (by decide) (by decide) (by decide) dX6_isIfSo_14 <|
  bw_iload_n hZ 3 rfl dX6_isIfSo_44 <|
  bw_iload hZ 0 rfl dX6_isIfSo_45 <|
  bw_ishr hZ dX6_isIfSo_47 <|
  bw_iconst hZ 1 (by decide) dX6_isIfSo_48 <|
  bw_iand hZ dX6_isIfSo_49 <|
  bw_if_eq hZ (tgt := 57) (by decide) dX6_isIfSo_50 (fun _ =>
  bw_iconst hZ 0 (by decide) dX6_isIfSo_57 <|
  bw_zret hZ hE (by decide) dX6_isIfSo_58) (fun _ =>
  bw_iconst hZ 1 (by decide) dX6_isIfSo_53 <|
  bw_goto hZ (tgt := 58) (by decide) dX6_isIfSo_54 <|
  bw_zret hZ hE (by decide) dX6_isIfSo_58)) (fun h1 =>
  bw_if (fun h => bw_tabIn hZ (tgt := 59) (off := 45) 2 (by rw [h]; decide) (by decide) (by decide) (by decide) (by decide) dX6_isIfSo_14 <|
  bw_iload_n hZ 3 rfl dX6_isIfSo_59 <|
  bw_iload hZ 0 rfl dX6_isIfSo_60 <|
  bw_ishr hZ dX6_isIfSo_62 <|
  bw_iconst hZ 1 (by decide) dX6_isIfSo_63 <|
  bw_iand hZ dX6_isIfSo_64 <|
  bw_if_ne hZ (tgt := 72) (by decide) dX6_isIfSo_65 (fun _ =>
  bw_iconst hZ 0 (by decide) dX6_isIfSo_72 <|
  bw_zret hZ hE (by decide) dX6_isIfSo_73) (fun _ =>
  bw_iconst hZ 1 (by decide) dX6_isIfSo_68 <|
  bw_goto hZ (tgt := 73) (by decide) dX6_isIfSo_69 <|
  bw_zret hZ hE (by decide) dX6_isIfSo_73)) (fun h2 =>
  bw_if (fun h => bw_tabIn hZ (tgt := 74) (off := 60) 3 (by rw [h]; decide) (by decide) (by decide) (by decide) (by decide) dX6_isIfSo_14 <|
  bw_iload_n hZ 4 rfl dX6_isIfSo_74 <|
  bw_iload hZ 0 rfl dX6_isIfSo_75 <|
  bw_ishr hZ dX6_isIfSo_77 <|
  bw_iconst hZ 1 (by decide) dX6_isIfSo_78 <|
  bw_iand hZ dX6_isIfSo_79 <|
  bw_if_eq hZ (tgt := 87) (by decide) dX6_isIfSo_80 (fun _ =>
  bw_iconst hZ 0 (by decide) dX6_isIfSo_87 <|
  bw_zret hZ hE (by decide) dX6_isIfSo_88) (fun _ =>
  bw_iconst hZ 1 (by decide) dX6_isIfSo_83 <|
  bw_goto hZ (tgt := 88) (by decide) dX6_isIfSo_84 <|
  bw_zret hZ hE (by decide) dX6_isIfSo_88)) (fun h3 =>
  bw_if (fun h => bw_tabIn hZ (tgt := 89) (off := 75) 4 (by rw [h]; decide) (by decide) (by decide) (by decide) (by decide) dX6_isIfSo_14 <|
  bw_iload_n hZ 4 rfl dX6_isIfSo_89 <|
  bw_iload hZ 0 rfl dX6_isIfSo_90 <|
  bw_ishr hZ dX6_isIfSo_92 <|
  bw_iconst hZ 1 (by decide) dX6_isIfSo_93 <|
  bw_iand hZ dX6_isIfSo_94 <|
  bw_if_ne hZ (tgt := 102) (by decide) dX6_isIfSo_95 (fun _ =>
  bw_iconst hZ 0 (by decide) dX6_isIfSo_102 <|
  bw_zret hZ hE (by decide) dX6_isIfSo_103) (fun _ =>
  bw_iconst hZ 1 (by decide) dX6_isIfSo_98 <|
  bw_goto hZ (tgt := 103) (by decide) dX6_isIfSo_99 <|
  bw_zret hZ hE (by decide) dX6_isIfSo_103)) (fun h4 =>
  bw_tabOut hZ (tgt := 104) (by have q1 := ne_int h1 (n := 1) (by decide); have q2 := ne_int h2 (n := 2) (by decide); have q3 := ne_int h3 (n := 3) (by decide); have q4 := ne_int h4 (n := 4) (by decide); omega) (by decide) dX6_isIfSo_14 <|
  bw_iconst hZ 1 (by decide) dX6_isIfSo_104 <|
  bw_zret hZ hE (by decide) dX6_isIfSo_105))))
theorem c_X6_isIfSo (l : Launch) (Y : Ev) (hY : Y.1 = SC) (o0 : Nat) (x1 : Int32) (x2 : Int32) (x3 : Int32) (ho0 : IsP o0) (w : Wd) : CI l Y yX6_isIfSo cX6_isIfSo 5 1 [.ref (ph Y o0), .int x1, .int x2, .int x3] w .boolean (f_X6_isIfSo o0 x1 x2 x3 w) := by
  refine CI_of (S := SC) (by decide) (Nat.le_of_ble_eq_true rfl) hY ?_
  intro Z hl hY2 hZ hE
  subst hY2
  exact t_X6_isIfSo hZ hE o0 x1 x2 x3 ho0 w
-- WhichWill$Shares.isHolding
theorem dX7_isHolding_0 : decode cX7_isHolding 0 = .ok (.iload_n 3, 1) := by decide +kernel
theorem dX7_isHolding_1 : decode cX7_isHolding 1 = .ok (.aload_n 0, 1) := by decide +kernel
theorem dX7_isHolding_2 : decode cX7_isHolding 2 = .ok (.getfield 40, 3) := by decide +kernel
theorem dX7_isHolding_5 : decode cX7_isHolding 5 = .ok (.getfield 72, 3) := by decide +kernel
theorem dX7_isHolding_8 : decode cX7_isHolding 8 = .ok (.getfield 157, 3) := by decide +kernel
theorem dX7_isHolding_11 : decode cX7_isHolding 11 = .ok (.ior, 1) := by decide +kernel
theorem dX7_isHolding_12 : decode cX7_isHolding 12 = .ok (.istore 4, 2) := by decide +kernel
theorem dX7_isHolding_14 : decode cX7_isHolding 14 = .ok (.iload 4, 2) := by decide +kernel
theorem dX7_isHolding_16 : decode cX7_isHolding 16 = .ok (.aload_n 1, 1) := by decide +kernel
theorem dX7_isHolding_17 : decode cX7_isHolding 17 = .ok (.getfield 154, 3) := by decide +kernel
theorem dX7_isHolding_20 : decode cX7_isHolding 20 = .ok (.iload_n 2, 1) := by decide +kernel
theorem dX7_isHolding_21 : decode cX7_isHolding 21 = .ok (.iaload, 1) := by decide +kernel
theorem dX7_isHolding_22 : decode cX7_isHolding 22 = .ok (.ishr, 1) := by decide +kernel
theorem dX7_isHolding_23 : decode cX7_isHolding 23 = .ok (.iconst 1, 1) := by decide +kernel
theorem dX7_isHolding_24 : decode cX7_isHolding 24 = .ok (.iand, 1) := by decide +kernel
theorem dX7_isHolding_25 : decode cX7_isHolding 25 = .ok (.ifCond .ne 29, 3) := by decide +kernel
theorem dX7_isHolding_28 : decode cX7_isHolding 28 = .ok (.aload_n 1, 1) := by decide +kernel
theorem dX7_isHolding_29 : decode cX7_isHolding 29 = .ok (.iload_n 2, 1) := by decide +kernel
theorem dX7_isHolding_30 : decode cX7_isHolding 30 = .ok (.aload_n 0, 1) := by decide +kernel
theorem dX7_isHolding_31 : decode cX7_isHolding 31 = .ok (.getfield 40, 3) := by decide +kernel
theorem dX7_isHolding_34 : decode cX7_isHolding 34 = .ok (.getfield 72, 3) := by decide +kernel
theorem dX7_isHolding_37 : decode cX7_isHolding 37 = .ok (.getfield 157, 3) := by decide +kernel
theorem dX7_isHolding_40 : decode cX7_isHolding 40 = .ok (.aload_n 0, 1) := by decide +kernel
theorem dX7_isHolding_41 : decode cX7_isHolding 41 = .ok (.getfield 65, 3) := by decide +kernel
theorem dX7_isHolding_44 : decode cX7_isHolding 44 = .ok (.invokevirtual 160, 3) := by decide +kernel
theorem dX7_isHolding_47 : decode cX7_isHolding 47 = .ok (.ifCond .eq 7, 3) := by decide +kernel
theorem dX7_isHolding_50 : decode cX7_isHolding 50 = .ok (.iconst 1, 1) := by decide +kernel
theorem dX7_isHolding_51 : decode cX7_isHolding 51 = .ok (.goto 4, 3) := by decide +kernel
theorem dX7_isHolding_54 : decode cX7_isHolding 54 = .ok (.iconst 0, 1) := by decide +kernel
theorem dX7_isHolding_55 : decode cX7_isHolding 55 = .ok (.ireturn, 1) := by decide +kernel
def f_X7_isHolding (o1 : Nat) (x2 : Int32) (x3 : Int32) (w : Wd) : Option (Int32 × Wd) :=
  lt (x3 ||| (w.1 31 10)) fun v1 =>
  if inb x2 8 = true then
  (if ((v1 >>> ((w.1 (o1 + 3) (Int32.toNatClampNeg x2)) &&& 31)) &&& 1) = 0 then
  (cl (f_X6_isIfSo o1 x2 (w.1 31 10) (w.1 8 12) w) fun r3 w2 =>
  if r3 = 0 then
  (some (0, w2))
  else
  some (1, w2))
  else
  some (0, w))
  else none
set_option maxRecDepth 100000 in
set_option maxHeartbeats 4000000 in
theorem t_X7_isHolding {Z : Cz (Int32 × Wd)} (hZ : OKZ Z SC cX7_isHolding RX7 5 (some .boolean) 2) (hE : EndI Z) (o1 : Nat) (x2 : Int32) (x3 : Int32) (ho1 : IsP o1) (w : Wd) : BW Z 5 0 [(0, .ref (ph (zY Z) 8)), (1, .ref (ph (zY Z) o1)), (2, .int x2), (3, .int x3)] [] w (f_X7_isHolding o1 x2 x3 w) :=
  bw_iload_n hZ 3 rfl dX7_isHolding_0 <|
  bw_aload_n hZ 0 rfl dX7_isHolding_1 <|
  bw_getR hZ fl_RX7_40 obC_8 rfl dX7_isHolding_2 <|
  bw_getR hZ fl_RX7_72 obC_3 rfl dX7_isHolding_5 <|
  bw_getI hZ fl_RX7_157 (by decide) obC_31 dX7_isHolding_8 <|
  bw_ior hZ dX7_isHolding_11 <|
  bw_nm fun v1 =>
  bw_istore hZ (by decide) rfl dX7_isHolding_12 <|
  bw_iload hZ 0 rfl dX7_isHolding_14 <|
  bw_aload_n hZ 2 rfl dX7_isHolding_16 <|
  bw_getR hZ fl_RX7_154 (obP ho1) (rfP11 ho1) dX7_isHolding_17 <|
  bw_iload_n hZ 3 rfl dX7_isHolding_20 <|
  bw_iald hZ (arP3 ho1 _) dX7_isHolding_21 <|
  bw_ishr hZ dX7_isHolding_22 <|
  bw_iconst hZ 1 (by decide) dX7_isHolding_23 <|
  bw_iand hZ dX7_isHolding_24 <|
  bw_if_ne hZ (tgt := 54) (by decide) dX7_isHolding_25 (fun _ =>
  bw_iconst hZ 0 (by decide) dX7_isHolding_54 <|
  bw_zret hZ hE (by decide) dX7_isHolding_55) (fun _ =>
  bw_aload_n hZ 2 rfl dX7_isHolding_28 <|
  bw_iload_n hZ 3 rfl dX7_isHolding_29 <|
  bw_aload_n hZ 1 rfl dX7_isHolding_30 <|
  bw_getR hZ fl_RX7_40 obC_8 rfl dX7_isHolding_31 <|
  bw_getR hZ fl_RX7_72 obC_3 rfl dX7_isHolding_34 <|
  bw_getI hZ fl_RX7_157 (by decide) obC_31 dX7_isHolding_37 <|
  bw_aload_n hZ 1 rfl dX7_isHolding_40 <|
  bw_getI hZ fl_RX7_65 (by decide) obC_8 dX7_isHolding_41 <|
  bw_callVI (As := [.int x2, .int (w.1 31 10), .int (w.1 8 12)]) hZ ml_RX7_160 rc_6 (obP ho1) (by decide) (c_X6_isIfSo (zl Z) (zY Z) (hZ_S hZ) o1 x2 (w.1 31 10) (w.1 8 12) ho1 w) rfl rfl (Nat.le_of_ble_eq_true rfl) dX7_isHolding_44 fun r3 w2 =>
  bw_if_eq hZ (tgt := 54) (by decide) dX7_isHolding_47 (fun _ =>
  bw_iconst hZ 0 (by decide) dX7_isHolding_54 <|
  bw_zret hZ hE (by decide) dX7_isHolding_55) (fun _ =>
  bw_iconst hZ 1 (by decide) dX7_isHolding_50 <|
  bw_goto hZ (tgt := 55) (by decide) dX7_isHolding_51 <|
  bw_zret hZ hE (by decide) dX7_isHolding_55))
theorem c_X7_isHolding (l : Launch) (Y : Ev) (hY : Y.1 = SC) (o1 : Nat) (x2 : Int32) (x3 : Int32) (ho1 : IsP o1) (w : Wd) : CI l Y yX7_isHolding cX7_isHolding 5 2 [.ref (ph Y 8), .ref (ph Y o1), .int x2, .int x3] w .boolean (f_X7_isHolding o1 x2 x3 w) := by
  refine CI_of (S := SC) (by decide) (Nat.le_of_ble_eq_true rfl) hY ?_
  intro Z hl hY2 hZ hE
  subst hY2
  exact t_X7_isHolding hZ hE o1 x2 x3 ho1 w
-- WhichWill$Standing.isCounting
theorem dX8_isCounting_0 : decode cX8_isCounting 0 = .ok (.aload_n 0, 1) := by decide +kernel
theorem dX8_isCounting_1 : decode cX8_isCounting 1 = .ok (.getfield 131, 3) := by decide +kernel
theorem dX8_isCounting_4 : decode cX8_isCounting 4 = .ok (.iload_n 1, 1) := by decide +kernel
theorem dX8_isCounting_5 : decode cX8_isCounting 5 = .ok (.ishr, 1) := by decide +kernel
theorem dX8_isCounting_6 : decode cX8_isCounting 6 = .ok (.iconst 1, 1) := by decide +kernel
theorem dX8_isCounting_7 : decode cX8_isCounting 7 = .ok (.iand, 1) := by decide +kernel
theorem dX8_isCounting_8 : decode cX8_isCounting 8 = .ok (.ifCond .eq 7, 3) := by decide +kernel
theorem dX8_isCounting_11 : decode cX8_isCounting 11 = .ok (.iconst 1, 1) := by decide +kernel
theorem dX8_isCounting_12 : decode cX8_isCounting 12 = .ok (.goto 4, 3) := by decide +kernel
theorem dX8_isCounting_15 : decode cX8_isCounting 15 = .ok (.iconst 0, 1) := by decide +kernel
theorem dX8_isCounting_16 : decode cX8_isCounting 16 = .ok (.ireturn, 1) := by decide +kernel
def f_X8_isCounting (o0 : Nat) (x1 : Int32) (w : Wd) : Option (Int32 × Wd) :=
  if (((w.1 o0 1) >>> (x1 &&& 31)) &&& 1) = 0 then
  (some (0, w))
  else
  some (1, w)
set_option maxRecDepth 100000 in
set_option maxHeartbeats 4000000 in
theorem t_X8_isCounting {Z : Cz (Int32 × Wd)} (hZ : OKZ Z SC cX8_isCounting RX8 2 (some .boolean) 1) (hE : EndI Z) (o0 : Nat) (x1 : Int32) (ho0 : IsS o0) (w : Wd) : BW Z 2 0 [(0, .ref (ph (zY Z) o0)), (1, .int x1)] [] w (f_X8_isCounting o0 x1 w) :=
  bw_aload_n hZ 0 rfl dX8_isCounting_0 <|
  bw_getI hZ fl_RX8_131 (by decide) (obS ho0) dX8_isCounting_1 <|
  bw_iload_n hZ 1 rfl dX8_isCounting_4 <|
  bw_ishr hZ dX8_isCounting_5 <|
  bw_iconst hZ 1 (by decide) dX8_isCounting_6 <|
  bw_iand hZ dX8_isCounting_7 <|
  bw_if_eq hZ (tgt := 15) (by decide) dX8_isCounting_8 (fun _ =>
  bw_iconst hZ 0 (by decide) dX8_isCounting_15 <|
  bw_zret hZ hE (by decide) dX8_isCounting_16) (fun _ =>
  bw_iconst hZ 1 (by decide) dX8_isCounting_11 <|
  bw_goto hZ (tgt := 16) (by decide) dX8_isCounting_12 <|
  bw_zret hZ hE (by decide) dX8_isCounting_16)
theorem c_X8_isCounting (l : Launch) (Y : Ev) (hY : Y.1 = SC) (o0 : Nat) (x1 : Int32) (ho0 : IsS o0) (w : Wd) : CI l Y yX8_isCounting cX8_isCounting 2 1 [.ref (ph Y o0), .int x1] w .boolean (f_X8_isCounting o0 x1 w) := by
  refine CI_of (S := SC) (by decide) (Nat.le_of_ble_eq_true rfl) hY ?_
  intro Z hl hY2 hZ hE
  subst hY2
  exact t_X8_isCounting hZ hE o0 x1 ho0 w
-- WhichWill$Standing.voidOf
theorem dX8_voidOf_0 : decode cX8_voidOf 0 = .ok (.aload_n 0, 1) := by decide +kernel
theorem dX8_voidOf_1 : decode cX8_voidOf 1 = .ok (.getfield 38, 3) := by decide +kernel
theorem dX8_voidOf_4 : decode cX8_voidOf 4 = .ok (.ifCond .eq 18, 3) := by decide +kernel
theorem dX8_voidOf_7 : decode cX8_voidOf 7 = .ok (.aload_n 0, 1) := by decide +kernel
theorem dX8_voidOf_8 : decode cX8_voidOf 8 = .ok (.getfield 18, 3) := by decide +kernel
theorem dX8_voidOf_11 : decode cX8_voidOf 11 = .ok (.getfield 66, 3) := by decide +kernel
theorem dX8_voidOf_14 : decode cX8_voidOf 14 = .ok (.iload_n 1, 1) := by decide +kernel
theorem dX8_voidOf_15 : decode cX8_voidOf 15 = .ok (.aaload, 1) := by decide +kernel
theorem dX8_voidOf_16 : decode cX8_voidOf 16 = .ok (.getfield 137, 3) := by decide +kernel
theorem dX8_voidOf_19 : decode cX8_voidOf 19 = .ok (.goto 4, 3) := by decide +kernel
theorem dX8_voidOf_22 : decode cX8_voidOf 22 = .ok (.iconst 0, 1) := by decide +kernel
theorem dX8_voidOf_23 : decode cX8_voidOf 23 = .ok (.istore_n 2, 1) := by decide +kernel
theorem dX8_voidOf_24 : decode cX8_voidOf 24 = .ok (.aload_n 0, 1) := by decide +kernel
theorem dX8_voidOf_25 : decode cX8_voidOf 25 = .ok (.getfield 85, 3) := by decide +kernel
theorem dX8_voidOf_28 : decode cX8_voidOf 28 = .ok (.iload_n 1, 1) := by decide +kernel
theorem dX8_voidOf_29 : decode cX8_voidOf 29 = .ok (.ishr, 1) := by decide +kernel
theorem dX8_voidOf_30 : decode cX8_voidOf 30 = .ok (.iconst 1, 1) := by decide +kernel
theorem dX8_voidOf_31 : decode cX8_voidOf 31 = .ok (.iand, 1) := by decide +kernel
theorem dX8_voidOf_32 : decode cX8_voidOf 32 = .ok (.ifCond .eq 31, 3) := by decide +kernel
theorem dX8_voidOf_35 : decode cX8_voidOf 35 = .ok (.aload_n 0, 1) := by decide +kernel
theorem dX8_voidOf_36 : decode cX8_voidOf 36 = .ok (.getfield 18, 3) := by decide +kernel
theorem dX8_voidOf_39 : decode cX8_voidOf 39 = .ok (.getfield 22, 3) := by decide +kernel
theorem dX8_voidOf_42 : decode cX8_voidOf 42 = .ok (.getfield 140, 3) := by decide +kernel
theorem dX8_voidOf_45 : decode cX8_voidOf 45 = .ok (.ifCond .lt 18, 3) := by decide +kernel
theorem dX8_voidOf_48 : decode cX8_voidOf 48 = .ok (.iload_n 2, 1) := by decide +kernel
theorem dX8_voidOf_49 : decode cX8_voidOf 49 = .ok (.iconst 1, 1) := by decide +kernel
theorem dX8_voidOf_50 : decode cX8_voidOf 50 = .ok (.aload_n 0, 1) := by decide +kernel
theorem dX8_voidOf_51 : decode cX8_voidOf 51 = .ok (.getfield 18, 3) := by decide +kernel
theorem dX8_voidOf_54 : decode cX8_voidOf 54 = .ok (.getfield 22, 3) := by decide +kernel
theorem dX8_voidOf_57 : decode cX8_voidOf 57 = .ok (.getfield 140, 3) := by decide +kernel
theorem dX8_voidOf_60 : decode cX8_voidOf 60 = .ok (.ishl, 1) := by decide +kernel
theorem dX8_voidOf_61 : decode cX8_voidOf 61 = .ok (.ior, 1) := by decide +kernel
theorem dX8_voidOf_62 : decode cX8_voidOf 62 = .ok (.istore_n 2, 1) := by decide +kernel
theorem dX8_voidOf_63 : decode cX8_voidOf 63 = .ok (.iload_n 2, 1) := by decide +kernel
theorem dX8_voidOf_64 : decode cX8_voidOf 64 = .ok (.ireturn, 1) := by decide +kernel
def X8_voidOf_b23 (y0 : Nat) (y1 : Int32) (t0 : Int32) (w : Wd) : Option (Int32 × Wd) :=
  if (((w.1 y0 10) >>> (y1 &&& 31)) &&& 1) = 0 then
  (some (t0, w))
  else
  if (w.1 31 11) < 0 then
  (some (t0, w))
  else
  lt (t0 ||| (1 <<< ((w.1 31 11) &&& 31))) fun v1 =>
  some (v1, w)
set_option maxRecDepth 100000 in
set_option maxHeartbeats 4000000 in
theorem t_X8_voidOf_b23 {Z : Cz (Int32 × Wd)} (hZ : OKZ Z SC cX8_voidOf RX8 3 (some .int) 1) (hE : EndI Z)  (y0 : Nat) (y1 : Int32) (t0 : Int32) (hy0 : IsS y0) (w : Wd) : BW Z 3 23 [(0, .ref (ph (zY Z) y0)), (1, .int y1)] [.int t0] w (X8_voidOf_b23 y0 y1 t0 w) :=
  bw_istore_n hZ rfl (by decide) rfl dX8_voidOf_23 <|
  bw_aload_n hZ 1 rfl dX8_voidOf_24 <|
  bw_getI hZ fl_RX8_85 (by decide) (obS hy0) dX8_voidOf_25 <|
  bw_iload_n hZ 2 rfl dX8_voidOf_28 <|
  bw_ishr hZ dX8_voidOf_29 <|
  bw_iconst hZ 1 (by decide) dX8_voidOf_30 <|
  bw_iand hZ dX8_voidOf_31 <|
  bw_if_eq hZ (tgt := 63) (by decide) dX8_voidOf_32 (fun _ =>
  bw_iload_n hZ 0 rfl dX8_voidOf_63 <|
  bw_iret hZ hE dX8_voidOf_64) (fun _ =>
  bw_aload_n hZ 1 rfl dX8_voidOf_35 <|
  bw_getR hZ fl_RX8_18 (obS hy0) (rfS2 hy0) dX8_voidOf_36 <|
  bw_getR hZ fl_RX8_22 obC_3 rfl dX8_voidOf_39 <|
  bw_getI hZ fl_RX8_140 (by decide) obC_31 dX8_voidOf_42 <|
  bw_if_lt hZ (tgt := 63) (by decide) dX8_voidOf_45 (fun _ =>
  bw_iload_n hZ 0 rfl dX8_voidOf_63 <|
  bw_iret hZ hE dX8_voidOf_64) (fun _ =>
  bw_iload_n hZ 0 rfl dX8_voidOf_48 <|
  bw_iconst hZ 1 (by decide) dX8_voidOf_49 <|
  bw_aload_n hZ 1 rfl dX8_voidOf_50 <|
  bw_getR hZ fl_RX8_18 (obS hy0) (rfS2 hy0) dX8_voidOf_51 <|
  bw_getR hZ fl_RX8_22 obC_3 rfl dX8_voidOf_54 <|
  bw_getI hZ fl_RX8_140 (by decide) obC_31 dX8_voidOf_57 <|
  bw_ishl hZ dX8_voidOf_60 <|
  bw_ior hZ dX8_voidOf_61 <|
  bw_nm fun v1 =>
  bw_istore_n hZ rfl (by decide) rfl dX8_voidOf_62 <|
  bw_iload_n hZ 0 rfl dX8_voidOf_63 <|
  bw_iret hZ hE dX8_voidOf_64))
def f_X8_voidOf (o0 : Nat) (x1 : Int32) (w : Wd) : Option (Int32 × Wd) :=
  if (w.1 o0 5) = 0 then
  (X8_voidOf_b23 o0 x1 0 w)
  else
  if inb x1 4 = true then
  (X8_voidOf_b23 o0 x1 (w.1 (57 + 6 * Int32.toNatClampNeg x1) 2) w)
  else none
set_option maxRecDepth 100000 in
set_option maxHeartbeats 4000000 in
theorem t_X8_voidOf {Z : Cz (Int32 × Wd)} (hZ : OKZ Z SC cX8_voidOf RX8 3 (some .int) 1) (hE : EndI Z) (o0 : Nat) (x1 : Int32) (ho0 : IsS o0) (w : Wd) : BW Z 3 0 [(0, .ref (ph (zY Z) o0)), (1, .int x1)] [] w (f_X8_voidOf o0 x1 w) :=
  bw_aload_n hZ 0 rfl dX8_voidOf_0 <|
  bw_getI hZ fl_RX8_38 (by decide) (obS ho0) dX8_voidOf_1 <|
  bw_if_eq hZ (tgt := 22) (by decide) dX8_voidOf_4 (fun _ =>
  bw_iconst hZ 0 (by decide) dX8_voidOf_22 <|
  bw_sub [0, 1] rfl (t_X8_voidOf_b23 hZ hE o0 x1 0 ho0 w)) (fun _ =>
  bw_aload_n hZ 0 rfl dX8_voidOf_7 <|
  bw_getR hZ fl_RX8_18 (obS ho0) (rfS2 ho0) dX8_voidOf_8 <|
  bw_getR hZ fl_RX8_66 obC_3 rfl dX8_voidOf_11 <|
  bw_iload_n hZ 1 rfl dX8_voidOf_14 <|
  bw_aald (57 + 6 * Int32.toNatClampNeg x1) hZ (arC_4 _) (Or.inl ⟨rfl, rfl⟩) rfl dX8_voidOf_15 fun hi2 =>
  bw_getI hZ fl_RX8_137 (by decide) (obP (isP_of hi2)) dX8_voidOf_16 <|
  bw_goto hZ (tgt := 23) (by decide) dX8_voidOf_19 <|
  bw_sub [0, 1] rfl (t_X8_voidOf_b23 hZ hE o0 x1 (w.1 (57 + 6 * Int32.toNatClampNeg x1) 2) ho0 w))
theorem c_X8_voidOf (l : Launch) (Y : Ev) (hY : Y.1 = SC) (o0 : Nat) (x1 : Int32) (ho0 : IsS o0) (w : Wd) : CI l Y yX8_voidOf cX8_voidOf 3 1 [.ref (ph Y o0), .int x1] w .int (f_X8_voidOf o0 x1 w) := by
  refine CI_of (S := SC) (by decide) (Nat.le_of_ble_eq_true rfl) hY ?_
  intro Z hl hY2 hZ hE
  subst hY2
  exact t_X8_voidOf hZ hE o0 x1 ho0 w
