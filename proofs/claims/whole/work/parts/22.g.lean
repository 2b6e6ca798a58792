-- WhichWillModel.gain
theorem dX12_gain_0 : decode cX12_gain 0 = .ok (.iload_n 1, 1) := by decide +kernel
theorem dX12_gain_1 : decode cX12_gain 1 = .ok (.i2l, 1) := by decide +kernel
theorem dX12_gain_2 : decode cX12_gain 2 = .ok (.lconst 0, 1) := by decide +kernel
theorem dX12_gain_3 : decode cX12_gain 3 = .ok (.aload_n 0, 1) := by decide +kernel
theorem dX12_gain_4 : decode cX12_gain 4 = .ok (.getfield 437, 3) := by decide +kernel
theorem dX12_gain_7 : decode cX12_gain 7 = .ok (.i2l, 1) := by decide +kernel
theorem dX12_gain_8 : decode cX12_gain 8 = .ok (.lconst 1, 1) := by decide +kernel
theorem dX12_gain_9 : decode cX12_gain 9 = .ok (.lsub, 1) := by decide +kernel
theorem dX12_gain_10 : decode cX12_gain 10 = .ok (.invokestatic 60, 3) := by decide +kernel
theorem dX12_gain_13 : decode cX12_gain 13 = .ok (.ifCond .ne 7, 3) := by decide +kernel
theorem dX12_gain_16 : decode cX12_gain 16 = .ok (.ldc_w 729, 3) := by decide +kernel
theorem dX12_gain_19 : decode cX12_gain 19 = .ok (.ireturn, 1) := by decide +kernel
theorem dX12_gain_20 : decode cX12_gain 20 = .ok (.aload_n 0, 1) := by decide +kernel
theorem dX12_gain_21 : decode cX12_gain 21 = .ok (.invokevirtual 622, 3) := by decide +kernel
theorem dX12_gain_24 : decode cX12_gain 24 = .ok (.ifCond .ne 5, 3) := by decide +kernel
theorem dX12_gain_27 : decode cX12_gain 27 = .ok (.iconst (-1), 1) := by decide +kernel
theorem dX12_gain_28 : decode cX12_gain 28 = .ok (.ireturn, 1) := by decide +kernel
theorem dX12_gain_29 : decode cX12_gain 29 = .ok (.aload_n 0, 1) := by decide +kernel
theorem dX12_gain_30 : decode cX12_gain 30 = .ok (.invokevirtual 700, 3) := by decide +kernel
theorem dX12_gain_33 : decode cX12_gain 33 = .ok (.iconst 0, 1) := by decide +kernel
theorem dX12_gain_34 : decode cX12_gain 34 = .ok (.istore_n 2, 1) := by decide +kernel
theorem dX12_gain_35 : decode cX12_gain 35 = .ok (.iconst 0, 1) := by decide +kernel
theorem dX12_gain_36 : decode cX12_gain 36 = .ok (.istore_n 3, 1) := by decide +kernel
theorem dX12_gain_37 : decode cX12_gain 37 = .ok (.iconst 0, 1) := by decide +kernel
theorem dX12_gain_38 : decode cX12_gain 38 = .ok (.istore 4, 2) := by decide +kernel
theorem dX12_gain_40 : decode cX12_gain 40 = .ok (.iload 4, 2) := by decide +kernel
theorem dX12_gain_42 : decode cX12_gain 42 = .ok (.aload_n 0, 1) := by decide +kernel
theorem dX12_gain_43 : decode cX12_gain 43 = .ok (.invokevirtual 622, 3) := by decide +kernel
theorem dX12_gain_46 : decode cX12_gain 46 = .ok (.if_icmp .ge 55, 3) := by decide +kernel
theorem dX12_gain_49 : decode cX12_gain 49 = .ok (.aload_n 0, 1) := by decide +kernel
theorem dX12_gain_50 : decode cX12_gain 50 = .ok (.getfield 366, 3) := by decide +kernel
theorem dX12_gain_53 : decode cX12_gain 53 = .ok (.bipush 8, 2) := by decide +kernel
theorem dX12_gain_55 : decode cX12_gain 55 = .ok (.iload 4, 2) := by decide +kernel
theorem dX12_gain_57 : decode cX12_gain 57 = .ok (.imul, 1) := by decide +kernel
theorem dX12_gain_58 : decode cX12_gain 58 = .ok (.aload_n 0, 1) := by decide +kernel
theorem dX12_gain_59 : decode cX12_gain 59 = .ok (.getfield 378, 3) := by decide +kernel
theorem dX12_gain_62 : decode cX12_gain 62 = .ok (.iload_n 1, 1) := by decide +kernel
theorem dX12_gain_63 : decode cX12_gain 63 = .ok (.iaload, 1) := by decide +kernel
theorem dX12_gain_64 : decode cX12_gain 64 = .ok (.iadd, 1) := by decide +kernel
theorem dX12_gain_65 : decode cX12_gain 65 = .ok (.iaload, 1) := by decide +kernel
theorem dX12_gain_66 : decode cX12_gain 66 = .ok (.istore 5, 2) := by decide +kernel
theorem dX12_gain_68 : decode cX12_gain 68 = .ok (.aload_n 0, 1) := by decide +kernel
theorem dX12_gain_69 : decode cX12_gain 69 = .ok (.iload_n 1, 1) := by decide +kernel
theorem dX12_gain_70 : decode cX12_gain 70 = .ok (.iload 4, 2) := by decide +kernel
theorem dX12_gain_72 : decode cX12_gain 72 = .ok (.invokevirtual 720, 3) := by decide +kernel
theorem dX12_gain_75 : decode cX12_gain 75 = .ok (.ifCond .eq 13, 3) := by decide +kernel
theorem dX12_gain_78 : decode cX12_gain 78 = .ok (.iload_n 2, 1) := by decide +kernel
theorem dX12_gain_79 : decode cX12_gain 79 = .ok (.iload 5, 2) := by decide +kernel
theorem dX12_gain_81 : decode cX12_gain 81 = .ok (.invokestatic 558, 3) := by decide +kernel
theorem dX12_gain_84 : decode cX12_gain 84 = .ok (.istore_n 2, 1) := by decide +kernel
theorem dX12_gain_85 : decode cX12_gain 85 = .ok (.goto 10, 3) := by decide +kernel
theorem dX12_gain_88 : decode cX12_gain 88 = .ok (.iload_n 3, 1) := by decide +kernel
theorem dX12_gain_89 : decode cX12_gain 89 = .ok (.iload 5, 2) := by decide +kernel
theorem dX12_gain_91 : decode cX12_gain 91 = .ok (.invokestatic 558, 3) := by decide +kernel
theorem dX12_gain_94 : decode cX12_gain 94 = .ok (.istore_n 3, 1) := by decide +kernel
theorem dX12_gain_95 : decode cX12_gain 95 = .ok (.iinc 4 1, 3) := by decide +kernel
theorem dX12_gain_98 : decode cX12_gain 98 = .ok (.goto (-58), 3) := by decide +kernel
theorem dX12_gain_101 : decode cX12_gain 101 = .ok (.iload_n 2, 1) := by decide +kernel
theorem dX12_gain_102 : decode cX12_gain 102 = .ok (.iload_n 3, 1) := by decide +kernel
theorem dX12_gain_103 : decode cX12_gain 103 = .ok (.isub, 1) := by decide +kernel
theorem dX12_gain_104 : decode cX12_gain 104 = .ok (.ireturn, 1) := by decide +kernel
def X12_gain_b40 (k40 : Int32 → Int32 → Int32 → Int32 → Wd → Option (Int32 × Wd)) (y1 : Int32) (y2 : Int32) (y3 : Int32) (y4 : Int32) (w : Wd) : Option (Int32 × Wd) :=
  cl (f_X12_allWays w) fun r7 w6 =>
  if r7 ≤ y4 then
  (some (y2 - y3, w6))
  else
  if inb y1 8 = true then
  (if inb ((8 * y4) + (w6.1 55 (Int32.toNatClampNeg y1))) 46080 = true then
  (lt (w6.1 51 (Int32.toNatClampNeg ((8 * y4) + (w6.1 55 (Int32.toNatClampNeg y1))))) fun v8 =>
  cl (f_X12_isTrue y1 y4 w6) fun r10 w9 =>
  if r10 = 0 then
  (lt (if y3 < v8 then v8 else y3) fun v11 =>
  k40 y1 y2 v11 (y4 + 1) w9)
  else
  lt (if y2 < v8 then v8 else y2) fun v12 =>
  k40 y1 v12 y3 (y4 + 1) w9)
  else none)
  else none
set_option maxRecDepth 100000 in
set_option maxHeartbeats 4000000 in
theorem t_X12_gain_b40 {Z : Cz (Int32 × Wd)} (hZ : OKZ Z SM cX12_gain RX12 6 (some .int) 27) (hE : EndI Z) (k40 : Int32 → Int32 → Int32 → Int32 → Wd → Option (Int32 × Wd)) (hk40 : ∀ (y1 : Int32) (y2 : Int32) (y3 : Int32) (y4 : Int32)  (w : Wd), BW Z 6 40 [(0, .ref (ph (zY Z) 0)), (1, .int y1), (2, .int y2), (3, .int y3), (4, .int y4)] [] w (k40 y1 y2 y3 y4 w)) (y1 : Int32) (y2 : Int32) (y3 : Int32) (y4 : Int32)  (w : Wd) : BW Z 6 40 [(0, .ref (ph (zY Z) 0)), (1, .int y1), (2, .int y2), (3, .int y3), (4, .int y4)] [] w (X12_gain_b40 k40 y1 y2 y3 y4 w) :=
  bw_iload hZ 4 rfl dX12_gain_40 <|
  bw_aload_n hZ 0 rfl dX12_gain_42 <|
  bw_callVI (As := []) hZ ml_RX12_622 rc_12 obM_0 (by decide) (c_X12_allWays (zl Z) (zY Z) (hZ_S hZ) w) rfl rfl (Nat.le_of_ble_eq_true rfl) dX12_gain_43 fun r7 w6 =>
  bw_icmp_ge hZ (tgt := 101) (by decide) dX12_gain_46 (fun _ =>
  bw_iload_n hZ 2 rfl dX12_gain_101 <|
  bw_iload_n hZ 3 rfl dX12_gain_102 <|
  bw_isub hZ dX12_gain_103 <|
  bw_iret hZ hE dX12_gain_104) (fun _ =>
  bw_aload_n hZ 0 rfl dX12_gain_49 <|
  bw_getR hZ fl_RX12_366 obM_0 rfl dX12_gain_50 <|
  bw_bipush hZ 8 (by decide) dX12_gain_53 <|
  bw_iload hZ 4 rfl dX12_gain_55 <|
  bw_imul hZ dX12_gain_57 <|
  bw_aload_n hZ 0 rfl dX12_gain_58 <|
  bw_getR hZ fl_RX12_378 obM_0 rfl dX12_gain_59 <|
  bw_iload_n hZ 1 rfl dX12_gain_62 <|
  bw_iald hZ (arM_55 _) dX12_gain_63 <|
  bw_iadd hZ dX12_gain_64 <|
  bw_iald hZ (arM_51 _) dX12_gain_65 <|
  bw_nm fun v8 =>
  bw_istore hZ (by decide) rfl dX12_gain_66 <|
  bw_aload_n hZ 1 rfl dX12_gain_68 <|
  bw_iload_n hZ 2 rfl dX12_gain_69 <|
  bw_iload hZ 5 rfl dX12_gain_70 <|
  bw_callVI (As := [.int y1, .int y4]) hZ ml_RX12_720 rc_12 obM_0 (by decide) (c_X12_isTrue (zl Z) (zY Z) (hZ_S hZ) y1 y4 w6) rfl rfl (Nat.le_of_ble_eq_true rfl) dX12_gain_72 fun r10 w9 =>
  bw_if_eq hZ (tgt := 88) (by decide) dX12_gain_75 (fun _ =>
  bw_iload_n hZ 4 rfl dX12_gain_88 <|
  bw_iload hZ 0 rfl dX12_gain_89 <|
  bw_mmax hZ kl_RX12_558 km_max (by decide) (Nat.le_of_ble_eq_true rfl) dX12_gain_91 <|
  bw_nm fun v11 =>
  bw_istore_n hZ rfl (by decide) rfl dX12_gain_94 <|
  bw_iinc hZ 1 5 rfl (by decide) (by decide) rfl dX12_gain_95 <|
  bw_goto hZ (tgt := 40) (by decide) dX12_gain_98 <|
  bw_sub [3, 4, 5, 1, 0] rfl (hk40 y1 y2 v11 (y4 + 1) w9)) (fun _ =>
  bw_iload_n hZ 3 rfl dX12_gain_78 <|
  bw_iload hZ 0 rfl dX12_gain_79 <|
  bw_mmax hZ kl_RX12_558 km_max (by decide) (Nat.le_of_ble_eq_true rfl) dX12_gain_81 <|
  bw_nm fun v12 =>
  bw_istore_n hZ rfl (by decide) rfl dX12_gain_84 <|
  bw_goto hZ (tgt := 95) (by decide) dX12_gain_85 <|
  bw_iinc hZ 1 5 rfl (by decide) (by decide) rfl dX12_gain_95 <|
  bw_goto hZ (tgt := 40) (by decide) dX12_gain_98 <|
  bw_sub [3, 4, 1, 5, 0] rfl (hk40 y1 v12 y3 (y4 + 1) w9)))
def X12_gain_b40_L  : Int32 → Int32 → Int32 → Int32 → Wd → Option (Int32 × Wd) :=
  lp fu (fun _ _ _ _ _ => none) (fun k40 => X12_gain_b40 k40)
theorem t_X12_gain_b40_L {Z : Cz (Int32 × Wd)} (hZ : OKZ Z SM cX12_gain RX12 6 (some .int) 27) (hE : EndI Z)  : ∀ (y1 : Int32) (y2 : Int32) (y3 : Int32) (y4 : Int32)  (w : Wd), BW Z 6 40 [(0, .ref (ph (zY Z) 0)), (1, .int y1), (2, .int y2), (3, .int y3), (4, .int y4)] [] w (X12_gain_b40_L y1 y2 y3 y4 w) :=
  lp_bw (fun k40 => ∀ (y1 : Int32) (y2 : Int32) (y3 : Int32) (y4 : Int32)  (w : Wd), BW Z 6 40 [(0, .ref (ph (zY Z) 0)), (1, .int y1), (2, .int y2), (3, .int y3), (4, .int y4)] [] w (k40 y1 y2 y3 y4 w)) (fun _ _ _ _ _ => bw_none) (fun k40 hk40 y1 y2 y3 y4 w => t_X12_gain_b40 hZ hE k40 hk40 y1 y2 y3 y4 w) fu
def f_X12_gain (x1 : Int32) (w : Wd) : Option (Int32 × Wd) :=
  cl (f_X12_in (Int32.toInt64 x1) 0 ((Int32.toInt64 (w.1 0 99)) - 1) w) fun r2 w1 =>
  if r2 = 0 then
  (some ((-1000000), w1))
  else
  cl (f_X12_allWays w1) fun r4 w3 =>
  if r4 = 0 then
  (some ((-1), w3))
  else
  cv (f_X12_reckon w3) fun w5 =>
  X12_gain_b40_L x1 0 0 0 w5
set_option maxRecDepth 100000 in
set_option maxHeartbeats 4000000 in
theorem t_X12_gain {Z : Cz (Int32 × Wd)} (hZ : OKZ Z SM cX12_gain RX12 6 (some .int) 27) (hE : EndI Z) (x1 : Int32)  (w : Wd) : BW Z 6 0 [(0, .ref (ph (zY Z) 0)), (1, .int x1)] [] w (f_X12_gain x1 w) :=
  bw_iload_n hZ 1 rfl dX12_gain_0 <|
  bw_i2l hZ dX12_gain_1 <|
  bw_lconst hZ 0 (by decide) dX12_gain_2 <|
  bw_aload_n hZ 0 rfl dX12_gain_3 <|
  bw_getI hZ fl_RX12_437 (by decide) obM_0 dX12_gain_4 <|
  bw_i2l hZ dX12_gain_7 <|
  bw_lconst hZ 1 (by decide) dX12_gain_8 <|
  bw_lsub hZ dX12_gain_9 <|
  bw_callSI (As := [.long (Int32.toInt64 x1), .long 0, .long ((Int32.toInt64 (w.1 0 99)) - 1)]) hZ ms_RX12_60 (by decide) (c_X12_in (zl Z) (zY Z) (hZ_S hZ) (Int32.toInt64 x1) 0 ((Int32.toInt64 (w.1 0 99)) - 1) w) rfl rfl (Nat.le_of_ble_eq_true rfl) dX12_gain_10 fun r2 w1 =>
  bw_if_ne hZ (tgt := 20) (by decide) dX12_gain_13 (fun _ =>
  bw_aload_n hZ 0 rfl dX12_gain_20 <|
  bw_callVI (As := []) hZ ml_RX12_622 rc_12 obM_0 (by decide) (c_X12_allWays (zl Z) (zY Z) (hZ_S hZ) w1) rfl rfl (Nat.le_of_ble_eq_true rfl) dX12_gain_21 fun r4 w3 =>
  bw_if_ne hZ (tgt := 29) (by decide) dX12_gain_24 (fun _ =>
  bw_aload_n hZ 0 rfl dX12_gain_29 <|
  bw_callVV (As := []) hZ ml_RX12_700 rc_12 obM_0 (by decide) (c_X12_reckon (zl Z) (zY Z) (hZ_S hZ) w3) rfl rfl (Nat.le_of_ble_eq_true rfl) dX12_gain_30 fun w5 =>
  bw_iconst hZ 0 (by decide) dX12_gain_33 <|
  bw_istore_n hZ rfl (by decide) rfl dX12_gain_34 <|
  bw_iconst hZ 0 (by decide) dX12_gain_35 <|
  bw_istore_n hZ rfl (by decide) rfl dX12_gain_36 <|
  bw_iconst hZ 0 (by decide) dX12_gain_37 <|
  bw_istore hZ (by decide) rfl dX12_gain_38 <|
  bw_sub [3, 4, 2, 1, 0] rfl (t_X12_gain_b40_L hZ hE x1 0 0 0 w5)) (fun _ =>
  bw_iconst hZ (-1) (by decide) dX12_gain_27 <|
  bw_iret hZ hE dX12_gain_28)) (fun _ =>
  bw_ldcw hZ kk_RX12_729 dX12_gain_16 <|
  bw_iret hZ hE dX12_gain_19)
theorem c_X12_gain (l : Launch) (Y : Ev) (hY : Y.1 = SM) (x1 : Int32)  (w : Wd) : CI l Y yX12_gain cX12_gain 6 27 [.ref (ph Y 0), .int x1] w .int (f_X12_gain x1 w) := by
  refine CI_of (S := SM) (by decide) (Nat.le_of_ble_eq_true rfl) hY ?_
  intro Z hl hY2 hZ hE
  subst hY2
  exact t_X12_gain hZ hE x1 w
-- WhichWillModel.leastOf
theorem dX12_leastOf_0 : decode cX12_leastOf 0 = .ok (.aload_n 0, 1) := by decide +kernel
theorem dX12_leastOf_1 : decode cX12_leastOf 1 = .ok (.invokevirtual 700, 3) := by decide +kernel
theorem dX12_leastOf_4 : decode cX12_leastOf 4 = .ok (.iconst (-1), 1) := by decide +kernel
theorem dX12_leastOf_5 : decode cX12_leastOf 5 = .ok (.istore_n 2, 1) := by decide +kernel
theorem dX12_leastOf_6 : decode cX12_leastOf 6 = .ok (.iconst 0, 1) := by decide +kernel
theorem dX12_leastOf_7 : decode cX12_leastOf 7 = .ok (.istore_n 3, 1) := by decide +kernel
theorem dX12_leastOf_8 : decode cX12_leastOf 8 = .ok (.iload_n 3, 1) := by decide +kernel
theorem dX12_leastOf_9 : decode cX12_leastOf 9 = .ok (.aload_n 0, 1) := by decide +kernel
theorem dX12_leastOf_10 : decode cX12_leastOf 10 = .ok (.invokevirtual 622, 3) := by decide +kernel
theorem dX12_leastOf_13 : decode cX12_leastOf 13 = .ok (.if_icmp .ge 34, 3) := by decide +kernel
theorem dX12_leastOf_16 : decode cX12_leastOf 16 = .ok (.iload_n 2, 1) := by decide +kernel
theorem dX12_leastOf_17 : decode cX12_leastOf 17 = .ok (.iconst (-1), 1) := by decide +kernel
theorem dX12_leastOf_18 : decode cX12_leastOf 18 = .ok (.if_icmp .ne 12, 3) := by decide +kernel
theorem dX12_leastOf_21 : decode cX12_leastOf 21 = .ok (.aload_n 0, 1) := by decide +kernel
theorem dX12_leastOf_22 : decode cX12_leastOf 22 = .ok (.iload_n 1, 1) := by decide +kernel
theorem dX12_leastOf_23 : decode cX12_leastOf 23 = .ok (.iload_n 3, 1) := by decide +kernel
theorem dX12_leastOf_24 : decode cX12_leastOf 24 = .ok (.invokevirtual 730, 3) := by decide +kernel
theorem dX12_leastOf_27 : decode cX12_leastOf 27 = .ok (.goto 13, 3) := by decide +kernel
theorem dX12_leastOf_30 : decode cX12_leastOf 30 = .ok (.iload_n 2, 1) := by decide +kernel
theorem dX12_leastOf_31 : decode cX12_leastOf 31 = .ok (.aload_n 0, 1) := by decide +kernel
theorem dX12_leastOf_32 : decode cX12_leastOf 32 = .ok (.iload_n 1, 1) := by decide +kernel
theorem dX12_leastOf_33 : decode cX12_leastOf 33 = .ok (.iload_n 3, 1) := by decide +kernel
theorem dX12_leastOf_34 : decode cX12_leastOf 34 = .ok (.invokevirtual 730, 3) := by decide +kernel
theorem dX12_leastOf_37 : decode cX12_leastOf 37 = .ok (.invokestatic 733, 3) := by decide +kernel
theorem dX12_leastOf_40 : decode cX12_leastOf 40 = .ok (.istore_n 2, 1) := by decide +kernel
theorem dX12_leastOf_41 : decode cX12_leastOf 41 = .ok (.iinc 3 1, 3) := by decide +kernel
theorem dX12_leastOf_44 : decode cX12_leastOf 44 = .ok (.goto (-36), 3) := by decide +kernel
theorem dX12_leastOf_47 : decode cX12_leastOf 47 = .ok (.iload_n 2, 1) := by decide +kernel
theorem dX12_leastOf_48 : decode cX12_leastOf 48 = .ok (.ireturn, 1) := by decide +kernel
def X12_leastOf_b8 (k8 : Int32 → Int32 → Int32 → Wd → Option (Int32 × Wd)) (y1 : Int32) (y2 : Int32) (y3 : Int32) (w : Wd) : Option (Int32 × Wd) :=
  cl (f_X12_allWays w) fun r3 w2 =>
  if r3 ≤ y3 then
  (some (y2, w2))
  else
  if y2 = ((-1)) then
  (cl (f_X12_sumOf y1 y3 w2) fun r8 w7 =>
  k8 y1 r8 (y3 + 1) w7)
  else
  cl (f_X12_sumOf y1 y3 w2) fun r5 w4 =>
  lt (if r5 < y2 then r5 else y2) fun v6 =>
  k8 y1 v6 (y3 + 1) w4
set_option maxRecDepth 100000 in
set_option maxHeartbeats 4000000 in
theorem t_X12_leastOf_b8 {Z : Cz (Int32 × Wd)} (hZ : OKZ Z SM cX12_leastOf RX12 4 (some .int) 27) (hE : EndI Z) (k8 : Int32 → Int32 → Int32 → Wd → Option (Int32 × Wd)) (hk8 : ∀ (y1 : Int32) (y2 : Int32) (y3 : Int32)  (w : Wd), BW Z 4 8 [(0, .ref (ph (zY Z) 0)), (1, .int y1), (2, .int y2), (3, .int y3)] [] w (k8 y1 y2 y3 w)) (y1 : Int32) (y2 : Int32) (y3 : Int32)  (w : Wd) : BW Z 4 8 [(0, .ref (ph (zY Z) 0)), (1, .int y1), (2, .int y2), (3, .int y3)] [] w (X12_leastOf_b8 k8 y1 y2 y3 w) :=
  bw_iload_n hZ 3 rfl dX12_leastOf_8 <|
  bw_aload_n hZ 0 rfl dX12_leastOf_9 <|
  bw_callVI (As := []) hZ ml_RX12_622 rc_12 obM_0 (by decide) (c_X12_allWays (zl Z) (zY Z) (hZ_S hZ) w) rfl rfl (Nat.le_of_ble_eq_true rfl) dX12_leastOf_10 fun r3 w2 =>
  bw_icmp_ge hZ (tgt := 47) (by decide) dX12_leastOf_13 (fun _ =>
  bw_iload_n hZ 2 rfl dX12_leastOf_47 <|
  bw_iret hZ hE dX12_leastOf_48) (fun _ =>
  bw_iload_n hZ 2 rfl dX12_leastOf_16 <|
  bw_iconst hZ (-1) (by decide) dX12_leastOf_17 <|
  bw_icmp_ne hZ (tgt := 30) (by decide) dX12_leastOf_18 (fun _ =>
  bw_iload_n hZ 2 rfl dX12_leastOf_30 <|
  bw_aload_n hZ 0 rfl dX12_leastOf_31 <|
  bw_iload_n hZ 1 rfl dX12_leastOf_32 <|
  bw_iload_n hZ 3 rfl dX12_leastOf_33 <|
  bw_callVI (As := [.int y1, .int y3]) hZ ml_RX12_730 rc_12 obM_0 (by decide) (c_X12_sumOf (zl Z) (zY Z) (hZ_S hZ) y1 y3 w2) rfl rfl (Nat.le_of_ble_eq_true rfl) dX12_leastOf_34 fun r5 w4 =>
  bw_mmin hZ kl_RX12_733 km_min (by decide) (Nat.le_of_ble_eq_true rfl) dX12_leastOf_37 <|
  bw_nm fun v6 =>
  bw_istore_n hZ rfl (by decide) rfl dX12_leastOf_40 <|
  bw_iinc hZ 1 3 rfl (by decide) (by decide) rfl dX12_leastOf_41 <|
  bw_goto hZ (tgt := 8) (by decide) dX12_leastOf_44 <|
  bw_sub [2, 3, 1, 0] rfl (hk8 y1 v6 (y3 + 1) w4)) (fun _ =>
  bw_aload_n hZ 0 rfl dX12_leastOf_21 <|
  bw_iload_n hZ 1 rfl dX12_leastOf_22 <|
  bw_iload_n hZ 3 rfl dX12_leastOf_23 <|
  bw_callVI (As := [.int y1, .int y3]) hZ ml_RX12_730 rc_12 obM_0 (by decide) (c_X12_sumOf (zl Z) (zY Z) (hZ_S hZ) y1 y3 w2) rfl rfl (Nat.le_of_ble_eq_true rfl) dX12_leastOf_24 fun r8 w7 =>
  bw_goto hZ (tgt := 40) (by decide) dX12_leastOf_27 <|
  bw_istore_n hZ rfl (by decide) rfl dX12_leastOf_40 <|
  bw_iinc hZ 1 3 rfl (by decide) (by decide) rfl dX12_leastOf_41 <|
  bw_goto hZ (tgt := 8) (by decide) dX12_leastOf_44 <|
  bw_sub [2, 3, 1, 0] rfl (hk8 y1 r8 (y3 + 1) w7)))
def X12_leastOf_b8_L  : Int32 → Int32 → Int32 → Wd → Option (Int32 × Wd) :=
  lp fu (fun _ _ _ _ => none) (fun k8 => X12_leastOf_b8 k8)
theorem t_X12_leastOf_b8_L {Z : Cz (Int32 × Wd)} (hZ : OKZ Z SM cX12_leastOf RX12 4 (some .int) 27) (hE : EndI Z)  : ∀ (y1 : Int32) (y2 : Int32) (y3 : Int32)  (w : Wd), BW Z 4 8 [(0, .ref (ph (zY Z) 0)), (1, .int y1), (2, .int y2), (3, .int y3)] [] w (X12_leastOf_b8_L y1 y2 y3 w) :=
  lp_bw (fun k8 => ∀ (y1 : Int32) (y2 : Int32) (y3 : Int32)  (w : Wd), BW Z 4 8 [(0, .ref (ph (zY Z) 0)), (1, .int y1), (2, .int y2), (3, .int y3)] [] w (k8 y1 y2 y3 w)) (fun _ _ _ _ => bw_none) (fun k8 hk8 y1 y2 y3 w => t_X12_leastOf_b8 hZ hE k8 hk8 y1 y2 y3 w) fu
def f_X12_leastOf (x1 : Int32) (w : Wd) : Option (Int32 × Wd) :=
  cv (f_X12_reckon w) fun w1 =>
  X12_leastOf_b8_L x1 ((-1)) 0 w1
set_option maxRecDepth 100000 in
set_option maxHeartbeats 4000000 in
theorem t_X12_leastOf {Z : Cz (Int32 × Wd)} (hZ : OKZ Z SM cX12_leastOf RX12 4 (some .int) 27) (hE : EndI Z) (x1 : Int32)  (w : Wd) : BW Z 4 0 [(0, .ref (ph (zY Z) 0)), (1, .int x1)] [] w (f_X12_leastOf x1 w) :=
  bw_aload_n hZ 0 rfl dX12_leastOf_0 <|
  bw_callVV (As := []) hZ ml_RX12_700 rc_12 obM_0 (by decide) (c_X12_reckon (zl Z) (zY Z) (hZ_S hZ) w) rfl rfl (Nat.le_of_ble_eq_true rfl) dX12_leastOf_1 fun w1 =>
  bw_iconst hZ (-1) (by decide) dX12_leastOf_4 <|
  bw_istore_n hZ rfl (by decide) rfl dX12_leastOf_5 <|
  bw_iconst hZ 0 (by decide) dX12_leastOf_6 <|
  bw_istore_n hZ rfl (by decide) rfl dX12_leastOf_7 <|
  bw_sub [2, 3, 1, 0] rfl (t_X12_leastOf_b8_L hZ hE x1 ((-1)) 0 w1)
theorem c_X12_leastOf (l : Launch) (Y : Ev) (hY : Y.1 = SM) (x1 : Int32)  (w : Wd) : CI l Y yX12_leastOf cX12_leastOf 4 27 [.ref (ph Y 0), .int x1] w .int (f_X12_leastOf x1 w) := by
  refine CI_of (S := SM) (by decide) (Nat.le_of_ble_eq_true rfl) hY ?_
  intro Z hl hY2 hZ hE
  subst hY2
  exact t_X12_leastOf hZ hE x1 w
-- WhichWillModel.floor
theorem dX12_floor_0 : decode cX12_floor 0 = .ok (.iload_n 1, 1) := by decide +kernel
theorem dX12_floor_1 : decode cX12_floor 1 = .ok (.i2l, 1) := by decide +kernel
theorem dX12_floor_2 : decode cX12_floor 2 = .ok (.lconst 0, 1) := by decide +kernel
theorem dX12_floor_3 : decode cX12_floor 3 = .ok (.lconst 1, 1) := by decide +kernel
theorem dX12_floor_4 : decode cX12_floor 4 = .ok (.aload_n 0, 1) := by decide +kernel
theorem dX12_floor_5 : decode cX12_floor 5 = .ok (.getfield 412, 3) := by decide +kernel
theorem dX12_floor_8 : decode cX12_floor 8 = .ok (.lshl, 1) := by decide +kernel
theorem dX12_floor_9 : decode cX12_floor 9 = .ok (.lconst 1, 1) := by decide +kernel
theorem dX12_floor_10 : decode cX12_floor 10 = .ok (.lsub, 1) := by decide +kernel
theorem dX12_floor_11 : decode cX12_floor 11 = .ok (.invokestatic 60, 3) := by decide +kernel
theorem dX12_floor_14 : decode cX12_floor 14 = .ok (.ifCond .ne 8, 3) := by decide +kernel
theorem dX12_floor_17 : decode cX12_floor 17 = .ok (.bipush (-2), 2) := by decide +kernel
theorem dX12_floor_19 : decode cX12_floor 19 = .ok (.goto 8, 3) := by decide +kernel
theorem dX12_floor_22 : decode cX12_floor 22 = .ok (.aload_n 0, 1) := by decide +kernel
theorem dX12_floor_23 : decode cX12_floor 23 = .ok (.iload_n 1, 1) := by decide +kernel
theorem dX12_floor_24 : decode cX12_floor 24 = .ok (.invokevirtual 736, 3) := by decide +kernel
theorem dX12_floor_27 : decode cX12_floor 27 = .ok (.ireturn, 1) := by decide +kernel
def f_X12_floor (x1 : Int32) (w : Wd) : Option (Int32 × Wd) :=
  cl (f_X12_in (Int32.toInt64 x1) 0 ((1 <<< (Int32.toInt64 (w.1 0 11) &&& 63)) - 1) w) fun r2 w1 =>
  if r2 = 0 then
  (some ((-2), w1))
  else
  cl (f_X12_leastOf x1 w1) fun r4 w3 =>
  some (r4, w3)
set_option maxRecDepth 100000 in
set_option maxHeartbeats 4000000 in
theorem t_X12_floor {Z : Cz (Int32 × Wd)} (hZ : OKZ Z SM cX12_floor RX12 2 (some .int) 28) (hE : EndI Z) (x1 : Int32)  (w : Wd) : BW Z 2 0 [(0, .ref (ph (zY Z) 0)), (1, .int x1)] [] w (f_X12_floor x1 w) :=
  bw_iload_n hZ 1 rfl dX12_floor_0 <|
  bw_i2l hZ dX12_floor_1 <|
  bw_lconst hZ 0 (by decide) dX12_floor_2 <|
  bw_lconst hZ 1 (by decide) dX12_floor_3 <|
  bw_aload_n hZ 0 rfl dX12_floor_4 <|
  bw_getI hZ fl_RX12_412 (by decide) obM_0 dX12_floor_5 <|
  bw_lshl hZ dX12_floor_8 <|
  bw_lconst hZ 1 (by decide) dX12_floor_9 <|
  bw_lsub hZ dX12_floor_10 <|
  bw_callSI (As := [.long (Int32.toInt64 x1), .long 0, .long ((1 <<< (Int32.toInt64 (w.1 0 11) &&& 63)) - 1)]) hZ ms_RX12_60 (by decide) (c_X12_in (zl Z) (zY Z) (hZ_S hZ) (Int32.toInt64 x1) 0 ((1 <<< (Int32.toInt64 (w.1 0 11) &&& 63)) - 1) w) rfl rfl (Nat.le_of_ble_eq_true rfl) dX12_floor_11 fun r2 w1 =>
  bw_if_ne hZ (tgt := 22) (by decide) dX12_floor_14 (fun _ =>
  bw_aload_n hZ 0 rfl dX12_floor_22 <|
  bw_iload_n hZ 1 rfl dX12_floor_23 <|
  bw_callVI (As := [.int x1]) hZ ml_RX12_736 rc_12 obM_0 (by decide) (c_X12_leastOf (zl Z) (zY Z) (hZ_S hZ) x1 w1) rfl rfl (Nat.le_of_ble_eq_true rfl) dX12_floor_24 fun r4 w3 =>
  bw_iret hZ hE dX12_floor_27) (fun _ =>
  bw_bipush hZ (-2) (by decide) dX12_floor_17 <|
  bw_goto hZ (tgt := 27) (by decide) dX12_floor_19 <|
  bw_iret hZ hE dX12_floor_27)
theorem c_X12_floor (l : Launch) (Y : Ev) (hY : Y.1 = SM) (x1 : Int32)  (w : Wd) : CI l Y yX12_floor cX12_floor 2 28 [.ref (ph Y 0), .int x1] w .int (f_X12_floor x1 w) := by
  refine CI_of (S := SM) (by decide) (Nat.le_of_ble_eq_true rfl) hY ?_
  intro Z hl hY2 hZ hE
  subst hY2
  exact t_X12_floor hZ hE x1 w
-- WhichWillModel.settle
theorem dX12_settle_0 : decode cX12_settle 0 = .ok (.aload_n 0, 1) := by decide +kernel
theorem dX12_settle_1 : decode cX12_settle 1 = .ok (.getfield 1, 3) := by decide +kernel
theorem dX12_settle_4 : decode cX12_settle 4 = .ok (.istore_n 1, 1) := by decide +kernel
theorem dX12_settle_5 : decode cX12_settle 5 = .ok (.aload_n 0, 1) := by decide +kernel
theorem dX12_settle_6 : decode cX12_settle 6 = .ok (.getfield 10, 3) := by decide +kernel
theorem dX12_settle_9 : decode cX12_settle 9 = .ok (.istore_n 2, 1) := by decide +kernel
theorem dX12_settle_10 : decode cX12_settle 10 = .ok (.aload_n 0, 1) := by decide +kernel
theorem dX12_settle_11 : decode cX12_settle 11 = .ok (.invokevirtual 403, 3) := by decide +kernel
theorem dX12_settle_14 : decode cX12_settle 14 = .ok (.aload_n 0, 1) := by decide +kernel
theorem dX12_settle_15 : decode cX12_settle 15 = .ok (.iload_n 1, 1) := by decide +kernel
theorem dX12_settle_16 : decode cX12_settle 16 = .ok (.putfield 1, 3) := by decide +kernel
theorem dX12_settle_19 : decode cX12_settle 19 = .ok (.aload_n 0, 1) := by decide +kernel
theorem dX12_settle_20 : decode cX12_settle 20 = .ok (.iload_n 2, 1) := by decide +kernel
theorem dX12_settle_21 : decode cX12_settle 21 = .ok (.putfield 10, 3) := by decide +kernel
theorem dX12_settle_24 : decode cX12_settle 24 = .ok (.iconst 0, 1) := by decide +kernel
theorem dX12_settle_25 : decode cX12_settle 25 = .ok (.istore_n 3, 1) := by decide +kernel
theorem dX12_settle_26 : decode cX12_settle 26 = .ok (.aload_n 0, 1) := by decide +kernel
theorem dX12_settle_27 : decode cX12_settle 27 = .ok (.getfield 27, 3) := by decide +kernel
theorem dX12_settle_30 : decode cX12_settle 30 = .ok (.iconst 2, 1) := by decide +kernel
theorem dX12_settle_31 : decode cX12_settle 31 = .ok (.if_icmp .ne 31, 3) := by decide +kernel
theorem dX12_settle_34 : decode cX12_settle 34 = .ok (.iload_n 3, 1) := by decide +kernel
theorem dX12_settle_35 : decode cX12_settle 35 = .ok (.aload_n 0, 1) := by decide +kernel
theorem dX12_settle_36 : decode cX12_settle 36 = .ok (.getfield 412, 3) := by decide +kernel
theorem dX12_settle_39 : decode cX12_settle 39 = .ok (.if_icmp .ge 23, 3) := by decide +kernel
theorem dX12_settle_42 : decode cX12_settle 42 = .ok (.aload_n 0, 1) := by decide +kernel
theorem dX12_settle_43 : decode cX12_settle 43 = .ok (.getfield 393, 3) := by decide +kernel
theorem dX12_settle_46 : decode cX12_settle 46 = .ok (.iload_n 3, 1) := by decide +kernel
theorem dX12_settle_47 : decode cX12_settle 47 = .ok (.aload_n 0, 1) := by decide +kernel
theorem dX12_settle_48 : decode cX12_settle 48 = .ok (.getfield 37, 3) := by decide +kernel
theorem dX12_settle_51 : decode cX12_settle 51 = .ok (.iastore, 1) := by decide +kernel
theorem dX12_settle_52 : decode cX12_settle 52 = .ok (.iinc 3 1, 3) := by decide +kernel
theorem dX12_settle_55 : decode cX12_settle 55 = .ok (.aload_n 0, 1) := by decide +kernel
theorem dX12_settle_56 : decode cX12_settle 56 = .ok (.invokevirtual 56, 3) := by decide +kernel
theorem dX12_settle_59 : decode cX12_settle 59 = .ok (.goto (-33), 3) := by decide +kernel
theorem dX12_settle_62 : decode cX12_settle 62 = .ok (.aload_n 0, 1) := by decide +kernel
theorem dX12_settle_63 : decode cX12_settle 63 = .ok (.getfield 27, 3) := by decide +kernel
theorem dX12_settle_66 : decode cX12_settle 66 = .ok (.ifCond .ne 11, 3) := by decide +kernel
theorem dX12_settle_69 : decode cX12_settle 69 = .ok (.iload_n 3, 1) := by decide +kernel
theorem dX12_settle_70 : decode cX12_settle 70 = .ok (.aload_n 0, 1) := by decide +kernel
theorem dX12_settle_71 : decode cX12_settle 71 = .ok (.getfield 412, 3) := by decide +kernel
theorem dX12_settle_74 : decode cX12_settle 74 = .ok (.if_icmp .eq 5, 3) := by decide +kernel
theorem dX12_settle_77 : decode cX12_settle 77 = .ok (.iconst (-1), 1) := by decide +kernel
theorem dX12_settle_78 : decode cX12_settle 78 = .ok (.ireturn, 1) := by decide +kernel
theorem dX12_settle_79 : decode cX12_settle 79 = .ok (.aload_n 0, 1) := by decide +kernel
theorem dX12_settle_80 : decode cX12_settle 80 = .ok (.invokevirtual 622, 3) := by decide +kernel
theorem dX12_settle_83 : decode cX12_settle 83 = .ok (.ifCond .ne 6, 3) := by decide +kernel
theorem dX12_settle_86 : decode cX12_settle 86 = .ok (.bipush (-4), 2) := by decide +kernel
theorem dX12_settle_88 : decode cX12_settle 88 = .ok (.ireturn, 1) := by decide +kernel
theorem dX12_settle_89 : decode cX12_settle 89 = .ok (.iconst 1, 1) := by decide +kernel
theorem dX12_settle_90 : decode cX12_settle 90 = .ok (.istore 4, 2) := by decide +kernel
theorem dX12_settle_92 : decode cX12_settle 92 = .ok (.iload 4, 2) := by decide +kernel
theorem dX12_settle_94 : decode cX12_settle 94 = .ok (.iconst 1, 1) := by decide +kernel
theorem dX12_settle_95 : decode cX12_settle 95 = .ok (.aload_n 0, 1) := by decide +kernel
theorem dX12_settle_96 : decode cX12_settle 96 = .ok (.getfield 412, 3) := by decide +kernel
theorem dX12_settle_99 : decode cX12_settle 99 = .ok (.ishl, 1) := by decide +kernel
theorem dX12_settle_100 : decode cX12_settle 100 = .ok (.if_icmp .ge 71, 3) := by decide +kernel
theorem dX12_settle_103 : decode cX12_settle 103 = .ok (.iconst 0, 1) := by decide +kernel
theorem dX12_settle_104 : decode cX12_settle 104 = .ok (.istore 5, 2) := by decide +kernel
theorem dX12_settle_106 : decode cX12_settle 106 = .ok (.iconst 0, 1) := by decide +kernel
theorem dX12_settle_107 : decode cX12_settle 107 = .ok (.istore 6, 2) := by decide +kernel
theorem dX12_settle_109 : decode cX12_settle 109 = .ok (.iload 6, 2) := by decide +kernel
theorem dX12_settle_111 : decode cX12_settle 111 = .ok (.aload_n 0, 1) := by decide +kernel
theorem dX12_settle_112 : decode cX12_settle 112 = .ok (.getfield 412, 3) := by decide +kernel
theorem dX12_settle_115 : decode cX12_settle 115 = .ok (.if_icmp .ge 36, 3) := by decide +kernel
theorem dX12_settle_118 : decode cX12_settle 118 = .ok (.iload 5, 2) := by decide +kernel
theorem dX12_settle_120 : decode cX12_settle 120 = .ok (.iload 4, 2) := by decide +kernel
theorem dX12_settle_122 : decode cX12_settle 122 = .ok (.iload 6, 2) := by decide +kernel
theorem dX12_settle_124 : decode cX12_settle 124 = .ok (.ishr, 1) := by decide +kernel
theorem dX12_settle_125 : decode cX12_settle 125 = .ok (.iconst 1, 1) := by decide +kernel
theorem dX12_settle_126 : decode cX12_settle 126 = .ok (.iand, 1) := by decide +kernel
theorem dX12_settle_127 : decode cX12_settle 127 = .ok (.iconst 1, 1) := by decide +kernel
theorem dX12_settle_128 : decode cX12_settle 128 = .ok (.if_icmp .ne 13, 3) := by decide +kernel
theorem dX12_settle_131 : decode cX12_settle 131 = .ok (.aload_n 0, 1) := by decide +kernel
theorem dX12_settle_132 : decode cX12_settle 132 = .ok (.getfield 393, 3) := by decide +kernel
theorem dX12_settle_135 : decode cX12_settle 135 = .ok (.iload 6, 2) := by decide +kernel
theorem dX12_settle_137 : decode cX12_settle 137 = .ok (.iaload, 1) := by decide +kernel
theorem dX12_settle_138 : decode cX12_settle 138 = .ok (.goto 4, 3) := by decide +kernel
theorem dX12_settle_141 : decode cX12_settle 141 = .ok (.iconst 0, 1) := by decide +kernel
theorem dX12_settle_142 : decode cX12_settle 142 = .ok (.iadd, 1) := by decide +kernel
theorem dX12_settle_143 : decode cX12_settle 143 = .ok (.istore 5, 2) := by decide +kernel
theorem dX12_settle_145 : decode cX12_settle 145 = .ok (.iinc 6 1, 3) := by decide +kernel
theorem dX12_settle_148 : decode cX12_settle 148 = .ok (.goto (-39), 3) := by decide +kernel
theorem dX12_settle_151 : decode cX12_settle 151 = .ok (.aload_n 0, 1) := by decide +kernel
theorem dX12_settle_152 : decode cX12_settle 152 = .ok (.iload 4, 2) := by decide +kernel
theorem dX12_settle_154 : decode cX12_settle 154 = .ok (.invokevirtual 736, 3) := by decide +kernel
theorem dX12_settle_157 : decode cX12_settle 157 = .ok (.iload 5, 2) := by decide +kernel
theorem dX12_settle_159 : decode cX12_settle 159 = .ok (.if_icmp .le 6, 3) := by decide +kernel
theorem dX12_settle_162 : decode cX12_settle 162 = .ok (.iload 4, 2) := by decide +kernel
theorem dX12_settle_164 : decode cX12_settle 164 = .ok (.ireturn, 1) := by decide +kernel
theorem dX12_settle_165 : decode cX12_settle 165 = .ok (.iinc 4 1, 3) := by decide +kernel
theorem dX12_settle_168 : decode cX12_settle 168 = .ok (.goto (-76), 3) := by decide +kernel
theorem dX12_settle_171 : decode cX12_settle 171 = .ok (.iconst 0, 1) := by decide +kernel
theorem dX12_settle_172 : decode cX12_settle 172 = .ok (.ireturn, 1) := by decide +kernel
def X12_settle_b109 (k92 : Int32 → Wd → Option (Int32 × Wd)) (k109 : Int32 → Int32 → Int32 → Wd → Option (Int32 × Wd)) (y4 : Int32) (y5 : Int32) (y6 : Int32) (w : Wd) : Option (Int32 × Wd) :=
  if (w.1 0 11) ≤ y6 then
  (cl (f_X12_leastOf y4 w) fun r9 w8 =>
  if r9 ≤ y5 then
  (k92 (y4 + 1) w8)
  else
  some (y4, w8))
  else
  if ((y4 >>> (y6 &&& 31)) &&& 1) = 1 then
  (if inb y6 8 = true then
  (lt (y5 + (w.1 60 (Int32.toNatClampNeg y6))) fun v11 =>
  k109 y4 v11 (y6 + 1) w)
  else none)
  else
  lt (y5 + 0) fun v10 =>
  k109 y4 v10 (y6 + 1) w
set_option maxRecDepth 100000 in
set_option maxHeartbeats 4000000 in
theorem t_X12_settle_b109 {Z : Cz (Int32 × Wd)} (hZ : OKZ Z SM cX12_settle RX12 7 (some .int) 28) (hE : EndI Z) (k92 : Int32 → Wd → Option (Int32 × Wd)) (hk92 : ∀ (y4 : Int32)  (w : Wd), BW Z 7 92 [(0, .ref (ph (zY Z) 0)), (4, .int y4)] [] w (k92 y4 w)) (k109 : Int32 → Int32 → Int32 → Wd → Option (Int32 × Wd)) (hk109 : ∀ (y4 : Int32) (y5 : Int32) (y6 : Int32)  (w : Wd), BW Z 7 109 [(0, .ref (ph (zY Z) 0)), (4, .int y4), (5, .int y5), (6, .int y6)] [] w (k109 y4 y5 y6 w)) (y4 : Int32) (y5 : Int32) (y6 : Int32)  (w : Wd) : BW Z 7 109 [(0, .ref (ph (zY Z) 0)), (4, .int y4), (5, .int y5), (6, .int y6)] [] w (X12_settle_b109 k92 k109 y4 y5 y6 w) :=
  bw_iload hZ 3 rfl dX12_settle_109 <|
  bw_aload_n hZ 0 rfl dX12_settle_111 <|
  bw_getI hZ fl_RX12_412 (by decide) obM_0 dX12_settle_112 <|
  bw_icmp_ge hZ (tgt := 151) (by decide) dX12_settle_115 (fun _ =>
  bw_aload_n hZ 0 rfl dX12_settle_151 <|
  bw_iload hZ 1 rfl dX12_settle_152 <|
  bw_callVI (As := [.int y4]) hZ ml_RX12_736 rc_12 obM_0 (by decide) (c_X12_leastOf (zl Z) (zY Z) (hZ_S hZ) y4 w) rfl rfl (Nat.le_of_ble_eq_true rfl) dX12_settle_154 fun r9 w8 =>
  bw_iload hZ 2 rfl dX12_settle_157 <|
  bw_icmp_le hZ (tgt := 165) (by decide) dX12_settle_159 (fun _ =>
  bw_iinc hZ 1 1 rfl (by decide) (by decide) rfl dX12_settle_165 <|
  bw_goto hZ (tgt := 92) (by decide) dX12_settle_168 <|
  bw_sub [1, 0] rfl (hk92 (y4 + 1) w8)) (fun _ =>
  bw_iload hZ 1 rfl dX12_settle_162 <|
  bw_iret hZ hE dX12_settle_164)) (fun _ =>
  bw_iload hZ 2 rfl dX12_settle_118 <|
  bw_iload hZ 1 rfl dX12_settle_120 <|
  bw_iload hZ 3 rfl dX12_settle_122 <|
  bw_ishr hZ dX12_settle_124 <|
  bw_iconst hZ 1 (by decide) dX12_settle_125 <|
  bw_iand hZ dX12_settle_126 <|
  bw_iconst hZ 1 (by decide) dX12_settle_127 <|
  bw_icmp_ne hZ (tgt := 141) (by decide) dX12_settle_128 (fun _ =>
  bw_iconst hZ 0 (by decide) dX12_settle_141 <|
  bw_iadd hZ dX12_settle_142 <|
  bw_nm fun v10 =>
  bw_istore hZ (by decide) rfl dX12_settle_143 <|
  bw_iinc hZ 1 3 rfl (by decide) (by decide) rfl dX12_settle_145 <|
  bw_goto hZ (tgt := 109) (by decide) dX12_settle_148 <|
  bw_sub [2, 3, 1, 0] rfl (hk109 y4 v10 (y6 + 1) w)) (fun _ =>
  bw_aload_n hZ 0 rfl dX12_settle_131 <|
  bw_getR hZ fl_RX12_393 obM_0 rfl dX12_settle_132 <|
  bw_iload hZ 3 rfl dX12_settle_135 <|
  bw_iald hZ (arM_60 _) dX12_settle_137 <|
  bw_goto hZ (tgt := 142) (by decide) dX12_settle_138 <|
  bw_iadd hZ dX12_settle_142 <|
  bw_nm fun v11 =>
  bw_istore hZ (by decide) rfl dX12_settle_143 <|
  bw_iinc hZ 1 3 rfl (by decide) (by decide) rfl dX12_settle_145 <|
  bw_goto hZ (tgt := 109) (by decide) dX12_settle_148 <|
  bw_sub [2, 3, 1, 0] rfl (hk109 y4 v11 (y6 + 1) w)))
def X12_settle_b109_L (k92 : Int32 → Wd → Option (Int32 × Wd)) : Int32 → Int32 → Int32 → Wd → Option (Int32 × Wd) :=
  lp fu (fun _ _ _ _ => none) (fun k109 => X12_settle_b109 k92 k109)
theorem t_X12_settle_b109_L {Z : Cz (Int32 × Wd)} (hZ : OKZ Z SM cX12_settle RX12 7 (some .int) 28) (hE : EndI Z) (k92 : Int32 → Wd → Option (Int32 × Wd)) (hk92 : ∀ (y4 : Int32)  (w : Wd), BW Z 7 92 [(0, .ref (ph (zY Z) 0)), (4, .int y4)] [] w (k92 y4 w)) : ∀ (y4 : Int32) (y5 : Int32) (y6 : Int32)  (w : Wd), BW Z 7 109 [(0, .ref (ph (zY Z) 0)), (4, .int y4), (5, .int y5), (6, .int y6)] [] w (X12_settle_b109_L k92 y4 y5 y6 w) :=
  lp_bw (fun k109 => ∀ (y4 : Int32) (y5 : Int32) (y6 : Int32)  (w : Wd), BW Z 7 109 [(0, .ref (ph (zY Z) 0)), (4, .int y4), (5, .int y5), (6, .int y6)] [] w (k109 y4 y5 y6 w)) (fun _ _ _ _ => bw_none) (fun k109 hk109 y4 y5 y6 w => t_X12_settle_b109 hZ hE k92 hk92 k109 hk109 y4 y5 y6 w) fu
def X12_settle_b92 (k92 : Int32 → Wd → Option (Int32 × Wd)) (y4 : Int32) (w : Wd) : Option (Int32 × Wd) :=
  if (1 <<< ((w.1 0 11) &&& 31)) ≤ y4 then
  (some (0, w))
  else
  X12_settle_b109_L k92 y4 0 0 w
set_option maxRecDepth 100000 in
set_option maxHeartbeats 4000000 in
theorem t_X12_settle_b92 {Z : Cz (Int32 × Wd)} (hZ : OKZ Z SM cX12_settle RX12 7 (some .int) 28) (hE : EndI Z) (k92 : Int32 → Wd → Option (Int32 × Wd)) (hk92 : ∀ (y4 : Int32)  (w : Wd), BW Z 7 92 [(0, .ref (ph (zY Z) 0)), (4, .int y4)] [] w (k92 y4 w)) (y4 : Int32)  (w : Wd) : BW Z 7 92 [(0, .ref (ph (zY Z) 0)), (4, .int y4)] [] w (X12_settle_b92 k92 y4 w) :=
  bw_iload hZ 1 rfl dX12_settle_92 <|
  bw_iconst hZ 1 (by decide) dX12_settle_94 <|
  bw_aload_n hZ 0 rfl dX12_settle_95 <|
  bw_getI hZ fl_RX12_412 (by decide) obM_0 dX12_settle_96 <|
  bw_ishl hZ dX12_settle_99 <|
  bw_icmp_ge hZ (tgt := 171) (by decide) dX12_settle_100 (fun _ =>
  bw_iconst hZ 0 (by decide) dX12_settle_171 <|
  bw_iret hZ hE dX12_settle_172) (fun _ =>
  bw_iconst hZ 0 (by decide) dX12_settle_103 <|
  bw_istore hZ (by decide) rfl dX12_settle_104 <|
  bw_iconst hZ 0 (by decide) dX12_settle_106 <|
  bw_istore hZ (by decide) rfl dX12_settle_107 <|
  bw_sub [2, 3, 1, 0] rfl (t_X12_settle_b109_L hZ hE k92 hk92 y4 0 0 w))
def X12_settle_b92_L  : Int32 → Wd → Option (Int32 × Wd) :=
  lp fu (fun _ _ => none) (fun k92 => X12_settle_b92 k92)
theorem t_X12_settle_b92_L {Z : Cz (Int32 × Wd)} (hZ : OKZ Z SM cX12_settle RX12 7 (some .int) 28) (hE : EndI Z)  : ∀ (y4 : Int32)  (w : Wd), BW Z 7 92 [(0, .ref (ph (zY Z) 0)), (4, .int y4)] [] w (X12_settle_b92_L y4 w) :=
  lp_bw (fun k92 => ∀ (y4 : Int32)  (w : Wd), BW Z 7 92 [(0, .ref (ph (zY Z) 0)), (4, .int y4)] [] w (k92 y4 w)) (fun _ _ => bw_none) (fun k92 hk92 y4 w => t_X12_settle_b92 hZ hE k92 hk92 y4 w) fu
def X12_settle_b62 (y3 : Int32) (w : Wd) : Option (Int32 × Wd) :=
  if (w.1 0 5) = 0 then
  (if y3 = (w.1 0 11) then
  (cl (f_X12_allWays w) fun r7 w6 =>
  if r7 = 0 then
  (some ((-4), w6))
  else
  X12_settle_b92_L 1 w6)
  else
  some ((-1), w))
  else
  some ((-1), w)
set_option maxRecDepth 100000 in
set_option maxHeartbeats 4000000 in
theorem t_X12_settle_b62 {Z : Cz (Int32 × Wd)} (hZ : OKZ Z SM cX12_settle RX12 7 (some .int) 28) (hE : EndI Z)  (y3 : Int32)  (w : Wd) : BW Z 7 62 [(0, .ref (ph (zY Z) 0)), (3, .int y3)] [] w (X12_settle_b62 y3 w) :=
  bw_aload_n hZ 0 rfl dX12_settle_62 <|
  bw_getI hZ fl_RX12_27 (by decide) obM_0 dX12_settle_63 <|
  bw_if_ne hZ (tgt := 77) (by decide) dX12_settle_66 (fun _ =>
  bw_iconst hZ (-1) (by decide) dX12_settle_77 <|
  bw_iret hZ hE dX12_settle_78) (fun _ =>
  bw_iload_n hZ 1 rfl dX12_settle_69 <|
  bw_aload_n hZ 0 rfl dX12_settle_70 <|
  bw_getI hZ fl_RX12_412 (by decide) obM_0 dX12_settle_71 <|
  bw_icmp_eq hZ (tgt := 79) (by decide) dX12_settle_74 (fun _ =>
  bw_aload_n hZ 0 rfl dX12_settle_79 <|
  bw_callVI (As := []) hZ ml_RX12_622 rc_12 obM_0 (by decide) (c_X12_allWays (zl Z) (zY Z) (hZ_S hZ) w) rfl rfl (Nat.le_of_ble_eq_true rfl) dX12_settle_80 fun r7 w6 =>
  bw_if_ne hZ (tgt := 89) (by decide) dX12_settle_83 (fun _ =>
  bw_iconst hZ 1 (by decide) dX12_settle_89 <|
  bw_istore hZ (by decide) rfl dX12_settle_90 <|
  bw_sub [1, 0] rfl (t_X12_settle_b92_L hZ hE 1 w6)) (fun _ =>
  bw_bipush hZ (-4) (by decide) dX12_settle_86 <|
  bw_iret hZ hE dX12_settle_88)) (fun _ =>
  bw_iconst hZ (-1) (by decide) dX12_settle_77 <|
  bw_iret hZ hE dX12_settle_78))
def X12_settle_b26 (k26 : Int32 → Wd → Option (Int32 × Wd)) (y3 : Int32) (w : Wd) : Option (Int32 × Wd) :=
  if (w.1 0 5) = 2 then
  (if (w.1 0 11) ≤ y3 then
  (X12_settle_b62 y3 w)
  else
  if inb y3 8 = true then
  (lt (wI w 60 (Int32.toNatClampNeg y3) (w.1 0 6)) fun w12 =>
  cv (f_X12_scan w12) fun w13 =>
  k26 (y3 + 1) w13)
  else none)
  else
  X12_settle_b62 y3 w
set_option maxRecDepth 100000 in
set_option maxHeartbeats 4000000 in
theorem t_X12_settle_b26 {Z : Cz (Int32 × Wd)} (hZ : OKZ Z SM cX12_settle RX12 7 (some .int) 28) (hE : EndI Z) (k26 : Int32 → Wd → Option (Int32 × Wd)) (hk26 : ∀ (y3 : Int32)  (w : Wd), BW Z 7 26 [(0, .ref (ph (zY Z) 0)), (3, .int y3)] [] w (k26 y3 w)) (y3 : Int32)  (w : Wd) : BW Z 7 26 [(0, .ref (ph (zY Z) 0)), (3, .int y3)] [] w (X12_settle_b26 k26 y3 w) :=
  bw_aload_n hZ 0 rfl dX12_settle_26 <|
  bw_getI hZ fl_RX12_27 (by decide) obM_0 dX12_settle_27 <|
  bw_iconst hZ 2 (by decide) dX12_settle_30 <|
  bw_icmp_ne hZ (tgt := 62) (by decide) dX12_settle_31 (fun _ =>
  bw_sub [0, 1] rfl (t_X12_settle_b62 hZ hE y3 w)) (fun _ =>
  bw_iload_n hZ 1 rfl dX12_settle_34 <|
  bw_aload_n hZ 0 rfl dX12_settle_35 <|
  bw_getI hZ fl_RX12_412 (by decide) obM_0 dX12_settle_36 <|
  bw_icmp_ge hZ (tgt := 62) (by decide) dX12_settle_39 (fun _ =>
  bw_sub [0, 1] rfl (t_X12_settle_b62 hZ hE y3 w)) (fun _ =>
  bw_aload_n hZ 0 rfl dX12_settle_42 <|
  bw_getR hZ fl_RX12_393 obM_0 rfl dX12_settle_43 <|
  bw_iload_n hZ 1 rfl dX12_settle_46 <|
  bw_aload_n hZ 0 rfl dX12_settle_47 <|
  bw_getI hZ fl_RX12_37 (by decide) obM_0 dX12_settle_48 <|
  bw_iast hZ (arM_60 _) dX12_settle_51 fun w12 =>
  bw_iinc hZ 1 1 rfl (by decide) (by decide) rfl dX12_settle_52 <|
  bw_aload_n hZ 1 rfl dX12_settle_55 <|
  bw_callVV (As := []) hZ ml_RX12_56 rc_12 obM_0 (by decide) (c_X12_scan (zl Z) (zY Z) (hZ_S hZ) w12) rfl rfl (Nat.le_of_ble_eq_true rfl) dX12_settle_56 fun w13 =>
  bw_goto hZ (tgt := 26) (by decide) dX12_settle_59 <|
  bw_sub [1, 0] rfl (hk26 (y3 + 1) w13)))
def X12_settle_b26_L  : Int32 → Wd → Option (Int32 × Wd) :=
  lp fu (fun _ _ => none) (fun k26 => X12_settle_b26 k26)
theorem t_X12_settle_b26_L {Z : Cz (Int32 × Wd)} (hZ : OKZ Z SM cX12_settle RX12 7 (some .int) 28) (hE : EndI Z)  : ∀ (y3 : Int32)  (w : Wd), BW Z 7 26 [(0, .ref (ph (zY Z) 0)), (3, .int y3)] [] w (X12_settle_b26_L y3 w) :=
  lp_bw (fun k26 => ∀ (y3 : Int32)  (w : Wd), BW Z 7 26 [(0, .ref (ph (zY Z) 0)), (3, .int y3)] [] w (k26 y3 w)) (fun _ _ => bw_none) (fun k26 hk26 y3 w => t_X12_settle_b26 hZ hE k26 hk26 y3 w) fu
def f_X12_settle (w : Wd) : Option (Int32 × Wd) :=
  lt (w.1 0 8) fun v1 =>
  lt (w.1 0 9) fun v2 =>
  cv (f_X12_open w) fun w3 =>
  lt (wI w3 0 8 v1) fun w4 =>
  lt (wI w4 0 9 v2) fun w5 =>
  X12_settle_b26_L 0 w5
set_option maxRecDepth 100000 in
set_option maxHeartbeats 4000000 in
theorem t_X12_settle {Z : Cz (Int32 × Wd)} (hZ : OKZ Z SM cX12_settle RX12 7 (some .int) 28) (hE : EndI Z)   (w : Wd) : BW Z 7 0 [(0, .ref (ph (zY Z) 0))] [] w (f_X12_settle w) :=
  bw_aload_n hZ 0 rfl dX12_settle_0 <|
  bw_getI hZ fl_RX12_1 (by decide) obM_0 dX12_settle_1 <|
  bw_nm fun v1 =>
  bw_istore_n hZ rfl (by decide) rfl dX12_settle_4 <|
  bw_aload_n hZ 1 rfl dX12_settle_5 <|
  bw_getI hZ fl_RX12_10 (by decide) obM_0 dX12_settle_6 <|
  bw_nm fun v2 =>
  bw_istore_n hZ rfl (by decide) rfl dX12_settle_9 <|
  bw_aload_n hZ 2 rfl dX12_settle_10 <|
  bw_callVV (As := []) hZ ml_RX12_403 rc_12 obM_0 (by decide) (c_X12_open (zl Z) (zY Z) (hZ_S hZ) w) rfl rfl (Nat.le_of_ble_eq_true rfl) dX12_settle_11 fun w3 =>
  bw_aload_n hZ 2 rfl dX12_settle_14 <|
  bw_iload_n hZ 1 rfl dX12_settle_15 <|
  bw_putI hZ fl_RX12_1 rfl rfl (by decide) obM_0 dX12_settle_16 fun w4 =>
  bw_aload_n hZ 2 rfl dX12_settle_19 <|
  bw_iload_n hZ 0 rfl dX12_settle_20 <|
  bw_putI hZ fl_RX12_10 rfl rfl (by decide) obM_0 dX12_settle_21 fun w5 =>
  bw_iconst hZ 0 (by decide) dX12_settle_24 <|
  bw_istore_n hZ rfl (by decide) rfl dX12_settle_25 <|
  bw_sub [3, 0] rfl (t_X12_settle_b26_L hZ hE 0 w5)
theorem c_X12_settle (l : Launch) (Y : Ev) (hY : Y.1 = SM)   (w : Wd) : CI l Y yX12_settle cX12_settle 7 28 [.ref (ph Y 0)] w .int (f_X12_settle w) := by
  refine CI_of (S := SM) (by decide) (Nat.le_of_ble_eq_true rfl) hY ?_
  intro Z hl hY2 hZ hE
  subst hY2
  exact t_X12_settle hZ hE w
-- WhichWillModel.goesTo
theorem dX12_goesTo_0 : decode cX12_goesTo 0 = .ok (.iconst 0, 1) := by decide +kernel
theorem dX12_goesTo_1 : decode cX12_goesTo 1 = .ok (.istore 4, 2) := by decide +kernel
theorem dX12_goesTo_3 : decode cX12_goesTo 3 = .ok (.iconst 0, 1) := by decide +kernel
theorem dX12_goesTo_4 : decode cX12_goesTo 4 = .ok (.istore 5, 2) := by decide +kernel
theorem dX12_goesTo_6 : decode cX12_goesTo 6 = .ok (.iload 5, 2) := by decide +kernel
theorem dX12_goesTo_8 : decode cX12_goesTo 8 = .ok (.aload_n 0, 1) := by decide +kernel
theorem dX12_goesTo_9 : decode cX12_goesTo 9 = .ok (.invokevirtual 622, 3) := by decide +kernel
theorem dX12_goesTo_12 : decode cX12_goesTo 12 = .ok (.if_icmp .ge 73, 3) := by decide +kernel
theorem dX12_goesTo_15 : decode cX12_goesTo 15 = .ok (.iload_n 3, 1) := by decide +kernel
theorem dX12_goesTo_16 : decode cX12_goesTo 16 = .ok (.iconst (-1), 1) := by decide +kernel
theorem dX12_goesTo_17 : decode cX12_goesTo 17 = .ok (.if_icmp .eq 30, 3) := by decide +kernel
theorem dX12_goesTo_20 : decode cX12_goesTo 20 = .ok (.aload_n 0, 1) := by decide +kernel
theorem dX12_goesTo_21 : decode cX12_goesTo 21 = .ok (.getfield 339, 3) := by decide +kernel
theorem dX12_goesTo_24 : decode cX12_goesTo 24 = .ok (.bipush 6, 2) := by decide +kernel
theorem dX12_goesTo_26 : decode cX12_goesTo 26 = .ok (.iload 5, 2) := by decide +kernel
theorem dX12_goesTo_28 : decode cX12_goesTo 28 = .ok (.bipush 8, 2) := by decide +kernel
theorem dX12_goesTo_30 : decode cX12_goesTo 30 = .ok (.idiv, 1) := by decide +kernel
theorem dX12_goesTo_31 : decode cX12_goesTo 31 = .ok (.imul, 1) := by decide +kernel
theorem dX12_goesTo_32 : decode cX12_goesTo 32 = .ok (.aload_n 0, 1) := by decide +kernel
theorem dX12_goesTo_33 : decode cX12_goesTo 33 = .ok (.invokevirtual 552, 3) := by decide +kernel
theorem dX12_goesTo_36 : decode cX12_goesTo 36 = .ok (.iadd, 1) := by decide +kernel
theorem dX12_goesTo_37 : decode cX12_goesTo 37 = .ok (.iconst 1, 1) := by decide +kernel
theorem dX12_goesTo_38 : decode cX12_goesTo 38 = .ok (.isub, 1) := by decide +kernel
theorem dX12_goesTo_39 : decode cX12_goesTo 39 = .ok (.iaload, 1) := by decide +kernel
theorem dX12_goesTo_40 : decode cX12_goesTo 40 = .ok (.iload_n 3, 1) := by decide +kernel
theorem dX12_goesTo_41 : decode cX12_goesTo 41 = .ok (.if_icmp .eq 6, 3) := by decide +kernel
theorem dX12_goesTo_44 : decode cX12_goesTo 44 = .ok (.goto 35, 3) := by decide +kernel
theorem dX12_goesTo_47 : decode cX12_goesTo 47 = .ok (.iconst 1, 1) := by decide +kernel
theorem dX12_goesTo_48 : decode cX12_goesTo 48 = .ok (.istore 4, 2) := by decide +kernel
theorem dX12_goesTo_50 : decode cX12_goesTo 50 = .ok (.aload_n 0, 1) := by decide +kernel
theorem dX12_goesTo_51 : decode cX12_goesTo 51 = .ok (.iload 5, 2) := by decide +kernel
theorem dX12_goesTo_53 : decode cX12_goesTo 53 = .ok (.invokevirtual 673, 3) := by decide +kernel
theorem dX12_goesTo_56 : decode cX12_goesTo 56 = .ok (.aload_n 0, 1) := by decide +kernel
theorem dX12_goesTo_57 : decode cX12_goesTo 57 = .ok (.iload_n 1, 1) := by decide +kernel
theorem dX12_goesTo_58 : decode cX12_goesTo 58 = .ok (.invokevirtual 676, 3) := by decide +kernel
theorem dX12_goesTo_61 : decode cX12_goesTo 61 = .ok (.pop, 1) := by decide +kernel
theorem dX12_goesTo_62 : decode cX12_goesTo 62 = .ok (.aload_n 0, 1) := by decide +kernel
theorem dX12_goesTo_63 : decode cX12_goesTo 63 = .ok (.getfield 357, 3) := by decide +kernel
theorem dX12_goesTo_66 : decode cX12_goesTo 66 = .ok (.iload_n 2, 1) := by decide +kernel
theorem dX12_goesTo_67 : decode cX12_goesTo 67 = .ok (.iaload, 1) := by decide +kernel
theorem dX12_goesTo_68 : decode cX12_goesTo 68 = .ok (.aload_n 0, 1) := by decide +kernel
theorem dX12_goesTo_69 : decode cX12_goesTo 69 = .ok (.getfield 252, 3) := by decide +kernel
theorem dX12_goesTo_72 : decode cX12_goesTo 72 = .ok (.iload_n 1, 1) := by decide +kernel
theorem dX12_goesTo_73 : decode cX12_goesTo 73 = .ok (.iaload, 1) := by decide +kernel
theorem dX12_goesTo_74 : decode cX12_goesTo 74 = .ok (.if_icmp .eq 5, 3) := by decide +kernel
theorem dX12_goesTo_77 : decode cX12_goesTo 77 = .ok (.iconst 0, 1) := by decide +kernel
theorem dX12_goesTo_78 : decode cX12_goesTo 78 = .ok (.ireturn, 1) := by decide +kernel
theorem dX12_goesTo_79 : decode cX12_goesTo 79 = .ok (.iinc 5 1, 3) := by decide +kernel
theorem dX12_goesTo_82 : decode cX12_goesTo 82 = .ok (.goto (-76), 3) := by decide +kernel
theorem dX12_goesTo_85 : decode cX12_goesTo 85 = .ok (.iload 4, 2) := by decide +kernel
theorem dX12_goesTo_87 : decode cX12_goesTo 87 = .ok (.ireturn, 1) := by decide +kernel
def X12_goesTo_b47 (k6 : Int32 → Int32 → Int32 → Int32 → Int32 → Wd → Option (Int32 × Wd)) (y1 : Int32) (y2 : Int32) (y3 : Int32) (y5 : Int32) (w : Wd) : Option (Int32 × Wd) :=
  cv (f_X12_goWay y5 w) fun w3 =>
  cl (f_X12_goThing y1 w3) fun r5 w4 =>
  if inb y2 8 = true then
  (if inb y1 8 = true then
  (if (w4.1 48 (Int32.toNatClampNeg y2)) = (w4.1 5 (Int32.toNatClampNeg y1)) then
  (k6 y1 y2 y3 1 (y5 + 1) w4)
  else
  some (0, w4))
  else none)
  else none
set_option maxRecDepth 100000 in
set_option maxHeartbeats 4000000 in
theorem t_X12_goesTo_b47 {Z : Cz (Int32 × Wd)} (hZ : OKZ Z SM cX12_goesTo RX12 6 (some .boolean) 25) (hE : EndI Z) (k6 : Int32 → Int32 → Int32 → Int32 → Int32 → Wd → Option (Int32 × Wd)) (hk6 : ∀ (y1 : Int32) (y2 : Int32) (y3 : Int32) (y4 : Int32) (y5 : Int32)  (w : Wd), BW Z 6 6 [(0, .ref (ph (zY Z) 0)), (1, .int y1), (2, .int y2), (3, .int y3), (4, .int y4), (5, .int y5)] [] w (k6 y1 y2 y3 y4 y5 w)) (y1 : Int32) (y2 : Int32) (y3 : Int32) (y5 : Int32)  (w : Wd) : BW Z 6 47 [(0, .ref (ph (zY Z) 0)), (1, .int y1), (2, .int y2), (3, .int y3), (5, .int y5)] [] w (X12_goesTo_b47 k6 y1 y2 y3 y5 w) :=
  bw_iconst hZ 1 (by decide) dX12_goesTo_47 <|
  bw_istore hZ (by decide) rfl dX12_goesTo_48 <|
  bw_aload_n hZ 1 rfl dX12_goesTo_50 <|
  bw_iload hZ 5 rfl dX12_goesTo_51 <|
  bw_callVV (As := [.int y5]) hZ ml_RX12_673 rc_12 obM_0 (by decide) (c_X12_goWay (zl Z) (zY Z) (hZ_S hZ) y5 w) rfl rfl (Nat.le_of_ble_eq_true rfl) dX12_goesTo_53 fun w3 =>
  bw_aload_n hZ 1 rfl dX12_goesTo_56 <|
  bw_iload_n hZ 2 rfl dX12_goesTo_57 <|
  bw_callVI (As := [.int y1]) hZ ml_RX12_676 rc_12 obM_0 (by decide) (c_X12_goThing (zl Z) (zY Z) (hZ_S hZ) y1 w3) rfl rfl (Nat.le_of_ble_eq_true rfl) dX12_goesTo_58 fun r5 w4 =>
  bw_pop hZ rfl dX12_goesTo_61 <|
  bw_aload_n hZ 1 rfl dX12_goesTo_62 <|
  bw_getR hZ fl_RX12_357 obM_0 rfl dX12_goesTo_63 <|
  bw_iload_n hZ 3 rfl dX12_goesTo_66 <|
  bw_iald hZ (arM_48 _) dX12_goesTo_67 <|
  bw_aload_n hZ 1 rfl dX12_goesTo_68 <|
  bw_getR hZ fl_RX12_252 obM_0 rfl dX12_goesTo_69 <|
  bw_iload_n hZ 2 rfl dX12_goesTo_72 <|
  bw_iald hZ (arM_5 _) dX12_goesTo_73 <|
  bw_icmp_eq hZ (tgt := 79) (by decide) dX12_goesTo_74 (fun _ =>
  bw_iinc hZ 1 5 rfl (by decide) (by decide) rfl dX12_goesTo_79 <|
  bw_goto hZ (tgt := 6) (by decide) dX12_goesTo_82 <|
  bw_sub [2, 3, 4, 5, 1, 0] rfl (hk6 y1 y2 y3 1 (y5 + 1) w4)) (fun _ =>
  bw_iconst hZ 0 (by decide) dX12_goesTo_77 <|
  bw_zret hZ hE (by decide) dX12_goesTo_78)
def X12_goesTo_b6 (k6 : Int32 → Int32 → Int32 → Int32 → Int32 → Wd → Option (Int32 × Wd)) (y1 : Int32) (y2 : Int32) (y3 : Int32) (y4 : Int32) (y5 : Int32) (w : Wd) : Option (Int32 × Wd) :=
  cl (f_X12_allWays w) fun r2 w1 =>
  if r2 ≤ y5 then
  (if isB y4 = true then some (y4, w1) else none)
  else
  if y3 = ((-1)) then
  (X12_goesTo_b47 k6 y1 y2 y3 y5 w1)
  else
  cl (f_X12_items w1) fun r7 w6 =>
  if inb (((6 * (y5 / 8)) + r7) - 1) 4320 = true then
  (if (w6.1 43 (Int32.toNatClampNeg (((6 * (y5 / 8)) + r7) - 1))) = y3 then
  (X12_goesTo_b47 k6 y1 y2 y3 y5 w6)
  else
  k6 y1 y2 y3 y4 (y5 + 1) w6)
  else none
set_option maxRecDepth 100000 in
set_option maxHeartbeats 4000000 in
theorem t_X12_goesTo_b6 {Z : Cz (Int32 × Wd)} (hZ : OKZ Z SM cX12_goesTo RX12 6 (some .boolean) 25) (hE : EndI Z) (k6 : Int32 → Int32 → Int32 → Int32 → Int32 → Wd → Option (Int32 × Wd)) (hk6 : ∀ (y1 : Int32) (y2 : Int32) (y3 : Int32) (y4 : Int32) (y5 : Int32)  (w : Wd), BW Z 6 6 [(0, .ref (ph (zY Z) 0)), (1, .int y1), (2, .int y2), (3, .int y3), (4, .int y4), (5, .int y5)] [] w (k6 y1 y2 y3 y4 y5 w)) (y1 : Int32) (y2 : Int32) (y3 : Int32) (y4 : Int32) (y5 : Int32)  (w : Wd) : BW Z 6 6 [(0, .ref (ph (zY Z) 0)), (1, .int y1), (2, .int y2), (3, .int y3), (4, .int y4), (5, .int y5)] [] w (X12_goesTo_b6 k6 y1 y2 y3 y4 y5 w) :=
  bw_iload hZ 5 rfl dX12_goesTo_6 <|
  bw_aload_n hZ 0 rfl dX12_goesTo_8 <|
  bw_callVI (As := []) hZ ml_RX12_622 rc_12 obM_0 (by decide) (c_X12_allWays (zl Z) (zY Z) (hZ_S hZ) w) rfl rfl (Nat.le_of_ble_eq_true rfl) dX12_goesTo_9 fun r2 w1 =>
  bw_icmp_ge hZ (tgt := 85) (by decide) dX12_goesTo_12 (fun _ =>
  bw_iload hZ 4 rfl dX12_goesTo_85 <|
  bw_zretC hZ hE dX12_goesTo_87) (fun _ =>
  bw_iload_n hZ 3 rfl dX12_goesTo_15 <|
  bw_iconst hZ (-1) (by decide) dX12_goesTo_16 <|
  bw_icmp_eq hZ (tgt := 47) (by decide) dX12_goesTo_17 (fun _ =>
  bw_sub [0, 1, 2, 3, 5] rfl (t_X12_goesTo_b47 hZ hE k6 hk6 y1 y2 y3 y5 w1)) (fun _ =>
  bw_aload_n hZ 0 rfl dX12_goesTo_20 <|
  bw_getR hZ fl_RX12_339 obM_0 rfl dX12_goesTo_21 <|
  bw_bipush hZ 6 (by decide) dX12_goesTo_24 <|
  bw_iload hZ 5 rfl dX12_goesTo_26 <|
  bw_bipush hZ 8 (by decide) dX12_goesTo_28 <|
  bw_idivN hZ (by decide) dX12_goesTo_30 <|
  bw_imul hZ dX12_goesTo_31 <|
  bw_aload_n hZ 0 rfl dX12_goesTo_32 <|
  bw_callVI (As := []) hZ ml_RX12_552 rc_12 obM_0 (by decide) (c_X12_items (zl Z) (zY Z) (hZ_S hZ) w1) rfl rfl (Nat.le_of_ble_eq_true rfl) dX12_goesTo_33 fun r7 w6 =>
  bw_iadd hZ dX12_goesTo_36 <|
  bw_iconst hZ 1 (by decide) dX12_goesTo_37 <|
  bw_isub hZ dX12_goesTo_38 <|
  bw_iald hZ (arM_43 _) dX12_goesTo_39 <|
  bw_iload_n hZ 3 rfl dX12_goesTo_40 <|
  bw_icmp_eq hZ (tgt := 47) (by decide) dX12_goesTo_41 (fun _ =>
  bw_sub [0, 1, 2, 3, 5] rfl (t_X12_goesTo_b47 hZ hE k6 hk6 y1 y2 y3 y5 w6)) (fun _ =>
  bw_goto hZ (tgt := 79) (by decide) dX12_goesTo_44 <|
  bw_iinc hZ 1 5 rfl (by decide) (by decide) rfl dX12_goesTo_79 <|
  bw_goto hZ (tgt := 6) (by decide) dX12_goesTo_82 <|
  bw_sub [1, 2, 3, 4, 5, 0] rfl (hk6 y1 y2 y3 y4 (y5 + 1) w6))))
def X12_goesTo_b6_L  : Int32 → Int32 → Int32 → Int32 → Int32 → Wd → Option (Int32 × Wd) :=
  lp fu (fun _ _ _ _ _ _ => none) (fun k6 => X12_goesTo_b6 k6)
theorem t_X12_goesTo_b6_L {Z : Cz (Int32 × Wd)} (hZ : OKZ Z SM cX12_goesTo RX12 6 (some .boolean) 25) (hE : EndI Z)  : ∀ (y1 : Int32) (y2 : Int32) (y3 : Int32) (y4 : Int32) (y5 : Int32)  (w : Wd), BW Z 6 6 [(0, .ref (ph (zY Z) 0)), (1, .int y1), (2, .int y2), (3, .int y3), (4, .int y4), (5, .int y5)] [] w (X12_goesTo_b6_L y1 y2 y3 y4 y5 w) :=
  lp_bw (fun k6 => ∀ (y1 : Int32) (y2 : Int32) (y3 : Int32) (y4 : Int32) (y5 : Int32)  (w : Wd), BW Z 6 6 [(0, .ref (ph (zY Z) 0)), (1, .int y1), (2, .int y2), (3, .int y3), (4, .int y4), (5, .int y5)] [] w (k6 y1 y2 y3 y4 y5 w)) (fun _ _ _ _ _ _ => bw_none) (fun k6 hk6 y1 y2 y3 y4 y5 w => t_X12_goesTo_b6 hZ hE k6 hk6 y1 y2 y3 y4 y5 w) fu
def f_X12_goesTo (x1 : Int32) (x2 : Int32) (x3 : Int32) (w : Wd) : Option (Int32 × Wd) :=
  X12_goesTo_b6_L x1 x2 x3 0 0 w
set_option maxRecDepth 100000 in
set_option maxHeartbeats 4000000 in
theorem t_X12_goesTo {Z : Cz (Int32 × Wd)} (hZ : OKZ Z SM cX12_goesTo RX12 6 (some .boolean) 25) (hE : EndI Z) (x1 : Int32) (x2 : Int32) (x3 : Int32)  (w : Wd) : BW Z 6 0 [(0, .ref (ph (zY Z) 0)), (1, .int x1), (2, .int x2), (3, .int x3)] [] w (f_X12_goesTo x1 x2 x3 w) :=
  bw_iconst hZ 0 (by decide) dX12_goesTo_0 <|
  bw_istore hZ (by decide) rfl dX12_goesTo_1 <|
  bw_iconst hZ 0 (by decide) dX12_goesTo_3 <|
  bw_istore hZ (by decide) rfl dX12_goesTo_4 <|
  bw_sub [2, 3, 4, 5, 1, 0] rfl (t_X12_goesTo_b6_L hZ hE x1 x2 x3 0 0 w)
theorem c_X12_goesTo (l : Launch) (Y : Ev) (hY : Y.1 = SM) (x1 : Int32) (x2 : Int32) (x3 : Int32)  (w : Wd) : CI l Y yX12_goesTo cX12_goesTo 6 25 [.ref (ph Y 0), .int x1, .int x2, .int x3] w .boolean (f_X12_goesTo x1 x2 x3 w) := by
  refine CI_of (S := SM) (by decide) (Nat.le_of_ble_eq_true rfl) hY ?_
  intro Z hl hY2 hZ hE
  subst hY2
  exact t_X12_goesTo hZ hE x1 x2 x3 w
-- WhichWillModel.isMended
theorem dX12_isMended_0 : decode cX12_isMended 0 = .ok (.aload_n 0, 1) := by decide +kernel
theorem dX12_isMended_1 : decode cX12_isMended 1 = .ok (.getfield 300, 3) := by decide +kernel
theorem dX12_isMended_4 : decode cX12_isMended 4 = .ok (.iload_n 1, 1) := by decide +kernel
theorem dX12_isMended_5 : decode cX12_isMended 5 = .ok (.baload, 1) := by decide +kernel
theorem dX12_isMended_6 : decode cX12_isMended 6 = .ok (.istore 5, 2) := by decide +kernel
theorem dX12_isMended_8 : decode cX12_isMended 8 = .ok (.aload_n 0, 1) := by decide +kernel
theorem dX12_isMended_9 : decode cX12_isMended 9 = .ok (.getfield 294, 3) := by decide +kernel
theorem dX12_isMended_12 : decode cX12_isMended 12 = .ok (.iload_n 1, 1) := by decide +kernel
theorem dX12_isMended_13 : decode cX12_isMended 13 = .ok (.baload, 1) := by decide +kernel
theorem dX12_isMended_14 : decode cX12_isMended 14 = .ok (.istore 6, 2) := by decide +kernel
theorem dX12_isMended_16 : decode cX12_isMended 16 = .ok (.aload_n 0, 1) := by decide +kernel
theorem dX12_isMended_17 : decode cX12_isMended 17 = .ok (.getfield 297, 3) := by decide +kernel
theorem dX12_isMended_20 : decode cX12_isMended 20 = .ok (.iload_n 1, 1) := by decide +kernel
theorem dX12_isMended_21 : decode cX12_isMended 21 = .ok (.baload, 1) := by decide +kernel
theorem dX12_isMended_22 : decode cX12_isMended 22 = .ok (.istore 7, 2) := by decide +kernel
theorem dX12_isMended_24 : decode cX12_isMended 24 = .ok (.aload_n 0, 1) := by decide +kernel
theorem dX12_isMended_25 : decode cX12_isMended 25 = .ok (.getfield 303, 3) := by decide +kernel
theorem dX12_isMended_28 : decode cX12_isMended 28 = .ok (.iload_n 1, 1) := by decide +kernel
theorem dX12_isMended_29 : decode cX12_isMended 29 = .ok (.baload, 1) := by decide +kernel
theorem dX12_isMended_30 : decode cX12_isMended 30 = .ok (.istore 8, 2) := by decide +kernel
theorem dX12_isMended_32 : decode cX12_isMended 32 = .ok (.aload_n 0, 1) := by decide +kernel
theorem dX12_isMended_33 : decode cX12_isMended 33 = .ok (.getfield 300, 3) := by decide +kernel
theorem dX12_isMended_36 : decode cX12_isMended 36 = .ok (.iload_n 1, 1) := by decide +kernel
theorem dX12_isMended_37 : decode cX12_isMended 37 = .ok (.iload 5, 2) := by decide +kernel
theorem dX12_isMended_39 : decode cX12_isMended 39 = .ok (.ifCond .ne 10, 3) := by decide +kernel
theorem dX12_isMended_42 : decode cX12_isMended 42 = .ok (.iload 4, 2) := by decide +kernel
theorem dX12_isMended_44 : decode cX12_isMended 44 = .ok (.iconst 1, 1) := by decide +kernel
theorem dX12_isMended_45 : decode cX12_isMended 45 = .ok (.iand, 1) := by decide +kernel
theorem dX12_isMended_46 : decode cX12_isMended 46 = .ok (.ifCond .eq 7, 3) := by decide +kernel
theorem dX12_isMended_49 : decode cX12_isMended 49 = .ok (.iconst 1, 1) := by decide +kernel
theorem dX12_isMended_50 : decode cX12_isMended 50 = .ok (.goto 4, 3) := by decide +kernel
theorem dX12_isMended_53 : decode cX12_isMended 53 = .ok (.iconst 0, 1) := by decide +kernel
theorem dX12_isMended_54 : decode cX12_isMended 54 = .ok (.bastore, 1) := by decide +kernel
theorem dX12_isMended_55 : decode cX12_isMended 55 = .ok (.aload_n 0, 1) := by decide +kernel
theorem dX12_isMended_56 : decode cX12_isMended 56 = .ok (.getfield 294, 3) := by decide +kernel
theorem dX12_isMended_59 : decode cX12_isMended 59 = .ok (.iload_n 1, 1) := by decide +kernel
theorem dX12_isMended_60 : decode cX12_isMended 60 = .ok (.iload 6, 2) := by decide +kernel
theorem dX12_isMended_62 : decode cX12_isMended 62 = .ok (.ifCond .ne 10, 3) := by decide +kernel
theorem dX12_isMended_65 : decode cX12_isMended 65 = .ok (.iload 4, 2) := by decide +kernel
theorem dX12_isMended_67 : decode cX12_isMended 67 = .ok (.iconst 2, 1) := by decide +kernel
theorem dX12_isMended_68 : decode cX12_isMended 68 = .ok (.iand, 1) := by decide +kernel
theorem dX12_isMended_69 : decode cX12_isMended 69 = .ok (.ifCond .eq 7, 3) := by decide +kernel
theorem dX12_isMended_72 : decode cX12_isMended 72 = .ok (.iconst 1, 1) := by decide +kernel
theorem dX12_isMended_73 : decode cX12_isMended 73 = .ok (.goto 4, 3) := by decide +kernel
theorem dX12_isMended_76 : decode cX12_isMended 76 = .ok (.iconst 0, 1) := by decide +kernel
theorem dX12_isMended_77 : decode cX12_isMended 77 = .ok (.bastore, 1) := by decide +kernel
theorem dX12_isMended_78 : decode cX12_isMended 78 = .ok (.aload_n 0, 1) := by decide +kernel
theorem dX12_isMended_79 : decode cX12_isMended 79 = .ok (.getfield 297, 3) := by decide +kernel
theorem dX12_isMended_82 : decode cX12_isMended 82 = .ok (.iload_n 1, 1) := by decide +kernel
theorem dX12_isMended_83 : decode cX12_isMended 83 = .ok (.iload 7, 2) := by decide +kernel
theorem dX12_isMended_85 : decode cX12_isMended 85 = .ok (.ifCond .eq 14, 3) := by decide +kernel
theorem dX12_isMended_88 : decode cX12_isMended 88 = .ok (.iload 4, 2) := by decide +kernel
theorem dX12_isMended_90 : decode cX12_isMended 90 = .ok (.iconst 4, 1) := by decide +kernel
theorem dX12_isMended_91 : decode cX12_isMended 91 = .ok (.iand, 1) := by decide +kernel
theorem dX12_isMended_92 : decode cX12_isMended 92 = .ok (.ifCond .ne 7, 3) := by decide +kernel
theorem dX12_isMended_95 : decode cX12_isMended 95 = .ok (.iconst 1, 1) := by decide +kernel
theorem dX12_isMended_96 : decode cX12_isMended 96 = .ok (.goto 4, 3) := by decide +kernel
theorem dX12_isMended_99 : decode cX12_isMended 99 = .ok (.iconst 0, 1) := by decide +kernel
theorem dX12_isMended_100 : decode cX12_isMended 100 = .ok (.bastore, 1) := by decide +kernel
theorem dX12_isMended_101 : decode cX12_isMended 101 = .ok (.aload_n 0, 1) := by decide +kernel
theorem dX12_isMended_102 : decode cX12_isMended 102 = .ok (.getfield 303, 3) := by decide +kernel
theorem dX12_isMended_105 : decode cX12_isMended 105 = .ok (.iload_n 1, 1) := by decide +kernel
theorem dX12_isMended_106 : decode cX12_isMended 106 = .ok (.iload 8, 2) := by decide +kernel
theorem dX12_isMended_108 : decode cX12_isMended 108 = .ok (.ifCond .ne 11, 3) := by decide +kernel
theorem dX12_isMended_111 : decode cX12_isMended 111 = .ok (.iload 4, 2) := by decide +kernel
theorem dX12_isMended_113 : decode cX12_isMended 113 = .ok (.bipush 16, 2) := by decide +kernel
theorem dX12_isMended_115 : decode cX12_isMended 115 = .ok (.iand, 1) := by decide +kernel
theorem dX12_isMended_116 : decode cX12_isMended 116 = .ok (.ifCond .eq 7, 3) := by decide +kernel
theorem dX12_isMended_119 : decode cX12_isMended 119 = .ok (.iconst 1, 1) := by decide +kernel
theorem dX12_isMended_120 : decode cX12_isMended 120 = .ok (.goto 4, 3) := by decide +kernel
theorem dX12_isMended_123 : decode cX12_isMended 123 = .ok (.iconst 0, 1) := by decide +kernel
theorem dX12_isMended_124 : decode cX12_isMended 124 = .ok (.bastore, 1) := by decide +kernel
theorem dX12_isMended_125 : decode cX12_isMended 125 = .ok (.aload_n 0, 1) := by decide +kernel
theorem dX12_isMended_126 : decode cX12_isMended 126 = .ok (.iload_n 1, 1) := by decide +kernel
theorem dX12_isMended_127 : decode cX12_isMended 127 = .ok (.putfield 345, 3) := by decide +kernel
theorem dX12_isMended_130 : decode cX12_isMended 130 = .ok (.aload_n 0, 1) := by decide +kernel
theorem dX12_isMended_131 : decode cX12_isMended 131 = .ok (.iload 4, 2) := by decide +kernel
theorem dX12_isMended_133 : decode cX12_isMended 133 = .ok (.iconst 3, 1) := by decide +kernel
theorem dX12_isMended_134 : decode cX12_isMended 134 = .ok (.ishr, 1) := by decide +kernel
theorem dX12_isMended_135 : decode cX12_isMended 135 = .ok (.iconst 1, 1) := by decide +kernel
theorem dX12_isMended_136 : decode cX12_isMended 136 = .ok (.iand, 1) := by decide +kernel
theorem dX12_isMended_137 : decode cX12_isMended 137 = .ok (.putfield 595, 3) := by decide +kernel
theorem dX12_isMended_140 : decode cX12_isMended 140 = .ok (.aload_n 0, 1) := by decide +kernel
theorem dX12_isMended_141 : decode cX12_isMended 141 = .ok (.iload_n 2, 1) := by decide +kernel
theorem dX12_isMended_142 : decode cX12_isMended 142 = .ok (.iload_n 3, 1) := by decide +kernel
theorem dX12_isMended_143 : decode cX12_isMended 143 = .ok (.iload 4, 2) := by decide +kernel
theorem dX12_isMended_145 : decode cX12_isMended 145 = .ok (.bipush 32, 2) := by decide +kernel
theorem dX12_isMended_147 : decode cX12_isMended 147 = .ok (.iand, 1) := by decide +kernel
theorem dX12_isMended_148 : decode cX12_isMended 148 = .ok (.ifCond .eq 7, 3) := by decide +kernel
theorem dX12_isMended_151 : decode cX12_isMended 151 = .ok (.iload_n 1, 1) := by decide +kernel
theorem dX12_isMended_152 : decode cX12_isMended 152 = .ok (.goto 4, 3) := by decide +kernel
theorem dX12_isMended_155 : decode cX12_isMended 155 = .ok (.iconst (-1), 1) := by decide +kernel
theorem dX12_isMended_156 : decode cX12_isMended 156 = .ok (.invokevirtual 739, 3) := by decide +kernel
theorem dX12_isMended_159 : decode cX12_isMended 159 = .ok (.istore 9, 2) := by decide +kernel
theorem dX12_isMended_161 : decode cX12_isMended 161 = .ok (.aload_n 0, 1) := by decide +kernel
theorem dX12_isMended_162 : decode cX12_isMended 162 = .ok (.iconst (-1), 1) := by decide +kernel
theorem dX12_isMended_163 : decode cX12_isMended 163 = .ok (.putfield 345, 3) := by decide +kernel
theorem dX12_isMended_166 : decode cX12_isMended 166 = .ok (.aload_n 0, 1) := by decide +kernel
theorem dX12_isMended_167 : decode cX12_isMended 167 = .ok (.getfield 300, 3) := by decide +kernel
theorem dX12_isMended_170 : decode cX12_isMended 170 = .ok (.iload_n 1, 1) := by decide +kernel
theorem dX12_isMended_171 : decode cX12_isMended 171 = .ok (.iload 5, 2) := by decide +kernel
theorem dX12_isMended_173 : decode cX12_isMended 173 = .ok (.bastore, 1) := by decide +kernel
theorem dX12_isMended_174 : decode cX12_isMended 174 = .ok (.aload_n 0, 1) := by decide +kernel
theorem dX12_isMended_175 : decode cX12_isMended 175 = .ok (.getfield 294, 3) := by decide +kernel
theorem dX12_isMended_178 : decode cX12_isMended 178 = .ok (.iload_n 1, 1) := by decide +kernel
theorem dX12_isMended_179 : decode cX12_isMended 179 = .ok (.iload 6, 2) := by decide +kernel
theorem dX12_isMended_181 : decode cX12_isMended 181 = .ok (.bastore, 1) := by decide +kernel
theorem dX12_isMended_182 : decode cX12_isMended 182 = .ok (.aload_n 0, 1) := by decide +kernel
theorem dX12_isMended_183 : decode cX12_isMended 183 = .ok (.getfield 297, 3) := by decide +kernel
theorem dX12_isMended_186 : decode cX12_isMended 186 = .ok (.iload_n 1, 1) := by decide +kernel
theorem dX12_isMended_187 : decode cX12_isMended 187 = .ok (.iload 7, 2) := by decide +kernel
theorem dX12_isMended_189 : decode cX12_isMended 189 = .ok (.bastore, 1) := by decide +kernel
theorem dX12_isMended_190 : decode cX12_isMended 190 = .ok (.aload_n 0, 1) := by decide +kernel
theorem dX12_isMended_191 : decode cX12_isMended 191 = .ok (.getfield 303, 3) := by decide +kernel
theorem dX12_isMended_194 : decode cX12_isMended 194 = .ok (.iload_n 1, 1) := by decide +kernel
theorem dX12_isMended_195 : decode cX12_isMended 195 = .ok (.iload 8, 2) := by decide +kernel
theorem dX12_isMended_197 : decode cX12_isMended 197 = .ok (.bastore, 1) := by decide +kernel
theorem dX12_isMended_198 : decode cX12_isMended 198 = .ok (.iload 9, 2) := by decide +kernel
theorem dX12_isMended_200 : decode cX12_isMended 200 = .ok (.ireturn, 1) := by decide +kernel
def X12_isMended_b156 (y1 : Int32) (y5 : Int32) (y6 : Int32) (y7 : Int32) (y8 : Int32) (t0 : Int32) (t1 : Int32) (t2 : Int32) (w : Wd) : Option (Int32 × Wd) :=
  cl (f_X12_goesTo t2 t1 t0 w) fun r12 w11 =>
  lt (wI w11 0 80 ((-1))) fun w13 =>
  if inb y1 4 = true then
  (lt (wI w13 30 (Int32.toNatClampNeg y1) (vp_nar .boolean y5)) fun w14 =>
  if inb y1 4 = true then
  (lt (wI w14 28 (Int32.toNatClampNeg y1) (vp_nar .boolean y6)) fun w15 =>
  if inb y1 4 = true then
  (lt (wI w15 29 (Int32.toNatClampNeg y1) (vp_nar .boolean y7)) fun w16 =>
  if inb y1 4 = true then
  (lt (wI w16 31 (Int32.toNatClampNeg y1) (vp_nar .boolean y8)) fun w17 =>
  if isB r12 = true then some (r12, w17) else none)
  else none)
  else none)
  else none)
  else none
set_option maxRecDepth 100000 in
set_option maxHeartbeats 4000000 in
theorem t_X12_isMended_b156 {Z : Cz (Int32 × Wd)} (hZ : OKZ Z SM cX12_isMended RX12 10 (some .boolean) 26) (hE : EndI Z)  (y1 : Int32) (y5 : Int32) (y6 : Int32) (y7 : Int32) (y8 : Int32) (t0 : Int32) (t1 : Int32) (t2 : Int32)  (w : Wd) : BW Z 10 156 [(0, .ref (ph (zY Z) 0)), (1, .int y1), (5, .int y5), (6, .int y6), (7, .int y7), (8, .int y8)] [.int t0, .int t1, .int t2, .ref (ph (zY Z) 0)] w (X12_isMended_b156 y1 y5 y6 y7 y8 t0 t1 t2 w) :=
  bw_callVI (As := [.int t2, .int t1, .int t0]) hZ ml_RX12_739 rc_12 obM_0 (by decide) (c_X12_goesTo (zl Z) (zY Z) (hZ_S hZ) t2 t1 t0 w) rfl rfl (Nat.le_of_ble_eq_true rfl) dX12_isMended_156 fun r12 w11 =>
  bw_istore hZ (by decide) rfl dX12_isMended_159 <|
  bw_aload_n hZ 1 rfl dX12_isMended_161 <|
  bw_iconst hZ (-1) (by decide) dX12_isMended_162 <|
  bw_putI hZ fl_RX12_345 rfl rfl (by decide) obM_0 dX12_isMended_163 fun w13 =>
  bw_aload_n hZ 1 rfl dX12_isMended_166 <|
  bw_getR hZ fl_RX12_300 obM_0 rfl dX12_isMended_167 <|
  bw_iload_n hZ 2 rfl dX12_isMended_170 <|
  bw_iload hZ 3 rfl dX12_isMended_171 <|
  bw_zast hZ (arM_30 _) dX12_isMended_173 fun w14 =>
  bw_aload_n hZ 1 rfl dX12_isMended_174 <|
  bw_getR hZ fl_RX12_294 obM_0 rfl dX12_isMended_175 <|
  bw_iload_n hZ 2 rfl dX12_isMended_178 <|
  bw_iload hZ 4 rfl dX12_isMended_179 <|
  bw_zast hZ (arM_28 _) dX12_isMended_181 fun w15 =>
  bw_aload_n hZ 1 rfl dX12_isMended_182 <|
  bw_getR hZ fl_RX12_297 obM_0 rfl dX12_isMended_183 <|
  bw_iload_n hZ 2 rfl dX12_isMended_186 <|
  bw_iload hZ 5 rfl dX12_isMended_187 <|
  bw_zast hZ (arM_29 _) dX12_isMended_189 fun w16 =>
  bw_aload_n hZ 1 rfl dX12_isMended_190 <|
  bw_getR hZ fl_RX12_303 obM_0 rfl dX12_isMended_191 <|
  bw_iload_n hZ 2 rfl dX12_isMended_194 <|
  bw_iload hZ 6 rfl dX12_isMended_195 <|
  bw_zast hZ (arM_31 _) dX12_isMended_197 fun w17 =>
  bw_iload hZ 0 rfl dX12_isMended_198 <|
  bw_zretC hZ hE dX12_isMended_200
def X12_isMended_b124 (y1 : Int32) (y2 : Int32) (y3 : Int32) (y4 : Int32) (y5 : Int32) (y6 : Int32) (y7 : Int32) (y8 : Int32) (t0 : Int32) (t1 : Int32) (w : Wd) : Option (Int32 × Wd) :=
  if inb t1 4 = true then
  (lt (wI w 31 (Int32.toNatClampNeg t1) (vp_nar .boolean t0)) fun w8 =>
  lt (wI w8 0 80 y1) fun w9 =>
  lt (wI w9 0 81 ((y4 >>> (3 &&& 31)) &&& 1)) fun w10 =>
  if (y4 &&& 32) = 0 then
  (X12_isMended_b156 y1 y5 y6 y7 y8 ((-1)) y3 y2 w10)
  else
  X12_isMended_b156 y1 y5 y6 y7 y8 y1 y3 y2 w10)
  else none
set_option maxRecDepth 100000 in
set_option maxHeartbeats 4000000 in
theorem t_X12_isMended_b124 {Z : Cz (Int32 × Wd)} (hZ : OKZ Z SM cX12_isMended RX12 10 (some .boolean) 26) (hE : EndI Z)  (y1 : Int32) (y2 : Int32) (y3 : Int32) (y4 : Int32) (y5 : Int32) (y6 : Int32) (y7 : Int32) (y8 : Int32) (t0 : Int32) (t1 : Int32)  (w : Wd) : BW Z 10 124 [(0, .ref (ph (zY Z) 0)), (1, .int y1), (2, .int y2), (3, .int y3), (4, .int y4), (5, .int y5), (6, .int y6), (7, .int y7), (8, .int y8)] [.int t0, .int t1, .ref (ph (zY Z) 31)] w (X12_isMended_b124 y1 y2 y3 y4 y5 y6 y7 y8 t0 t1 w) :=
  bw_zast hZ (arM_31 _) dX12_isMended_124 fun w8 =>
  bw_aload_n hZ 0 rfl dX12_isMended_125 <|
  bw_iload_n hZ 1 rfl dX12_isMended_126 <|
  bw_putI hZ fl_RX12_345 rfl rfl (by decide) obM_0 dX12_isMended_127 fun w9 =>
  bw_aload_n hZ 0 rfl dX12_isMended_130 <|
  bw_iload hZ 4 rfl dX12_isMended_131 <|
  bw_iconst hZ 3 (by decide) dX12_isMended_133 <|
  bw_ishr hZ dX12_isMended_134 <|
  bw_iconst hZ 1 (by decide) dX12_isMended_135 <|
  bw_iand hZ dX12_isMended_136 <|
  bw_putI hZ fl_RX12_595 rfl rfl (by decide) obM_0 dX12_isMended_137 fun w10 =>
  bw_aload_n hZ 0 rfl dX12_isMended_140 <|
  bw_iload_n hZ 2 rfl dX12_isMended_141 <|
  bw_iload_n hZ 3 rfl dX12_isMended_142 <|
  bw_iload hZ 4 rfl dX12_isMended_143 <|
  bw_bipush hZ 32 (by decide) dX12_isMended_145 <|
  bw_iand hZ dX12_isMended_147 <|
  bw_if_eq hZ (tgt := 155) (by decide) dX12_isMended_148 (fun _ =>
  bw_iconst hZ (-1) (by decide) dX12_isMended_155 <|
  bw_sub [0, 1, 5, 6, 7, 8] rfl (t_X12_isMended_b156 hZ hE y1 y5 y6 y7 y8 ((-1)) y3 y2 w10)) (fun _ =>
  bw_iload_n hZ 1 rfl dX12_isMended_151 <|
  bw_goto hZ (tgt := 156) (by decide) dX12_isMended_152 <|
  bw_sub [0, 1, 5, 6, 7, 8] rfl (t_X12_isMended_b156 hZ hE y1 y5 y6 y7 y8 y1 y3 y2 w10))
def X12_isMended_b100 (y1 : Int32) (y2 : Int32) (y3 : Int32) (y4 : Int32) (y5 : Int32) (y6 : Int32) (y7 : Int32) (y8 : Int32) (t0 : Int32) (t1 : Int32) (w : Wd) : Option (Int32 × Wd) :=
  if inb t1 4 = true then
  (lt (wI w 29 (Int32.toNatClampNeg t1) (vp_nar .boolean t0)) fun w7 =>
  if y8 = 0 then
  (if (y4 &&& 16) = 0 then
  (X12_isMended_b124 y1 y2 y3 y4 y5 y6 y7 y8 0 y1 w7)
  else
  X12_isMended_b124 y1 y2 y3 y4 y5 y6 y7 y8 1 y1 w7)
  else
  X12_isMended_b124 y1 y2 y3 y4 y5 y6 y7 y8 1 y1 w7)
  else none
set_option maxRecDepth 100000 in
set_option maxHeartbeats 4000000 in
theorem t_X12_isMended_b100 {Z : Cz (Int32 × Wd)} (hZ : OKZ Z SM cX12_isMended RX12 10 (some .boolean) 26) (hE : EndI Z)  (y1 : Int32) (y2 : Int32) (y3 : Int32) (y4 : Int32) (y5 : Int32) (y6 : Int32) (y7 : Int32) (y8 : Int32) (t0 : Int32) (t1 : Int32)  (w : Wd) : BW Z 10 100 [(0, .ref (ph (zY Z) 0)), (1, .int y1), (2, .int y2), (3, .int y3), (4, .int y4), (5, .int y5), (6, .int y6), (7, .int y7), (8, .int y8)] [.int t0, .int t1, .ref (ph (zY Z) 29)] w (X12_isMended_b100 y1 y2 y3 y4 y5 y6 y7 y8 t0 t1 w) :=
  bw_zast hZ (arM_29 _) dX12_isMended_100 fun w7 =>
  bw_aload_n hZ 0 rfl dX12_isMended_101 <|
  bw_getR hZ fl_RX12_303 obM_0 rfl dX12_isMended_102 <|
  bw_iload_n hZ 1 rfl dX12_isMended_105 <|
  bw_iload hZ 8 rfl dX12_isMended_106 <|
  bw_if_ne hZ (tgt := 119) (by decide) dX12_isMended_108 (fun _ =>
  bw_iconst hZ 1 (by decide) dX12_isMended_119 <|
  bw_goto hZ (tgt := 124) (by decide) dX12_isMended_120 <|
  bw_sub [0, 1, 2, 3, 4, 5, 6, 7, 8] rfl (t_X12_isMended_b124 hZ hE y1 y2 y3 y4 y5 y6 y7 y8 1 y1 w7)) (fun _ =>
  bw_iload hZ 4 rfl dX12_isMended_111 <|
  bw_bipush hZ 16 (by decide) dX12_isMended_113 <|
  bw_iand hZ dX12_isMended_115 <|
  bw_if_eq hZ (tgt := 123) (by decide) dX12_isMended_116 (fun _ =>
  bw_iconst hZ 0 (by decide) dX12_isMended_123 <|
  bw_sub [0, 1, 2, 3, 4, 5, 6, 7, 8] rfl (t_X12_isMended_b124 hZ hE y1 y2 y3 y4 y5 y6 y7 y8 0 y1 w7)) (fun _ =>
  bw_iconst hZ 1 (by decide) dX12_isMended_119 <|
  bw_goto hZ (tgt := 124) (by decide) dX12_isMended_120 <|
  bw_sub [0, 1, 2, 3, 4, 5, 6, 7, 8] rfl (t_X12_isMended_b124 hZ hE y1 y2 y3 y4 y5 y6 y7 y8 1 y1 w7)))
def X12_isMended_b77 (y1 : Int32) (y2 : Int32) (y3 : Int32) (y4 : Int32) (y5 : Int32) (y6 : Int32) (y7 : Int32) (y8 : Int32) (t0 : Int32) (t1 : Int32) (w : Wd) : Option (Int32 × Wd) :=
  if inb t1 4 = true then
  (lt (wI w 28 (Int32.toNatClampNeg t1) (vp_nar .boolean t0)) fun w6 =>
  if y7 = 0 then
  (X12_isMended_b100 y1 y2 y3 y4 y5 y6 y7 y8 0 y1 w6)
  else
  if (y4 &&& 4) = 0 then
  (X12_isMended_b100 y1 y2 y3 y4 y5 y6 y7 y8 1 y1 w6)
  else
  X12_isMended_b100 y1 y2 y3 y4 y5 y6 y7 y8 0 y1 w6)
  else none
set_option maxRecDepth 100000 in
set_option maxHeartbeats 4000000 in
theorem t_X12_isMended_b77 {Z : Cz (Int32 × Wd)} (hZ : OKZ Z SM cX12_isMended RX12 10 (some .boolean) 26) (hE : EndI Z)  (y1 : Int32) (y2 : Int32) (y3 : Int32) (y4 : Int32) (y5 : Int32) (y6 : Int32) (y7 : Int32) (y8 : Int32) (t0 : Int32) (t1 : Int32)  (w : Wd) : BW Z 10 77 [(0, .ref (ph (zY Z) 0)), (1, .int y1), (2, .int y2), (3, .int y3), (4, .int y4), (5, .int y5), (6, .int y6), (7, .int y7), (8, .int y8)] [.int t0, .int t1, .ref (ph (zY Z) 28)] w (X12_isMended_b77 y1 y2 y3 y4 y5 y6 y7 y8 t0 t1 w) :=
  bw_zast hZ (arM_28 _) dX12_isMended_77 fun w6 =>
  bw_aload_n hZ 0 rfl dX12_isMended_78 <|
  bw_getR hZ fl_RX12_297 obM_0 rfl dX12_isMended_79 <|
  bw_iload_n hZ 1 rfl dX12_isMended_82 <|
  bw_iload hZ 7 rfl dX12_isMended_83 <|
  bw_if_eq hZ (tgt := 99) (by decide) dX12_isMended_85 (fun _ =>
  bw_iconst hZ 0 (by decide) dX12_isMended_99 <|
  bw_sub [0, 1, 2, 3, 4, 5, 6, 7, 8] rfl (t_X12_isMended_b100 hZ hE y1 y2 y3 y4 y5 y6 y7 y8 0 y1 w6)) (fun _ =>
  bw_iload hZ 4 rfl dX12_isMended_88 <|
  bw_iconst hZ 4 (by decide) dX12_isMended_90 <|
  bw_iand hZ dX12_isMended_91 <|
  bw_if_ne hZ (tgt := 99) (by decide) dX12_isMended_92 (fun _ =>
  bw_iconst hZ 0 (by decide) dX12_isMended_99 <|
  bw_sub [0, 1, 2, 3, 4, 5, 6, 7, 8] rfl (t_X12_isMended_b100 hZ hE y1 y2 y3 y4 y5 y6 y7 y8 0 y1 w6)) (fun _ =>
  bw_iconst hZ 1 (by decide) dX12_isMended_95 <|
  bw_goto hZ (tgt := 100) (by decide) dX12_isMended_96 <|
  bw_sub [0, 1, 2, 3, 4, 5, 6, 7, 8] rfl (t_X12_isMended_b100 hZ hE y1 y2 y3 y4 y5 y6 y7 y8 1 y1 w6)))
def X12_isMended_b54 (y1 : Int32) (y2 : Int32) (y3 : Int32) (y4 : Int32) (y5 : Int32) (y6 : Int32) (y7 : Int32) (y8 : Int32) (t0 : Int32) (t1 : Int32) (w : Wd) : Option (Int32 × Wd) :=
  if inb t1 4 = true then
  (lt (wI w 30 (Int32.toNatClampNeg t1) (vp_nar .boolean t0)) fun w5 =>
  if y6 = 0 then
  (if (y4 &&& 2) = 0 then
  (X12_isMended_b77 y1 y2 y3 y4 y5 y6 y7 y8 0 y1 w5)
  else
  X12_isMended_b77 y1 y2 y3 y4 y5 y6 y7 y8 1 y1 w5)
  else
  X12_isMended_b77 y1 y2 y3 y4 y5 y6 y7 y8 1 y1 w5)
  else none
set_option maxRecDepth 100000 in
set_option maxHeartbeats 4000000 in
theorem t_X12_isMended_b54 {Z : Cz (Int32 × Wd)} (hZ : OKZ Z SM cX12_isMended RX12 10 (some .boolean) 26) (hE : EndI Z)  (y1 : Int32) (y2 : Int32) (y3 : Int32) (y4 : Int32) (y5 : Int32) (y6 : Int32) (y7 : Int32) (y8 : Int32) (t0 : Int32) (t1 : Int32)  (w : Wd) : BW Z 10 54 [(0, .ref (ph (zY Z) 0)), (1, .int y1), (2, .int y2), (3, .int y3), (4, .int y4), (5, .int y5), (6, .int y6), (7, .int y7), (8, .int y8)] [.int t0, .int t1, .ref (ph (zY Z) 30)] w (X12_isMended_b54 y1 y2 y3 y4 y5 y6 y7 y8 t0 t1 w) :=
  bw_zast hZ (arM_30 _) dX12_isMended_54 fun w5 =>
  bw_aload_n hZ 0 rfl dX12_isMended_55 <|
  bw_getR hZ fl_RX12_294 obM_0 rfl dX12_isMended_56 <|
  bw_iload_n hZ 1 rfl dX12_isMended_59 <|
  bw_iload hZ 6 rfl dX12_isMended_60 <|
  bw_if_ne hZ (tgt := 72) (by decide) dX12_isMended_62 (fun _ =>
  bw_iconst hZ 1 (by decide) dX12_isMended_72 <|
  bw_goto hZ (tgt := 77) (by decide) dX12_isMended_73 <|
  bw_sub [0, 1, 2, 3, 4, 5, 6, 7, 8] rfl (t_X12_isMended_b77 hZ hE y1 y2 y3 y4 y5 y6 y7 y8 1 y1 w5)) (fun _ =>
  bw_iload hZ 4 rfl dX12_isMended_65 <|
  bw_iconst hZ 2 (by decide) dX12_isMended_67 <|
  bw_iand hZ dX12_isMended_68 <|
  bw_if_eq hZ (tgt := 76) (by decide) dX12_isMended_69 (fun _ =>
  bw_iconst hZ 0 (by decide) dX12_isMended_76 <|
  bw_sub [0, 1, 2, 3, 4, 5, 6, 7, 8] rfl (t_X12_isMended_b77 hZ hE y1 y2 y3 y4 y5 y6 y7 y8 0 y1 w5)) (fun _ =>
  bw_iconst hZ 1 (by decide) dX12_isMended_72 <|
  bw_goto hZ (tgt := 77) (by decide) dX12_isMended_73 <|
  bw_sub [0, 1, 2, 3, 4, 5, 6, 7, 8] rfl (t_X12_isMended_b77 hZ hE y1 y2 y3 y4 y5 y6 y7 y8 1 y1 w5)))
def f_X12_isMended (x1 : Int32) (x2 : Int32) (x3 : Int32) (x4 : Int32) (w : Wd) : Option (Int32 × Wd) :=
  if inb x1 4 = true then
  (lt (w.1 30 (Int32.toNatClampNeg x1)) fun v1 =>
  if inb x1 4 = true then
  (lt (w.1 28 (Int32.toNatClampNeg x1)) fun v2 =>
  if inb x1 4 = true then
  (lt (w.1 29 (Int32.toNatClampNeg x1)) fun v3 =>
  if inb x1 4 = true then
  (lt (w.1 31 (Int32.toNatClampNeg x1)) fun v4 =>
  if v1 = 0 then
  (if (x4 &&& 1) = 0 then
  (X12_isMended_b54 x1 x2 x3 x4 v1 v2 v3 v4 0 x1 w)
  else
  X12_isMended_b54 x1 x2 x3 x4 v1 v2 v3 v4 1 x1 w)
  else
  X12_isMended_b54 x1 x2 x3 x4 v1 v2 v3 v4 1 x1 w)
  else none)
  else none)
  else none)
  else none
set_option maxRecDepth 100000 in
set_option maxHeartbeats 4000000 in
theorem t_X12_isMended {Z : Cz (Int32 × Wd)} (hZ : OKZ Z SM cX12_isMended RX12 10 (some .boolean) 26) (hE : EndI Z) (x1 : Int32) (x2 : Int32) (x3 : Int32) (x4 : Int32)  (w : Wd) : BW Z 10 0 [(0, .ref (ph (zY Z) 0)), (1, .int x1), (2, .int x2), (3, .int x3), (4, .int x4)] [] w (f_X12_isMended x1 x2 x3 x4 w) :=
  bw_aload_n hZ 0 rfl dX12_isMended_0 <|
  bw_getR hZ fl_RX12_300 obM_0 rfl dX12_isMended_1 <|
  bw_iload_n hZ 1 rfl dX12_isMended_4 <|
  bw_zald hZ (arM_30 _) dX12_isMended_5 <|
  bw_nm fun v1 =>
  bw_istore hZ (by decide) rfl dX12_isMended_6 <|
  bw_aload_n hZ 1 rfl dX12_isMended_8 <|
  bw_getR hZ fl_RX12_294 obM_0 rfl dX12_isMended_9 <|
  bw_iload_n hZ 2 rfl dX12_isMended_12 <|
  bw_zald hZ (arM_28 _) dX12_isMended_13 <|
  bw_nm fun v2 =>
  bw_istore hZ (by decide) rfl dX12_isMended_14 <|
  bw_aload_n hZ 2 rfl dX12_isMended_16 <|
  bw_getR hZ fl_RX12_297 obM_0 rfl dX12_isMended_17 <|
  bw_iload_n hZ 3 rfl dX12_isMended_20 <|
  bw_zald hZ (arM_29 _) dX12_isMended_21 <|
  bw_nm fun v3 =>
  bw_istore hZ (by decide) rfl dX12_isMended_22 <|
  bw_aload_n hZ 3 rfl dX12_isMended_24 <|
  bw_getR hZ fl_RX12_303 obM_0 rfl dX12_isMended_25 <|
  bw_iload_n hZ 4 rfl dX12_isMended_28 <|
  bw_zald hZ (arM_31 _) dX12_isMended_29 <|
  bw_nm fun v4 =>
  bw_istore hZ (by decide) rfl dX12_isMended_30 <|
  bw_aload_n hZ 4 rfl dX12_isMended_32 <|
  bw_getR hZ fl_RX12_300 obM_0 rfl dX12_isMended_33 <|
  bw_iload_n hZ 5 rfl dX12_isMended_36 <|
  bw_iload hZ 3 rfl dX12_isMended_37 <|
  bw_if_ne hZ (tgt := 49) (by decide) dX12_isMended_39 (fun _ =>
  bw_iconst hZ 1 (by decide) dX12_isMended_49 <|
  bw_goto hZ (tgt := 54) (by decide) dX12_isMended_50 <|
  bw_sub [4, 5, 6, 7, 8, 3, 2, 1, 0] rfl (t_X12_isMended_b54 hZ hE x1 x2 x3 x4 v1 v2 v3 v4 1 x1 w)) (fun _ =>
  bw_iload hZ 8 rfl dX12_isMended_42 <|
  bw_iconst hZ 1 (by decide) dX12_isMended_44 <|
  bw_iand hZ dX12_isMended_45 <|
  bw_if_eq hZ (tgt := 53) (by decide) dX12_isMended_46 (fun _ =>
  bw_iconst hZ 0 (by decide) dX12_isMended_53 <|
  bw_sub [4, 5, 6, 7, 8, 3, 2, 1, 0] rfl (t_X12_isMended_b54 hZ hE x1 x2 x3 x4 v1 v2 v3 v4 0 x1 w)) (fun _ =>
  bw_iconst hZ 1 (by decide) dX12_isMended_49 <|
  bw_goto hZ (tgt := 54) (by decide) dX12_isMended_50 <|
  bw_sub [4, 5, 6, 7, 8, 3, 2, 1, 0] rfl (t_X12_isMended_b54 hZ hE x1 x2 x3 x4 v1 v2 v3 v4 1 x1 w)))
theorem c_X12_isMended (l : Launch) (Y : Ev) (hY : Y.1 = SM) (x1 : Int32) (x2 : Int32) (x3 : Int32) (x4 : Int32)  (w : Wd) : CI l Y yX12_isMended cX12_isMended 10 26 [.ref (ph Y 0), .int x1, .int x2, .int x3, .int x4] w .boolean (f_X12_isMended x1 x2 x3 x4 w) := by
  refine CI_of (S := SM) (by decide) (Nat.le_of_ble_eq_true rfl) hY ?_
  intro Z hl hY2 hZ hE
  subst hY2
  exact t_X12_isMended hZ hE x1 x2 x3 x4 w
-- WhichWillModel.mend
theorem dX12_mend_0 : decode cX12_mend 0 = .ok (.aload_n 0, 1) := by decide +kernel
theorem dX12_mend_1 : decode cX12_mend 1 = .ok (.iload_n 1, 1) := by decide +kernel
theorem dX12_mend_2 : decode cX12_mend 2 = .ok (.invokevirtual 525, 3) := by decide +kernel
theorem dX12_mend_5 : decode cX12_mend 5 = .ok (.ifCond .eq 19, 3) := by decide +kernel
theorem dX12_mend_8 : decode cX12_mend 8 = .ok (.aload_n 0, 1) := by decide +kernel
theorem dX12_mend_9 : decode cX12_mend 9 = .ok (.iload_n 2, 1) := by decide +kernel
theorem dX12_mend_10 : decode cX12_mend 10 = .ok (.invokevirtual 583, 3) := by decide +kernel
theorem dX12_mend_13 : decode cX12_mend 13 = .ok (.ifCond .eq 11, 3) := by decide +kernel
theorem dX12_mend_16 : decode cX12_mend 16 = .ok (.aload_n 0, 1) := by decide +kernel
theorem dX12_mend_17 : decode cX12_mend 17 = .ok (.iload_n 3, 1) := by decide +kernel
theorem dX12_mend_18 : decode cX12_mend 18 = .ok (.invokevirtual 682, 3) := by decide +kernel
theorem dX12_mend_21 : decode cX12_mend 21 = .ok (.ifCond .ne 6, 3) := by decide +kernel
theorem dX12_mend_24 : decode cX12_mend 24 = .ok (.bipush (-2), 2) := by decide +kernel
theorem dX12_mend_26 : decode cX12_mend 26 = .ok (.ireturn, 1) := by decide +kernel
theorem dX12_mend_27 : decode cX12_mend 27 = .ok (.iconst 0, 1) := by decide +kernel
theorem dX12_mend_28 : decode cX12_mend 28 = .ok (.istore 4, 2) := by decide +kernel
theorem dX12_mend_30 : decode cX12_mend 30 = .ok (.iload 4, 2) := by decide +kernel
theorem dX12_mend_32 : decode cX12_mend 32 = .ok (.bipush 6, 2) := by decide +kernel
theorem dX12_mend_34 : decode cX12_mend 34 = .ok (.if_icmp .gt 50, 3) := by decide +kernel
theorem dX12_mend_37 : decode cX12_mend 37 = .ok (.iconst 0, 1) := by decide +kernel
theorem dX12_mend_38 : decode cX12_mend 38 = .ok (.istore 5, 2) := by decide +kernel
theorem dX12_mend_40 : decode cX12_mend 40 = .ok (.iload 5, 2) := by decide +kernel
theorem dX12_mend_42 : decode cX12_mend 42 = .ok (.bipush 64, 2) := by decide +kernel
theorem dX12_mend_44 : decode cX12_mend 44 = .ok (.if_icmp .ge 34, 3) := by decide +kernel
theorem dX12_mend_47 : decode cX12_mend 47 = .ok (.iload 5, 2) := by decide +kernel
theorem dX12_mend_49 : decode cX12_mend 49 = .ok (.invokestatic 726, 3) := by decide +kernel
theorem dX12_mend_52 : decode cX12_mend 52 = .ok (.iload 4, 2) := by decide +kernel
theorem dX12_mend_54 : decode cX12_mend 54 = .ok (.if_icmp .ne 18, 3) := by decide +kernel
theorem dX12_mend_57 : decode cX12_mend 57 = .ok (.aload_n 0, 1) := by decide +kernel
theorem dX12_mend_58 : decode cX12_mend 58 = .ok (.iload_n 1, 1) := by decide +kernel
theorem dX12_mend_59 : decode cX12_mend 59 = .ok (.iload_n 2, 1) := by decide +kernel
theorem dX12_mend_60 : decode cX12_mend 60 = .ok (.iload_n 3, 1) := by decide +kernel
theorem dX12_mend_61 : decode cX12_mend 61 = .ok (.iload 5, 2) := by decide +kernel
theorem dX12_mend_63 : decode cX12_mend 63 = .ok (.invokevirtual 742, 3) := by decide +kernel
theorem dX12_mend_66 : decode cX12_mend 66 = .ok (.ifCond .eq 6, 3) := by decide +kernel
theorem dX12_mend_69 : decode cX12_mend 69 = .ok (.iload 5, 2) := by decide +kernel
theorem dX12_mend_71 : decode cX12_mend 71 = .ok (.ireturn, 1) := by decide +kernel
theorem dX12_mend_72 : decode cX12_mend 72 = .ok (.iinc 5 1, 3) := by decide +kernel
theorem dX12_mend_75 : decode cX12_mend 75 = .ok (.goto (-35), 3) := by decide +kernel
theorem dX12_mend_78 : decode cX12_mend 78 = .ok (.iinc 4 1, 3) := by decide +kernel
theorem dX12_mend_81 : decode cX12_mend 81 = .ok (.goto (-51), 3) := by decide +kernel
theorem dX12_mend_84 : decode cX12_mend 84 = .ok (.iconst (-1), 1) := by decide +kernel
theorem dX12_mend_85 : decode cX12_mend 85 = .ok (.ireturn, 1) := by decide +kernel
def X12_mend_b40 (k30 : Int32 → Int32 → Int32 → Int32 → Wd → Option (Int32 × Wd)) (k40 : Int32 → Int32 → Int32 → Int32 → Int32 → Wd → Option (Int32 × Wd)) (y1 : Int32) (y2 : Int32) (y3 : Int32) (y4 : Int32) (y5 : Int32) (w : Wd) : Option (Int32 × Wd) :=
  if 64 ≤ y5 then
  (k30 y1 y2 y3 (y4 + 1) w)
  else
  cl (f_X12_bits y5 w) fun r8 w7 =>
  if r8 = y4 then
  (cl (f_X12_isMended y1 y2 y3 y5 w7) fun r10 w9 =>
  if r10 = 0 then
  (k40 y1 y2 y3 y4 (y5 + 1) w9)
  else
  some (y5, w9))
  else
  k40 y1 y2 y3 y4 (y5 + 1) w7
set_option maxRecDepth 100000 in
set_option maxHeartbeats 4000000 in
theorem t_X12_mend_b40 {Z : Cz (Int32 × Wd)} (hZ : OKZ Z SM cX12_mend RX12 6 (some .int) 27) (hE : EndI Z) (k30 : Int32 → Int32 → Int32 → Int32 → Wd → Option (Int32 × Wd)) (hk30 : ∀ (y1 : Int32) (y2 : Int32) (y3 : Int32) (y4 : Int32)  (w : Wd), BW Z 6 30 [(0, .ref (ph (zY Z) 0)), (1, .int y1), (2, .int y2), (3, .int y3), (4, .int y4)] [] w (k30 y1 y2 y3 y4 w)) (k40 : Int32 → Int32 → Int32 → Int32 → Int32 → Wd → Option (Int32 × Wd)) (hk40 : ∀ (y1 : Int32) (y2 : Int32) (y3 : Int32) (y4 : Int32) (y5 : Int32)  (w : Wd), BW Z 6 40 [(0, .ref (ph (zY Z) 0)), (1, .int y1), (2, .int y2), (3, .int y3), (4, .int y4), (5, .int y5)] [] w (k40 y1 y2 y3 y4 y5 w)) (y1 : Int32) (y2 : Int32) (y3 : Int32) (y4 : Int32) (y5 : Int32)  (w : Wd) : BW Z 6 40 [(0, .ref (ph (zY Z) 0)), (1, .int y1), (2, .int y2), (3, .int y3), (4, .int y4), (5, .int y5)] [] w (X12_mend_b40 k30 k40 y1 y2 y3 y4 y5 w) :=
  bw_iload hZ 5 rfl dX12_mend_40 <|
  bw_bipush hZ 64 (by decide) dX12_mend_42 <|
  bw_icmp_ge hZ (tgt := 78) (by decide) dX12_mend_44 (fun _ =>
  bw_iinc hZ 1 4 rfl (by decide) (by decide) rfl dX12_mend_78 <|
  bw_goto hZ (tgt := 30) (by decide) dX12_mend_81 <|
  bw_sub [1, 2, 3, 4, 0] rfl (hk30 y1 y2 y3 (y4 + 1) w)) (fun _ =>
  bw_iload hZ 5 rfl dX12_mend_47 <|
  bw_callSI (As := [.int y5]) hZ ms_RX12_726 (by decide) (c_X12_bits (zl Z) (zY Z) (hZ_S hZ) y5 w) rfl rfl (Nat.le_of_ble_eq_true rfl) dX12_mend_49 fun r8 w7 =>
  bw_iload hZ 4 rfl dX12_mend_52 <|
  bw_icmp_ne hZ (tgt := 72) (by decide) dX12_mend_54 (fun _ =>
  bw_iinc hZ 1 5 rfl (by decide) (by decide) rfl dX12_mend_72 <|
  bw_goto hZ (tgt := 40) (by decide) dX12_mend_75 <|
  bw_sub [1, 2, 3, 4, 5, 0] rfl (hk40 y1 y2 y3 y4 (y5 + 1) w7)) (fun _ =>
  bw_aload_n hZ 0 rfl dX12_mend_57 <|
  bw_iload_n hZ 1 rfl dX12_mend_58 <|
  bw_iload_n hZ 2 rfl dX12_mend_59 <|
  bw_iload_n hZ 3 rfl dX12_mend_60 <|
  bw_iload hZ 5 rfl dX12_mend_61 <|
  bw_callVI (As := [.int y1, .int y2, .int y3, .int y5]) hZ ml_RX12_742 rc_12 obM_0 (by decide) (c_X12_isMended (zl Z) (zY Z) (hZ_S hZ) y1 y2 y3 y5 w7) rfl rfl (Nat.le_of_ble_eq_true rfl) dX12_mend_63 fun r10 w9 =>
  bw_if_eq hZ (tgt := 72) (by decide) dX12_mend_66 (fun _ =>
  bw_iinc hZ 1 5 rfl (by decide) (by decide) rfl dX12_mend_72 <|
  bw_goto hZ (tgt := 40) (by decide) dX12_mend_75 <|
  bw_sub [1, 2, 3, 4, 5, 0] rfl (hk40 y1 y2 y3 y4 (y5 + 1) w9)) (fun _ =>
  bw_iload hZ 5 rfl dX12_mend_69 <|
  bw_iret hZ hE dX12_mend_71)))
def X12_mend_b40_L (k30 : Int32 → Int32 → Int32 → Int32 → Wd → Option (Int32 × Wd)) : Int32 → Int32 → Int32 → Int32 → Int32 → Wd → Option (Int32 × Wd) :=
  lp fu (fun _ _ _ _ _ _ => none) (fun k40 => X12_mend_b40 k30 k40)
theorem t_X12_mend_b40_L {Z : Cz (Int32 × Wd)} (hZ : OKZ Z SM cX12_mend RX12 6 (some .int) 27) (hE : EndI Z) (k30 : Int32 → Int32 → Int32 → Int32 → Wd → Option (Int32 × Wd)) (hk30 : ∀ (y1 : Int32) (y2 : Int32) (y3 : Int32) (y4 : Int32)  (w : Wd), BW Z 6 30 [(0, .ref (ph (zY Z) 0)), (1, .int y1), (2, .int y2), (3, .int y3), (4, .int y4)] [] w (k30 y1 y2 y3 y4 w)) : ∀ (y1 : Int32) (y2 : Int32) (y3 : Int32) (y4 : Int32) (y5 : Int32)  (w : Wd), BW Z 6 40 [(0, .ref (ph (zY Z) 0)), (1, .int y1), (2, .int y2), (3, .int y3), (4, .int y4), (5, .int y5)] [] w (X12_mend_b40_L k30 y1 y2 y3 y4 y5 w) :=
  lp_bw (fun k40 => ∀ (y1 : Int32) (y2 : Int32) (y3 : Int32) (y4 : Int32) (y5 : Int32)  (w : Wd), BW Z 6 40 [(0, .ref (ph (zY Z) 0)), (1, .int y1), (2, .int y2), (3, .int y3), (4, .int y4), (5, .int y5)] [] w (k40 y1 y2 y3 y4 y5 w)) (fun _ _ _ _ _ _ => bw_none) (fun k40 hk40 y1 y2 y3 y4 y5 w => t_X12_mend_b40 hZ hE k30 hk30 k40 hk40 y1 y2 y3 y4 y5 w) fu
def X12_mend_b30 (k30 : Int32 → Int32 → Int32 → Int32 → Wd → Option (Int32 × Wd)) (y1 : Int32) (y2 : Int32) (y3 : Int32) (y4 : Int32) (w : Wd) : Option (Int32 × Wd) :=
  if 6 < y4 then
  (some ((-1), w))
  else
  X12_mend_b40_L k30 y1 y2 y3 y4 0 w
set_option maxRecDepth 100000 in
set_option maxHeartbeats 4000000 in
theorem t_X12_mend_b30 {Z : Cz (Int32 × Wd)} (hZ : OKZ Z SM cX12_mend RX12 6 (some .int) 27) (hE : EndI Z) (k30 : Int32 → Int32 → Int32 → Int32 → Wd → Option (Int32 × Wd)) (hk30 : ∀ (y1 : Int32) (y2 : Int32) (y3 : Int32) (y4 : Int32)  (w : Wd), BW Z 6 30 [(0, .ref (ph (zY Z) 0)), (1, .int y1), (2, .int y2), (3, .int y3), (4, .int y4)] [] w (k30 y1 y2 y3 y4 w)) (y1 : Int32) (y2 : Int32) (y3 : Int32) (y4 : Int32)  (w : Wd) : BW Z 6 30 [(0, .ref (ph (zY Z) 0)), (1, .int y1), (2, .int y2), (3, .int y3), (4, .int y4)] [] w (X12_mend_b30 k30 y1 y2 y3 y4 w) :=
  bw_iload hZ 4 rfl dX12_mend_30 <|
  bw_bipush hZ 6 (by decide) dX12_mend_32 <|
  bw_icmp_gt hZ (tgt := 84) (by decide) dX12_mend_34 (fun _ =>
  bw_iconst hZ (-1) (by decide) dX12_mend_84 <|
  bw_iret hZ hE dX12_mend_85) (fun _ =>
  bw_iconst hZ 0 (by decide) dX12_mend_37 <|
  bw_istore hZ (by decide) rfl dX12_mend_38 <|
  bw_sub [1, 2, 3, 4, 5, 0] rfl (t_X12_mend_b40_L hZ hE k30 hk30 y1 y2 y3 y4 0 w))
def X12_mend_b30_L  : Int32 → Int32 → Int32 → Int32 → Wd → Option (Int32 × Wd) :=
  lp fu (fun _ _ _ _ _ => none) (fun k30 => X12_mend_b30 k30)
theorem t_X12_mend_b30_L {Z : Cz (Int32 × Wd)} (hZ : OKZ Z SM cX12_mend RX12 6 (some .int) 27) (hE : EndI Z)  : ∀ (y1 : Int32) (y2 : Int32) (y3 : Int32) (y4 : Int32)  (w : Wd), BW Z 6 30 [(0, .ref (ph (zY Z) 0)), (1, .int y1), (2, .int y2), (3, .int y3), (4, .int y4)] [] w (X12_mend_b30_L y1 y2 y3 y4 w) :=
  lp_bw (fun k30 => ∀ (y1 : Int32) (y2 : Int32) (y3 : Int32) (y4 : Int32)  (w : Wd), BW Z 6 30 [(0, .ref (ph (zY Z) 0)), (1, .int y1), (2, .int y2), (3, .int y3), (4, .int y4)] [] w (k30 y1 y2 y3 y4 w)) (fun _ _ _ _ _ => bw_none) (fun k30 hk30 y1 y2 y3 y4 w => t_X12_mend_b30 hZ hE k30 hk30 y1 y2 y3 y4 w) fu
def f_X12_mend (x1 : Int32) (x2 : Int32) (x3 : Int32) (w : Wd) : Option (Int32 × Wd) :=
  cl (f_X12_isPaper x1 w) fun r2 w1 =>
  if r2 = 0 then
  (some ((-2), w1))
  else
  cl (f_X12_isThing x2 w1) fun r4 w3 =>
  if r4 = 0 then
  (some ((-2), w3))
  else
  cl (f_X12_isPerson x3 w3) fun r6 w5 =>
  if r6 = 0 then
  (some ((-2), w5))
  else
  X12_mend_b30_L x1 x2 x3 0 w5
set_option maxRecDepth 100000 in
set_option maxHeartbeats 4000000 in
theorem t_X12_mend {Z : Cz (Int32 × Wd)} (hZ : OKZ Z SM cX12_mend RX12 6 (some .int) 27) (hE : EndI Z) (x1 : Int32) (x2 : Int32) (x3 : Int32)  (w : Wd) : BW Z 6 0 [(0, .ref (ph (zY Z) 0)), (1, .int x1), (2, .int x2), (3, .int x3)] [] w (f_X12_mend x1 x2 x3 w) :=
  bw_aload_n hZ 0 rfl dX12_mend_0 <|
  bw_iload_n hZ 1 rfl dX12_mend_1 <|
  bw_callVI (As := [.int x1]) hZ ml_RX12_525 rc_12 obM_0 (by decide) (c_X12_isPaper (zl Z) (zY Z) (hZ_S hZ) x1 w) rfl rfl (Nat.le_of_ble_eq_true rfl) dX12_mend_2 fun r2 w1 =>
  bw_if_eq hZ (tgt := 24) (by decide) dX12_mend_5 (fun _ =>
  bw_bipush hZ (-2) (by decide) dX12_mend_24 <|
  bw_iret hZ hE dX12_mend_26) (fun _ =>
  bw_aload_n hZ 0 rfl dX12_mend_8 <|
  bw_iload_n hZ 2 rfl dX12_mend_9 <|
  bw_callVI (As := [.int x2]) hZ ml_RX12_583 rc_12 obM_0 (by decide) (c_X12_isThing (zl Z) (zY Z) (hZ_S hZ) x2 w1) rfl rfl (Nat.le_of_ble_eq_true rfl) dX12_mend_10 fun r4 w3 =>
  bw_if_eq hZ (tgt := 24) (by decide) dX12_mend_13 (fun _ =>
  bw_bipush hZ (-2) (by decide) dX12_mend_24 <|
  bw_iret hZ hE dX12_mend_26) (fun _ =>
  bw_aload_n hZ 0 rfl dX12_mend_16 <|
  bw_iload_n hZ 3 rfl dX12_mend_17 <|
  bw_callVI (As := [.int x3]) hZ ml_RX12_682 rc_12 obM_0 (by decide) (c_X12_isPerson (zl Z) (zY Z) (hZ_S hZ) x3 w3) rfl rfl (Nat.le_of_ble_eq_true rfl) dX12_mend_18 fun r6 w5 =>
  bw_if_ne hZ (tgt := 27) (by decide) dX12_mend_21 (fun _ =>
  bw_iconst hZ 0 (by decide) dX12_mend_27 <|
  bw_istore hZ (by decide) rfl dX12_mend_28 <|
  bw_sub [1, 2, 3, 4, 0] rfl (t_X12_mend_b30_L hZ hE x1 x2 x3 0 w5)) (fun _ =>
  bw_bipush hZ (-2) (by decide) dX12_mend_24 <|
  bw_iret hZ hE dX12_mend_26)))
theorem c_X12_mend (l : Launch) (Y : Ev) (hY : Y.1 = SM) (x1 : Int32) (x2 : Int32) (x3 : Int32)  (w : Wd) : CI l Y yX12_mend cX12_mend 6 27 [.ref (ph Y 0), .int x1, .int x2, .int x3] w .int (f_X12_mend x1 x2 x3 w) := by
  refine CI_of (S := SM) (by decide) (Nat.le_of_ble_eq_true rfl) hY ?_
  intro Z hl hY2 hZ hE
  subst hY2
  exact t_X12_mend hZ hE x1 x2 x3 w
-- WhichWillModel.count
theorem dX12_count_0 : decode cX12_count 0 = .ok (.iload_n 1, 1) := by decide +kernel
theorem dX12_count_1 : decode cX12_count 1 = .ok (.tableswitch 51 0 3 #[31, 36, 41, 46], 31) := by decide +kernel
theorem dX12_count_32 : decode cX12_count 32 = .ok (.aload_n 0, 1) := by decide +kernel
theorem dX12_count_33 : decode cX12_count 33 = .ok (.getfield 428, 3) := by decide +kernel
theorem dX12_count_36 : decode cX12_count 36 = .ok (.ireturn, 1) := by decide +kernel
theorem dX12_count_37 : decode cX12_count 37 = .ok (.aload_n 0, 1) := by decide +kernel
theorem dX12_count_38 : decode cX12_count 38 = .ok (.getfield 437, 3) := by decide +kernel
theorem dX12_count_41 : decode cX12_count 41 = .ok (.ireturn, 1) := by decide +kernel
theorem dX12_count_42 : decode cX12_count 42 = .ok (.aload_n 0, 1) := by decide +kernel
theorem dX12_count_43 : decode cX12_count 43 = .ok (.invokevirtual 552, 3) := by decide +kernel
theorem dX12_count_46 : decode cX12_count 46 = .ok (.ireturn, 1) := by decide +kernel
theorem dX12_count_47 : decode cX12_count 47 = .ok (.aload_n 0, 1) := by decide +kernel
theorem dX12_count_48 : decode cX12_count 48 = .ok (.getfield 79, 3) := by decide +kernel
theorem dX12_count_51 : decode cX12_count 51 = .ok (.ireturn, 1) := by decide +kernel
theorem dX12_count_52 : decode cX12_count 52 = .ok (.iconst (-1), 1) := by decide +kernel
theorem dX12_count_53 : decode cX12_count 53 = .ok (.ireturn, 1) := by decide +kernel
def f_X12_count (x1 : Int32) (w : Wd) : Option (Int32 × Wd) :=
  if x1 = 0 then
  (some (w.1 0 13, w))
  else
  if x1 = 1 then
  (some (w.1 0 99, w))
  else
  if x1 = 2 then
  (cl (f_X12_items w) fun r2 w1 =>
  some (r2, w1))
  else
  if x1 = 3 then
  (some (w.1 0 1, w))
  else
  some ((-1), w)
set_option maxRecDepth 100000 in
set_option maxHeartbeats 4000000 in
theorem t_X12_count {Z : Cz (Int32 × Wd)} (hZ : OKZ Z SM cX12_count RX12 2 (some .int) 2) (hE : EndI Z) (x1 : Int32)  (w : Wd) : BW Z 2 0 [(0, .ref (ph (zY Z) 0)), (1, .int x1)] [] w (f_X12_count x1 w) :=
  bw_iload_n hZ 1 rfl dX12_count_0 <|
  bw_if (fun h => bw_tabIn hZ (tgt := 32) (off := 31) 0 (by rw [h]; decide) (by decide) (by decide) (by decide) (by decide) dX12_count_1 <|
  bw_aload_n hZ 0 rfl dX12_count_32 <|
  bw_getI hZ fl_RX12_428 (by decide) obM_0 dX12_count_33 <|
  bw_iret hZ hE dX12_count_36) (fun h0 =>
  bw_if (fun h => bw_tabIn hZ (tgt := 37) (off := 36) 1 (by rw [h]; decide) (by decide) (by decide) (by decide) (by decide) dX12_count_1 <|
  bw_aload_n hZ 0 rfl dX12_count_37 <|
  bw_getI hZ fl_RX12_437 (by decide) obM_0 dX12_count_38 <|
  bw_iret hZ hE dX12_count_41) (fun h1 =>
  bw_if (fun h => bw_tabIn hZ (tgt := 42) (off := 41) 2 (by rw [h]; decide) (by decide) (by decide) (by decide) (by decide) dX12_count_1 <|
  bw_aload_n hZ 0 rfl dX12_count_42 <|
  bw_callVI (As := []) hZ ml_RX12_552 rc_12 obM_0 (by decide) (c_X12_items (zl Z) (zY Z) (hZ_S hZ) w) rfl rfl (Nat.le_of_ble_eq_true rfl) dX12_count_43 fun r2 w1 =>
  bw_iret hZ hE dX12_count_46) (fun h2 =>
  bw_if (fun h => bw_tabIn hZ (tgt := 47) (off := 46) 3 (by rw [h]; decide) (by decide) (by decide) (by decide) (by decide) dX12_count_1 <|
  bw_aload_n hZ 0 rfl dX12_count_47 <|
  bw_getI hZ fl_RX12_79 (by decide) obM_0 dX12_count_48 <|
  bw_iret hZ hE dX12_count_51) (fun h3 =>
  bw_tabOut hZ (tgt := 52) (by have q0 := ne_int h0 (n := 0) (by decide); have q1 := ne_int h1 (n := 1) (by decide); have q2 := ne_int h2 (n := 2) (by decide); have q3 := ne_int h3 (n := 3) (by decide); omega) (by decide) dX12_count_1 <|
  bw_iconst hZ (-1) (by decide) dX12_count_52 <|
  bw_iret hZ hE dX12_count_53))))
theorem c_X12_count (l : Launch) (Y : Ev) (hY : Y.1 = SM) (x1 : Int32)  (w : Wd) : CI l Y yX12_count cX12_count 2 2 [.ref (ph Y 0), .int x1] w .int (f_X12_count x1 w) := by
  refine CI_of (S := SM) (by decide) (Nat.le_of_ble_eq_true rfl) hY ?_
  intro Z hl hY2 hZ hE
  subst hY2
  exact t_X12_count hZ hE x1 w
