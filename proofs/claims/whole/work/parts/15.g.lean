-- WhichWill$Stories.gainBy
theorem dX9_gainBy_0 : decode cX9_gainBy 0 = .ok (.iconst 0, 1) := by decide +kernel
theorem dX9_gainBy_1 : decode cX9_gainBy 1 = .ok (.istore_n 2, 1) := by decide +kernel
theorem dX9_gainBy_2 : decode cX9_gainBy 2 = .ok (.iconst 0, 1) := by decide +kernel
theorem dX9_gainBy_3 : decode cX9_gainBy 3 = .ok (.istore_n 3, 1) := by decide +kernel
theorem dX9_gainBy_4 : decode cX9_gainBy 4 = .ok (.aload_n 0, 1) := by decide +kernel
theorem dX9_gainBy_5 : decode cX9_gainBy 5 = .ok (.getfield 27, 3) := by decide +kernel
theorem dX9_gainBy_8 : decode cX9_gainBy 8 = .ok (.invokevirtual 68, 3) := by decide +kernel
theorem dX9_gainBy_11 : decode cX9_gainBy 11 = .ok (.istore 4, 2) := by decide +kernel
theorem dX9_gainBy_13 : decode cX9_gainBy 13 = .ok (.iconst 0, 1) := by decide +kernel
theorem dX9_gainBy_14 : decode cX9_gainBy 14 = .ok (.istore 5, 2) := by decide +kernel
theorem dX9_gainBy_16 : decode cX9_gainBy 16 = .ok (.iload 5, 2) := by decide +kernel
theorem dX9_gainBy_18 : decode cX9_gainBy 18 = .ok (.iload 4, 2) := by decide +kernel
theorem dX9_gainBy_20 : decode cX9_gainBy 20 = .ok (.if_icmp .ge 53, 3) := by decide +kernel
theorem dX9_gainBy_23 : decode cX9_gainBy 23 = .ok (.aload_n 0, 1) := by decide +kernel
theorem dX9_gainBy_24 : decode cX9_gainBy 24 = .ok (.getfield 31, 3) := by decide +kernel
theorem dX9_gainBy_27 : decode cX9_gainBy 27 = .ok (.iload 5, 2) := by decide +kernel
theorem dX9_gainBy_29 : decode cX9_gainBy 29 = .ok (.aload_n 0, 1) := by decide +kernel
theorem dX9_gainBy_30 : decode cX9_gainBy 30 = .ok (.getfield 9, 3) := by decide +kernel
theorem dX9_gainBy_33 : decode cX9_gainBy 33 = .ok (.iload_n 1, 1) := by decide +kernel
theorem dX9_gainBy_34 : decode cX9_gainBy 34 = .ok (.iaload, 1) := by decide +kernel
theorem dX9_gainBy_35 : decode cX9_gainBy 35 = .ok (.invokevirtual 80, 3) := by decide +kernel
theorem dX9_gainBy_38 : decode cX9_gainBy 38 = .ok (.istore 6, 2) := by decide +kernel
theorem dX9_gainBy_40 : decode cX9_gainBy 40 = .ok (.aload_n 0, 1) := by decide +kernel
theorem dX9_gainBy_41 : decode cX9_gainBy 41 = .ok (.iload_n 1, 1) := by decide +kernel
theorem dX9_gainBy_42 : decode cX9_gainBy 42 = .ok (.iload 5, 2) := by decide +kernel
theorem dX9_gainBy_44 : decode cX9_gainBy 44 = .ok (.invokevirtual 55, 3) := by decide +kernel
theorem dX9_gainBy_47 : decode cX9_gainBy 47 = .ok (.ifCond .eq 13, 3) := by decide +kernel
theorem dX9_gainBy_50 : decode cX9_gainBy 50 = .ok (.iload_n 2, 1) := by decide +kernel
theorem dX9_gainBy_51 : decode cX9_gainBy 51 = .ok (.iload 6, 2) := by decide +kernel
theorem dX9_gainBy_53 : decode cX9_gainBy 53 = .ok (.invokestatic 86, 3) := by decide +kernel
theorem dX9_gainBy_56 : decode cX9_gainBy 56 = .ok (.istore_n 2, 1) := by decide +kernel
theorem dX9_gainBy_57 : decode cX9_gainBy 57 = .ok (.goto 10, 3) := by decide +kernel
theorem dX9_gainBy_60 : decode cX9_gainBy 60 = .ok (.iload_n 3, 1) := by decide +kernel
theorem dX9_gainBy_61 : decode cX9_gainBy 61 = .ok (.iload 6, 2) := by decide +kernel
theorem dX9_gainBy_63 : decode cX9_gainBy 63 = .ok (.invokestatic 86, 3) := by decide +kernel
theorem dX9_gainBy_66 : decode cX9_gainBy 66 = .ok (.istore_n 3, 1) := by decide +kernel
theorem dX9_gainBy_67 : decode cX9_gainBy 67 = .ok (.iinc 5 1, 3) := by decide +kernel
theorem dX9_gainBy_70 : decode cX9_gainBy 70 = .ok (.goto (-54), 3) := by decide +kernel
theorem dX9_gainBy_73 : decode cX9_gainBy 73 = .ok (.iload_n 2, 1) := by decide +kernel
theorem dX9_gainBy_74 : decode cX9_gainBy 74 = .ok (.iload_n 3, 1) := by decide +kernel
theorem dX9_gainBy_75 : decode cX9_gainBy 75 = .ok (.isub, 1) := by decide +kernel
theorem dX9_gainBy_76 : decode cX9_gainBy 76 = .ok (.ireturn, 1) := by decide +kernel
def X9_gainBy_b16 (cp : Nat) (k16 : Int32 → Int32 → Int32 → Int32 → Int32 → Wd → Option (Int32 × Wd)) (y1 : Int32) (y2 : Int32) (y3 : Int32) (y4 : Int32) (y5 : Int32) (w : Wd) : Option (Int32 × Wd) :=
  if y4 ≤ y5 then
  (some (y2 - y3, w))
  else
  if inb y1 8 = true then
  (cl (f_X5_sumIn cp y5 (w.1 23 (Int32.toNatClampNeg y1)) w) fun r4 w3 =>
  cl (f_X9_isTrue y1 y5 w3) fun r6 w5 =>
  if r6 = 0 then
  (lt (if y3 < r4 then r4 else y3) fun v7 =>
  k16 y1 y2 v7 y4 (y5 + 1) w5)
  else
  lt (if y2 < r4 then r4 else y2) fun v8 =>
  k16 y1 v8 y3 y4 (y5 + 1) w5)
  else none
set_option maxRecDepth 100000 in
set_option maxHeartbeats 4000000 in
theorem t_X9_gainBy_b16 {Z : Cz (Int32 × Wd)} (hZ : OKZ Z SC cX9_gainBy RX9 7 (some .int) 4) (hE : EndI Z) (k16 : Int32 → Int32 → Int32 → Int32 → Int32 → Wd → Option (Int32 × Wd)) (hk16 : ∀ (y1 : Int32) (y2 : Int32) (y3 : Int32) (y4 : Int32) (y5 : Int32)  (w : Wd), BW Z 7 16 [(0, .ref (ph (zY Z) 22)), (1, .int y1), (2, .int y2), (3, .int y3), (4, .int y4), (5, .int y5)] [] w (k16 y1 y2 y3 y4 y5 w)) (y1 : Int32) (y2 : Int32) (y3 : Int32) (y4 : Int32) (y5 : Int32)  (w : Wd) : BW Z 7 16 [(0, .ref (ph (zY Z) 22)), (1, .int y1), (2, .int y2), (3, .int y3), (4, .int y4), (5, .int y5)] [] w (X9_gainBy_b16 (yc (zY Z)) k16 y1 y2 y3 y4 y5 w) :=
  bw_iload hZ 5 rfl dX9_gainBy_16 <|
  bw_iload hZ 4 rfl dX9_gainBy_18 <|
  bw_icmp_ge hZ (tgt := 73) (by decide) dX9_gainBy_20 (fun _ =>
  bw_iload_n hZ 2 rfl dX9_gainBy_73 <|
  bw_iload_n hZ 3 rfl dX9_gainBy_74 <|
  bw_isub hZ dX9_gainBy_75 <|
  bw_iret hZ hE dX9_gainBy_76) (fun _ =>
  bw_aload_n hZ 0 rfl dX9_gainBy_23 <|
  bw_getR hZ fl_RX9_31 obC_22 rfl dX9_gainBy_24 <|
  bw_iload hZ 5 rfl dX9_gainBy_27 <|
  bw_aload_n hZ 0 rfl dX9_gainBy_29 <|
  bw_getR hZ fl_RX9_9 obC_22 rfl dX9_gainBy_30 <|
  bw_iload_n hZ 1 rfl dX9_gainBy_33 <|
  bw_iald hZ (arC_23 _) dX9_gainBy_34 <|
  bw_callVI (As := [.int y5, .int (w.1 23 (Int32.toNatClampNeg y1))]) hZ ml_RX9_80 rc_5 obC_16 (by decide) (c_X5_sumIn (zl Z) (zY Z) (hZ_S hZ) y5 (w.1 23 (Int32.toNatClampNeg y1)) w) rfl rfl (Nat.le_of_ble_eq_true rfl) dX9_gainBy_35 fun r4 w3 =>
  bw_istore hZ (by decide) rfl dX9_gainBy_38 <|
  bw_aload_n hZ 1 rfl dX9_gainBy_40 <|
  bw_iload_n hZ 2 rfl dX9_gainBy_41 <|
  bw_iload hZ 6 rfl dX9_gainBy_42 <|
  bw_callVI (As := [.int y1, .int y5]) hZ ml_RX9_55 rc_9 obC_22 (by decide) (c_X9_isTrue (zl Z) (zY Z) (hZ_S hZ) y1 y5 w3) rfl rfl (Nat.le_of_ble_eq_true rfl) dX9_gainBy_44 fun r6 w5 =>
  bw_if_eq hZ (tgt := 60) (by decide) dX9_gainBy_47 (fun _ =>
  bw_iload_n hZ 4 rfl dX9_gainBy_60 <|
  bw_iload hZ 0 rfl dX9_gainBy_61 <|
  bw_mmax hZ kl_RX9_86 km_max (by decide) (Nat.le_of_ble_eq_true rfl) dX9_gainBy_63 <|
  bw_nm fun v7 =>
  bw_istore_n hZ rfl (by decide) rfl dX9_gainBy_66 <|
  bw_iinc hZ 1 6 rfl (by decide) (by decide) rfl dX9_gainBy_67 <|
  bw_goto hZ (tgt := 16) (by decide) dX9_gainBy_70 <|
  bw_sub [3, 4, 5, 1, 6, 0] rfl (hk16 y1 y2 v7 y4 (y5 + 1) w5)) (fun _ =>
  bw_iload_n hZ 3 rfl dX9_gainBy_50 <|
  bw_iload hZ 0 rfl dX9_gainBy_51 <|
  bw_mmax hZ kl_RX9_86 km_max (by decide) (Nat.le_of_ble_eq_true rfl) dX9_gainBy_53 <|
  bw_nm fun v8 =>
  bw_istore_n hZ rfl (by decide) rfl dX9_gainBy_56 <|
  bw_goto hZ (tgt := 67) (by decide) dX9_gainBy_57 <|
  bw_iinc hZ 1 6 rfl (by decide) (by decide) rfl dX9_gainBy_67 <|
  bw_goto hZ (tgt := 16) (by decide) dX9_gainBy_70 <|
  bw_sub [3, 4, 1, 5, 6, 0] rfl (hk16 y1 v8 y3 y4 (y5 + 1) w5)))
def X9_gainBy_b16_L (cp : Nat) : Int32 → Int32 → Int32 → Int32 → Int32 → Wd → Option (Int32 × Wd) :=
  lp fu (fun _ _ _ _ _ _ => none) (fun k16 => X9_gainBy_b16 cp k16)
theorem t_X9_gainBy_b16_L {Z : Cz (Int32 × Wd)} (hZ : OKZ Z SC cX9_gainBy RX9 7 (some .int) 4) (hE : EndI Z)  : ∀ (y1 : Int32) (y2 : Int32) (y3 : Int32) (y4 : Int32) (y5 : Int32)  (w : Wd), BW Z 7 16 [(0, .ref (ph (zY Z) 22)), (1, .int y1), (2, .int y2), (3, .int y3), (4, .int y4), (5, .int y5)] [] w (X9_gainBy_b16_L (yc (zY Z)) y1 y2 y3 y4 y5 w) :=
  lp_bw (fun k16 => ∀ (y1 : Int32) (y2 : Int32) (y3 : Int32) (y4 : Int32) (y5 : Int32)  (w : Wd), BW Z 7 16 [(0, .ref (ph (zY Z) 22)), (1, .int y1), (2, .int y2), (3, .int y3), (4, .int y4), (5, .int y5)] [] w (k16 y1 y2 y3 y4 y5 w)) (fun _ _ _ _ _ _ => bw_none) (fun k16 hk16 y1 y2 y3 y4 y5 w => t_X9_gainBy_b16 hZ hE k16 hk16 y1 y2 y3 y4 y5 w) fu
def f_X9_gainBy (cp : Nat) (x1 : Int32) (w : Wd) : Option (Int32 × Wd) :=
  cl (f_X2_waysFound w) fun r2 w1 =>
  X9_gainBy_b16_L cp x1 0 0 r2 0 w1
set_option maxRecDepth 100000 in
set_option maxHeartbeats 4000000 in
theorem t_X9_gainBy {Z : Cz (Int32 × Wd)} (hZ : OKZ Z SC cX9_gainBy RX9 7 (some .int) 4) (hE : EndI Z) (x1 : Int32)  (w : Wd) : BW Z 7 0 [(0, .ref (ph (zY Z) 22)), (1, .int x1)] [] w (f_X9_gainBy (yc (zY Z)) x1 w) :=
  bw_iconst hZ 0 (by decide) dX9_gainBy_0 <|
  bw_istore_n hZ rfl (by decide) rfl dX9_gainBy_1 <|
  bw_iconst hZ 0 (by decide) dX9_gainBy_2 <|
  bw_istore_n hZ rfl (by decide) rfl dX9_gainBy_3 <|
  bw_aload_n hZ 2 rfl dX9_gainBy_4 <|
  bw_getR hZ fl_RX9_27 obC_22 rfl dX9_gainBy_5 <|
  bw_callVI (As := []) hZ ml_RX9_68 rc_2 obC_3 (by decide) (c_X2_waysFound (zl Z) (zY Z) (hZ_S hZ) w) rfl rfl (Nat.le_of_ble_eq_true rfl) dX9_gainBy_8 fun r2 w1 =>
  bw_istore hZ (by decide) rfl dX9_gainBy_11 <|
  bw_iconst hZ 0 (by decide) dX9_gainBy_13 <|
  bw_istore hZ (by decide) rfl dX9_gainBy_14 <|
  bw_sub [4, 5, 3, 2, 1, 0] rfl (t_X9_gainBy_b16_L hZ hE x1 0 0 r2 0 w1)
theorem c_X9_gainBy (l : Launch) (Y : Ev) (hY : Y.1 = SC) (x1 : Int32)  (w : Wd) : CI l Y yX9_gainBy cX9_gainBy 7 4 [.ref (ph Y 22), .int x1] w .int (f_X9_gainBy (yc Y) x1 w) := by
  refine CI_of (S := SC) (by decide) (Nat.le_of_ble_eq_true rfl) hY ?_
  intro Z hl hY2 hZ hE
  subst hY2
  exact t_X9_gainBy hZ hE x1 w
-- WhichWill$Tape.hasRoomForFeed
theorem dX10_hasRoomForFeed_0 : decode cX10_hasRoomForFeed 0 = .ok (.aload_n 0, 1) := by decide +kernel
theorem dX10_hasRoomForFeed_1 : decode cX10_hasRoomForFeed 1 = .ok (.getfield 19, 3) := by decide +kernel
theorem dX10_hasRoomForFeed_4 : decode cX10_hasRoomForFeed 4 = .ok (.bipush 20, 2) := by decide +kernel
theorem dX10_hasRoomForFeed_6 : decode cX10_hasRoomForFeed 6 = .ok (.iadd, 1) := by decide +kernel
theorem dX10_hasRoomForFeed_7 : decode cX10_hasRoomForFeed 7 = .ok (.sipush 900, 3) := by decide +kernel
theorem dX10_hasRoomForFeed_10 : decode cX10_hasRoomForFeed 10 = .ok (.if_icmp .gt 7, 3) := by decide +kernel
theorem dX10_hasRoomForFeed_13 : decode cX10_hasRoomForFeed 13 = .ok (.iconst 1, 1) := by decide +kernel
theorem dX10_hasRoomForFeed_14 : decode cX10_hasRoomForFeed 14 = .ok (.goto 4, 3) := by decide +kernel
theorem dX10_hasRoomForFeed_17 : decode cX10_hasRoomForFeed 17 = .ok (.iconst 0, 1) := by decide +kernel
theorem dX10_hasRoomForFeed_18 : decode cX10_hasRoomForFeed 18 = .ok (.ireturn, 1) := by decide +kernel
def f_X10_hasRoomForFeed (w : Wd) : Option (Int32 × Wd) :=
  if 900 < ((w.1 1 1) + 20) then
  (some (0, w))
  else
  some (1, w)
set_option maxRecDepth 100000 in
set_option maxHeartbeats 4000000 in
theorem t_X10_hasRoomForFeed {Z : Cz (Int32 × Wd)} (hZ : OKZ Z SC cX10_hasRoomForFeed RX10 1 (some .boolean) 1) (hE : EndI Z)   (w : Wd) : BW Z 1 0 [(0, .ref (ph (zY Z) 1))] [] w (f_X10_hasRoomForFeed w) :=
  bw_aload_n hZ 0 rfl dX10_hasRoomForFeed_0 <|
  bw_getI hZ fl_RX10_19 (by decide) obC_1 dX10_hasRoomForFeed_1 <|
  bw_bipush hZ 20 (by decide) dX10_hasRoomForFeed_4 <|
  bw_iadd hZ dX10_hasRoomForFeed_6 <|
  bw_sipush hZ 900 (by decide) dX10_hasRoomForFeed_7 <|
  bw_icmp_gt hZ (tgt := 17) (by decide) dX10_hasRoomForFeed_10 (fun _ =>
  bw_iconst hZ 0 (by decide) dX10_hasRoomForFeed_17 <|
  bw_zret hZ hE (by decide) dX10_hasRoomForFeed_18) (fun _ =>
  bw_iconst hZ 1 (by decide) dX10_hasRoomForFeed_13 <|
  bw_goto hZ (tgt := 18) (by decide) dX10_hasRoomForFeed_14 <|
  bw_zret hZ hE (by decide) dX10_hasRoomForFeed_18)
theorem c_X10_hasRoomForFeed (l : Launch) (Y : Ev) (hY : Y.1 = SC)   (w : Wd) : CI l Y yX10_hasRoomForFeed cX10_hasRoomForFeed 1 1 [.ref (ph Y 1)] w .boolean (f_X10_hasRoomForFeed w) := by
  refine CI_of (S := SC) (by decide) (Nat.le_of_ble_eq_true rfl) hY ?_
  intro Z hl hY2 hZ hE
  subst hY2
  exact t_X10_hasRoomForFeed hZ hE w
-- WhichWill$Tape.putFour
theorem dX10_putFour_0 : decode cX10_putFour 0 = .ok (.bipush 24, 2) := by decide +kernel
theorem dX10_putFour_2 : decode cX10_putFour 2 = .ok (.istore_n 2, 1) := by decide +kernel
theorem dX10_putFour_3 : decode cX10_putFour 3 = .ok (.iload_n 2, 1) := by decide +kernel
theorem dX10_putFour_4 : decode cX10_putFour 4 = .ok (.ifCond .lt 42, 3) := by decide +kernel
theorem dX10_putFour_7 : decode cX10_putFour 7 = .ok (.aload_n 0, 1) := by decide +kernel
theorem dX10_putFour_8 : decode cX10_putFour 8 = .ok (.getfield 19, 3) := by decide +kernel
theorem dX10_putFour_11 : decode cX10_putFour 11 = .ok (.sipush 900, 3) := by decide +kernel
theorem dX10_putFour_14 : decode cX10_putFour 14 = .ok (.if_icmp .ge 26, 3) := by decide +kernel
theorem dX10_putFour_17 : decode cX10_putFour 17 = .ok (.aload_n 0, 1) := by decide +kernel
theorem dX10_putFour_18 : decode cX10_putFour 18 = .ok (.getfield 11, 3) := by decide +kernel
theorem dX10_putFour_21 : decode cX10_putFour 21 = .ok (.aload_n 0, 1) := by decide +kernel
theorem dX10_putFour_22 : decode cX10_putFour 22 = .ok (.getfield 19, 3) := by decide +kernel
theorem dX10_putFour_25 : decode cX10_putFour 25 = .ok (.iload_n 1, 1) := by decide +kernel
theorem dX10_putFour_26 : decode cX10_putFour 26 = .ok (.iload_n 2, 1) := by decide +kernel
theorem dX10_putFour_27 : decode cX10_putFour 27 = .ok (.ishr, 1) := by decide +kernel
theorem dX10_putFour_28 : decode cX10_putFour 28 = .ok (.i2b, 1) := by decide +kernel
theorem dX10_putFour_29 : decode cX10_putFour 29 = .ok (.bastore, 1) := by decide +kernel
theorem dX10_putFour_30 : decode cX10_putFour 30 = .ok (.aload_n 0, 1) := by decide +kernel
theorem dX10_putFour_31 : decode cX10_putFour 31 = .ok (.dup, 1) := by decide +kernel
theorem dX10_putFour_32 : decode cX10_putFour 32 = .ok (.getfield 19, 3) := by decide +kernel
theorem dX10_putFour_35 : decode cX10_putFour 35 = .ok (.iconst 1, 1) := by decide +kernel
theorem dX10_putFour_36 : decode cX10_putFour 36 = .ok (.iadd, 1) := by decide +kernel
theorem dX10_putFour_37 : decode cX10_putFour 37 = .ok (.putfield 19, 3) := by decide +kernel
theorem dX10_putFour_40 : decode cX10_putFour 40 = .ok (.iinc 2 (-8), 3) := by decide +kernel
theorem dX10_putFour_43 : decode cX10_putFour 43 = .ok (.goto (-40), 3) := by decide +kernel
theorem dX10_putFour_46 : decode cX10_putFour 46 = .ok (.return_, 1) := by decide +kernel
def X10_putFour_b3 (k3 : Int32 → Int32 → Wd → Option (Wd)) (y1 : Int32) (y2 : Int32) (w : Wd) : Option (Wd) :=
  if y2 < 0 then
  (some w)
  else
  if 900 ≤ (w.1 1 1) then
  (k3 y1 (y2 + (-8)) w)
  else
  if inb (w.1 1 1) 900 = true then
  (lt (wI w 2 (Int32.toNatClampNeg (w.1 1 1)) (vp_nar .byte ((Int32.toInt8 (y1 >>> (y2 &&& 31))).toInt32))) fun w1 =>
  lt (wI w1 1 1 ((w1.1 1 1) + 1)) fun w2 =>
  k3 y1 (y2 + (-8)) w2)
  else none
set_option maxRecDepth 100000 in
set_option maxHeartbeats 4000000 in
theorem t_X10_putFour_b3 {Z : Cz (Wd)} (hZ : OKZ Z SC cX10_putFour RX10 3 none 1) (hE : EndV Z) (k3 : Int32 → Int32 → Wd → Option (Wd)) (hk3 : ∀ (y1 : Int32) (y2 : Int32)  (w : Wd), BW Z 3 3 [(0, .ref (ph (zY Z) 1)), (1, .int y1), (2, .int y2)] [] w (k3 y1 y2 w)) (y1 : Int32) (y2 : Int32)  (w : Wd) : BW Z 3 3 [(0, .ref (ph (zY Z) 1)), (1, .int y1), (2, .int y2)] [] w (X10_putFour_b3 k3 y1 y2 w) :=
  bw_iload_n hZ 2 rfl dX10_putFour_3 <|
  bw_if_lt hZ (tgt := 46) (by decide) dX10_putFour_4 (fun _ =>
  bw_vret hZ hE dX10_putFour_46) (fun _ =>
  bw_aload_n hZ 0 rfl dX10_putFour_7 <|
  bw_getI hZ fl_RX10_19 (by decide) obC_1 dX10_putFour_8 <|
  bw_sipush hZ 900 (by decide) dX10_putFour_11 <|
  bw_icmp_ge hZ (tgt := 40) (by decide) dX10_putFour_14 (fun _ =>
  bw_iinc hZ (-8) 2 rfl (by decide) (by decide) rfl dX10_putFour_40 <|
  bw_goto hZ (tgt := 3) (by decide) dX10_putFour_43 <|
  bw_sub [1, 2, 0] rfl (hk3 y1 (y2 + (-8)) w)) (fun _ =>
  bw_aload_n hZ 0 rfl dX10_putFour_17 <|
  bw_getR hZ fl_RX10_11 obC_1 rfl dX10_putFour_18 <|
  bw_aload_n hZ 0 rfl dX10_putFour_21 <|
  bw_getI hZ fl_RX10_19 (by decide) obC_1 dX10_putFour_22 <|
  bw_iload_n hZ 1 rfl dX10_putFour_25 <|
  bw_iload_n hZ 2 rfl dX10_putFour_26 <|
  bw_ishr hZ dX10_putFour_27 <|
  bw_i2b hZ dX10_putFour_28 <|
  bw_bast hZ (arC_2 _) dX10_putFour_29 fun w1 =>
  bw_aload_n hZ 0 rfl dX10_putFour_30 <|
  bw_dup hZ rfl dX10_putFour_31 <|
  bw_getI hZ fl_RX10_19 (by decide) obC_1 dX10_putFour_32 <|
  bw_iconst hZ 1 (by decide) dX10_putFour_35 <|
  bw_iadd hZ dX10_putFour_36 <|
  bw_putI hZ fl_RX10_19 rfl rfl (by decide) obC_1 dX10_putFour_37 fun w2 =>
  bw_iinc hZ (-8) 2 rfl (by decide) (by decide) rfl dX10_putFour_40 <|
  bw_goto hZ (tgt := 3) (by decide) dX10_putFour_43 <|
  bw_sub [1, 2, 0] rfl (hk3 y1 (y2 + (-8)) w2)))
def X10_putFour_b3_L  : Int32 → Int32 → Wd → Option (Wd) :=
  lp fu (fun _ _ _ => none) (fun k3 => X10_putFour_b3 k3)
theorem t_X10_putFour_b3_L {Z : Cz (Wd)} (hZ : OKZ Z SC cX10_putFour RX10 3 none 1) (hE : EndV Z)  : ∀ (y1 : Int32) (y2 : Int32)  (w : Wd), BW Z 3 3 [(0, .ref (ph (zY Z) 1)), (1, .int y1), (2, .int y2)] [] w (X10_putFour_b3_L y1 y2 w) :=
  lp_bw (fun k3 => ∀ (y1 : Int32) (y2 : Int32)  (w : Wd), BW Z 3 3 [(0, .ref (ph (zY Z) 1)), (1, .int y1), (2, .int y2)] [] w (k3 y1 y2 w)) (fun _ _ _ => bw_none) (fun k3 hk3 y1 y2 w => t_X10_putFour_b3 hZ hE k3 hk3 y1 y2 w) fu
def f_X10_putFour (x1 : Int32) (w : Wd) : Option (Wd) :=
  X10_putFour_b3_L x1 24 w
set_option maxRecDepth 100000 in
set_option maxHeartbeats 4000000 in
theorem t_X10_putFour {Z : Cz (Wd)} (hZ : OKZ Z SC cX10_putFour RX10 3 none 1) (hE : EndV Z) (x1 : Int32)  (w : Wd) : BW Z 3 0 [(0, .ref (ph (zY Z) 1)), (1, .int x1)] [] w (f_X10_putFour x1 w) :=
  bw_bipush hZ 24 (by decide) dX10_putFour_0 <|
  bw_istore_n hZ rfl (by decide) rfl dX10_putFour_2 <|
  bw_sub [1, 2, 0] rfl (t_X10_putFour_b3_L hZ hE x1 24 w)
theorem c_X10_putFour (l : Launch) (Y : Ev) (hY : Y.1 = SC) (x1 : Int32)  (w : Wd) : CV l Y yX10_putFour cX10_putFour 3 1 [.ref (ph Y 1), .int x1] w (f_X10_putFour x1 w) := by
  refine CV_of (S := SC) (by decide) (Nat.le_of_ble_eq_true rfl) hY ?_
  intro Z hl hY2 hZ hE
  subst hY2
  exact t_X10_putFour hZ hE x1 w
-- WhichWill$Tape.empty
theorem dX10_empty_0 : decode cX10_empty 0 = .ok (.aload_n 0, 1) := by decide +kernel
theorem dX10_empty_1 : decode cX10_empty 1 = .ok (.iconst 0, 1) := by decide +kernel
theorem dX10_empty_2 : decode cX10_empty 2 = .ok (.putfield 19, 3) := by decide +kernel
theorem dX10_empty_5 : decode cX10_empty 5 = .ok (.return_, 1) := by decide +kernel
def f_X10_empty (w : Wd) : Option (Wd) :=
  lt (wI w 1 1 0) fun w1 =>
  some w1
set_option maxRecDepth 100000 in
set_option maxHeartbeats 4000000 in
theorem t_X10_empty {Z : Cz (Wd)} (hZ : OKZ Z SC cX10_empty RX10 1 none 1) (hE : EndV Z)   (w : Wd) : BW Z 1 0 [(0, .ref (ph (zY Z) 1))] [] w (f_X10_empty w) :=
  bw_aload_n hZ 0 rfl dX10_empty_0 <|
  bw_iconst hZ 0 (by decide) dX10_empty_1 <|
  bw_putI hZ fl_RX10_19 rfl rfl (by decide) obC_1 dX10_empty_2 fun w1 =>
  bw_vret hZ hE dX10_empty_5
theorem c_X10_empty (l : Launch) (Y : Ev) (hY : Y.1 = SC)   (w : Wd) : CV l Y yX10_empty cX10_empty 1 1 [.ref (ph Y 1)] w (f_X10_empty w) := by
  refine CV_of (S := SC) (by decide) (Nat.le_of_ble_eq_true rfl) hY ?_
  intro Z hl hY2 hZ hE
  subst hY2
  exact t_X10_empty hZ hE w
-- WhichWill.feed
theorem dX11_feed_0 : decode cX11_feed 0 = .ok (.aload_n 0, 1) := by decide +kernel
theorem dX11_feed_1 : decode cX11_feed 1 = .ok (.getfield 10, 3) := by decide +kernel
theorem dX11_feed_4 : decode cX11_feed 4 = .ok (.invokevirtual 68, 3) := by decide +kernel
theorem dX11_feed_7 : decode cX11_feed 7 = .ok (.ifCond .ne 6, 3) := by decide +kernel
theorem dX11_feed_10 : decode cX11_feed 10 = .ok (.bipush (-3), 2) := by decide +kernel
theorem dX11_feed_12 : decode cX11_feed 12 = .ok (.ireturn, 1) := by decide +kernel
theorem dX11_feed_13 : decode cX11_feed 13 = .ok (.aload_n 0, 1) := by decide +kernel
theorem dX11_feed_14 : decode cX11_feed 14 = .ok (.getfield 10, 3) := by decide +kernel
theorem dX11_feed_17 : decode cX11_feed 17 = .ok (.iload_n 1, 1) := by decide +kernel
theorem dX11_feed_18 : decode cX11_feed 18 = .ok (.invokevirtual 72, 3) := by decide +kernel
theorem dX11_feed_21 : decode cX11_feed 21 = .ok (.aload_n 0, 1) := by decide +kernel
theorem dX11_feed_22 : decode cX11_feed 22 = .ok (.getfield 10, 3) := by decide +kernel
theorem dX11_feed_25 : decode cX11_feed 25 = .ok (.iload_n 2, 1) := by decide +kernel
theorem dX11_feed_26 : decode cX11_feed 26 = .ok (.invokevirtual 72, 3) := by decide +kernel
theorem dX11_feed_29 : decode cX11_feed 29 = .ok (.aload_n 0, 1) := by decide +kernel
theorem dX11_feed_30 : decode cX11_feed 30 = .ok (.getfield 10, 3) := by decide +kernel
theorem dX11_feed_33 : decode cX11_feed 33 = .ok (.iload_n 3, 1) := by decide +kernel
theorem dX11_feed_34 : decode cX11_feed 34 = .ok (.invokevirtual 72, 3) := by decide +kernel
theorem dX11_feed_37 : decode cX11_feed 37 = .ok (.aload_n 0, 1) := by decide +kernel
theorem dX11_feed_38 : decode cX11_feed 38 = .ok (.getfield 10, 3) := by decide +kernel
theorem dX11_feed_41 : decode cX11_feed 41 = .ok (.iload 4, 2) := by decide +kernel
theorem dX11_feed_43 : decode cX11_feed 43 = .ok (.invokevirtual 72, 3) := by decide +kernel
theorem dX11_feed_46 : decode cX11_feed 46 = .ok (.aload_n 0, 1) := by decide +kernel
theorem dX11_feed_47 : decode cX11_feed 47 = .ok (.getfield 10, 3) := by decide +kernel
theorem dX11_feed_50 : decode cX11_feed 50 = .ok (.iload 5, 2) := by decide +kernel
theorem dX11_feed_52 : decode cX11_feed 52 = .ok (.invokevirtual 72, 3) := by decide +kernel
theorem dX11_feed_55 : decode cX11_feed 55 = .ok (.aload_n 0, 1) := by decide +kernel
theorem dX11_feed_56 : decode cX11_feed 56 = .ok (.getfield 10, 3) := by decide +kernel
theorem dX11_feed_59 : decode cX11_feed 59 = .ok (.getfield 76, 3) := by decide +kernel
theorem dX11_feed_62 : decode cX11_feed 62 = .ok (.ireturn, 1) := by decide +kernel
def f_X11_feed (x1 : Int32) (x2 : Int32) (x3 : Int32) (x4 : Int32) (x5 : Int32) (w : Wd) : Option (Int32 × Wd) :=
  cl (f_X10_hasRoomForFeed w) fun r2 w1 =>
  if r2 = 0 then
  (some ((-3), w1))
  else
  cv (f_X10_putFour x1 w1) fun w3 =>
  cv (f_X10_putFour x2 w3) fun w4 =>
  cv (f_X10_putFour x3 w4) fun w5 =>
  cv (f_X10_putFour x4 w5) fun w6 =>
  cv (f_X10_putFour x5 w6) fun w7 =>
  some (w7.1 1 1, w7)
set_option maxRecDepth 100000 in
set_option maxHeartbeats 4000000 in
theorem t_X11_feed {Z : Cz (Int32 × Wd)} (hZ : OKZ Z SC cX11_feed RX11 6 (some .int) 2) (hE : EndI Z) (x1 : Int32) (x2 : Int32) (x3 : Int32) (x4 : Int32) (x5 : Int32)  (w : Wd) : BW Z 6 0 [(0, .ref (ph (zY Z) 0)), (1, .int x1), (2, .int x2), (3, .int x3), (4, .int x4), (5, .int x5)] [] w (f_X11_feed x1 x2 x3 x4 x5 w) :=
  bw_aload_n hZ 0 rfl dX11_feed_0 <|
  bw_getR hZ fl_RX11_10 obC_0 rfl dX11_feed_1 <|
  bw_callVI (As := []) hZ ml_RX11_68 rc_10 obC_1 (by decide) (c_X10_hasRoomForFeed (zl Z) (zY Z) (hZ_S hZ) w) rfl rfl (Nat.le_of_ble_eq_true rfl) dX11_feed_4 fun r2 w1 =>
  bw_if_ne hZ (tgt := 13) (by decide) dX11_feed_7 (fun _ =>
  bw_aload_n hZ 0 rfl dX11_feed_13 <|
  bw_getR hZ fl_RX11_10 obC_0 rfl dX11_feed_14 <|
  bw_iload_n hZ 1 rfl dX11_feed_17 <|
  bw_callVV (As := [.int x1]) hZ ml_RX11_72 rc_10 obC_1 (by decide) (c_X10_putFour (zl Z) (zY Z) (hZ_S hZ) x1 w1) rfl rfl (Nat.le_of_ble_eq_true rfl) dX11_feed_18 fun w3 =>
  bw_aload_n hZ 0 rfl dX11_feed_21 <|
  bw_getR hZ fl_RX11_10 obC_0 rfl dX11_feed_22 <|
  bw_iload_n hZ 2 rfl dX11_feed_25 <|
  bw_callVV (As := [.int x2]) hZ ml_RX11_72 rc_10 obC_1 (by decide) (c_X10_putFour (zl Z) (zY Z) (hZ_S hZ) x2 w3) rfl rfl (Nat.le_of_ble_eq_true rfl) dX11_feed_26 fun w4 =>
  bw_aload_n hZ 0 rfl dX11_feed_29 <|
  bw_getR hZ fl_RX11_10 obC_0 rfl dX11_feed_30 <|
  bw_iload_n hZ 3 rfl dX11_feed_33 <|
  bw_callVV (As := [.int x3]) hZ ml_RX11_72 rc_10 obC_1 (by decide) (c_X10_putFour (zl Z) (zY Z) (hZ_S hZ) x3 w4) rfl rfl (Nat.le_of_ble_eq_true rfl) dX11_feed_34 fun w5 =>
  bw_aload_n hZ 0 rfl dX11_feed_37 <|
  bw_getR hZ fl_RX11_10 obC_0 rfl dX11_feed_38 <|
  bw_iload hZ 4 rfl dX11_feed_41 <|
  bw_callVV (As := [.int x4]) hZ ml_RX11_72 rc_10 obC_1 (by decide) (c_X10_putFour (zl Z) (zY Z) (hZ_S hZ) x4 w5) rfl rfl (Nat.le_of_ble_eq_true rfl) dX11_feed_43 fun w6 =>
  bw_aload_n hZ 0 rfl dX11_feed_46 <|
  bw_getR hZ fl_RX11_10 obC_0 rfl dX11_feed_47 <|
  bw_iload hZ 5 rfl dX11_feed_50 <|
  bw_callVV (As := [.int x5]) hZ ml_RX11_72 rc_10 obC_1 (by decide) (c_X10_putFour (zl Z) (zY Z) (hZ_S hZ) x5 w6) rfl rfl (Nat.le_of_ble_eq_true rfl) dX11_feed_52 fun w7 =>
  bw_aload_n hZ 0 rfl dX11_feed_55 <|
  bw_getR hZ fl_RX11_10 obC_0 rfl dX11_feed_56 <|
  bw_getI hZ fl_RX11_76 (by decide) obC_1 dX11_feed_59 <|
  bw_iret hZ hE dX11_feed_62) (fun _ =>
  bw_bipush hZ (-3) (by decide) dX11_feed_10 <|
  bw_iret hZ hE dX11_feed_12)
theorem c_X11_feed (l : Launch) (Y : Ev) (hY : Y.1 = SC) (x1 : Int32) (x2 : Int32) (x3 : Int32) (x4 : Int32) (x5 : Int32)  (w : Wd) : CI l Y yX11_feed cX11_feed 6 2 [.ref (ph Y 0), .int x1, .int x2, .int x3, .int x4, .int x5] w .int (f_X11_feed x1 x2 x3 x4 x5 w) := by
  refine CI_of (S := SC) (by decide) (Nat.le_of_ble_eq_true rfl) hY ?_
  intro Z hl hY2 hZ hE
  subst hY2
  exact t_X11_feed hZ hE x1 x2 x3 x4 x5 w
-- WhichWill.end
theorem dX11_end_0 : decode cX11_end 0 = .ok (.iload_n 1, 1) := by decide +kernel
theorem dX11_end_1 : decode cX11_end 1 = .ok (.ifCond .lt 14, 3) := by decide +kernel
theorem dX11_end_4 : decode cX11_end 4 = .ok (.iload_n 1, 1) := by decide +kernel
theorem dX11_end_5 : decode cX11_end 5 = .ok (.aload_n 0, 1) := by decide +kernel
theorem dX11_end_6 : decode cX11_end 6 = .ok (.getfield 10, 3) := by decide +kernel
theorem dX11_end_9 : decode cX11_end 9 = .ok (.getfield 76, 3) := by decide +kernel
theorem dX11_end_12 : decode cX11_end 12 = .ok (.if_icmp .le 5, 3) := by decide +kernel
theorem dX11_end_15 : decode cX11_end 15 = .ok (.iconst (-1), 1) := by decide +kernel
theorem dX11_end_16 : decode cX11_end 16 = .ok (.ireturn, 1) := by decide +kernel
theorem dX11_end_17 : decode cX11_end 17 = .ok (.aload_n 0, 1) := by decide +kernel
theorem dX11_end_18 : decode cX11_end 18 = .ok (.getfield 10, 3) := by decide +kernel
theorem dX11_end_21 : decode cX11_end 21 = .ok (.iload_n 1, 1) := by decide +kernel
theorem dX11_end_22 : decode cX11_end 22 = .ok (.putfield 76, 3) := by decide +kernel
theorem dX11_end_25 : decode cX11_end 25 = .ok (.iload_n 1, 1) := by decide +kernel
theorem dX11_end_26 : decode cX11_end 26 = .ok (.ireturn, 1) := by decide +kernel
def f_X11_end (x1 : Int32) (w : Wd) : Option (Int32 × Wd) :=
  if x1 < 0 then
  (some ((-1), w))
  else
  if x1 ≤ (w.1 1 1) then
  (lt (wI w 1 1 x1) fun w1 =>
  some (x1, w1))
  else
  some ((-1), w)
set_option maxRecDepth 100000 in
set_option maxHeartbeats 4000000 in
theorem t_X11_end {Z : Cz (Int32 × Wd)} (hZ : OKZ Z SC cX11_end RX11 2 (some .int) 1) (hE : EndI Z) (x1 : Int32)  (w : Wd) : BW Z 2 0 [(0, .ref (ph (zY Z) 0)), (1, .int x1)] [] w (f_X11_end x1 w) :=
  bw_iload_n hZ 1 rfl dX11_end_0 <|
  bw_if_lt hZ (tgt := 15) (by decide) dX11_end_1 (fun _ =>
  bw_iconst hZ (-1) (by decide) dX11_end_15 <|
  bw_iret hZ hE dX11_end_16) (fun _ =>
  bw_iload_n hZ 1 rfl dX11_end_4 <|
  bw_aload_n hZ 0 rfl dX11_end_5 <|
  bw_getR hZ fl_RX11_10 obC_0 rfl dX11_end_6 <|
  bw_getI hZ fl_RX11_76 (by decide) obC_1 dX11_end_9 <|
  bw_icmp_le hZ (tgt := 17) (by decide) dX11_end_12 (fun _ =>
  bw_aload_n hZ 0 rfl dX11_end_17 <|
  bw_getR hZ fl_RX11_10 obC_0 rfl dX11_end_18 <|
  bw_iload_n hZ 1 rfl dX11_end_21 <|
  bw_putI hZ fl_RX11_76 rfl rfl (by decide) obC_1 dX11_end_22 fun w1 =>
  bw_iload_n hZ 1 rfl dX11_end_25 <|
  bw_iret hZ hE dX11_end_26) (fun _ =>
  bw_iconst hZ (-1) (by decide) dX11_end_15 <|
  bw_iret hZ hE dX11_end_16))
theorem c_X11_end (l : Launch) (Y : Ev) (hY : Y.1 = SC) (x1 : Int32)  (w : Wd) : CI l Y yX11_end cX11_end 2 1 [.ref (ph Y 0), .int x1] w .int (f_X11_end x1 w) := by
  refine CI_of (S := SC) (by decide) (Nat.le_of_ble_eq_true rfl) hY ?_
  intro Z hl hY2 hZ hE
  subst hY2
  exact t_X11_end hZ hE x1 w
-- WhichWill.keepFault
theorem dX11_keepFault_0 : decode cX11_keepFault 0 = .ok (.aload_n 0, 1) := by decide +kernel
theorem dX11_keepFault_1 : decode cX11_keepFault 1 = .ok (.aload_n 0, 1) := by decide +kernel
theorem dX11_keepFault_2 : decode cX11_keepFault 2 = .ok (.getfield 10, 3) := by decide +kernel
theorem dX11_keepFault_5 : decode cX11_keepFault 5 = .ok (.getfield 350, 3) := by decide +kernel
theorem dX11_keepFault_8 : decode cX11_keepFault 8 = .ok (.putfield 61, 3) := by decide +kernel
theorem dX11_keepFault_11 : decode cX11_keepFault 11 = .ok (.aload_n 0, 1) := by decide +kernel
theorem dX11_keepFault_12 : decode cX11_keepFault 12 = .ok (.aload_n 0, 1) := by decide +kernel
theorem dX11_keepFault_13 : decode cX11_keepFault 13 = .ok (.getfield 10, 3) := by decide +kernel
theorem dX11_keepFault_16 : decode cX11_keepFault 16 = .ok (.getfield 351, 3) := by decide +kernel
theorem dX11_keepFault_19 : decode cX11_keepFault 19 = .ok (.putfield 65, 3) := by decide +kernel
theorem dX11_keepFault_22 : decode cX11_keepFault 22 = .ok (.aload_n 0, 1) := by decide +kernel
theorem dX11_keepFault_23 : decode cX11_keepFault 23 = .ok (.getfield 10, 3) := by decide +kernel
theorem dX11_keepFault_26 : decode cX11_keepFault 26 = .ok (.invokevirtual 111, 3) := by decide +kernel
theorem dX11_keepFault_29 : decode cX11_keepFault 29 = .ok (.return_, 1) := by decide +kernel
def f_X11_keepFault (w : Wd) : Option (Wd) :=
  lt (wI w 0 7 (w.1 1 4)) fun w1 =>
  lt (wI w1 0 8 (w1.1 1 5)) fun w2 =>
  cv (f_X10_empty w2) fun w3 =>
  some w3
set_option maxRecDepth 100000 in
set_option maxHeartbeats 4000000 in
theorem t_X11_keepFault {Z : Cz (Wd)} (hZ : OKZ Z SC cX11_keepFault RX11 1 none 2) (hE : EndV Z)   (w : Wd) : BW Z 1 0 [(0, .ref (ph (zY Z) 0))] [] w (f_X11_keepFault w) :=
  bw_aload_n hZ 0 rfl dX11_keepFault_0 <|
  bw_aload_n hZ 0 rfl dX11_keepFault_1 <|
  bw_getR hZ fl_RX11_10 obC_0 rfl dX11_keepFault_2 <|
  bw_getI hZ fl_RX11_350 (by decide) obC_1 dX11_keepFault_5 <|
  bw_putI hZ fl_RX11_61 rfl rfl (by decide) obC_0 dX11_keepFault_8 fun w1 =>
  bw_aload_n hZ 0 rfl dX11_keepFault_11 <|
  bw_aload_n hZ 0 rfl dX11_keepFault_12 <|
  bw_getR hZ fl_RX11_10 obC_0 rfl dX11_keepFault_13 <|
  bw_getI hZ fl_RX11_351 (by decide) obC_1 dX11_keepFault_16 <|
  bw_putI hZ fl_RX11_65 rfl rfl (by decide) obC_0 dX11_keepFault_19 fun w2 =>
  bw_aload_n hZ 0 rfl dX11_keepFault_22 <|
  bw_getR hZ fl_RX11_10 obC_0 rfl dX11_keepFault_23 <|
  bw_callVV (As := []) hZ ml_RX11_111 rc_10 obC_1 (by decide) (c_X10_empty (zl Z) (zY Z) (hZ_S hZ) w2) rfl rfl (Nat.le_of_ble_eq_true rfl) dX11_keepFault_26 fun w3 =>
  bw_vret hZ hE dX11_keepFault_29
theorem c_X11_keepFault (l : Launch) (Y : Ev) (hY : Y.1 = SC)   (w : Wd) : CV l Y yX11_keepFault cX11_keepFault 1 2 [.ref (ph Y 0)] w (f_X11_keepFault w) := by
  refine CV_of (S := SC) (by decide) (Nat.le_of_ble_eq_true rfl) hY ?_
  intro Z hl hY2 hZ hE
  subst hY2
  exact t_X11_keepFault hZ hE w
-- WhichWill.paper
theorem dX11_paper_0 : decode cX11_paper 0 = .ok (.aload_n 0, 1) := by decide +kernel
theorem dX11_paper_1 : decode cX11_paper 1 = .ok (.getfield 19, 3) := by decide +kernel
theorem dX11_paper_4 : decode cX11_paper 4 = .ok (.getfield 104, 3) := by decide +kernel
theorem dX11_paper_7 : decode cX11_paper 7 = .ok (.iconst 4, 1) := by decide +kernel
theorem dX11_paper_8 : decode cX11_paper 8 = .ok (.if_icmp .ge 15, 3) := by decide +kernel
theorem dX11_paper_11 : decode cX11_paper 11 = .ok (.aload_n 0, 1) := by decide +kernel
theorem dX11_paper_12 : decode cX11_paper 12 = .ok (.getfield 19, 3) := by decide +kernel
theorem dX11_paper_15 : decode cX11_paper 15 = .ok (.invokevirtual 107, 3) := by decide +kernel
theorem dX11_paper_18 : decode cX11_paper 18 = .ok (.bipush 6, 2) := by decide +kernel
theorem dX11_paper_20 : decode cX11_paper 20 = .ok (.if_icmp .lt 13, 3) := by decide +kernel
theorem dX11_paper_23 : decode cX11_paper 23 = .ok (.aload_n 0, 1) := by decide +kernel
theorem dX11_paper_24 : decode cX11_paper 24 = .ok (.getfield 10, 3) := by decide +kernel
theorem dX11_paper_27 : decode cX11_paper 27 = .ok (.invokevirtual 111, 3) := by decide +kernel
theorem dX11_paper_30 : decode cX11_paper 30 = .ok (.bipush (-3), 2) := by decide +kernel
theorem dX11_paper_32 : decode cX11_paper 32 = .ok (.ireturn, 1) := by decide +kernel
theorem dX11_paper_33 : decode cX11_paper 33 = .ok (.aload_n 0, 1) := by decide +kernel
theorem dX11_paper_34 : decode cX11_paper 34 = .ok (.getfield 19, 3) := by decide +kernel
theorem dX11_paper_37 : decode cX11_paper 37 = .ok (.getfield 104, 3) := by decide +kernel
theorem dX11_paper_40 : decode cX11_paper 40 = .ok (.istore_n 1, 1) := by decide +kernel
theorem dX11_paper_41 : decode cX11_paper 41 = .ok (.aload_n 0, 1) := by decide +kernel
theorem dX11_paper_42 : decode cX11_paper 42 = .ok (.getfield 19, 3) := by decide +kernel
theorem dX11_paper_45 : decode cX11_paper 45 = .ok (.getfield 114, 3) := by decide +kernel
theorem dX11_paper_48 : decode cX11_paper 48 = .ok (.iload_n 1, 1) := by decide +kernel
theorem dX11_paper_49 : decode cX11_paper 49 = .ok (.aaload, 1) := by decide +kernel
theorem dX11_paper_50 : decode cX11_paper 50 = .ok (.aload_n 0, 1) := by decide +kernel
theorem dX11_paper_51 : decode cX11_paper 51 = .ok (.getfield 10, 3) := by decide +kernel
theorem dX11_paper_54 : decode cX11_paper 54 = .ok (.aload_n 0, 1) := by decide +kernel
theorem dX11_paper_55 : decode cX11_paper 55 = .ok (.getfield 19, 3) := by decide +kernel
theorem dX11_paper_58 : decode cX11_paper 58 = .ok (.getfield 98, 3) := by decide +kernel
theorem dX11_paper_61 : decode cX11_paper 61 = .ok (.iload_n 1, 1) := by decide +kernel
theorem dX11_paper_62 : decode cX11_paper 62 = .ok (.invokevirtual 118, 3) := by decide +kernel
theorem dX11_paper_65 : decode cX11_paper 65 = .ok (.istore_n 2, 1) := by decide +kernel
theorem dX11_paper_66 : decode cX11_paper 66 = .ok (.aload_n 0, 1) := by decide +kernel
theorem dX11_paper_67 : decode cX11_paper 67 = .ok (.invokevirtual 89, 3) := by decide +kernel
theorem dX11_paper_70 : decode cX11_paper 70 = .ok (.iload_n 2, 1) := by decide +kernel
theorem dX11_paper_71 : decode cX11_paper 71 = .ok (.ifCond .ne 5, 3) := by decide +kernel
theorem dX11_paper_74 : decode cX11_paper 74 = .ok (.iconst (-1), 1) := by decide +kernel
theorem dX11_paper_75 : decode cX11_paper 75 = .ok (.ireturn, 1) := by decide +kernel
theorem dX11_paper_76 : decode cX11_paper 76 = .ok (.aload_n 0, 1) := by decide +kernel
theorem dX11_paper_77 : decode cX11_paper 77 = .ok (.getfield 19, 3) := by decide +kernel
theorem dX11_paper_80 : decode cX11_paper 80 = .ok (.invokevirtual 123, 3) := by decide +kernel
theorem dX11_paper_83 : decode cX11_paper 83 = .ok (.iload_n 1, 1) := by decide +kernel
theorem dX11_paper_84 : decode cX11_paper 84 = .ok (.ireturn, 1) := by decide +kernel
def X11_paper_b23 (w : Wd) : Option (Int32 × Wd) :=
  cv (f_X10_empty w) fun w1 =>
  some ((-3), w1)
set_option maxRecDepth 100000 in
set_option maxHeartbeats 4000000 in
theorem t_X11_paper_b23 {Z : Cz (Int32 × Wd)} (hZ : OKZ Z SC cX11_paper RX11 3 (some .int) 11) (hE : EndI Z)    (w : Wd) : BW Z 3 23 [(0, .ref (ph (zY Z) 0))] [] w (X11_paper_b23 w) :=
  bw_aload_n hZ 0 rfl dX11_paper_23 <|
  bw_getR hZ fl_RX11_10 obC_0 rfl dX11_paper_24 <|
  bw_callVV (As := []) hZ ml_RX11_111 rc_10 obC_1 (by decide) (c_X10_empty (zl Z) (zY Z) (hZ_S hZ) w) rfl rfl (Nat.le_of_ble_eq_true rfl) dX11_paper_27 fun w1 =>
  bw_bipush hZ (-3) (by decide) dX11_paper_30 <|
  bw_iret hZ hE dX11_paper_32
def f_X11_paper (w : Wd) : Option (Int32 × Wd) :=
  if 4 ≤ (w.1 3 3) then
  (X11_paper_b23 w)
  else
  cl (f_X2_itemsTold w) fun r3 w2 =>
  if r3 < 6 then
  (lt (w2.1 3 3) fun v4 =>
  if inb v4 4 = true then
  (cl (f_X6_readText (57 + 6 * Int32.toNatClampNeg v4) v4 w2) fun r8 w7 =>
  cv (f_X11_keepFault w7) fun w9 =>
  if r8 = 0 then
  (some ((-1), w9))
  else
  cv (f_X2_takePaper w9) fun w10 =>
  some (v4, w10))
  else none)
  else
  X11_paper_b23 w2
set_option maxRecDepth 100000 in
set_option maxHeartbeats 4000000 in
theorem t_X11_paper {Z : Cz (Int32 × Wd)} (hZ : OKZ Z SC cX11_paper RX11 3 (some .int) 11) (hE : EndI Z)   (w : Wd) : BW Z 3 0 [(0, .ref (ph (zY Z) 0))] [] w (f_X11_paper w) :=
  bw_aload_n hZ 0 rfl dX11_paper_0 <|
  bw_getR hZ fl_RX11_19 obC_0 rfl dX11_paper_1 <|
  bw_getI hZ fl_RX11_104 (by decide) obC_3 dX11_paper_4 <|
  bw_iconst hZ 4 (by decide) dX11_paper_7 <|
  bw_icmp_ge hZ (tgt := 23) (by decide) dX11_paper_8 (fun _ =>
  bw_sub [0] rfl (t_X11_paper_b23 hZ hE w)) (fun _ =>
  bw_aload_n hZ 0 rfl dX11_paper_11 <|
  bw_getR hZ fl_RX11_19 obC_0 rfl dX11_paper_12 <|
  bw_callVI (As := []) hZ ml_RX11_107 rc_2 obC_3 (by decide) (c_X2_itemsTold (zl Z) (zY Z) (hZ_S hZ) w) rfl rfl (Nat.le_of_ble_eq_true rfl) dX11_paper_15 fun r3 w2 =>
  bw_bipush hZ 6 (by decide) dX11_paper_18 <|
  bw_icmp_lt hZ (tgt := 33) (by decide) dX11_paper_20 (fun _ =>
  bw_aload_n hZ 0 rfl dX11_paper_33 <|
  bw_getR hZ fl_RX11_19 obC_0 rfl dX11_paper_34 <|
  bw_getI hZ fl_RX11_104 (by decide) obC_3 dX11_paper_37 <|
  bw_nm fun v4 =>
  bw_istore_n hZ rfl (by decide) rfl dX11_paper_40 <|
  bw_aload_n hZ 1 rfl dX11_paper_41 <|
  bw_getR hZ fl_RX11_19 obC_0 rfl dX11_paper_42 <|
  bw_getR hZ fl_RX11_114 obC_3 rfl dX11_paper_45 <|
  bw_iload_n hZ 0 rfl dX11_paper_48 <|
  bw_aald (57 + 6 * Int32.toNatClampNeg v4) hZ (arC_4 _) (Or.inl ⟨rfl, rfl⟩) rfl dX11_paper_49 fun hi5 =>
  bw_aload_n hZ 1 rfl dX11_paper_50 <|
  bw_getR hZ fl_RX11_10 obC_0 rfl dX11_paper_51 <|
  bw_aload_n hZ 1 rfl dX11_paper_54 <|
  bw_getR hZ fl_RX11_19 obC_0 rfl dX11_paper_55 <|
  bw_getR hZ fl_RX11_98 obC_3 rfl dX11_paper_58 <|
  bw_iload_n hZ 0 rfl dX11_paper_61 <|
  bw_callVI (As := [.ref (ph (zY Z) 1), .ref (ph (zY Z) 31), .int v4]) hZ ml_RX11_118 rc_6 (obP (isP_of hi5)) (by decide) (c_X6_readText (zl Z) (zY Z) (hZ_S hZ) (57 + 6 * Int32.toNatClampNeg v4) v4 (isP_of hi5) w2) rfl rfl (Nat.le_of_ble_eq_true rfl) dX11_paper_62 fun r8 w7 =>
  bw_istore_n hZ rfl (by decide) rfl dX11_paper_65 <|
  bw_aload_n hZ 2 rfl dX11_paper_66 <|
  bw_callVV (As := []) hZ ml_RX11_89 rc_11 obC_0 (by decide) (c_X11_keepFault (zl Z) (zY Z) (hZ_S hZ) w7) rfl rfl (Nat.le_of_ble_eq_true rfl) dX11_paper_67 fun w9 =>
  bw_iload_n hZ 0 rfl dX11_paper_70 <|
  bw_if_ne hZ (tgt := 76) (by decide) dX11_paper_71 (fun _ =>
  bw_aload_n hZ 2 rfl dX11_paper_76 <|
  bw_getR hZ fl_RX11_19 obC_0 rfl dX11_paper_77 <|
  bw_callVV (As := []) hZ ml_RX11_123 rc_2 obC_3 (by decide) (c_X2_takePaper (zl Z) (zY Z) (hZ_S hZ) w9) rfl rfl (Nat.le_of_ble_eq_true rfl) dX11_paper_80 fun w10 =>
  bw_iload_n hZ 1 rfl dX11_paper_83 <|
  bw_iret hZ hE dX11_paper_84) (fun _ =>
  bw_iconst hZ (-1) (by decide) dX11_paper_74 <|
  bw_iret hZ hE dX11_paper_75)) (fun _ =>
  bw_sub [0] rfl (t_X11_paper_b23 hZ hE w2)))
theorem c_X11_paper (l : Launch) (Y : Ev) (hY : Y.1 = SC)   (w : Wd) : CI l Y yX11_paper cX11_paper 3 11 [.ref (ph Y 0)] w .int (f_X11_paper w) := by
  refine CI_of (S := SC) (by decide) (Nat.le_of_ble_eq_true rfl) hY ?_
  intro Z hl hY2 hZ hE
  subst hY2
  exact t_X11_paper hZ hE w
-- WhichWill.fault
theorem dX11_fault_0 : decode cX11_fault 0 = .ok (.iload_n 1, 1) := by decide +kernel
theorem dX11_fault_1 : decode cX11_fault 1 = .ok (.ifCond .ne 8, 3) := by decide +kernel
theorem dX11_fault_4 : decode cX11_fault 4 = .ok (.aload_n 0, 1) := by decide +kernel
theorem dX11_fault_5 : decode cX11_fault 5 = .ok (.getfield 61, 3) := by decide +kernel
theorem dX11_fault_8 : decode cX11_fault 8 = .ok (.ireturn, 1) := by decide +kernel
theorem dX11_fault_9 : decode cX11_fault 9 = .ok (.iload_n 1, 1) := by decide +kernel
theorem dX11_fault_10 : decode cX11_fault 10 = .ok (.iconst 1, 1) := by decide +kernel
theorem dX11_fault_11 : decode cX11_fault 11 = .ok (.if_icmp .ne 10, 3) := by decide +kernel
theorem dX11_fault_14 : decode cX11_fault 14 = .ok (.aload_n 0, 1) := by decide +kernel
theorem dX11_fault_15 : decode cX11_fault 15 = .ok (.getfield 65, 3) := by decide +kernel
theorem dX11_fault_18 : decode cX11_fault 18 = .ok (.goto 4, 3) := by decide +kernel
theorem dX11_fault_21 : decode cX11_fault 21 = .ok (.iconst (-1), 1) := by decide +kernel
theorem dX11_fault_22 : decode cX11_fault 22 = .ok (.ireturn, 1) := by decide +kernel
def f_X11_fault (x1 : Int32) (w : Wd) : Option (Int32 × Wd) :=
  if x1 = 0 then
  (some (w.1 0 7, w))
  else
  if x1 = 1 then
  (some (w.1 0 8, w))
  else
  some ((-1), w)
set_option maxRecDepth 100000 in
set_option maxHeartbeats 4000000 in
theorem t_X11_fault {Z : Cz (Int32 × Wd)} (hZ : OKZ Z SC cX11_fault RX11 2 (some .int) 1) (hE : EndI Z) (x1 : Int32)  (w : Wd) : BW Z 2 0 [(0, .ref (ph (zY Z) 0)), (1, .int x1)] [] w (f_X11_fault x1 w) :=
  bw_iload_n hZ 1 rfl dX11_fault_0 <|
  bw_if_ne hZ (tgt := 9) (by decide) dX11_fault_1 (fun _ =>
  bw_iload_n hZ 1 rfl dX11_fault_9 <|
  bw_iconst hZ 1 (by decide) dX11_fault_10 <|
  bw_icmp_ne hZ (tgt := 21) (by decide) dX11_fault_11 (fun _ =>
  bw_iconst hZ (-1) (by decide) dX11_fault_21 <|
  bw_iret hZ hE dX11_fault_22) (fun _ =>
  bw_aload_n hZ 0 rfl dX11_fault_14 <|
  bw_getI hZ fl_RX11_65 (by decide) obC_0 dX11_fault_15 <|
  bw_goto hZ (tgt := 22) (by decide) dX11_fault_18 <|
  bw_iret hZ hE dX11_fault_22)) (fun _ =>
  bw_aload_n hZ 0 rfl dX11_fault_4 <|
  bw_getI hZ fl_RX11_61 (by decide) obC_0 dX11_fault_5 <|
  bw_iret hZ hE dX11_fault_8)
theorem c_X11_fault (l : Launch) (Y : Ev) (hY : Y.1 = SC) (x1 : Int32)  (w : Wd) : CI l Y yX11_fault cX11_fault 2 1 [.ref (ph Y 0), .int x1] w .int (f_X11_fault x1 w) := by
  refine CI_of (S := SC) (by decide) (Nat.le_of_ble_eq_true rfl) hY ?_
  intro Z hl hY2 hZ hE
  subst hY2
  exact t_X11_fault hZ hE x1 w
-- WhichWill.isPaper
theorem dX11_isPaper_0 : decode cX11_isPaper 0 = .ok (.iload_n 1, 1) := by decide +kernel
theorem dX11_isPaper_1 : decode cX11_isPaper 1 = .ok (.ifCond .lt 18, 3) := by decide +kernel
theorem dX11_isPaper_4 : decode cX11_isPaper 4 = .ok (.iload_n 1, 1) := by decide +kernel
theorem dX11_isPaper_5 : decode cX11_isPaper 5 = .ok (.aload_n 0, 1) := by decide +kernel
theorem dX11_isPaper_6 : decode cX11_isPaper 6 = .ok (.getfield 19, 3) := by decide +kernel
theorem dX11_isPaper_9 : decode cX11_isPaper 9 = .ok (.getfield 104, 3) := by decide +kernel
theorem dX11_isPaper_12 : decode cX11_isPaper 12 = .ok (.if_icmp .ge 7, 3) := by decide +kernel
theorem dX11_isPaper_15 : decode cX11_isPaper 15 = .ok (.iconst 1, 1) := by decide +kernel
theorem dX11_isPaper_16 : decode cX11_isPaper 16 = .ok (.goto 4, 3) := by decide +kernel
theorem dX11_isPaper_19 : decode cX11_isPaper 19 = .ok (.iconst 0, 1) := by decide +kernel
theorem dX11_isPaper_20 : decode cX11_isPaper 20 = .ok (.ireturn, 1) := by decide +kernel
def f_X11_isPaper (x1 : Int32) (w : Wd) : Option (Int32 × Wd) :=
  if x1 < 0 then
  (some (0, w))
  else
  if (w.1 3 3) ≤ x1 then
  (some (0, w))
  else
  some (1, w)
set_option maxRecDepth 100000 in
set_option maxHeartbeats 4000000 in
theorem t_X11_isPaper {Z : Cz (Int32 × Wd)} (hZ : OKZ Z SC cX11_isPaper RX11 2 (some .boolean) 1) (hE : EndI Z) (x1 : Int32)  (w : Wd) : BW Z 2 0 [(0, .ref (ph (zY Z) 0)), (1, .int x1)] [] w (f_X11_isPaper x1 w) :=
  bw_iload_n hZ 1 rfl dX11_isPaper_0 <|
  bw_if_lt hZ (tgt := 19) (by decide) dX11_isPaper_1 (fun _ =>
  bw_iconst hZ 0 (by decide) dX11_isPaper_19 <|
  bw_zret hZ hE (by decide) dX11_isPaper_20) (fun _ =>
  bw_iload_n hZ 1 rfl dX11_isPaper_4 <|
  bw_aload_n hZ 0 rfl dX11_isPaper_5 <|
  bw_getR hZ fl_RX11_19 obC_0 rfl dX11_isPaper_6 <|
  bw_getI hZ fl_RX11_104 (by decide) obC_3 dX11_isPaper_9 <|
  bw_icmp_ge hZ (tgt := 19) (by decide) dX11_isPaper_12 (fun _ =>
  bw_iconst hZ 0 (by decide) dX11_isPaper_19 <|
  bw_zret hZ hE (by decide) dX11_isPaper_20) (fun _ =>
  bw_iconst hZ 1 (by decide) dX11_isPaper_15 <|
  bw_goto hZ (tgt := 20) (by decide) dX11_isPaper_16 <|
  bw_zret hZ hE (by decide) dX11_isPaper_20))
theorem c_X11_isPaper (l : Launch) (Y : Ev) (hY : Y.1 = SC) (x1 : Int32)  (w : Wd) : CI l Y yX11_isPaper cX11_isPaper 2 1 [.ref (ph Y 0), .int x1] w .boolean (f_X11_isPaper x1 w) := by
  refine CI_of (S := SC) (by decide) (Nat.le_of_ble_eq_true rfl) hY ?_
  intro Z hl hY2 hZ hE
  subst hY2
  exact t_X11_isPaper hZ hE x1 w
-- WhichWill.event
theorem dX11_event_0 : decode cX11_event 0 = .ok (.iload_n 1, 1) := by decide +kernel
theorem dX11_event_1 : decode cX11_event 1 = .ok (.ifCond .lt 8, 3) := by decide +kernel
theorem dX11_event_4 : decode cX11_event 4 = .ok (.iload_n 1, 1) := by decide +kernel
theorem dX11_event_5 : decode cX11_event 5 = .ok (.iconst 4, 1) := by decide +kernel
theorem dX11_event_6 : decode cX11_event 6 = .ok (.if_icmp .le 6, 3) := by decide +kernel
theorem dX11_event_9 : decode cX11_event 9 = .ok (.bipush (-2), 2) := by decide +kernel
theorem dX11_event_11 : decode cX11_event 11 = .ok (.ireturn, 1) := by decide +kernel
theorem dX11_event_12 : decode cX11_event 12 = .ok (.iload_n 1, 1) := by decide +kernel
theorem dX11_event_13 : decode cX11_event 13 = .ok (.iconst 2, 1) := by decide +kernel
theorem dX11_event_14 : decode cX11_event 14 = .ok (.if_icmp .lt 14, 3) := by decide +kernel
theorem dX11_event_17 : decode cX11_event 17 = .ok (.aload_n 0, 1) := by decide +kernel
theorem dX11_event_18 : decode cX11_event 18 = .ok (.iload_n 2, 1) := by decide +kernel
theorem dX11_event_19 : decode cX11_event 19 = .ok (.invokevirtual 128, 3) := by decide +kernel
theorem dX11_event_22 : decode cX11_event 22 = .ok (.ifCond .ne 6, 3) := by decide +kernel
theorem dX11_event_25 : decode cX11_event 25 = .ok (.bipush (-2), 2) := by decide +kernel
theorem dX11_event_27 : decode cX11_event 27 = .ok (.ireturn, 1) := by decide +kernel
theorem dX11_event_28 : decode cX11_event 28 = .ok (.iload_n 3, 1) := by decide +kernel
theorem dX11_event_29 : decode cX11_event 29 = .ok (.ifCond .lt 17, 3) := by decide +kernel
theorem dX11_event_32 : decode cX11_event 32 = .ok (.iload 4, 2) := by decide +kernel
theorem dX11_event_34 : decode cX11_event 34 = .ok (.sipush 9999, 3) := by decide +kernel
theorem dX11_event_37 : decode cX11_event 37 = .ok (.if_icmp .gt 9, 3) := by decide +kernel
theorem dX11_event_40 : decode cX11_event 40 = .ok (.iload_n 3, 1) := by decide +kernel
theorem dX11_event_41 : decode cX11_event 41 = .ok (.iload 4, 2) := by decide +kernel
theorem dX11_event_43 : decode cX11_event 43 = .ok (.if_icmp .le 6, 3) := by decide +kernel
theorem dX11_event_46 : decode cX11_event 46 = .ok (.bipush (-2), 2) := by decide +kernel
theorem dX11_event_48 : decode cX11_event 48 = .ok (.ireturn, 1) := by decide +kernel
theorem dX11_event_49 : decode cX11_event 49 = .ok (.iload 5, 2) := by decide +kernel
theorem dX11_event_51 : decode cX11_event 51 = .ok (.iconst (-1), 1) := by decide +kernel
theorem dX11_event_52 : decode cX11_event 52 = .ok (.if_icmp .lt 9, 3) := by decide +kernel
theorem dX11_event_55 : decode cX11_event 55 = .ok (.iload 5, 2) := by decide +kernel
theorem dX11_event_57 : decode cX11_event 57 = .ok (.iconst 3, 1) := by decide +kernel
theorem dX11_event_58 : decode cX11_event 58 = .ok (.if_icmp .lt 6, 3) := by decide +kernel
theorem dX11_event_61 : decode cX11_event 61 = .ok (.bipush (-2), 2) := by decide +kernel
theorem dX11_event_63 : decode cX11_event 63 = .ok (.ireturn, 1) := by decide +kernel
theorem dX11_event_64 : decode cX11_event 64 = .ok (.aload_n 0, 1) := by decide +kernel
theorem dX11_event_65 : decode cX11_event 65 = .ok (.getfield 19, 3) := by decide +kernel
theorem dX11_event_68 : decode cX11_event 68 = .ok (.getfield 132, 3) := by decide +kernel
theorem dX11_event_71 : decode cX11_event 71 = .ok (.iconst 3, 1) := by decide +kernel
theorem dX11_event_72 : decode cX11_event 72 = .ok (.if_icmp .ge 15, 3) := by decide +kernel
theorem dX11_event_75 : decode cX11_event 75 = .ok (.aload_n 0, 1) := by decide +kernel
theorem dX11_event_76 : decode cX11_event 76 = .ok (.getfield 19, 3) := by decide +kernel
theorem dX11_event_79 : decode cX11_event 79 = .ok (.invokevirtual 107, 3) := by decide +kernel
theorem dX11_event_82 : decode cX11_event 82 = .ok (.bipush 6, 2) := by decide +kernel
theorem dX11_event_84 : decode cX11_event 84 = .ok (.if_icmp .lt 6, 3) := by decide +kernel
theorem dX11_event_87 : decode cX11_event 87 = .ok (.bipush (-3), 2) := by decide +kernel
theorem dX11_event_89 : decode cX11_event 89 = .ok (.ireturn, 1) := by decide +kernel
theorem dX11_event_90 : decode cX11_event 90 = .ok (.aload_n 0, 1) := by decide +kernel
theorem dX11_event_91 : decode cX11_event 91 = .ok (.getfield 19, 3) := by decide +kernel
theorem dX11_event_94 : decode cX11_event 94 = .ok (.iload_n 1, 1) := by decide +kernel
theorem dX11_event_95 : decode cX11_event 95 = .ok (.iload_n 2, 1) := by decide +kernel
theorem dX11_event_96 : decode cX11_event 96 = .ok (.iload_n 3, 1) := by decide +kernel
theorem dX11_event_97 : decode cX11_event 97 = .ok (.iload 4, 2) := by decide +kernel
theorem dX11_event_99 : decode cX11_event 99 = .ok (.iload 5, 2) := by decide +kernel
theorem dX11_event_101 : decode cX11_event 101 = .ok (.invokevirtual 135, 3) := by decide +kernel
theorem dX11_event_104 : decode cX11_event 104 = .ok (.aload_n 0, 1) := by decide +kernel
theorem dX11_event_105 : decode cX11_event 105 = .ok (.getfield 19, 3) := by decide +kernel
theorem dX11_event_108 : decode cX11_event 108 = .ok (.getfield 132, 3) := by decide +kernel
theorem dX11_event_111 : decode cX11_event 111 = .ok (.iconst 1, 1) := by decide +kernel
theorem dX11_event_112 : decode cX11_event 112 = .ok (.isub, 1) := by decide +kernel
theorem dX11_event_113 : decode cX11_event 113 = .ok (.ireturn, 1) := by decide +kernel
def X11_event_b28 (y1 : Int32) (y2 : Int32) (y3 : Int32) (y4 : Int32) (y5 : Int32) (w : Wd) : Option (Int32 × Wd) :=
  if y3 < 0 then
  (some ((-2), w))
  else
  if 9999 < y4 then
  (some ((-2), w))
  else
  if y3 ≤ y4 then
  (if y5 < ((-1)) then
  (some ((-2), w))
  else
  if y5 < 3 then
  (if 3 ≤ (w.1 3 4) then
  (some ((-3), w))
  else
  cl (f_X2_itemsTold w) fun r2 w1 =>
  if r2 < 6 then
  (cv (f_X2_addEvent y1 y2 y3 y4 y5 w1) fun w3 =>
  some ((w3.1 3 4) - 1, w3))
  else
  some ((-3), w1))
  else
  some ((-2), w))
  else
  some ((-2), w)
set_option maxRecDepth 100000 in
set_option maxHeartbeats 4000000 in
theorem t_X11_event_b28 {Z : Cz (Int32 × Wd)} (hZ : OKZ Z SC cX11_event RX11 6 (some .int) 5) (hE : EndI Z)  (y1 : Int32) (y2 : Int32) (y3 : Int32) (y4 : Int32) (y5 : Int32)  (w : Wd) : BW Z 6 28 [(0, .ref (ph (zY Z) 0)), (1, .int y1), (2, .int y2), (3, .int y3), (4, .int y4), (5, .int y5)] [] w (X11_event_b28 y1 y2 y3 y4 y5 w) :=
  bw_iload_n hZ 3 rfl dX11_event_28 <|
  bw_if_lt hZ (tgt := 46) (by decide) dX11_event_29 (fun _ =>
  bw_bipush hZ (-2) (by decide) dX11_event_46 <|
  bw_iret hZ hE dX11_event_48) (fun _ =>
  bw_iload hZ 4 rfl dX11_event_32 <|
  bw_sipush hZ 9999 (by decide) dX11_event_34 <|
  bw_icmp_gt hZ (tgt := 46) (by decide) dX11_event_37 (fun _ =>
  bw_bipush hZ (-2) (by decide) dX11_event_46 <|
  bw_iret hZ hE dX11_event_48) (fun _ =>
  bw_iload_n hZ 3 rfl dX11_event_40 <|
  bw_iload hZ 4 rfl dX11_event_41 <|
  bw_icmp_le hZ (tgt := 49) (by decide) dX11_event_43 (fun _ =>
  bw_iload hZ 5 rfl dX11_event_49 <|
  bw_iconst hZ (-1) (by decide) dX11_event_51 <|
  bw_icmp_lt hZ (tgt := 61) (by decide) dX11_event_52 (fun _ =>
  bw_bipush hZ (-2) (by decide) dX11_event_61 <|
  bw_iret hZ hE dX11_event_63) (fun _ =>
  bw_iload hZ 5 rfl dX11_event_55 <|
  bw_iconst hZ 3 (by decide) dX11_event_57 <|
  bw_icmp_lt hZ (tgt := 64) (by decide) dX11_event_58 (fun _ =>
  bw_aload_n hZ 0 rfl dX11_event_64 <|
  bw_getR hZ fl_RX11_19 obC_0 rfl dX11_event_65 <|
  bw_getI hZ fl_RX11_132 (by decide) obC_3 dX11_event_68 <|
  bw_iconst hZ 3 (by decide) dX11_event_71 <|
  bw_icmp_ge hZ (tgt := 87) (by decide) dX11_event_72 (fun _ =>
  bw_bipush hZ (-3) (by decide) dX11_event_87 <|
  bw_iret hZ hE dX11_event_89) (fun _ =>
  bw_aload_n hZ 0 rfl dX11_event_75 <|
  bw_getR hZ fl_RX11_19 obC_0 rfl dX11_event_76 <|
  bw_callVI (As := []) hZ ml_RX11_107 rc_2 obC_3 (by decide) (c_X2_itemsTold (zl Z) (zY Z) (hZ_S hZ) w) rfl rfl (Nat.le_of_ble_eq_true rfl) dX11_event_79 fun r2 w1 =>
  bw_bipush hZ 6 (by decide) dX11_event_82 <|
  bw_icmp_lt hZ (tgt := 90) (by decide) dX11_event_84 (fun _ =>
  bw_aload_n hZ 0 rfl dX11_event_90 <|
  bw_getR hZ fl_RX11_19 obC_0 rfl dX11_event_91 <|
  bw_iload_n hZ 1 rfl dX11_event_94 <|
  bw_iload_n hZ 2 rfl dX11_event_95 <|
  bw_iload_n hZ 3 rfl dX11_event_96 <|
  bw_iload hZ 4 rfl dX11_event_97 <|
  bw_iload hZ 5 rfl dX11_event_99 <|
  bw_callVV (As := [.int y1, .int y2, .int y3, .int y4, .int y5]) hZ ml_RX11_135 rc_2 obC_3 (by decide) (c_X2_addEvent (zl Z) (zY Z) (hZ_S hZ) y1 y2 y3 y4 y5 w1) rfl rfl (Nat.le_of_ble_eq_true rfl) dX11_event_101 fun w3 =>
  bw_aload_n hZ 0 rfl dX11_event_104 <|
  bw_getR hZ fl_RX11_19 obC_0 rfl dX11_event_105 <|
  bw_getI hZ fl_RX11_132 (by decide) obC_3 dX11_event_108 <|
  bw_iconst hZ 1 (by decide) dX11_event_111 <|
  bw_isub hZ dX11_event_112 <|
  bw_iret hZ hE dX11_event_113) (fun _ =>
  bw_bipush hZ (-3) (by decide) dX11_event_87 <|
  bw_iret hZ hE dX11_event_89))) (fun _ =>
  bw_bipush hZ (-2) (by decide) dX11_event_61 <|
  bw_iret hZ hE dX11_event_63))) (fun _ =>
  bw_bipush hZ (-2) (by decide) dX11_event_46 <|
  bw_iret hZ hE dX11_event_48)))
def f_X11_event (x1 : Int32) (x2 : Int32) (x3 : Int32) (x4 : Int32) (x5 : Int32) (w : Wd) : Option (Int32 × Wd) :=
  if x1 < 0 then
  (some ((-2), w))
  else
  if x1 ≤ 4 then
  (if x1 < 2 then
  (X11_event_b28 x1 x2 x3 x4 x5 w)
  else
  cl (f_X11_isPaper x2 w) fun r5 w4 =>
  if r5 = 0 then
  (some ((-2), w4))
  else
  X11_event_b28 x1 x2 x3 x4 x5 w4)
  else
  some ((-2), w)
set_option maxRecDepth 100000 in
set_option maxHeartbeats 4000000 in
theorem t_X11_event {Z : Cz (Int32 × Wd)} (hZ : OKZ Z SC cX11_event RX11 6 (some .int) 5) (hE : EndI Z) (x1 : Int32) (x2 : Int32) (x3 : Int32) (x4 : Int32) (x5 : Int32)  (w : Wd) : BW Z 6 0 [(0, .ref (ph (zY Z) 0)), (1, .int x1), (2, .int x2), (3, .int x3), (4, .int x4), (5, .int x5)] [] w (f_X11_event x1 x2 x3 x4 x5 w) :=
  bw_iload_n hZ 1 rfl dX11_event_0 <|
  bw_if_lt hZ (tgt := 9) (by decide) dX11_event_1 (fun _ =>
  bw_bipush hZ (-2) (by decide) dX11_event_9 <|
  bw_iret hZ hE dX11_event_11) (fun _ =>
  bw_iload_n hZ 1 rfl dX11_event_4 <|
  bw_iconst hZ 4 (by decide) dX11_event_5 <|
  bw_icmp_le hZ (tgt := 12) (by decide) dX11_event_6 (fun _ =>
  bw_iload_n hZ 1 rfl dX11_event_12 <|
  bw_iconst hZ 2 (by decide) dX11_event_13 <|
  bw_icmp_lt hZ (tgt := 28) (by decide) dX11_event_14 (fun _ =>
  bw_sub [0, 1, 2, 3, 4, 5] rfl (t_X11_event_b28 hZ hE x1 x2 x3 x4 x5 w)) (fun _ =>
  bw_aload_n hZ 0 rfl dX11_event_17 <|
  bw_iload_n hZ 2 rfl dX11_event_18 <|
  bw_callVI (As := [.int x2]) hZ ml_RX11_128 rc_11 obC_0 (by decide) (c_X11_isPaper (zl Z) (zY Z) (hZ_S hZ) x2 w) rfl rfl (Nat.le_of_ble_eq_true rfl) dX11_event_19 fun r5 w4 =>
  bw_if_ne hZ (tgt := 28) (by decide) dX11_event_22 (fun _ =>
  bw_sub [0, 1, 2, 3, 4, 5] rfl (t_X11_event_b28 hZ hE x1 x2 x3 x4 x5 w4)) (fun _ =>
  bw_bipush hZ (-2) (by decide) dX11_event_25 <|
  bw_iret hZ hE dX11_event_27))) (fun _ =>
  bw_bipush hZ (-2) (by decide) dX11_event_9 <|
  bw_iret hZ hE dX11_event_11))
theorem c_X11_event (l : Launch) (Y : Ev) (hY : Y.1 = SC) (x1 : Int32) (x2 : Int32) (x3 : Int32) (x4 : Int32) (x5 : Int32)  (w : Wd) : CI l Y yX11_event cX11_event 6 5 [.ref (ph Y 0), .int x1, .int x2, .int x3, .int x4, .int x5] w .int (f_X11_event x1 x2 x3 x4 x5 w) := by
  refine CI_of (S := SC) (by decide) (Nat.le_of_ble_eq_true rfl) hY ?_
  intro Z hl hY2 hZ hE
  subst hY2
  exact t_X11_event hZ hE x1 x2 x3 x4 x5 w
-- WhichWill.toldOfOne
theorem dX11_toldOfOne_0 : decode cX11_toldOfOne 0 = .ok (.iload_n 1, 1) := by decide +kernel
theorem dX11_toldOfOne_1 : decode cX11_toldOfOne 1 = .ok (.bipush 20, 2) := by decide +kernel
theorem dX11_toldOfOne_3 : decode cX11_toldOfOne 3 = .ok (.if_icmp .lt 27, 3) := by decide +kernel
theorem dX11_toldOfOne_6 : decode cX11_toldOfOne 6 = .ok (.iload_n 1, 1) := by decide +kernel
theorem dX11_toldOfOne_7 : decode cX11_toldOfOne 7 = .ok (.bipush 20, 2) := by decide +kernel
theorem dX11_toldOfOne_9 : decode cX11_toldOfOne 9 = .ok (.aload_n 0, 1) := by decide +kernel
theorem dX11_toldOfOne_10 : decode cX11_toldOfOne 10 = .ok (.getfield 151, 3) := by decide +kernel
theorem dX11_toldOfOne_13 : decode cX11_toldOfOne 13 = .ok (.getfield 143, 3) := by decide +kernel
theorem dX11_toldOfOne_16 : decode cX11_toldOfOne 16 = .ok (.iadd, 1) := by decide +kernel
theorem dX11_toldOfOne_17 : decode cX11_toldOfOne 17 = .ok (.if_icmp .ge 13, 3) := by decide +kernel
theorem dX11_toldOfOne_20 : decode cX11_toldOfOne 20 = .ok (.aload_n 0, 1) := by decide +kernel
theorem dX11_toldOfOne_21 : decode cX11_toldOfOne 21 = .ok (.getfield 341, 3) := by decide +kernel
theorem dX11_toldOfOne_24 : decode cX11_toldOfOne 24 = .ok (.iload_n 1, 1) := by decide +kernel
theorem dX11_toldOfOne_25 : decode cX11_toldOfOne 25 = .ok (.bipush 20, 2) := by decide +kernel
theorem dX11_toldOfOne_27 : decode cX11_toldOfOne 27 = .ok (.isub, 1) := by decide +kernel
theorem dX11_toldOfOne_28 : decode cX11_toldOfOne 28 = .ok (.iaload, 1) := by decide +kernel
theorem dX11_toldOfOne_29 : decode cX11_toldOfOne 29 = .ok (.ireturn, 1) := by decide +kernel
theorem dX11_toldOfOne_30 : decode cX11_toldOfOne 30 = .ok (.iload_n 1, 1) := by decide +kernel
theorem dX11_toldOfOne_31 : decode cX11_toldOfOne 31 = .ok (.bipush 30, 2) := by decide +kernel
theorem dX11_toldOfOne_33 : decode cX11_toldOfOne 33 = .ok (.if_icmp .lt 27, 3) := by decide +kernel
theorem dX11_toldOfOne_36 : decode cX11_toldOfOne 36 = .ok (.iload_n 1, 1) := by decide +kernel
theorem dX11_toldOfOne_37 : decode cX11_toldOfOne 37 = .ok (.bipush 30, 2) := by decide +kernel
theorem dX11_toldOfOne_39 : decode cX11_toldOfOne 39 = .ok (.aload_n 0, 1) := by decide +kernel
theorem dX11_toldOfOne_40 : decode cX11_toldOfOne 40 = .ok (.getfield 151, 3) := by decide +kernel
theorem dX11_toldOfOne_43 : decode cX11_toldOfOne 43 = .ok (.getfield 143, 3) := by decide +kernel
theorem dX11_toldOfOne_46 : decode cX11_toldOfOne 46 = .ok (.iadd, 1) := by decide +kernel
theorem dX11_toldOfOne_47 : decode cX11_toldOfOne 47 = .ok (.if_icmp .ge 13, 3) := by decide +kernel
theorem dX11_toldOfOne_50 : decode cX11_toldOfOne 50 = .ok (.aload_n 0, 1) := by decide +kernel
theorem dX11_toldOfOne_51 : decode cX11_toldOfOne 51 = .ok (.getfield 344, 3) := by decide +kernel
theorem dX11_toldOfOne_54 : decode cX11_toldOfOne 54 = .ok (.iload_n 1, 1) := by decide +kernel
theorem dX11_toldOfOne_55 : decode cX11_toldOfOne 55 = .ok (.bipush 30, 2) := by decide +kernel
theorem dX11_toldOfOne_57 : decode cX11_toldOfOne 57 = .ok (.isub, 1) := by decide +kernel
theorem dX11_toldOfOne_58 : decode cX11_toldOfOne 58 = .ok (.iaload, 1) := by decide +kernel
theorem dX11_toldOfOne_59 : decode cX11_toldOfOne 59 = .ok (.ireturn, 1) := by decide +kernel
theorem dX11_toldOfOne_60 : decode cX11_toldOfOne 60 = .ok (.iload_n 1, 1) := by decide +kernel
theorem dX11_toldOfOne_61 : decode cX11_toldOfOne 61 = .ok (.bipush 40, 2) := by decide +kernel
theorem dX11_toldOfOne_63 : decode cX11_toldOfOne 63 = .ok (.if_icmp .lt 34, 3) := by decide +kernel
theorem dX11_toldOfOne_66 : decode cX11_toldOfOne 66 = .ok (.iload_n 1, 1) := by decide +kernel
theorem dX11_toldOfOne_67 : decode cX11_toldOfOne 67 = .ok (.bipush 40, 2) := by decide +kernel
theorem dX11_toldOfOne_69 : decode cX11_toldOfOne 69 = .ok (.aload_n 0, 1) := by decide +kernel
theorem dX11_toldOfOne_70 : decode cX11_toldOfOne 70 = .ok (.getfield 148, 3) := by decide +kernel
theorem dX11_toldOfOne_73 : decode cX11_toldOfOne 73 = .ok (.getfield 143, 3) := by decide +kernel
theorem dX11_toldOfOne_76 : decode cX11_toldOfOne 76 = .ok (.iadd, 1) := by decide +kernel
theorem dX11_toldOfOne_77 : decode cX11_toldOfOne 77 = .ok (.if_icmp .ge 20, 3) := by decide +kernel
theorem dX11_toldOfOne_80 : decode cX11_toldOfOne 80 = .ok (.aload_n 0, 1) := by decide +kernel
theorem dX11_toldOfOne_81 : decode cX11_toldOfOne 81 = .ok (.iload_n 1, 1) := by decide +kernel
theorem dX11_toldOfOne_82 : decode cX11_toldOfOne 82 = .ok (.bipush 40, 2) := by decide +kernel
theorem dX11_toldOfOne_84 : decode cX11_toldOfOne 84 = .ok (.isub, 1) := by decide +kernel
theorem dX11_toldOfOne_85 : decode cX11_toldOfOne 85 = .ok (.invokevirtual 347, 3) := by decide +kernel
theorem dX11_toldOfOne_88 : decode cX11_toldOfOne 88 = .ok (.ifCond .eq 7, 3) := by decide +kernel
theorem dX11_toldOfOne_91 : decode cX11_toldOfOne 91 = .ok (.iconst 1, 1) := by decide +kernel
theorem dX11_toldOfOne_92 : decode cX11_toldOfOne 92 = .ok (.goto 4, 3) := by decide +kernel
theorem dX11_toldOfOne_95 : decode cX11_toldOfOne 95 = .ok (.iconst 0, 1) := by decide +kernel
theorem dX11_toldOfOne_96 : decode cX11_toldOfOne 96 = .ok (.ireturn, 1) := by decide +kernel
theorem dX11_toldOfOne_97 : decode cX11_toldOfOne 97 = .ok (.iconst (-1), 1) := by decide +kernel
theorem dX11_toldOfOne_98 : decode cX11_toldOfOne 98 = .ok (.ireturn, 1) := by decide +kernel
def X11_toldOfOne_b60 (y1 : Int32) (w : Wd) : Option (Int32 × Wd) :=
  if y1 < 40 then
  (some ((-1), w))
  else
  if (40 + (w.1 34 1)) ≤ y1 then
  (some ((-1), w))
  else
  cl (f_X0_isDead 31 (y1 - 40) w) fun r2 w1 =>
  if r2 = 0 then
  (some (0, w1))
  else
  some (1, w1)
set_option maxRecDepth 100000 in
set_option maxHeartbeats 4000000 in
theorem t_X11_toldOfOne_b60 {Z : Cz (Int32 × Wd)} (hZ : OKZ Z SC cX11_toldOfOne RX11 2 (some .int) 2) (hE : EndI Z)  (y1 : Int32)  (w : Wd) : BW Z 2 60 [(0, .ref (ph (zY Z) 31)), (1, .int y1)] [] w (X11_toldOfOne_b60 y1 w) :=
  bw_iload_n hZ 1 rfl dX11_toldOfOne_60 <|
  bw_bipush hZ 40 (by decide) dX11_toldOfOne_61 <|
  bw_icmp_lt hZ (tgt := 97) (by decide) dX11_toldOfOne_63 (fun _ =>
  bw_iconst hZ (-1) (by decide) dX11_toldOfOne_97 <|
  bw_iret hZ hE dX11_toldOfOne_98) (fun _ =>
  bw_iload_n hZ 1 rfl dX11_toldOfOne_66 <|
  bw_bipush hZ 40 (by decide) dX11_toldOfOne_67 <|
  bw_aload_n hZ 0 rfl dX11_toldOfOne_69 <|
  bw_getR hZ fl_RX11_148 obC_31 rfl dX11_toldOfOne_70 <|
  bw_getI hZ fl_RX11_143 (by decide) obC_34 dX11_toldOfOne_73 <|
  bw_iadd hZ dX11_toldOfOne_76 <|
  bw_icmp_ge hZ (tgt := 97) (by decide) dX11_toldOfOne_77 (fun _ =>
  bw_iconst hZ (-1) (by decide) dX11_toldOfOne_97 <|
  bw_iret hZ hE dX11_toldOfOne_98) (fun _ =>
  bw_aload_n hZ 0 rfl dX11_toldOfOne_80 <|
  bw_iload_n hZ 1 rfl dX11_toldOfOne_81 <|
  bw_bipush hZ 40 (by decide) dX11_toldOfOne_82 <|
  bw_isub hZ dX11_toldOfOne_84 <|
  bw_callVI (As := [.int (y1 - 40)]) hZ ml_RX11_347 rc_0 obC_31 (by decide) (c_X0_isDead (zl Z) (zY Z) (hZ_S hZ) 31 (y1 - 40) isE31 w) rfl rfl (Nat.le_of_ble_eq_true rfl) dX11_toldOfOne_85 fun r2 w1 =>
  bw_if_eq hZ (tgt := 95) (by decide) dX11_toldOfOne_88 (fun _ =>
  bw_iconst hZ 0 (by decide) dX11_toldOfOne_95 <|
  bw_iret hZ hE dX11_toldOfOne_96) (fun _ =>
  bw_iconst hZ 1 (by decide) dX11_toldOfOne_91 <|
  bw_goto hZ (tgt := 96) (by decide) dX11_toldOfOne_92 <|
  bw_iret hZ hE dX11_toldOfOne_96)))
def X11_toldOfOne_b30 (y1 : Int32) (w : Wd) : Option (Int32 × Wd) :=
  if y1 < 30 then
  (X11_toldOfOne_b60 y1 w)
  else
  if (30 + (w.1 36 1)) ≤ y1 then
  (X11_toldOfOne_b60 y1 w)
  else
  if inb (y1 - 30) 8 = true then
  (some (w.1 42 (Int32.toNatClampNeg (y1 - 30)), w))
  else none
set_option maxRecDepth 100000 in
set_option maxHeartbeats 4000000 in
theorem t_X11_toldOfOne_b30 {Z : Cz (Int32 × Wd)} (hZ : OKZ Z SC cX11_toldOfOne RX11 2 (some .int) 2) (hE : EndI Z)  (y1 : Int32)  (w : Wd) : BW Z 2 30 [(0, .ref (ph (zY Z) 31)), (1, .int y1)] [] w (X11_toldOfOne_b30 y1 w) :=
  bw_iload_n hZ 1 rfl dX11_toldOfOne_30 <|
  bw_bipush hZ 30 (by decide) dX11_toldOfOne_31 <|
  bw_icmp_lt hZ (tgt := 60) (by decide) dX11_toldOfOne_33 (fun _ =>
  bw_sub [0, 1] rfl (t_X11_toldOfOne_b60 hZ hE y1 w)) (fun _ =>
  bw_iload_n hZ 1 rfl dX11_toldOfOne_36 <|
  bw_bipush hZ 30 (by decide) dX11_toldOfOne_37 <|
  bw_aload_n hZ 0 rfl dX11_toldOfOne_39 <|
  bw_getR hZ fl_RX11_151 obC_31 rfl dX11_toldOfOne_40 <|
  bw_getI hZ fl_RX11_143 (by decide) obC_36 dX11_toldOfOne_43 <|
  bw_iadd hZ dX11_toldOfOne_46 <|
  bw_icmp_ge hZ (tgt := 60) (by decide) dX11_toldOfOne_47 (fun _ =>
  bw_sub [0, 1] rfl (t_X11_toldOfOne_b60 hZ hE y1 w)) (fun _ =>
  bw_aload_n hZ 0 rfl dX11_toldOfOne_50 <|
  bw_getR hZ fl_RX11_344 obC_31 rfl dX11_toldOfOne_51 <|
  bw_iload_n hZ 1 rfl dX11_toldOfOne_54 <|
  bw_bipush hZ 30 (by decide) dX11_toldOfOne_55 <|
  bw_isub hZ dX11_toldOfOne_57 <|
  bw_iald hZ (arC_42 _) dX11_toldOfOne_58 <|
  bw_iret hZ hE dX11_toldOfOne_59))
def f_X11_toldOfOne (x1 : Int32) (w : Wd) : Option (Int32 × Wd) :=
  if x1 < 20 then
  (X11_toldOfOne_b30 x1 w)
  else
  if (20 + (w.1 36 1)) ≤ x1 then
  (X11_toldOfOne_b30 x1 w)
  else
  if inb (x1 - 20) 8 = true then
  (some (w.1 41 (Int32.toNatClampNeg (x1 - 20)), w))
  else none
set_option maxRecDepth 100000 in
set_option maxHeartbeats 4000000 in
theorem t_X11_toldOfOne {Z : Cz (Int32 × Wd)} (hZ : OKZ Z SC cX11_toldOfOne RX11 2 (some .int) 2) (hE : EndI Z) (x1 : Int32)  (w : Wd) : BW Z 2 0 [(0, .ref (ph (zY Z) 31)), (1, .int x1)] [] w (f_X11_toldOfOne x1 w) :=
  bw_iload_n hZ 1 rfl dX11_toldOfOne_0 <|
  bw_bipush hZ 20 (by decide) dX11_toldOfOne_1 <|
  bw_icmp_lt hZ (tgt := 30) (by decide) dX11_toldOfOne_3 (fun _ =>
  bw_sub [0, 1] rfl (t_X11_toldOfOne_b30 hZ hE x1 w)) (fun _ =>
  bw_iload_n hZ 1 rfl dX11_toldOfOne_6 <|
  bw_bipush hZ 20 (by decide) dX11_toldOfOne_7 <|
  bw_aload_n hZ 0 rfl dX11_toldOfOne_9 <|
  bw_getR hZ fl_RX11_151 obC_31 rfl dX11_toldOfOne_10 <|
  bw_getI hZ fl_RX11_143 (by decide) obC_36 dX11_toldOfOne_13 <|
  bw_iadd hZ dX11_toldOfOne_16 <|
  bw_icmp_ge hZ (tgt := 30) (by decide) dX11_toldOfOne_17 (fun _ =>
  bw_sub [0, 1] rfl (t_X11_toldOfOne_b30 hZ hE x1 w)) (fun _ =>
  bw_aload_n hZ 0 rfl dX11_toldOfOne_20 <|
  bw_getR hZ fl_RX11_341 obC_31 rfl dX11_toldOfOne_21 <|
  bw_iload_n hZ 1 rfl dX11_toldOfOne_24 <|
  bw_bipush hZ 20 (by decide) dX11_toldOfOne_25 <|
  bw_isub hZ dX11_toldOfOne_27 <|
  bw_iald hZ (arC_41 _) dX11_toldOfOne_28 <|
  bw_iret hZ hE dX11_toldOfOne_29))
theorem c_X11_toldOfOne (l : Launch) (Y : Ev) (hY : Y.1 = SC) (x1 : Int32)  (w : Wd) : CI l Y yX11_toldOfOne cX11_toldOfOne 2 2 [.ref (ph Y 31), .int x1] w .int (f_X11_toldOfOne x1 w) := by
  refine CI_of (S := SC) (by decide) (Nat.le_of_ble_eq_true rfl) hY ?_
  intro Z hl hY2 hZ hE
  subst hY2
  exact t_X11_toldOfOne hZ hE x1 w
-- WhichWill.told
theorem dX11_told_0 : decode cX11_told 0 = .ok (.aload_n 0, 1) := by decide +kernel
theorem dX11_told_1 : decode cX11_told 1 = .ok (.getfield 19, 3) := by decide +kernel
theorem dX11_told_4 : decode cX11_told 4 = .ok (.getfield 98, 3) := by decide +kernel
theorem dX11_told_7 : decode cX11_told 7 = .ok (.astore_n 2, 1) := by decide +kernel
theorem dX11_told_8 : decode cX11_told 8 = .ok (.iload_n 1, 1) := by decide +kernel
theorem dX11_told_9 : decode cX11_told 9 = .ok (.tableswitch 129 0 10 #[59, 67, 75, 83, 91, 99, 104, 109, 114, 119, 124], 59) := by decide +kernel
theorem dX11_told_68 : decode cX11_told 68 = .ok (.aload_n 2, 1) := by decide +kernel
theorem dX11_told_69 : decode cX11_told 69 = .ok (.getfield 139, 3) := by decide +kernel
theorem dX11_told_72 : decode cX11_told 72 = .ok (.getfield 143, 3) := by decide +kernel
theorem dX11_told_75 : decode cX11_told 75 = .ok (.ireturn, 1) := by decide +kernel
theorem dX11_told_76 : decode cX11_told 76 = .ok (.aload_n 2, 1) := by decide +kernel
theorem dX11_told_77 : decode cX11_told 77 = .ok (.getfield 148, 3) := by decide +kernel
theorem dX11_told_80 : decode cX11_told 80 = .ok (.getfield 143, 3) := by decide +kernel
theorem dX11_told_83 : decode cX11_told 83 = .ok (.ireturn, 1) := by decide +kernel
theorem dX11_told_84 : decode cX11_told 84 = .ok (.aload_n 2, 1) := by decide +kernel
theorem dX11_told_85 : decode cX11_told 85 = .ok (.getfield 151, 3) := by decide +kernel
theorem dX11_told_88 : decode cX11_told 88 = .ok (.getfield 143, 3) := by decide +kernel
theorem dX11_told_91 : decode cX11_told 91 = .ok (.ireturn, 1) := by decide +kernel
theorem dX11_told_92 : decode cX11_told 92 = .ok (.aload_n 0, 1) := by decide +kernel
theorem dX11_told_93 : decode cX11_told 93 = .ok (.getfield 19, 3) := by decide +kernel
theorem dX11_told_96 : decode cX11_told 96 = .ok (.getfield 104, 3) := by decide +kernel
theorem dX11_told_99 : decode cX11_told 99 = .ok (.ireturn, 1) := by decide +kernel
theorem dX11_told_100 : decode cX11_told 100 = .ok (.aload_n 0, 1) := by decide +kernel
theorem dX11_told_101 : decode cX11_told 101 = .ok (.getfield 19, 3) := by decide +kernel
theorem dX11_told_104 : decode cX11_told 104 = .ok (.getfield 132, 3) := by decide +kernel
theorem dX11_told_107 : decode cX11_told 107 = .ok (.ireturn, 1) := by decide +kernel
theorem dX11_told_108 : decode cX11_told 108 = .ok (.aload_n 2, 1) := by decide +kernel
theorem dX11_told_109 : decode cX11_told 109 = .ok (.getfield 154, 3) := by decide +kernel
theorem dX11_told_112 : decode cX11_told 112 = .ok (.ireturn, 1) := by decide +kernel
theorem dX11_told_113 : decode cX11_told 113 = .ok (.aload_n 2, 1) := by decide +kernel
theorem dX11_told_114 : decode cX11_told 114 = .ok (.getfield 157, 3) := by decide +kernel
theorem dX11_told_117 : decode cX11_told 117 = .ok (.ireturn, 1) := by decide +kernel
theorem dX11_told_118 : decode cX11_told 118 = .ok (.aload_n 2, 1) := by decide +kernel
theorem dX11_told_119 : decode cX11_told 119 = .ok (.getfield 160, 3) := by decide +kernel
theorem dX11_told_122 : decode cX11_told 122 = .ok (.ireturn, 1) := by decide +kernel
theorem dX11_told_123 : decode cX11_told 123 = .ok (.aload_n 2, 1) := by decide +kernel
theorem dX11_told_124 : decode cX11_told 124 = .ok (.getfield 163, 3) := by decide +kernel
theorem dX11_told_127 : decode cX11_told 127 = .ok (.ireturn, 1) := by decide +kernel
theorem dX11_told_128 : decode cX11_told 128 = .ok (.aload_n 2, 1) := by decide +kernel
theorem dX11_told_129 : decode cX11_told 129 = .ok (.getfield 166, 3) := by decide +kernel
theorem dX11_told_132 : decode cX11_told 132 = .ok (.ireturn, 1) := by decide +kernel
theorem dX11_told_133 : decode cX11_told 133 = .ok (.aload_n 2, 1) := by decide +kernel
theorem dX11_told_134 : decode cX11_told 134 = .ok (.getfield 169, 3) := by decide +kernel
theorem dX11_told_137 : decode cX11_told 137 = .ok (.ireturn, 1) := by decide +kernel
theorem dX11_told_138 : decode cX11_told 138 = .ok (.aload_n 2, 1) := by decide +kernel
theorem dX11_told_139 : decode cX11_told 139 = .ok (.iload_n 1, 1) := by decide +kernel
theorem dX11_told_140 : decode cX11_told 140 = .ok (.invokestatic 172, 3) := by decide +kernel
theorem dX11_told_143 : decode cX11_told 143 = .ok (.ireturn, 1) := by decide +kernel
def f_X11_told (x1 : Int32) (w : Wd) : Option (Int32 × Wd) :=
  if x1 = 0 then
  (some (w.1 32 1, w))
  else
  if x1 = 1 then
  (some (w.1 34 1, w))
  else
  if x1 = 2 then
  (some (w.1 36 1, w))
  else
  if x1 = 3 then
  (some (w.1 3 3, w))
  else
  if x1 = 4 then
  (some (w.1 3 4, w))
  else
  if x1 = 5 then
  (some (w.1 31 15, w))
  else
  if x1 = 6 then
  (some (w.1 31 16, w))
  else
  if x1 = 7 then
  (some (w.1 31 12, w))
  else
  if x1 = 8 then
  (some (w.1 31 13, w))
  else
  if x1 = 9 then
  (some (w.1 31 14, w))
  else
  if x1 = 10 then
  (some (w.1 31 11, w))
  else
  cl (f_X11_toldOfOne x1 w) fun r2 w1 =>
  some (r2, w1)
set_option maxRecDepth 100000 in
set_option maxHeartbeats 4000000 in
theorem t_X11_told {Z : Cz (Int32 × Wd)} (hZ : OKZ Z SC cX11_told RX11 3 (some .int) 3) (hE : EndI Z) (x1 : Int32)  (w : Wd) : BW Z 3 0 [(0, .ref (ph (zY Z) 0)), (1, .int x1)] [] w (f_X11_told x1 w) :=
  bw_aload_n hZ 0 rfl dX11_told_0 <|
  bw_getR hZ fl_RX11_19 obC_0 rfl dX11_told_1 <|
  bw_getR hZ fl_RX11_98 obC_3 rfl dX11_told_4 <|
  bw_astore_n hZ rfl (by decide) rfl dX11_told_7 <|
  bw_iload_n hZ 2 rfl dX11_told_8 <|
  bw_if (fun h => bw_tabIn hZ (tgt := 68) (off := 59) 0 (by rw [h]; decide) (by decide) (by decide) (by decide) (by decide) dX11_told_9 <|
  bw_aload_n hZ 0 rfl dX11_told_68 <|
  bw_getR hZ fl_RX11_139 obC_31 rfl dX11_told_69 <|
  bw_getI hZ fl_RX11_143 (by decide) obC_32 dX11_told_72 <|
  bw_iret hZ hE dX11_told_75) (fun h0 =>
  bw_if (fun h => bw_tabIn hZ (tgt := 76) (off := 67) 1 (by rw [h]; decide) (by decide) (by decide) (by decide) (by decide) dX11_told_9 <|
  bw_aload_n hZ 0 rfl dX11_told_76 <|
  bw_getR hZ fl_RX11_148 obC_31 rfl dX11_told_77 <|
  bw_getI hZ fl_RX11_143 (by decide) obC_34 dX11_told_80 <|
  bw_iret hZ hE dX11_told_83) (fun h1 =>
  bw_if (fun h => bw_tabIn hZ (tgt := 84) (off := 75) 2 (by rw [h]; decide) (by decide) (by decide) (by decide) (by decide) dX11_told_9 <|
  bw_aload_n hZ 0 rfl dX11_told_84 <|
  bw_getR hZ fl_RX11_151 obC_31 rfl dX11_told_85 <|
  bw_getI hZ fl_RX11_143 (by decide) obC_36 dX11_told_88 <|
  bw_iret hZ hE dX11_told_91) (fun h2 =>
  bw_if (fun h => bw_tabIn hZ (tgt := 92) (off := 83) 3 (by rw [h]; decide) (by decide) (by decide) (by decide) (by decide) dX11_told_9 <|
  bw_aload_n hZ 1 rfl dX11_told_92 <|
  bw_getR hZ fl_RX11_19 obC_0 rfl dX11_told_93 <|
  bw_getI hZ fl_RX11_104 (by decide) obC_3 dX11_told_96 <|
  bw_iret hZ hE dX11_told_99) (fun h3 =>
  bw_if (fun h => bw_tabIn hZ (tgt := 100) (off := 91) 4 (by rw [h]; decide) (by decide) (by decide) (by decide) (by decide) dX11_told_9 <|
  bw_aload_n hZ 1 rfl dX11_told_100 <|
  bw_getR hZ fl_RX11_19 obC_0 rfl dX11_told_101 <|
  bw_getI hZ fl_RX11_132 (by decide) obC_3 dX11_told_104 <|
  bw_iret hZ hE dX11_told_107) (fun h4 =>
  bw_if (fun h => bw_tabIn hZ (tgt := 108) (off := 99) 5 (by rw [h]; decide) (by decide) (by decide) (by decide) (by decide) dX11_told_9 <|
  bw_aload_n hZ 0 rfl dX11_told_108 <|
  bw_getI hZ fl_RX11_154 (by decide) obC_31 dX11_told_109 <|
  bw_iret hZ hE dX11_told_112) (fun h5 =>
  bw_if (fun h => bw_tabIn hZ (tgt := 113) (off := 104) 6 (by rw [h]; decide) (by decide) (by decide) (by decide) (by decide) dX11_told_9 <|
  bw_aload_n hZ 0 rfl dX11_told_113 <|
  bw_getI hZ fl_RX11_157 (by decide) obC_31 dX11_told_114 <|
  bw_iret hZ hE dX11_told_117) (fun h6 =>
  bw_if (fun h => bw_tabIn hZ (tgt := 118) (off := 109) 7 (by rw [h]; decide) (by decide) (by decide) (by decide) (by decide) dX11_told_9 <|
  bw_aload_n hZ 0 rfl dX11_told_118 <|
  bw_getI hZ fl_RX11_160 (by decide) obC_31 dX11_told_119 <|
  bw_iret hZ hE dX11_told_122) (fun h7 =>
  bw_if (fun h => bw_tabIn hZ (tgt := 123) (off := 114) 8 (by rw [h]; decide) (by decide) (by decide) (by decide) (by decide) dX11_told_9 <|
  bw_aload_n hZ 0 rfl dX11_told_123 <|
  bw_getI hZ fl_RX11_163 (by decide) obC_31 dX11_told_124 <|
  bw_iret hZ hE dX11_told_127) (fun h8 =>
  bw_if (fun h => bw_tabIn hZ (tgt := 128) (off := 119) 9 (by rw [h]; decide) (by decide) (by decide) (by decide) (by decide) dX11_told_9 <|
  bw_aload_n hZ 0 rfl dX11_told_128 <|
  bw_getI hZ fl_RX11_166 (by decide) obC_31 dX11_told_129 <|
  bw_iret hZ hE dX11_told_132) (fun h9 =>
  bw_if (fun h => bw_tabIn hZ (tgt := 133) (off := 124) 10 (by rw [h]; decide) (by decide) (by decide) (by decide) (by decide) dX11_told_9 <|
  bw_aload_n hZ 0 rfl dX11_told_133 <|
  bw_getI hZ fl_RX11_169 (by decide) obC_31 dX11_told_134 <|
  bw_iret hZ hE dX11_told_137) (fun h10 =>
  bw_tabOut hZ (tgt := 138) (by have q0 := ne_int h0 (n := 0) (by decide); have q1 := ne_int h1 (n := 1) (by decide); have q2 := ne_int h2 (n := 2) (by decide); have q3 := ne_int h3 (n := 3) (by decide); have q4 := ne_int h4 (n := 4) (by decide); have q5 := ne_int h5 (n := 5) (by decide); have q6 := ne_int h6 (n := 6) (by decide); have q7 := ne_int h7 (n := 7) (by decide); have q8 := ne_int h8 (n := 8) (by decide); have q9 := ne_int h9 (n := 9) (by decide); have q10 := ne_int h10 (n := 10) (by decide); omega) (by decide) dX11_told_9 <|
  bw_aload_n hZ 0 rfl dX11_told_138 <|
  bw_iload_n hZ 2 rfl dX11_told_139 <|
  bw_callSI (As := [.ref (ph (zY Z) 31), .int x1]) hZ ms_RX11_172 (by decide) (c_X11_toldOfOne (zl Z) (zY Z) (hZ_S hZ) x1 w) rfl rfl (Nat.le_of_ble_eq_true rfl) dX11_told_140 fun r2 w1 =>
  bw_iret hZ hE dX11_told_143)))))))))))
theorem c_X11_told (l : Launch) (Y : Ev) (hY : Y.1 = SC) (x1 : Int32)  (w : Wd) : CI l Y yX11_told cX11_told 3 3 [.ref (ph Y 0), .int x1] w .int (f_X11_told x1 w) := by
  refine CI_of (S := SC) (by decide) (Nat.le_of_ble_eq_true rfl) hY ?_
  intro Z hl hY2 hZ hE
  subst hY2
  exact t_X11_told hZ hE x1 w
-- WhichWill.isLand
theorem dX11_isLand_0 : decode cX11_isLand 0 = .ok (.iload_n 1, 1) := by decide +kernel
theorem dX11_isLand_1 : decode cX11_isLand 1 = .ok (.ifCond .lt 24, 3) := by decide +kernel
theorem dX11_isLand_4 : decode cX11_isLand 4 = .ok (.iload_n 1, 1) := by decide +kernel
theorem dX11_isLand_5 : decode cX11_isLand 5 = .ok (.aload_n 0, 1) := by decide +kernel
theorem dX11_isLand_6 : decode cX11_isLand 6 = .ok (.getfield 19, 3) := by decide +kernel
theorem dX11_isLand_9 : decode cX11_isLand 9 = .ok (.getfield 98, 3) := by decide +kernel
theorem dX11_isLand_12 : decode cX11_isLand 12 = .ok (.getfield 139, 3) := by decide +kernel
theorem dX11_isLand_15 : decode cX11_isLand 15 = .ok (.getfield 143, 3) := by decide +kernel
theorem dX11_isLand_18 : decode cX11_isLand 18 = .ok (.if_icmp .ge 7, 3) := by decide +kernel
theorem dX11_isLand_21 : decode cX11_isLand 21 = .ok (.iconst 1, 1) := by decide +kernel
theorem dX11_isLand_22 : decode cX11_isLand 22 = .ok (.goto 4, 3) := by decide +kernel
theorem dX11_isLand_25 : decode cX11_isLand 25 = .ok (.iconst 0, 1) := by decide +kernel
theorem dX11_isLand_26 : decode cX11_isLand 26 = .ok (.ireturn, 1) := by decide +kernel
def f_X11_isLand (x1 : Int32) (w : Wd) : Option (Int32 × Wd) :=
  if x1 < 0 then
  (some (0, w))
  else
  if (w.1 32 1) ≤ x1 then
  (some (0, w))
  else
  some (1, w)
set_option maxRecDepth 100000 in
set_option maxHeartbeats 4000000 in
theorem t_X11_isLand {Z : Cz (Int32 × Wd)} (hZ : OKZ Z SC cX11_isLand RX11 2 (some .boolean) 1) (hE : EndI Z) (x1 : Int32)  (w : Wd) : BW Z 2 0 [(0, .ref (ph (zY Z) 0)), (1, .int x1)] [] w (f_X11_isLand x1 w) :=
  bw_iload_n hZ 1 rfl dX11_isLand_0 <|
  bw_if_lt hZ (tgt := 25) (by decide) dX11_isLand_1 (fun _ =>
  bw_iconst hZ 0 (by decide) dX11_isLand_25 <|
  bw_zret hZ hE (by decide) dX11_isLand_26) (fun _ =>
  bw_iload_n hZ 1 rfl dX11_isLand_4 <|
  bw_aload_n hZ 0 rfl dX11_isLand_5 <|
  bw_getR hZ fl_RX11_19 obC_0 rfl dX11_isLand_6 <|
  bw_getR hZ fl_RX11_98 obC_3 rfl dX11_isLand_9 <|
  bw_getR hZ fl_RX11_139 obC_31 rfl dX11_isLand_12 <|
  bw_getI hZ fl_RX11_143 (by decide) obC_32 dX11_isLand_15 <|
  bw_icmp_ge hZ (tgt := 25) (by decide) dX11_isLand_18 (fun _ =>
  bw_iconst hZ 0 (by decide) dX11_isLand_25 <|
  bw_zret hZ hE (by decide) dX11_isLand_26) (fun _ =>
  bw_iconst hZ 1 (by decide) dX11_isLand_21 <|
  bw_goto hZ (tgt := 26) (by decide) dX11_isLand_22 <|
  bw_zret hZ hE (by decide) dX11_isLand_26))
theorem c_X11_isLand (l : Launch) (Y : Ev) (hY : Y.1 = SC) (x1 : Int32)  (w : Wd) : CI l Y yX11_isLand cX11_isLand 2 1 [.ref (ph Y 0), .int x1] w .boolean (f_X11_isLand x1 w) := by
  refine CI_of (S := SC) (by decide) (Nat.le_of_ble_eq_true rfl) hY ?_
  intro Z hl hY2 hZ hE
  subst hY2
  exact t_X11_isLand hZ hE x1 w
-- WhichWill.rule
theorem dX11_rule_0 : decode cX11_rule 0 = .ok (.aload_n 0, 1) := by decide +kernel
theorem dX11_rule_1 : decode cX11_rule 1 = .ok (.iload_n 1, 1) := by decide +kernel
theorem dX11_rule_2 : decode cX11_rule 2 = .ok (.invokevirtual 176, 3) := by decide +kernel
theorem dX11_rule_5 : decode cX11_rule 5 = .ok (.ifCond .eq 13, 3) := by decide +kernel
theorem dX11_rule_8 : decode cX11_rule 8 = .ok (.iload_n 2, 1) := by decide +kernel
theorem dX11_rule_9 : decode cX11_rule 9 = .ok (.ifCond .lt 9, 3) := by decide +kernel
theorem dX11_rule_12 : decode cX11_rule 12 = .ok (.iload_n 2, 1) := by decide +kernel
theorem dX11_rule_13 : decode cX11_rule 13 = .ok (.bipush 13, 2) := by decide +kernel
theorem dX11_rule_15 : decode cX11_rule 15 = .ok (.if_icmp .lt 6, 3) := by decide +kernel
theorem dX11_rule_18 : decode cX11_rule 18 = .ok (.bipush (-2), 2) := by decide +kernel
theorem dX11_rule_20 : decode cX11_rule 20 = .ok (.ireturn, 1) := by decide +kernel
theorem dX11_rule_21 : decode cX11_rule 21 = .ok (.aload_n 0, 1) := by decide +kernel
theorem dX11_rule_22 : decode cX11_rule 22 = .ok (.getfield 19, 3) := by decide +kernel
theorem dX11_rule_25 : decode cX11_rule 25 = .ok (.getfield 98, 3) := by decide +kernel
theorem dX11_rule_28 : decode cX11_rule 28 = .ok (.iload_n 1, 1) := by decide +kernel
theorem dX11_rule_29 : decode cX11_rule 29 = .ok (.iload_n 2, 1) := by decide +kernel
theorem dX11_rule_30 : decode cX11_rule 30 = .ok (.invokevirtual 179, 3) := by decide +kernel
theorem dX11_rule_33 : decode cX11_rule 33 = .ok (.ireturn, 1) := by decide +kernel
def f_X11_rule (x1 : Int32) (x2 : Int32) (w : Wd) : Option (Int32 × Wd) :=
  cl (f_X11_isLand x1 w) fun r2 w1 =>
  if r2 = 0 then
  (some ((-2), w1))
  else
  if x2 < 0 then
  (some ((-2), w1))
  else
  if x2 < 13 then
  (cl (f_X0_ruleOf x1 x2 w1) fun r4 w3 =>
  some (r4, w3))
  else
  some ((-2), w1)
set_option maxRecDepth 100000 in
set_option maxHeartbeats 4000000 in
theorem t_X11_rule {Z : Cz (Int32 × Wd)} (hZ : OKZ Z SC cX11_rule RX11 3 (some .int) 2) (hE : EndI Z) (x1 : Int32) (x2 : Int32)  (w : Wd) : BW Z 3 0 [(0, .ref (ph (zY Z) 0)), (1, .int x1), (2, .int x2)] [] w (f_X11_rule x1 x2 w) :=
  bw_aload_n hZ 0 rfl dX11_rule_0 <|
  bw_iload_n hZ 1 rfl dX11_rule_1 <|
  bw_callVI (As := [.int x1]) hZ ml_RX11_176 rc_11 obC_0 (by decide) (c_X11_isLand (zl Z) (zY Z) (hZ_S hZ) x1 w) rfl rfl (Nat.le_of_ble_eq_true rfl) dX11_rule_2 fun r2 w1 =>
  bw_if_eq hZ (tgt := 18) (by decide) dX11_rule_5 (fun _ =>
  bw_bipush hZ (-2) (by decide) dX11_rule_18 <|
  bw_iret hZ hE dX11_rule_20) (fun _ =>
  bw_iload_n hZ 2 rfl dX11_rule_8 <|
  bw_if_lt hZ (tgt := 18) (by decide) dX11_rule_9 (fun _ =>
  bw_bipush hZ (-2) (by decide) dX11_rule_18 <|
  bw_iret hZ hE dX11_rule_20) (fun _ =>
  bw_iload_n hZ 2 rfl dX11_rule_12 <|
  bw_bipush hZ 13 (by decide) dX11_rule_13 <|
  bw_icmp_lt hZ (tgt := 21) (by decide) dX11_rule_15 (fun _ =>
  bw_aload_n hZ 0 rfl dX11_rule_21 <|
  bw_getR hZ fl_RX11_19 obC_0 rfl dX11_rule_22 <|
  bw_getR hZ fl_RX11_98 obC_3 rfl dX11_rule_25 <|
  bw_iload_n hZ 1 rfl dX11_rule_28 <|
  bw_iload_n hZ 2 rfl dX11_rule_29 <|
  bw_callVI (As := [.int x1, .int x2]) hZ ml_RX11_179 rc_0 obC_31 (by decide) (c_X0_ruleOf (zl Z) (zY Z) (hZ_S hZ) x1 x2 w1) rfl rfl (Nat.le_of_ble_eq_true rfl) dX11_rule_30 fun r4 w3 =>
  bw_iret hZ hE dX11_rule_33) (fun _ =>
  bw_bipush hZ (-2) (by decide) dX11_rule_18 <|
  bw_iret hZ hE dX11_rule_20)))
theorem c_X11_rule (l : Launch) (Y : Ev) (hY : Y.1 = SC) (x1 : Int32) (x2 : Int32)  (w : Wd) : CI l Y yX11_rule cX11_rule 3 2 [.ref (ph Y 0), .int x1, .int x2] w .int (f_X11_rule x1 x2 w) := by
  refine CI_of (S := SC) (by decide) (Nat.le_of_ble_eq_true rfl) hY ?_
  intro Z hl hY2 hZ hE
  subst hY2
  exact t_X11_rule hZ hE x1 x2 w
-- WhichWill.look
theorem dX11_look_0 : decode cX11_look 0 = .ok (.aload_n 0, 1) := by decide +kernel
theorem dX11_look_1 : decode cX11_look 1 = .ok (.iload_n 1, 1) := by decide +kernel
theorem dX11_look_2 : decode cX11_look 2 = .ok (.invokevirtual 128, 3) := by decide +kernel
theorem dX11_look_5 : decode cX11_look 5 = .ok (.ifCond .ne 6, 3) := by decide +kernel
theorem dX11_look_8 : decode cX11_look 8 = .ok (.bipush (-2), 2) := by decide +kernel
theorem dX11_look_10 : decode cX11_look 10 = .ok (.ireturn, 1) := by decide +kernel
theorem dX11_look_11 : decode cX11_look 11 = .ok (.aload_n 0, 1) := by decide +kernel
theorem dX11_look_12 : decode cX11_look 12 = .ok (.getfield 19, 3) := by decide +kernel
theorem dX11_look_15 : decode cX11_look 15 = .ok (.getfield 114, 3) := by decide +kernel
theorem dX11_look_18 : decode cX11_look 18 = .ok (.iload_n 1, 1) := by decide +kernel
theorem dX11_look_19 : decode cX11_look 19 = .ok (.aaload, 1) := by decide +kernel
theorem dX11_look_20 : decode cX11_look 20 = .ok (.astore_n 3, 1) := by decide +kernel
theorem dX11_look_21 : decode cX11_look 21 = .ok (.iload_n 2, 1) := by decide +kernel
theorem dX11_look_22 : decode cX11_look 22 = .ok (.tableswitch 157 0 11 #[62, 67, 72, 86, 100, 114, 119, 124, 129, 142, 147, 152], 62) := by decide +kernel
theorem dX11_look_84 : decode cX11_look 84 = .ok (.aload_n 3, 1) := by decide +kernel
theorem dX11_look_85 : decode cX11_look 85 = .ok (.getfield 183, 3) := by decide +kernel
theorem dX11_look_88 : decode cX11_look 88 = .ok (.ireturn, 1) := by decide +kernel
theorem dX11_look_89 : decode cX11_look 89 = .ok (.aload_n 3, 1) := by decide +kernel
theorem dX11_look_90 : decode cX11_look 90 = .ok (.getfield 186, 3) := by decide +kernel
theorem dX11_look_93 : decode cX11_look 93 = .ok (.ireturn, 1) := by decide +kernel
theorem dX11_look_94 : decode cX11_look 94 = .ok (.aload_n 3, 1) := by decide +kernel
theorem dX11_look_95 : decode cX11_look 95 = .ok (.iconst 1, 1) := by decide +kernel
theorem dX11_look_96 : decode cX11_look 96 = .ok (.invokevirtual 189, 3) := by decide +kernel
theorem dX11_look_99 : decode cX11_look 99 = .ok (.ifCond .eq 7, 3) := by decide +kernel
theorem dX11_look_102 : decode cX11_look 102 = .ok (.iconst 1, 1) := by decide +kernel
theorem dX11_look_103 : decode cX11_look 103 = .ok (.goto 4, 3) := by decide +kernel
theorem dX11_look_106 : decode cX11_look 106 = .ok (.iconst 0, 1) := by decide +kernel
theorem dX11_look_107 : decode cX11_look 107 = .ok (.ireturn, 1) := by decide +kernel
theorem dX11_look_108 : decode cX11_look 108 = .ok (.aload_n 3, 1) := by decide +kernel
theorem dX11_look_109 : decode cX11_look 109 = .ok (.iconst 2, 1) := by decide +kernel
theorem dX11_look_110 : decode cX11_look 110 = .ok (.invokevirtual 189, 3) := by decide +kernel
theorem dX11_look_113 : decode cX11_look 113 = .ok (.ifCond .eq 7, 3) := by decide +kernel
theorem dX11_look_116 : decode cX11_look 116 = .ok (.iconst 1, 1) := by decide +kernel
theorem dX11_look_117 : decode cX11_look 117 = .ok (.goto 4, 3) := by decide +kernel
theorem dX11_look_120 : decode cX11_look 120 = .ok (.iconst 0, 1) := by decide +kernel
theorem dX11_look_121 : decode cX11_look 121 = .ok (.ireturn, 1) := by decide +kernel
theorem dX11_look_122 : decode cX11_look 122 = .ok (.aload_n 3, 1) := by decide +kernel
theorem dX11_look_123 : decode cX11_look 123 = .ok (.iconst 4, 1) := by decide +kernel
theorem dX11_look_124 : decode cX11_look 124 = .ok (.invokevirtual 189, 3) := by decide +kernel
theorem dX11_look_127 : decode cX11_look 127 = .ok (.ifCond .eq 7, 3) := by decide +kernel
theorem dX11_look_130 : decode cX11_look 130 = .ok (.iconst 1, 1) := by decide +kernel
theorem dX11_look_131 : decode cX11_look 131 = .ok (.goto 4, 3) := by decide +kernel
theorem dX11_look_134 : decode cX11_look 134 = .ok (.iconst 0, 1) := by decide +kernel
theorem dX11_look_135 : decode cX11_look 135 = .ok (.ireturn, 1) := by decide +kernel
theorem dX11_look_136 : decode cX11_look 136 = .ok (.aload_n 3, 1) := by decide +kernel
theorem dX11_look_137 : decode cX11_look 137 = .ok (.getfield 192, 3) := by decide +kernel
theorem dX11_look_140 : decode cX11_look 140 = .ok (.ireturn, 1) := by decide +kernel
theorem dX11_look_141 : decode cX11_look 141 = .ok (.aload_n 3, 1) := by decide +kernel
theorem dX11_look_142 : decode cX11_look 142 = .ok (.getfield 195, 3) := by decide +kernel
theorem dX11_look_145 : decode cX11_look 145 = .ok (.ireturn, 1) := by decide +kernel
theorem dX11_look_146 : decode cX11_look 146 = .ok (.aload_n 3, 1) := by decide +kernel
theorem dX11_look_147 : decode cX11_look 147 = .ok (.getfield 198, 3) := by decide +kernel
theorem dX11_look_150 : decode cX11_look 150 = .ok (.ireturn, 1) := by decide +kernel
theorem dX11_look_151 : decode cX11_look 151 = .ok (.aload_n 3, 1) := by decide +kernel
theorem dX11_look_152 : decode cX11_look 152 = .ok (.getfield 201, 3) := by decide +kernel
theorem dX11_look_155 : decode cX11_look 155 = .ok (.ifCond .eq 7, 3) := by decide +kernel
theorem dX11_look_158 : decode cX11_look 158 = .ok (.iconst 1, 1) := by decide +kernel
theorem dX11_look_159 : decode cX11_look 159 = .ok (.goto 4, 3) := by decide +kernel
theorem dX11_look_162 : decode cX11_look 162 = .ok (.iconst 0, 1) := by decide +kernel
theorem dX11_look_163 : decode cX11_look 163 = .ok (.ireturn, 1) := by decide +kernel
theorem dX11_look_164 : decode cX11_look 164 = .ok (.aload_n 3, 1) := by decide +kernel
theorem dX11_look_165 : decode cX11_look 165 = .ok (.getfield 205, 3) := by decide +kernel
theorem dX11_look_168 : decode cX11_look 168 = .ok (.ireturn, 1) := by decide +kernel
theorem dX11_look_169 : decode cX11_look 169 = .ok (.aload_n 3, 1) := by decide +kernel
theorem dX11_look_170 : decode cX11_look 170 = .ok (.getfield 208, 3) := by decide +kernel
theorem dX11_look_173 : decode cX11_look 173 = .ok (.ireturn, 1) := by decide +kernel
theorem dX11_look_174 : decode cX11_look 174 = .ok (.aload_n 3, 1) := by decide +kernel
theorem dX11_look_175 : decode cX11_look 175 = .ok (.getfield 211, 3) := by decide +kernel
theorem dX11_look_178 : decode cX11_look 178 = .ok (.ireturn, 1) := by decide +kernel
theorem dX11_look_179 : decode cX11_look 179 = .ok (.bipush (-2), 2) := by decide +kernel
theorem dX11_look_181 : decode cX11_look 181 = .ok (.ireturn, 1) := by decide +kernel
def f_X11_look (x1 : Int32) (x2 : Int32) (w : Wd) : Option (Int32 × Wd) :=
  cl (f_X11_isPaper x1 w) fun r2 w1 =>
  if r2 = 0 then
  (some ((-2), w1))
  else
  if inb x1 4 = true then
  (if x2 = 0 then
  (some (w1.1 (57 + 6 * Int32.toNatClampNeg x1) 0, w1))
  else
  if x2 = 1 then
  (some (w1.1 (57 + 6 * Int32.toNatClampNeg x1) 1, w1))
  else
  if x2 = 2 then
  (cl (f_X6_isMarked (57 + 6 * Int32.toNatClampNeg x1) 1 w1) fun r10 w9 =>
  if r10 = 0 then
  (some (0, w9))
  else
  some (1, w9))
  else
  if x2 = 3 then
  (cl (f_X6_isMarked (57 + 6 * Int32.toNatClampNeg x1) 2 w1) fun r8 w7 =>
  if r8 = 0 then
  (some (0, w7))
  else
  some (1, w7))
  else
  if x2 = 4 then
  (cl (f_X6_isMarked (57 + 6 * Int32.toNatClampNeg x1) 4 w1) fun r6 w5 =>
  if r6 = 0 then
  (some (0, w5))
  else
  some (1, w5))
  else
  if x2 = 5 then
  (some (w1.1 (57 + 6 * Int32.toNatClampNeg x1) 2, w1))
  else
  if x2 = 6 then
  (some (w1.1 (57 + 6 * Int32.toNatClampNeg x1) 8, w1))
  else
  if x2 = 7 then
  (some (w1.1 (57 + 6 * Int32.toNatClampNeg x1) 3, w1))
  else
  if x2 = 8 then
  (if (w1.1 (57 + 6 * Int32.toNatClampNeg x1) 4) = 0 then
  (some (0, w1))
  else
  some (1, w1))
  else
  if x2 = 9 then
  (some (w1.1 (57 + 6 * Int32.toNatClampNeg x1) 5, w1))
  else
  if x2 = 10 then
  (some (w1.1 (57 + 6 * Int32.toNatClampNeg x1) 6, w1))
  else
  if x2 = 11 then
  (some (w1.1 (57 + 6 * Int32.toNatClampNeg x1) 7, w1))
  else
  some ((-2), w1))
  else none
set_option maxRecDepth 100000 in
set_option maxHeartbeats 4000000 in
theorem t_X11_look {Z : Cz (Int32 × Wd)} (hZ : OKZ Z SC cX11_look RX11 4 (some .int) 2) (hE : EndI Z) (x1 : Int32) (x2 : Int32)  (w : Wd) : BW Z 4 0 [(0, .ref (ph (zY Z) 0)), (1, .int x1), (2, .int x2)] [] w (f_X11_look x1 x2 w) :=
  bw_aload_n hZ 0 rfl dX11_look_0 <|
  bw_iload_n hZ 1 rfl dX11_look_1 <|
  bw_callVI (As := [.int x1]) hZ ml_RX11_128 rc_11 obC_0 (by decide) (c_X11_isPaper (zl Z) (zY Z) (hZ_S hZ) x1 w) rfl rfl (Nat.le_of_ble_eq_true rfl) dX11_look_2 fun r2 w1 =>
  bw_if_ne hZ (tgt := 11) (by decide) dX11_look_5 (fun _ =>
  bw_aload_n hZ 0 rfl dX11_look_11 <|
  bw_getR hZ fl_RX11_19 obC_0 rfl dX11_look_12 <|
  bw_getR hZ fl_RX11_114 obC_3 rfl dX11_look_15 <|
  bw_iload_n hZ 1 rfl dX11_look_18 <|
  bw_aald (57 + 6 * Int32.toNatClampNeg x1) hZ (arC_4 _) (Or.inl ⟨rfl, rfl⟩) rfl dX11_look_19 fun hi3 =>
  bw_astore_n hZ rfl (by decide) rfl dX11_look_20 <|
  bw_iload_n hZ 3 rfl dX11_look_21 <|
  bw_if (fun h => bw_tabIn hZ (tgt := 84) (off := 62) 0 (by rw [h]; decide) (by decide) (by decide) (by decide) (by decide) dX11_look_22 <|
  bw_aload_n hZ 0 rfl dX11_look_84 <|
  bw_getI hZ fl_RX11_183 (by decide) (obP (isP_of hi3)) dX11_look_85 <|
  bw_iret hZ hE dX11_look_88) (fun h0 =>
  bw_if (fun h => bw_tabIn hZ (tgt := 89) (off := 67) 1 (by rw [h]; decide) (by decide) (by decide) (by decide) (by decide) dX11_look_22 <|
  bw_aload_n hZ 0 rfl dX11_look_89 <|
  bw_getI hZ fl_RX11_186 (by decide) (obP (isP_of hi3)) dX11_look_90 <|
  bw_iret hZ hE dX11_look_93) (fun h1 =>
  bw_if (fun h => bw_tabIn hZ (tgt := 94) (off := 72) 2 (by rw [h]; decide) (by decide) (by decide) (by decide) (by decide) dX11_look_22 <|
  bw_aload_n hZ 0 rfl dX11_look_94 <|
  bw_iconst hZ 1 (by decide) dX11_look_95 <|
  bw_callVI (As := [.int 1]) hZ ml_RX11_189 rc_6 (obP (isP_of hi3)) (by decide) (c_X6_isMarked (zl Z) (zY Z) (hZ_S hZ) (57 + 6 * Int32.toNatClampNeg x1) 1 (isP_of hi3) w1) rfl rfl (Nat.le_of_ble_eq_true rfl) dX11_look_96 fun r10 w9 =>
  bw_if_eq hZ (tgt := 106) (by decide) dX11_look_99 (fun _ =>
  bw_iconst hZ 0 (by decide) dX11_look_106 <|
  bw_iret hZ hE dX11_look_107) (fun _ =>
  bw_iconst hZ 1 (by decide) dX11_look_102 <|
  bw_goto hZ (tgt := 107) (by decide) dX11_look_103 <|
  bw_iret hZ hE dX11_look_107)) (fun h2 =>
  bw_if (fun h => bw_tabIn hZ (tgt := 108) (off := 86) 3 (by rw [h]; decide) (by decide) (by decide) (by decide) (by decide) dX11_look_22 <|
  bw_aload_n hZ 0 rfl dX11_look_108 <|
  bw_iconst hZ 2 (by decide) dX11_look_109 <|
  bw_callVI (As := [.int 2]) hZ ml_RX11_189 rc_6 (obP (isP_of hi3)) (by decide) (c_X6_isMarked (zl Z) (zY Z) (hZ_S hZ) (57 + 6 * Int32.toNatClampNeg x1) 2 (isP_of hi3) w1) rfl rfl (Nat.le_of_ble_eq_true rfl) dX11_look_110 fun r8 w7 =>
  bw_if_eq hZ (tgt := 120) (by decide) dX11_look_113 (fun _ =>
  bw_iconst hZ 0 (by decide) dX11_look_120 <|
  bw_iret hZ hE dX11_look_121) (fun _ =>
  bw_iconst hZ 1 (by decide) dX11_look_116 <|
  bw_goto hZ (tgt := 121) (by decide) dX11_look_117 <|
  bw_iret hZ hE dX11_look_121)) (fun h3 =>
  bw_if (fun h => bw_tabIn hZ (tgt := 122) (off := 100) 4 (by rw [h]; decide) (by decide) (by decide) (by decide) (by decide) dX11_look_22 <|
  bw_aload_n hZ 0 rfl dX11_look_122 <|
  bw_iconst hZ 4 (by decide) dX11_look_123 <|
  bw_callVI (As := [.int 4]) hZ ml_RX11_189 rc_6 (obP (isP_of hi3)) (by decide) (c_X6_isMarked (zl Z) (zY Z) (hZ_S hZ) (57 + 6 * Int32.toNatClampNeg x1) 4 (isP_of hi3) w1) rfl rfl (Nat.le_of_ble_eq_true rfl) dX11_look_124 fun r6 w5 =>
  bw_if_eq hZ (tgt := 134) (by decide) dX11_look_127 (fun _ =>
  bw_iconst hZ 0 (by decide) dX11_look_134 <|
  bw_iret hZ hE dX11_look_135) (fun _ =>
  bw_iconst hZ 1 (by decide) dX11_look_130 <|
  bw_goto hZ (tgt := 135) (by decide) dX11_look_131 <|
  bw_iret hZ hE dX11_look_135)) (fun h4 =>
  bw_if (fun h => bw_tabIn hZ (tgt := 136) (off := 114) 5 (by rw [h]; decide) (by decide) (by decide) (by decide) (by decide) dX11_look_22 <|
  bw_aload_n hZ 0 rfl dX11_look_136 <|
  bw_getI hZ fl_RX11_192 (by decide) (obP (isP_of hi3)) dX11_look_137 <|
  bw_iret hZ hE dX11_look_140) (fun h5 =>
  bw_if (fun h => bw_tabIn hZ (tgt := 141) (off := 119) 6 (by rw [h]; decide) (by decide) (by decide) (by decide) (by decide) dX11_look_22 <|
  bw_aload_n hZ 0 rfl dX11_look_141 <|
  bw_getI hZ fl_RX11_195 (by decide) (obP (isP_of hi3)) dX11_look_142 <|
  bw_iret hZ hE dX11_look_145) (fun h6 =>
  bw_if (fun h => bw_tabIn hZ (tgt := 146) (off := 124) 7 (by rw [h]; decide) (by decide) (by decide) (by decide) (by decide) dX11_look_22 <|
  bw_aload_n hZ 0 rfl dX11_look_146 <|
  bw_getI hZ fl_RX11_198 (by decide) (obP (isP_of hi3)) dX11_look_147 <|
  bw_iret hZ hE dX11_look_150) (fun h7 =>
  bw_if (fun h => bw_tabIn hZ (tgt := 151) (off := 129) 8 (by rw [h]; decide) (by decide) (by decide) (by decide) (by decide) dX11_look_22 <|
  bw_aload_n hZ 0 rfl dX11_look_151 <|
  bw_getI hZ fl_RX11_201 (by decide) (obP (isP_of hi3)) dX11_look_152 <|
  bw_if_eq hZ (tgt := 162) (by decide) dX11_look_155 (fun _ =>
  bw_iconst hZ 0 (by decide) dX11_look_162 <|
  bw_iret hZ hE dX11_look_163) (fun _ =>
  bw_iconst hZ 1 (by decide) dX11_look_158 <|
  bw_goto hZ (tgt := 163) (by decide) dX11_look_159 <|
  bw_iret hZ hE dX11_look_163)) (fun h8 =>
  bw_if (fun h => bw_tabIn hZ (tgt := 164) (off := 142) 9 (by rw [h]; decide) (by decide) (by decide) (by decide) (by decide) dX11_look_22 <|
  bw_aload_n hZ 0 rfl dX11_look_164 <|
  bw_getI hZ fl_RX11_205 (by decide) (obP (isP_of hi3)) dX11_look_165 <|
  bw_iret hZ hE dX11_look_168) (fun h9 =>
  bw_if (fun h => bw_tabIn hZ (tgt := 169) (off := 147) 10 (by rw [h]; decide) (by decide) (by decide) (by decide) (by decide) dX11_look_22 <|
  bw_aload_n hZ 0 rfl dX11_look_169 <|
  bw_getI hZ fl_RX11_208 (by decide) (obP (isP_of hi3)) dX11_look_170 <|
  bw_iret hZ hE dX11_look_173) (fun h10 =>
  bw_if (fun h => bw_tabIn hZ (tgt := 174) (off := 152) 11 (by rw [h]; decide) (by decide) (by decide) (by decide) (by decide) dX11_look_22 <|
  bw_aload_n hZ 0 rfl dX11_look_174 <|
  bw_getI hZ fl_RX11_211 (by decide) (obP (isP_of hi3)) dX11_look_175 <|
  bw_iret hZ hE dX11_look_178) (fun h11 =>
  bw_tabOut hZ (tgt := 179) (by have q0 := ne_int h0 (n := 0) (by decide); have q1 := ne_int h1 (n := 1) (by decide); have q2 := ne_int h2 (n := 2) (by decide); have q3 := ne_int h3 (n := 3) (by decide); have q4 := ne_int h4 (n := 4) (by decide); have q5 := ne_int h5 (n := 5) (by decide); have q6 := ne_int h6 (n := 6) (by decide); have q7 := ne_int h7 (n := 7) (by decide); have q8 := ne_int h8 (n := 8) (by decide); have q9 := ne_int h9 (n := 9) (by decide); have q10 := ne_int h10 (n := 10) (by decide); have q11 := ne_int h11 (n := 11) (by decide); omega) (by decide) dX11_look_22 <|
  bw_bipush hZ (-2) (by decide) dX11_look_179 <|
  bw_iret hZ hE dX11_look_181))))))))))))) (fun _ =>
  bw_bipush hZ (-2) (by decide) dX11_look_8 <|
  bw_iret hZ hE dX11_look_10)
theorem c_X11_look (l : Launch) (Y : Ev) (hY : Y.1 = SC) (x1 : Int32) (x2 : Int32)  (w : Wd) : CI l Y yX11_look cX11_look 4 2 [.ref (ph Y 0), .int x1, .int x2] w .int (f_X11_look x1 x2 w) := by
  refine CI_of (S := SC) (by decide) (Nat.le_of_ble_eq_true rfl) hY ?_
  intro Z hl hY2 hZ hE
  subst hY2
  exact t_X11_look hZ hE x1 x2 w
-- WhichWill.orders
theorem dX11_orders_0 : decode cX11_orders 0 = .ok (.aload_n 0, 1) := by decide +kernel
theorem dX11_orders_1 : decode cX11_orders 1 = .ok (.getfield 19, 3) := by decide +kernel
theorem dX11_orders_4 : decode cX11_orders 4 = .ok (.getfield 214, 3) := by decide +kernel
theorem dX11_orders_7 : decode cX11_orders 7 = .ok (.ireturn, 1) := by decide +kernel
def f_X11_orders (w : Wd) : Option (Int32 × Wd) :=
  some (w.1 3 5, w)
set_option maxRecDepth 100000 in
set_option maxHeartbeats 4000000 in
theorem t_X11_orders {Z : Cz (Int32 × Wd)} (hZ : OKZ Z SC cX11_orders RX11 1 (some .int) 1) (hE : EndI Z)   (w : Wd) : BW Z 1 0 [(0, .ref (ph (zY Z) 0))] [] w (f_X11_orders w) :=
  bw_aload_n hZ 0 rfl dX11_orders_0 <|
  bw_getR hZ fl_RX11_19 obC_0 rfl dX11_orders_1 <|
  bw_getI hZ fl_RX11_214 (by decide) obC_3 dX11_orders_4 <|
  bw_iret hZ hE dX11_orders_7
theorem c_X11_orders (l : Launch) (Y : Ev) (hY : Y.1 = SC)   (w : Wd) : CI l Y yX11_orders cX11_orders 1 1 [.ref (ph Y 0)] w .int (f_X11_orders w) := by
  refine CI_of (S := SC) (by decide) (Nat.le_of_ble_eq_true rfl) hY ?_
  intro Z hl hY2 hZ hE
  subst hY2
  exact t_X11_orders hZ hE w
-- WhichWill.item
theorem dX11_item_0 : decode cX11_item 0 = .ok (.iload_n 1, 1) := by decide +kernel
theorem dX11_item_1 : decode cX11_item 1 = .ok (.ifCond .lt 14, 3) := by decide +kernel
theorem dX11_item_4 : decode cX11_item 4 = .ok (.iload_n 1, 1) := by decide +kernel
theorem dX11_item_5 : decode cX11_item 5 = .ok (.aload_n 0, 1) := by decide +kernel
theorem dX11_item_6 : decode cX11_item 6 = .ok (.getfield 19, 3) := by decide +kernel
theorem dX11_item_9 : decode cX11_item 9 = .ok (.getfield 214, 3) := by decide +kernel
theorem dX11_item_12 : decode cX11_item 12 = .ok (.if_icmp .lt 6, 3) := by decide +kernel
theorem dX11_item_15 : decode cX11_item 15 = .ok (.bipush (-2), 2) := by decide +kernel
theorem dX11_item_17 : decode cX11_item 17 = .ok (.ireturn, 1) := by decide +kernel
theorem dX11_item_18 : decode cX11_item 18 = .ok (.iload_n 2, 1) := by decide +kernel
theorem dX11_item_19 : decode cX11_item 19 = .ok (.ifCond .lt 14, 3) := by decide +kernel
theorem dX11_item_22 : decode cX11_item 22 = .ok (.iload_n 2, 1) := by decide +kernel
theorem dX11_item_23 : decode cX11_item 23 = .ok (.aload_n 0, 1) := by decide +kernel
theorem dX11_item_24 : decode cX11_item 24 = .ok (.getfield 19, 3) := by decide +kernel
theorem dX11_item_27 : decode cX11_item 27 = .ok (.invokevirtual 107, 3) := by decide +kernel
theorem dX11_item_30 : decode cX11_item 30 = .ok (.if_icmp .lt 7, 3) := by decide +kernel
theorem dX11_item_33 : decode cX11_item 33 = .ok (.iconst (-1), 1) := by decide +kernel
theorem dX11_item_34 : decode cX11_item 34 = .ok (.goto 12, 3) := by decide +kernel
theorem dX11_item_37 : decode cX11_item 37 = .ok (.aload_n 0, 1) := by decide +kernel
theorem dX11_item_38 : decode cX11_item 38 = .ok (.getfield 19, 3) := by decide +kernel
theorem dX11_item_41 : decode cX11_item 41 = .ok (.iload_n 1, 1) := by decide +kernel
theorem dX11_item_42 : decode cX11_item 42 = .ok (.iload_n 2, 1) := by decide +kernel
theorem dX11_item_43 : decode cX11_item 43 = .ok (.invokevirtual 217, 3) := by decide +kernel
theorem dX11_item_46 : decode cX11_item 46 = .ok (.ireturn, 1) := by decide +kernel
def f_X11_item (x1 : Int32) (x2 : Int32) (w : Wd) : Option (Int32 × Wd) :=
  if x1 < 0 then
  (some ((-2), w))
  else
  if x1 < (w.1 3 5) then
  (if x2 < 0 then
  (some ((-1), w))
  else
  cl (f_X2_itemsTold w) fun r2 w1 =>
  if x2 < r2 then
  (cl (f_X2_itemAt x1 x2 w1) fun r4 w3 =>
  some (r4, w3))
  else
  some ((-1), w1))
  else
  some ((-2), w)
set_option maxRecDepth 100000 in
set_option maxHeartbeats 4000000 in
theorem t_X11_item {Z : Cz (Int32 × Wd)} (hZ : OKZ Z SC cX11_item RX11 3 (some .int) 2) (hE : EndI Z) (x1 : Int32) (x2 : Int32)  (w : Wd) : BW Z 3 0 [(0, .ref (ph (zY Z) 0)), (1, .int x1), (2, .int x2)] [] w (f_X11_item x1 x2 w) :=
  bw_iload_n hZ 1 rfl dX11_item_0 <|
  bw_if_lt hZ (tgt := 15) (by decide) dX11_item_1 (fun _ =>
  bw_bipush hZ (-2) (by decide) dX11_item_15 <|
  bw_iret hZ hE dX11_item_17) (fun _ =>
  bw_iload_n hZ 1 rfl dX11_item_4 <|
  bw_aload_n hZ 0 rfl dX11_item_5 <|
  bw_getR hZ fl_RX11_19 obC_0 rfl dX11_item_6 <|
  bw_getI hZ fl_RX11_214 (by decide) obC_3 dX11_item_9 <|
  bw_icmp_lt hZ (tgt := 18) (by decide) dX11_item_12 (fun _ =>
  bw_iload_n hZ 2 rfl dX11_item_18 <|
  bw_if_lt hZ (tgt := 33) (by decide) dX11_item_19 (fun _ =>
  bw_iconst hZ (-1) (by decide) dX11_item_33 <|
  bw_goto hZ (tgt := 46) (by decide) dX11_item_34 <|
  bw_iret hZ hE dX11_item_46) (fun _ =>
  bw_iload_n hZ 2 rfl dX11_item_22 <|
  bw_aload_n hZ 0 rfl dX11_item_23 <|
  bw_getR hZ fl_RX11_19 obC_0 rfl dX11_item_24 <|
  bw_callVI (As := []) hZ ml_RX11_107 rc_2 obC_3 (by decide) (c_X2_itemsTold (zl Z) (zY Z) (hZ_S hZ) w) rfl rfl (Nat.le_of_ble_eq_true rfl) dX11_item_27 fun r2 w1 =>
  bw_icmp_lt hZ (tgt := 37) (by decide) dX11_item_30 (fun _ =>
  bw_aload_n hZ 0 rfl dX11_item_37 <|
  bw_getR hZ fl_RX11_19 obC_0 rfl dX11_item_38 <|
  bw_iload_n hZ 1 rfl dX11_item_41 <|
  bw_iload_n hZ 2 rfl dX11_item_42 <|
  bw_callVI (As := [.int x1, .int x2]) hZ ml_RX11_217 rc_2 obC_3 (by decide) (c_X2_itemAt (zl Z) (zY Z) (hZ_S hZ) x1 x2 w1) rfl rfl (Nat.le_of_ble_eq_true rfl) dX11_item_43 fun r4 w3 =>
  bw_iret hZ hE dX11_item_46) (fun _ =>
  bw_iconst hZ (-1) (by decide) dX11_item_33 <|
  bw_goto hZ (tgt := 46) (by decide) dX11_item_34 <|
  bw_iret hZ hE dX11_item_46))) (fun _ =>
  bw_bipush hZ (-2) (by decide) dX11_item_15 <|
  bw_iret hZ hE dX11_item_17))
theorem c_X11_item (l : Launch) (Y : Ev) (hY : Y.1 = SC) (x1 : Int32) (x2 : Int32)  (w : Wd) : CI l Y yX11_item cX11_item 3 2 [.ref (ph Y 0), .int x1, .int x2] w .int (f_X11_item x1 x2 w) := by
  refine CI_of (S := SC) (by decide) (Nat.le_of_ble_eq_true rfl) hY ?_
  intro Z hl hY2 hZ hE
  subst hY2
  exact t_X11_item hZ hE x1 x2 w
-- WhichWill.isItem
theorem dX11_isItem_0 : decode cX11_isItem 0 = .ok (.iload_n 1, 1) := by decide +kernel
theorem dX11_isItem_1 : decode cX11_isItem 1 = .ok (.ifCond .lt 18, 3) := by decide +kernel
theorem dX11_isItem_4 : decode cX11_isItem 4 = .ok (.iload_n 1, 1) := by decide +kernel
theorem dX11_isItem_5 : decode cX11_isItem 5 = .ok (.aload_n 0, 1) := by decide +kernel
theorem dX11_isItem_6 : decode cX11_isItem 6 = .ok (.getfield 19, 3) := by decide +kernel
theorem dX11_isItem_9 : decode cX11_isItem 9 = .ok (.invokevirtual 107, 3) := by decide +kernel
theorem dX11_isItem_12 : decode cX11_isItem 12 = .ok (.if_icmp .ge 7, 3) := by decide +kernel
theorem dX11_isItem_15 : decode cX11_isItem 15 = .ok (.iconst 1, 1) := by decide +kernel
theorem dX11_isItem_16 : decode cX11_isItem 16 = .ok (.goto 4, 3) := by decide +kernel
theorem dX11_isItem_19 : decode cX11_isItem 19 = .ok (.iconst 0, 1) := by decide +kernel
theorem dX11_isItem_20 : decode cX11_isItem 20 = .ok (.ireturn, 1) := by decide +kernel
def f_X11_isItem (x1 : Int32) (w : Wd) : Option (Int32 × Wd) :=
  if x1 < 0 then
  (some (0, w))
  else
  cl (f_X2_itemsTold w) fun r2 w1 =>
  if r2 ≤ x1 then
  (some (0, w1))
  else
  some (1, w1)
set_option maxRecDepth 100000 in
set_option maxHeartbeats 4000000 in
theorem t_X11_isItem {Z : Cz (Int32 × Wd)} (hZ : OKZ Z SC cX11_isItem RX11 2 (some .boolean) 2) (hE : EndI Z) (x1 : Int32)  (w : Wd) : BW Z 2 0 [(0, .ref (ph (zY Z) 0)), (1, .int x1)] [] w (f_X11_isItem x1 w) :=
  bw_iload_n hZ 1 rfl dX11_isItem_0 <|
  bw_if_lt hZ (tgt := 19) (by decide) dX11_isItem_1 (fun _ =>
  bw_iconst hZ 0 (by decide) dX11_isItem_19 <|
  bw_zret hZ hE (by decide) dX11_isItem_20) (fun _ =>
  bw_iload_n hZ 1 rfl dX11_isItem_4 <|
  bw_aload_n hZ 0 rfl dX11_isItem_5 <|
  bw_getR hZ fl_RX11_19 obC_0 rfl dX11_isItem_6 <|
  bw_callVI (As := []) hZ ml_RX11_107 rc_2 obC_3 (by decide) (c_X2_itemsTold (zl Z) (zY Z) (hZ_S hZ) w) rfl rfl (Nat.le_of_ble_eq_true rfl) dX11_isItem_9 fun r2 w1 =>
  bw_icmp_ge hZ (tgt := 19) (by decide) dX11_isItem_12 (fun _ =>
  bw_iconst hZ 0 (by decide) dX11_isItem_19 <|
  bw_zret hZ hE (by decide) dX11_isItem_20) (fun _ =>
  bw_iconst hZ 1 (by decide) dX11_isItem_15 <|
  bw_goto hZ (tgt := 20) (by decide) dX11_isItem_16 <|
  bw_zret hZ hE (by decide) dX11_isItem_20))
theorem c_X11_isItem (l : Launch) (Y : Ev) (hY : Y.1 = SC) (x1 : Int32)  (w : Wd) : CI l Y yX11_isItem cX11_isItem 2 2 [.ref (ph Y 0), .int x1] w .boolean (f_X11_isItem x1 w) := by
  refine CI_of (S := SC) (by decide) (Nat.le_of_ble_eq_true rfl) hY ?_
  intro Z hl hY2 hZ hE
  subst hY2
  exact t_X11_isItem hZ hE x1 w
-- WhichWill.ahead
theorem dX11_ahead_0 : decode cX11_ahead 0 = .ok (.aload_n 0, 1) := by decide +kernel
theorem dX11_ahead_1 : decode cX11_ahead 1 = .ok (.iload_n 1, 1) := by decide +kernel
theorem dX11_ahead_2 : decode cX11_ahead 2 = .ok (.invokevirtual 220, 3) := by decide +kernel
theorem dX11_ahead_5 : decode cX11_ahead 5 = .ok (.ifCond .eq 16, 3) := by decide +kernel
theorem dX11_ahead_8 : decode cX11_ahead 8 = .ok (.aload_n 0, 1) := by decide +kernel
theorem dX11_ahead_9 : decode cX11_ahead 9 = .ok (.iload_n 2, 1) := by decide +kernel
theorem dX11_ahead_10 : decode cX11_ahead 10 = .ok (.invokevirtual 220, 3) := by decide +kernel
theorem dX11_ahead_13 : decode cX11_ahead 13 = .ok (.ifCond .eq 8, 3) := by decide +kernel
theorem dX11_ahead_16 : decode cX11_ahead 16 = .ok (.iload_n 1, 1) := by decide +kernel
theorem dX11_ahead_17 : decode cX11_ahead 17 = .ok (.iload_n 2, 1) := by decide +kernel
theorem dX11_ahead_18 : decode cX11_ahead 18 = .ok (.if_icmp .ne 6, 3) := by decide +kernel
theorem dX11_ahead_21 : decode cX11_ahead 21 = .ok (.bipush (-2), 2) := by decide +kernel
theorem dX11_ahead_23 : decode cX11_ahead 23 = .ok (.ireturn, 1) := by decide +kernel
theorem dX11_ahead_24 : decode cX11_ahead 24 = .ok (.aload_n 0, 1) := by decide +kernel
theorem dX11_ahead_25 : decode cX11_ahead 25 = .ok (.getfield 19, 3) := by decide +kernel
theorem dX11_ahead_28 : decode cX11_ahead 28 = .ok (.getfield 214, 3) := by decide +kernel
theorem dX11_ahead_31 : decode cX11_ahead 31 = .ok (.ifCond .ne 5, 3) := by decide +kernel
theorem dX11_ahead_34 : decode cX11_ahead 34 = .ok (.iconst (-1), 1) := by decide +kernel
theorem dX11_ahead_35 : decode cX11_ahead 35 = .ok (.ireturn, 1) := by decide +kernel
theorem dX11_ahead_36 : decode cX11_ahead 36 = .ok (.iconst 0, 1) := by decide +kernel
theorem dX11_ahead_37 : decode cX11_ahead 37 = .ok (.istore_n 3, 1) := by decide +kernel
theorem dX11_ahead_38 : decode cX11_ahead 38 = .ok (.iconst 0, 1) := by decide +kernel
theorem dX11_ahead_39 : decode cX11_ahead 39 = .ok (.istore 4, 2) := by decide +kernel
theorem dX11_ahead_41 : decode cX11_ahead 41 = .ok (.iload 4, 2) := by decide +kernel
theorem dX11_ahead_43 : decode cX11_ahead 43 = .ok (.aload_n 0, 1) := by decide +kernel
theorem dX11_ahead_44 : decode cX11_ahead 44 = .ok (.getfield 19, 3) := by decide +kernel
theorem dX11_ahead_47 : decode cX11_ahead 47 = .ok (.getfield 214, 3) := by decide +kernel
theorem dX11_ahead_50 : decode cX11_ahead 50 = .ok (.if_icmp .ge 31, 3) := by decide +kernel
theorem dX11_ahead_53 : decode cX11_ahead 53 = .ok (.iload_n 3, 1) := by decide +kernel
theorem dX11_ahead_54 : decode cX11_ahead 54 = .ok (.aload_n 0, 1) := by decide +kernel
theorem dX11_ahead_55 : decode cX11_ahead 55 = .ok (.getfield 19, 3) := by decide +kernel
theorem dX11_ahead_58 : decode cX11_ahead 58 = .ok (.iload 4, 2) := by decide +kernel
theorem dX11_ahead_60 : decode cX11_ahead 60 = .ok (.iload_n 1, 1) := by decide +kernel
theorem dX11_ahead_61 : decode cX11_ahead 61 = .ok (.iload_n 2, 1) := by decide +kernel
theorem dX11_ahead_62 : decode cX11_ahead 62 = .ok (.invokevirtual 223, 3) := by decide +kernel
theorem dX11_ahead_65 : decode cX11_ahead 65 = .ok (.ifCond .eq 7, 3) := by decide +kernel
theorem dX11_ahead_68 : decode cX11_ahead 68 = .ok (.iconst 1, 1) := by decide +kernel
theorem dX11_ahead_69 : decode cX11_ahead 69 = .ok (.goto 4, 3) := by decide +kernel
theorem dX11_ahead_72 : decode cX11_ahead 72 = .ok (.iconst 0, 1) := by decide +kernel
theorem dX11_ahead_73 : decode cX11_ahead 73 = .ok (.iadd, 1) := by decide +kernel
theorem dX11_ahead_74 : decode cX11_ahead 74 = .ok (.istore_n 3, 1) := by decide +kernel
theorem dX11_ahead_75 : decode cX11_ahead 75 = .ok (.iinc 4 1, 3) := by decide +kernel
theorem dX11_ahead_78 : decode cX11_ahead 78 = .ok (.goto (-37), 3) := by decide +kernel
theorem dX11_ahead_81 : decode cX11_ahead 81 = .ok (.iload_n 3, 1) := by decide +kernel
theorem dX11_ahead_82 : decode cX11_ahead 82 = .ok (.ifCond .ne 5, 3) := by decide +kernel
theorem dX11_ahead_85 : decode cX11_ahead 85 = .ok (.iconst 0, 1) := by decide +kernel
theorem dX11_ahead_86 : decode cX11_ahead 86 = .ok (.ireturn, 1) := by decide +kernel
theorem dX11_ahead_87 : decode cX11_ahead 87 = .ok (.iload_n 3, 1) := by decide +kernel
theorem dX11_ahead_88 : decode cX11_ahead 88 = .ok (.aload_n 0, 1) := by decide +kernel
theorem dX11_ahead_89 : decode cX11_ahead 89 = .ok (.getfield 19, 3) := by decide +kernel
theorem dX11_ahead_92 : decode cX11_ahead 92 = .ok (.getfield 214, 3) := by decide +kernel
theorem dX11_ahead_95 : decode cX11_ahead 95 = .ok (.if_icmp .ne 7, 3) := by decide +kernel
theorem dX11_ahead_98 : decode cX11_ahead 98 = .ok (.iconst 1, 1) := by decide +kernel
theorem dX11_ahead_99 : decode cX11_ahead 99 = .ok (.goto 4, 3) := by decide +kernel
theorem dX11_ahead_102 : decode cX11_ahead 102 = .ok (.iconst 2, 1) := by decide +kernel
theorem dX11_ahead_103 : decode cX11_ahead 103 = .ok (.ireturn, 1) := by decide +kernel
def X11_ahead_b41 (k41 : Int32 → Int32 → Int32 → Int32 → Wd → Option (Int32 × Wd)) (y1 : Int32) (y2 : Int32) (y3 : Int32) (y4 : Int32) (w : Wd) : Option (Int32 × Wd) :=
  if (w.1 3 5) ≤ y4 then
  (if y3 = 0 then
  (some (0, w))
  else
  if y3 = (w.1 3 5) then
  (some (1, w))
  else
  some (2, w))
  else
  cl (f_X2_isAhead y4 y1 y2 w) fun r6 w5 =>
  if r6 = 0 then
  (lt (y3 + 0) fun v7 =>
  k41 y1 y2 v7 (y4 + 1) w5)
  else
  lt (y3 + 1) fun v8 =>
  k41 y1 y2 v8 (y4 + 1) w5
set_option maxRecDepth 100000 in
set_option maxHeartbeats 4000000 in
theorem t_X11_ahead_b41 {Z : Cz (Int32 × Wd)} (hZ : OKZ Z SC cX11_ahead RX11 5 (some .int) 3) (hE : EndI Z) (k41 : Int32 → Int32 → Int32 → Int32 → Wd → Option (Int32 × Wd)) (hk41 : ∀ (y1 : Int32) (y2 : Int32) (y3 : Int32) (y4 : Int32)  (w : Wd), BW Z 5 41 [(0, .ref (ph (zY Z) 0)), (1, .int y1), (2, .int y2), (3, .int y3), (4, .int y4)] [] w (k41 y1 y2 y3 y4 w)) (y1 : Int32) (y2 : Int32) (y3 : Int32) (y4 : Int32)  (w : Wd) : BW Z 5 41 [(0, .ref (ph (zY Z) 0)), (1, .int y1), (2, .int y2), (3, .int y3), (4, .int y4)] [] w (X11_ahead_b41 k41 y1 y2 y3 y4 w) :=
  bw_iload hZ 4 rfl dX11_ahead_41 <|
  bw_aload_n hZ 0 rfl dX11_ahead_43 <|
  bw_getR hZ fl_RX11_19 obC_0 rfl dX11_ahead_44 <|
  bw_getI hZ fl_RX11_214 (by decide) obC_3 dX11_ahead_47 <|
  bw_icmp_ge hZ (tgt := 81) (by decide) dX11_ahead_50 (fun _ =>
  bw_iload_n hZ 3 rfl dX11_ahead_81 <|
  bw_if_ne hZ (tgt := 87) (by decide) dX11_ahead_82 (fun _ =>
  bw_iload_n hZ 3 rfl dX11_ahead_87 <|
  bw_aload_n hZ 0 rfl dX11_ahead_88 <|
  bw_getR hZ fl_RX11_19 obC_0 rfl dX11_ahead_89 <|
  bw_getI hZ fl_RX11_214 (by decide) obC_3 dX11_ahead_92 <|
  bw_icmp_ne hZ (tgt := 102) (by decide) dX11_ahead_95 (fun _ =>
  bw_iconst hZ 2 (by decide) dX11_ahead_102 <|
  bw_iret hZ hE dX11_ahead_103) (fun _ =>
  bw_iconst hZ 1 (by decide) dX11_ahead_98 <|
  bw_goto hZ (tgt := 103) (by decide) dX11_ahead_99 <|
  bw_iret hZ hE dX11_ahead_103)) (fun _ =>
  bw_iconst hZ 0 (by decide) dX11_ahead_85 <|
  bw_iret hZ hE dX11_ahead_86)) (fun _ =>
  bw_iload_n hZ 3 rfl dX11_ahead_53 <|
  bw_aload_n hZ 0 rfl dX11_ahead_54 <|
  bw_getR hZ fl_RX11_19 obC_0 rfl dX11_ahead_55 <|
  bw_iload hZ 4 rfl dX11_ahead_58 <|
  bw_iload_n hZ 1 rfl dX11_ahead_60 <|
  bw_iload_n hZ 2 rfl dX11_ahead_61 <|
  bw_callVI (As := [.int y4, .int y1, .int y2]) hZ ml_RX11_223 rc_2 obC_3 (by decide) (c_X2_isAhead (zl Z) (zY Z) (hZ_S hZ) y4 y1 y2 w) rfl rfl (Nat.le_of_ble_eq_true rfl) dX11_ahead_62 fun r6 w5 =>
  bw_if_eq hZ (tgt := 72) (by decide) dX11_ahead_65 (fun _ =>
  bw_iconst hZ 0 (by decide) dX11_ahead_72 <|
  bw_iadd hZ dX11_ahead_73 <|
  bw_nm fun v7 =>
  bw_istore_n hZ rfl (by decide) rfl dX11_ahead_74 <|
  bw_iinc hZ 1 4 rfl (by decide) (by decide) rfl dX11_ahead_75 <|
  bw_goto hZ (tgt := 41) (by decide) dX11_ahead_78 <|
  bw_sub [2, 3, 4, 1, 0] rfl (hk41 y1 y2 v7 (y4 + 1) w5)) (fun _ =>
  bw_iconst hZ 1 (by decide) dX11_ahead_68 <|
  bw_goto hZ (tgt := 73) (by decide) dX11_ahead_69 <|
  bw_iadd hZ dX11_ahead_73 <|
  bw_nm fun v8 =>
  bw_istore_n hZ rfl (by decide) rfl dX11_ahead_74 <|
  bw_iinc hZ 1 4 rfl (by decide) (by decide) rfl dX11_ahead_75 <|
  bw_goto hZ (tgt := 41) (by decide) dX11_ahead_78 <|
  bw_sub [2, 3, 4, 1, 0] rfl (hk41 y1 y2 v8 (y4 + 1) w5)))
def X11_ahead_b41_L  : Int32 → Int32 → Int32 → Int32 → Wd → Option (Int32 × Wd) :=
  lp fu (fun _ _ _ _ _ => none) (fun k41 => X11_ahead_b41 k41)
theorem t_X11_ahead_b41_L {Z : Cz (Int32 × Wd)} (hZ : OKZ Z SC cX11_ahead RX11 5 (some .int) 3) (hE : EndI Z)  : ∀ (y1 : Int32) (y2 : Int32) (y3 : Int32) (y4 : Int32)  (w : Wd), BW Z 5 41 [(0, .ref (ph (zY Z) 0)), (1, .int y1), (2, .int y2), (3, .int y3), (4, .int y4)] [] w (X11_ahead_b41_L y1 y2 y3 y4 w) :=
  lp_bw (fun k41 => ∀ (y1 : Int32) (y2 : Int32) (y3 : Int32) (y4 : Int32)  (w : Wd), BW Z 5 41 [(0, .ref (ph (zY Z) 0)), (1, .int y1), (2, .int y2), (3, .int y3), (4, .int y4)] [] w (k41 y1 y2 y3 y4 w)) (fun _ _ _ _ _ => bw_none) (fun k41 hk41 y1 y2 y3 y4 w => t_X11_ahead_b41 hZ hE k41 hk41 y1 y2 y3 y4 w) fu
def f_X11_ahead (x1 : Int32) (x2 : Int32) (w : Wd) : Option (Int32 × Wd) :=
  cl (f_X11_isItem x1 w) fun r2 w1 =>
  if r2 = 0 then
  (some ((-2), w1))
  else
  cl (f_X11_isItem x2 w1) fun r4 w3 =>
  if r4 = 0 then
  (some ((-2), w3))
  else
  if x1 = x2 then
  (some ((-2), w3))
  else
  if (w3.1 3 5) = 0 then
  (some ((-1), w3))
  else
  X11_ahead_b41_L x1 x2 0 0 w3
set_option maxRecDepth 100000 in
set_option maxHeartbeats 4000000 in
theorem t_X11_ahead {Z : Cz (Int32 × Wd)} (hZ : OKZ Z SC cX11_ahead RX11 5 (some .int) 3) (hE : EndI Z) (x1 : Int32) (x2 : Int32)  (w : Wd) : BW Z 5 0 [(0, .ref (ph (zY Z) 0)), (1, .int x1), (2, .int x2)] [] w (f_X11_ahead x1 x2 w) :=
  bw_aload_n hZ 0 rfl dX11_ahead_0 <|
  bw_iload_n hZ 1 rfl dX11_ahead_1 <|
  bw_callVI (As := [.int x1]) hZ ml_RX11_220 rc_11 obC_0 (by decide) (c_X11_isItem (zl Z) (zY Z) (hZ_S hZ) x1 w) rfl rfl (Nat.le_of_ble_eq_true rfl) dX11_ahead_2 fun r2 w1 =>
  bw_if_eq hZ (tgt := 21) (by decide) dX11_ahead_5 (fun _ =>
  bw_bipush hZ (-2) (by decide) dX11_ahead_21 <|
  bw_iret hZ hE dX11_ahead_23) (fun _ =>
  bw_aload_n hZ 0 rfl dX11_ahead_8 <|
  bw_iload_n hZ 2 rfl dX11_ahead_9 <|
  bw_callVI (As := [.int x2]) hZ ml_RX11_220 rc_11 obC_0 (by decide) (c_X11_isItem (zl Z) (zY Z) (hZ_S hZ) x2 w1) rfl rfl (Nat.le_of_ble_eq_true rfl) dX11_ahead_10 fun r4 w3 =>
  bw_if_eq hZ (tgt := 21) (by decide) dX11_ahead_13 (fun _ =>
  bw_bipush hZ (-2) (by decide) dX11_ahead_21 <|
  bw_iret hZ hE dX11_ahead_23) (fun _ =>
  bw_iload_n hZ 1 rfl dX11_ahead_16 <|
  bw_iload_n hZ 2 rfl dX11_ahead_17 <|
  bw_icmp_ne hZ (tgt := 24) (by decide) dX11_ahead_18 (fun _ =>
  bw_aload_n hZ 0 rfl dX11_ahead_24 <|
  bw_getR hZ fl_RX11_19 obC_0 rfl dX11_ahead_25 <|
  bw_getI hZ fl_RX11_214 (by decide) obC_3 dX11_ahead_28 <|
  bw_if_ne hZ (tgt := 36) (by decide) dX11_ahead_31 (fun _ =>
  bw_iconst hZ 0 (by decide) dX11_ahead_36 <|
  bw_istore_n hZ rfl (by decide) rfl dX11_ahead_37 <|
  bw_iconst hZ 0 (by decide) dX11_ahead_38 <|
  bw_istore hZ (by decide) rfl dX11_ahead_39 <|
  bw_sub [2, 3, 4, 1, 0] rfl (t_X11_ahead_b41_L hZ hE x1 x2 0 0 w3)) (fun _ =>
  bw_iconst hZ (-1) (by decide) dX11_ahead_34 <|
  bw_iret hZ hE dX11_ahead_35)) (fun _ =>
  bw_bipush hZ (-2) (by decide) dX11_ahead_21 <|
  bw_iret hZ hE dX11_ahead_23)))
theorem c_X11_ahead (l : Launch) (Y : Ev) (hY : Y.1 = SC) (x1 : Int32) (x2 : Int32)  (w : Wd) : CI l Y yX11_ahead cX11_ahead 5 3 [.ref (ph Y 0), .int x1, .int x2] w .int (f_X11_ahead x1 x2 w) := by
  refine CI_of (S := SC) (by decide) (Nat.le_of_ble_eq_true rfl) hY ?_
  intro Z hl hY2 hZ hE
  subst hY2
  exact t_X11_ahead hZ hE x1 x2 w
-- WhichWill.isThing
theorem dX11_isThing_0 : decode cX11_isThing 0 = .ok (.iload_n 1, 1) := by decide +kernel
theorem dX11_isThing_1 : decode cX11_isThing 1 = .ok (.ifCond .lt 24, 3) := by decide +kernel
theorem dX11_isThing_4 : decode cX11_isThing 4 = .ok (.iload_n 1, 1) := by decide +kernel
theorem dX11_isThing_5 : decode cX11_isThing 5 = .ok (.aload_n 0, 1) := by decide +kernel
theorem dX11_isThing_6 : decode cX11_isThing 6 = .ok (.getfield 19, 3) := by decide +kernel
theorem dX11_isThing_9 : decode cX11_isThing 9 = .ok (.getfield 98, 3) := by decide +kernel
theorem dX11_isThing_12 : decode cX11_isThing 12 = .ok (.getfield 151, 3) := by decide +kernel
theorem dX11_isThing_15 : decode cX11_isThing 15 = .ok (.getfield 143, 3) := by decide +kernel
theorem dX11_isThing_18 : decode cX11_isThing 18 = .ok (.if_icmp .ge 7, 3) := by decide +kernel
theorem dX11_isThing_21 : decode cX11_isThing 21 = .ok (.iconst 1, 1) := by decide +kernel
theorem dX11_isThing_22 : decode cX11_isThing 22 = .ok (.goto 4, 3) := by decide +kernel
theorem dX11_isThing_25 : decode cX11_isThing 25 = .ok (.iconst 0, 1) := by decide +kernel
theorem dX11_isThing_26 : decode cX11_isThing 26 = .ok (.ireturn, 1) := by decide +kernel
def f_X11_isThing (x1 : Int32) (w : Wd) : Option (Int32 × Wd) :=
  if x1 < 0 then
  (some (0, w))
  else
  if (w.1 36 1) ≤ x1 then
  (some (0, w))
  else
  some (1, w)
set_option maxRecDepth 100000 in
set_option maxHeartbeats 4000000 in
theorem t_X11_isThing {Z : Cz (Int32 × Wd)} (hZ : OKZ Z SC cX11_isThing RX11 2 (some .boolean) 1) (hE : EndI Z) (x1 : Int32)  (w : Wd) : BW Z 2 0 [(0, .ref (ph (zY Z) 0)), (1, .int x1)] [] w (f_X11_isThing x1 w) :=
  bw_iload_n hZ 1 rfl dX11_isThing_0 <|
  bw_if_lt hZ (tgt := 25) (by decide) dX11_isThing_1 (fun _ =>
  bw_iconst hZ 0 (by decide) dX11_isThing_25 <|
  bw_zret hZ hE (by decide) dX11_isThing_26) (fun _ =>
  bw_iload_n hZ 1 rfl dX11_isThing_4 <|
  bw_aload_n hZ 0 rfl dX11_isThing_5 <|
  bw_getR hZ fl_RX11_19 obC_0 rfl dX11_isThing_6 <|
  bw_getR hZ fl_RX11_98 obC_3 rfl dX11_isThing_9 <|
  bw_getR hZ fl_RX11_151 obC_31 rfl dX11_isThing_12 <|
  bw_getI hZ fl_RX11_143 (by decide) obC_36 dX11_isThing_15 <|
  bw_icmp_ge hZ (tgt := 25) (by decide) dX11_isThing_18 (fun _ =>
  bw_iconst hZ 0 (by decide) dX11_isThing_25 <|
  bw_zret hZ hE (by decide) dX11_isThing_26) (fun _ =>
  bw_iconst hZ 1 (by decide) dX11_isThing_21 <|
  bw_goto hZ (tgt := 26) (by decide) dX11_isThing_22 <|
  bw_zret hZ hE (by decide) dX11_isThing_26))
theorem c_X11_isThing (l : Launch) (Y : Ev) (hY : Y.1 = SC) (x1 : Int32)  (w : Wd) : CI l Y yX11_isThing cX11_isThing 2 1 [.ref (ph Y 0), .int x1] w .boolean (f_X11_isThing x1 w) := by
  refine CI_of (S := SC) (by decide) (Nat.le_of_ble_eq_true rfl) hY ?_
  intro Z hl hY2 hZ hE
  subst hY2
  exact t_X11_isThing hZ hE x1 w
-- WhichWill.law
theorem dX11_law_0 : decode cX11_law 0 = .ok (.iload_n 1, 1) := by decide +kernel
theorem dX11_law_1 : decode cX11_law 1 = .ok (.iconst (-1), 1) := by decide +kernel
theorem dX11_law_2 : decode cX11_law 2 = .ok (.if_icmp .eq 14, 3) := by decide +kernel
theorem dX11_law_5 : decode cX11_law 5 = .ok (.aload_n 0, 1) := by decide +kernel
theorem dX11_law_6 : decode cX11_law 6 = .ok (.iload_n 1, 1) := by decide +kernel
theorem dX11_law_7 : decode cX11_law 7 = .ok (.invokevirtual 227, 3) := by decide +kernel
theorem dX11_law_10 : decode cX11_law 10 = .ok (.ifCond .ne 6, 3) := by decide +kernel
theorem dX11_law_13 : decode cX11_law 13 = .ok (.bipush (-2), 2) := by decide +kernel
theorem dX11_law_15 : decode cX11_law 15 = .ok (.ireturn, 1) := by decide +kernel
theorem dX11_law_16 : decode cX11_law 16 = .ok (.aload_n 0, 1) := by decide +kernel
theorem dX11_law_17 : decode cX11_law 17 = .ok (.getfield 19, 3) := by decide +kernel
theorem dX11_law_20 : decode cX11_law 20 = .ok (.getfield 98, 3) := by decide +kernel
theorem dX11_law_23 : decode cX11_law 23 = .ok (.getfield 139, 3) := by decide +kernel
theorem dX11_law_26 : decode cX11_law 26 = .ok (.getfield 143, 3) := by decide +kernel
theorem dX11_law_29 : decode cX11_law 29 = .ok (.ifCond .ne 7, 3) := by decide +kernel
theorem dX11_law_32 : decode cX11_law 32 = .ok (.iconst (-1), 1) := by decide +kernel
theorem dX11_law_33 : decode cX11_law 33 = .ok (.goto 16, 3) := by decide +kernel
theorem dX11_law_36 : decode cX11_law 36 = .ok (.aload_n 0, 1) := by decide +kernel
theorem dX11_law_37 : decode cX11_law 37 = .ok (.getfield 19, 3) := by decide +kernel
theorem dX11_law_40 : decode cX11_law 40 = .ok (.getfield 98, 3) := by decide +kernel
theorem dX11_law_43 : decode cX11_law 43 = .ok (.iload_n 1, 1) := by decide +kernel
theorem dX11_law_44 : decode cX11_law 44 = .ok (.invokevirtual 230, 3) := by decide +kernel
theorem dX11_law_47 : decode cX11_law 47 = .ok (.iconst 1, 1) := by decide +kernel
theorem dX11_law_48 : decode cX11_law 48 = .ok (.ishr, 1) := by decide +kernel
theorem dX11_law_49 : decode cX11_law 49 = .ok (.ireturn, 1) := by decide +kernel
def X11_law_b16 (y1 : Int32) (w : Wd) : Option (Int32 × Wd) :=
  if (w.1 32 1) = 0 then
  (some ((-1), w))
  else
  cl (f_X0_lawAndRing y1 w) fun r2 w1 =>
  some (r2 >>> (1 &&& 31), w1)
set_option maxRecDepth 100000 in
set_option maxHeartbeats 4000000 in
theorem t_X11_law_b16 {Z : Cz (Int32 × Wd)} (hZ : OKZ Z SC cX11_law RX11 2 (some .int) 4) (hE : EndI Z)  (y1 : Int32)  (w : Wd) : BW Z 2 16 [(0, .ref (ph (zY Z) 0)), (1, .int y1)] [] w (X11_law_b16 y1 w) :=
  bw_aload_n hZ 0 rfl dX11_law_16 <|
  bw_getR hZ fl_RX11_19 obC_0 rfl dX11_law_17 <|
  bw_getR hZ fl_RX11_98 obC_3 rfl dX11_law_20 <|
  bw_getR hZ fl_RX11_139 obC_31 rfl dX11_law_23 <|
  bw_getI hZ fl_RX11_143 (by decide) obC_32 dX11_law_26 <|
  bw_if_ne hZ (tgt := 36) (by decide) dX11_law_29 (fun _ =>
  bw_aload_n hZ 0 rfl dX11_law_36 <|
  bw_getR hZ fl_RX11_19 obC_0 rfl dX11_law_37 <|
  bw_getR hZ fl_RX11_98 obC_3 rfl dX11_law_40 <|
  bw_iload_n hZ 1 rfl dX11_law_43 <|
  bw_callVI (As := [.int y1]) hZ ml_RX11_230 rc_0 obC_31 (by decide) (c_X0_lawAndRing (zl Z) (zY Z) (hZ_S hZ) y1 w) rfl rfl (Nat.le_of_ble_eq_true rfl) dX11_law_44 fun r2 w1 =>
  bw_iconst hZ 1 (by decide) dX11_law_47 <|
  bw_ishr hZ dX11_law_48 <|
  bw_iret hZ hE dX11_law_49) (fun _ =>
  bw_iconst hZ (-1) (by decide) dX11_law_32 <|
  bw_goto hZ (tgt := 49) (by decide) dX11_law_33 <|
  bw_iret hZ hE dX11_law_49)
def f_X11_law (x1 : Int32) (w : Wd) : Option (Int32 × Wd) :=
  if x1 = ((-1)) then
  (X11_law_b16 x1 w)
  else
  cl (f_X11_isThing x1 w) fun r4 w3 =>
  if r4 = 0 then
  (some ((-2), w3))
  else
  X11_law_b16 x1 w3
set_option maxRecDepth 100000 in
set_option maxHeartbeats 4000000 in
theorem t_X11_law {Z : Cz (Int32 × Wd)} (hZ : OKZ Z SC cX11_law RX11 2 (some .int) 4) (hE : EndI Z) (x1 : Int32)  (w : Wd) : BW Z 2 0 [(0, .ref (ph (zY Z) 0)), (1, .int x1)] [] w (f_X11_law x1 w) :=
  bw_iload_n hZ 1 rfl dX11_law_0 <|
  bw_iconst hZ (-1) (by decide) dX11_law_1 <|
  bw_icmp_eq hZ (tgt := 16) (by decide) dX11_law_2 (fun _ =>
  bw_sub [0, 1] rfl (t_X11_law_b16 hZ hE x1 w)) (fun _ =>
  bw_aload_n hZ 0 rfl dX11_law_5 <|
  bw_iload_n hZ 1 rfl dX11_law_6 <|
  bw_callVI (As := [.int x1]) hZ ml_RX11_227 rc_11 obC_0 (by decide) (c_X11_isThing (zl Z) (zY Z) (hZ_S hZ) x1 w) rfl rfl (Nat.le_of_ble_eq_true rfl) dX11_law_7 fun r4 w3 =>
  bw_if_ne hZ (tgt := 16) (by decide) dX11_law_10 (fun _ =>
  bw_sub [0, 1] rfl (t_X11_law_b16 hZ hE x1 w3)) (fun _ =>
  bw_bipush hZ (-2) (by decide) dX11_law_13 <|
  bw_iret hZ hE dX11_law_15))
theorem c_X11_law (l : Launch) (Y : Ev) (hY : Y.1 = SC) (x1 : Int32)  (w : Wd) : CI l Y yX11_law cX11_law 2 4 [.ref (ph Y 0), .int x1] w .int (f_X11_law x1 w) := by
  refine CI_of (S := SC) (by decide) (Nat.le_of_ble_eq_true rfl) hY ?_
  intro Z hl hY2 hZ hE
  subst hY2
  exact t_X11_law hZ hE x1 w
-- WhichWill.ring
theorem dX11_ring_0 : decode cX11_ring 0 = .ok (.iload_n 1, 1) := by decide +kernel
theorem dX11_ring_1 : decode cX11_ring 1 = .ok (.iconst (-1), 1) := by decide +kernel
theorem dX11_ring_2 : decode cX11_ring 2 = .ok (.if_icmp .eq 14, 3) := by decide +kernel
theorem dX11_ring_5 : decode cX11_ring 5 = .ok (.aload_n 0, 1) := by decide +kernel
theorem dX11_ring_6 : decode cX11_ring 6 = .ok (.iload_n 1, 1) := by decide +kernel
theorem dX11_ring_7 : decode cX11_ring 7 = .ok (.invokevirtual 227, 3) := by decide +kernel
theorem dX11_ring_10 : decode cX11_ring 10 = .ok (.ifCond .ne 6, 3) := by decide +kernel
theorem dX11_ring_13 : decode cX11_ring 13 = .ok (.bipush (-2), 2) := by decide +kernel
theorem dX11_ring_15 : decode cX11_ring 15 = .ok (.ireturn, 1) := by decide +kernel
theorem dX11_ring_16 : decode cX11_ring 16 = .ok (.aload_n 0, 1) := by decide +kernel
theorem dX11_ring_17 : decode cX11_ring 17 = .ok (.getfield 19, 3) := by decide +kernel
theorem dX11_ring_20 : decode cX11_ring 20 = .ok (.getfield 98, 3) := by decide +kernel
theorem dX11_ring_23 : decode cX11_ring 23 = .ok (.getfield 139, 3) := by decide +kernel
theorem dX11_ring_26 : decode cX11_ring 26 = .ok (.getfield 143, 3) := by decide +kernel
theorem dX11_ring_29 : decode cX11_ring 29 = .ok (.ifCond .ne 7, 3) := by decide +kernel
theorem dX11_ring_32 : decode cX11_ring 32 = .ok (.iconst (-1), 1) := by decide +kernel
theorem dX11_ring_33 : decode cX11_ring 33 = .ok (.goto 16, 3) := by decide +kernel
theorem dX11_ring_36 : decode cX11_ring 36 = .ok (.aload_n 0, 1) := by decide +kernel
theorem dX11_ring_37 : decode cX11_ring 37 = .ok (.getfield 19, 3) := by decide +kernel
theorem dX11_ring_40 : decode cX11_ring 40 = .ok (.getfield 98, 3) := by decide +kernel
theorem dX11_ring_43 : decode cX11_ring 43 = .ok (.iload_n 1, 1) := by decide +kernel
theorem dX11_ring_44 : decode cX11_ring 44 = .ok (.invokevirtual 230, 3) := by decide +kernel
theorem dX11_ring_47 : decode cX11_ring 47 = .ok (.iconst 1, 1) := by decide +kernel
theorem dX11_ring_48 : decode cX11_ring 48 = .ok (.iand, 1) := by decide +kernel
theorem dX11_ring_49 : decode cX11_ring 49 = .ok (.ireturn, 1) := by decide +kernel
def X11_ring_b16 (y1 : Int32) (w : Wd) : Option (Int32 × Wd) :=
  if (w.1 32 1) = 0 then
  (some ((-1), w))
  else
  cl (f_X0_lawAndRing y1 w) fun r2 w1 =>
  some (r2 &&& 1, w1)
set_option maxRecDepth 100000 in
set_option maxHeartbeats 4000000 in
theorem t_X11_ring_b16 {Z : Cz (Int32 × Wd)} (hZ : OKZ Z SC cX11_ring RX11 2 (some .int) 4) (hE : EndI Z)  (y1 : Int32)  (w : Wd) : BW Z 2 16 [(0, .ref (ph (zY Z) 0)), (1, .int y1)] [] w (X11_ring_b16 y1 w) :=
  bw_aload_n hZ 0 rfl dX11_ring_16 <|
  bw_getR hZ fl_RX11_19 obC_0 rfl dX11_ring_17 <|
  bw_getR hZ fl_RX11_98 obC_3 rfl dX11_ring_20 <|
  bw_getR hZ fl_RX11_139 obC_31 rfl dX11_ring_23 <|
  bw_getI hZ fl_RX11_143 (by decide) obC_32 dX11_ring_26 <|
  bw_if_ne hZ (tgt := 36) (by decide) dX11_ring_29 (fun _ =>
  bw_aload_n hZ 0 rfl dX11_ring_36 <|
  bw_getR hZ fl_RX11_19 obC_0 rfl dX11_ring_37 <|
  bw_getR hZ fl_RX11_98 obC_3 rfl dX11_ring_40 <|
  bw_iload_n hZ 1 rfl dX11_ring_43 <|
  bw_callVI (As := [.int y1]) hZ ml_RX11_230 rc_0 obC_31 (by decide) (c_X0_lawAndRing (zl Z) (zY Z) (hZ_S hZ) y1 w) rfl rfl (Nat.le_of_ble_eq_true rfl) dX11_ring_44 fun r2 w1 =>
  bw_iconst hZ 1 (by decide) dX11_ring_47 <|
  bw_iand hZ dX11_ring_48 <|
  bw_iret hZ hE dX11_ring_49) (fun _ =>
  bw_iconst hZ (-1) (by decide) dX11_ring_32 <|
  bw_goto hZ (tgt := 49) (by decide) dX11_ring_33 <|
  bw_iret hZ hE dX11_ring_49)
def f_X11_ring (x1 : Int32) (w : Wd) : Option (Int32 × Wd) :=
  if x1 = ((-1)) then
  (X11_ring_b16 x1 w)
  else
  cl (f_X11_isThing x1 w) fun r4 w3 =>
  if r4 = 0 then
  (some ((-2), w3))
  else
  X11_ring_b16 x1 w3
set_option maxRecDepth 100000 in
set_option maxHeartbeats 4000000 in
theorem t_X11_ring {Z : Cz (Int32 × Wd)} (hZ : OKZ Z SC cX11_ring RX11 2 (some .int) 4) (hE : EndI Z) (x1 : Int32)  (w : Wd) : BW Z 2 0 [(0, .ref (ph (zY Z) 0)), (1, .int x1)] [] w (f_X11_ring x1 w) :=
  bw_iload_n hZ 1 rfl dX11_ring_0 <|
  bw_iconst hZ (-1) (by decide) dX11_ring_1 <|
  bw_icmp_eq hZ (tgt := 16) (by decide) dX11_ring_2 (fun _ =>
  bw_sub [0, 1] rfl (t_X11_ring_b16 hZ hE x1 w)) (fun _ =>
  bw_aload_n hZ 0 rfl dX11_ring_5 <|
  bw_iload_n hZ 1 rfl dX11_ring_6 <|
  bw_callVI (As := [.int x1]) hZ ml_RX11_227 rc_11 obC_0 (by decide) (c_X11_isThing (zl Z) (zY Z) (hZ_S hZ) x1 w) rfl rfl (Nat.le_of_ble_eq_true rfl) dX11_ring_7 fun r4 w3 =>
  bw_if_ne hZ (tgt := 16) (by decide) dX11_ring_10 (fun _ =>
  bw_sub [0, 1] rfl (t_X11_ring_b16 hZ hE x1 w3)) (fun _ =>
  bw_bipush hZ (-2) (by decide) dX11_ring_13 <|
  bw_iret hZ hE dX11_ring_15))
theorem c_X11_ring (l : Launch) (Y : Ev) (hY : Y.1 = SC) (x1 : Int32)  (w : Wd) : CI l Y yX11_ring cX11_ring 2 4 [.ref (ph Y 0), .int x1] w .int (f_X11_ring x1 w) := by
  refine CI_of (S := SC) (by decide) (Nat.le_of_ble_eq_true rfl) hY ?_
  intro Z hl hY2 hZ hE
  subst hY2
  exact t_X11_ring hZ hE x1 w
-- WhichWill.good
theorem dX11_good_0 : decode cX11_good 0 = .ok (.aload_n 0, 1) := by decide +kernel
theorem dX11_good_1 : decode cX11_good 1 = .ok (.iload_n 1, 1) := by decide +kernel
theorem dX11_good_2 : decode cX11_good 2 = .ok (.invokevirtual 128, 3) := by decide +kernel
theorem dX11_good_5 : decode cX11_good 5 = .ok (.ifCond .eq 11, 3) := by decide +kernel
theorem dX11_good_8 : decode cX11_good 8 = .ok (.aload_n 0, 1) := by decide +kernel
theorem dX11_good_9 : decode cX11_good 9 = .ok (.iload_n 2, 1) := by decide +kernel
theorem dX11_good_10 : decode cX11_good 10 = .ok (.invokevirtual 176, 3) := by decide +kernel
theorem dX11_good_13 : decode cX11_good 13 = .ok (.ifCond .ne 6, 3) := by decide +kernel
theorem dX11_good_16 : decode cX11_good 16 = .ok (.bipush (-2), 2) := by decide +kernel
theorem dX11_good_18 : decode cX11_good 18 = .ok (.ireturn, 1) := by decide +kernel
theorem dX11_good_19 : decode cX11_good 19 = .ok (.aload_n 0, 1) := by decide +kernel
theorem dX11_good_20 : decode cX11_good 20 = .ok (.getfield 19, 3) := by decide +kernel
theorem dX11_good_23 : decode cX11_good 23 = .ok (.getfield 114, 3) := by decide +kernel
theorem dX11_good_26 : decode cX11_good 26 = .ok (.iload_n 1, 1) := by decide +kernel
theorem dX11_good_27 : decode cX11_good 27 = .ok (.aaload, 1) := by decide +kernel
theorem dX11_good_28 : decode cX11_good 28 = .ok (.aload_n 0, 1) := by decide +kernel
theorem dX11_good_29 : decode cX11_good 29 = .ok (.getfield 19, 3) := by decide +kernel
theorem dX11_good_32 : decode cX11_good 32 = .ok (.getfield 98, 3) := by decide +kernel
theorem dX11_good_35 : decode cX11_good 35 = .ok (.iload_n 2, 1) := by decide +kernel
theorem dX11_good_36 : decode cX11_good 36 = .ok (.iconst 0, 1) := by decide +kernel
theorem dX11_good_37 : decode cX11_good 37 = .ok (.invokevirtual 234, 3) := by decide +kernel
theorem dX11_good_40 : decode cX11_good 40 = .ok (.ifCond .eq 7, 3) := by decide +kernel
theorem dX11_good_43 : decode cX11_good 43 = .ok (.iconst 1, 1) := by decide +kernel
theorem dX11_good_44 : decode cX11_good 44 = .ok (.goto 4, 3) := by decide +kernel
theorem dX11_good_47 : decode cX11_good 47 = .ok (.iconst 0, 1) := by decide +kernel
theorem dX11_good_48 : decode cX11_good 48 = .ok (.ireturn, 1) := by decide +kernel
def f_X11_good (x1 : Int32) (x2 : Int32) (w : Wd) : Option (Int32 × Wd) :=
  cl (f_X11_isPaper x1 w) fun r2 w1 =>
  if r2 = 0 then
  (some ((-2), w1))
  else
  cl (f_X11_isLand x2 w1) fun r4 w3 =>
  if r4 = 0 then
  (some ((-2), w3))
  else
  if inb x1 4 = true then
  (cl (f_X6_isGoodBy (57 + 6 * Int32.toNatClampNeg x1) x2 0 w3) fun r8 w7 =>
  if r8 = 0 then
  (some (0, w7))
  else
  some (1, w7))
  else none
set_option maxRecDepth 100000 in
set_option maxHeartbeats 4000000 in
theorem t_X11_good {Z : Cz (Int32 × Wd)} (hZ : OKZ Z SC cX11_good RX11 3 (some .int) 3) (hE : EndI Z) (x1 : Int32) (x2 : Int32)  (w : Wd) : BW Z 3 0 [(0, .ref (ph (zY Z) 0)), (1, .int x1), (2, .int x2)] [] w (f_X11_good x1 x2 w) :=
  bw_aload_n hZ 0 rfl dX11_good_0 <|
  bw_iload_n hZ 1 rfl dX11_good_1 <|
  bw_callVI (As := [.int x1]) hZ ml_RX11_128 rc_11 obC_0 (by decide) (c_X11_isPaper (zl Z) (zY Z) (hZ_S hZ) x1 w) rfl rfl (Nat.le_of_ble_eq_true rfl) dX11_good_2 fun r2 w1 =>
  bw_if_eq hZ (tgt := 16) (by decide) dX11_good_5 (fun _ =>
  bw_bipush hZ (-2) (by decide) dX11_good_16 <|
  bw_iret hZ hE dX11_good_18) (fun _ =>
  bw_aload_n hZ 0 rfl dX11_good_8 <|
  bw_iload_n hZ 2 rfl dX11_good_9 <|
  bw_callVI (As := [.int x2]) hZ ml_RX11_176 rc_11 obC_0 (by decide) (c_X11_isLand (zl Z) (zY Z) (hZ_S hZ) x2 w1) rfl rfl (Nat.le_of_ble_eq_true rfl) dX11_good_10 fun r4 w3 =>
  bw_if_ne hZ (tgt := 19) (by decide) dX11_good_13 (fun _ =>
  bw_aload_n hZ 0 rfl dX11_good_19 <|
  bw_getR hZ fl_RX11_19 obC_0 rfl dX11_good_20 <|
  bw_getR hZ fl_RX11_114 obC_3 rfl dX11_good_23 <|
  bw_iload_n hZ 1 rfl dX11_good_26 <|
  bw_aald (57 + 6 * Int32.toNatClampNeg x1) hZ (arC_4 _) (Or.inl ⟨rfl, rfl⟩) rfl dX11_good_27 fun hi5 =>
  bw_aload_n hZ 0 rfl dX11_good_28 <|
  bw_getR hZ fl_RX11_19 obC_0 rfl dX11_good_29 <|
  bw_getR hZ fl_RX11_98 obC_3 rfl dX11_good_32 <|
  bw_iload_n hZ 2 rfl dX11_good_35 <|
  bw_iconst hZ 0 (by decide) dX11_good_36 <|
  bw_callVI (As := [.ref (ph (zY Z) 31), .int x2, .int 0]) hZ ml_RX11_234 rc_6 (obP (isP_of hi5)) (by decide) (c_X6_isGoodBy (zl Z) (zY Z) (hZ_S hZ) (57 + 6 * Int32.toNatClampNeg x1) x2 0 (isP_of hi5) w3) rfl rfl (Nat.le_of_ble_eq_true rfl) dX11_good_37 fun r8 w7 =>
  bw_if_eq hZ (tgt := 47) (by decide) dX11_good_40 (fun _ =>
  bw_iconst hZ 0 (by decide) dX11_good_47 <|
  bw_iret hZ hE dX11_good_48) (fun _ =>
  bw_iconst hZ 1 (by decide) dX11_good_43 <|
  bw_goto hZ (tgt := 48) (by decide) dX11_good_44 <|
  bw_iret hZ hE dX11_good_48)) (fun _ =>
  bw_bipush hZ (-2) (by decide) dX11_good_16 <|
  bw_iret hZ hE dX11_good_18))
theorem c_X11_good (l : Launch) (Y : Ev) (hY : Y.1 = SC) (x1 : Int32) (x2 : Int32)  (w : Wd) : CI l Y yX11_good cX11_good 3 3 [.ref (ph Y 0), .int x1, .int x2] w .int (f_X11_good x1 x2 w) := by
  refine CI_of (S := SC) (by decide) (Nat.le_of_ble_eq_true rfl) hY ?_
  intro Z hl hY2 hZ hE
  subst hY2
  exact t_X11_good hZ hE x1 x2 w
-- WhichWill.isWay
theorem dX11_isWay_0 : decode cX11_isWay 0 = .ok (.iload_n 1, 1) := by decide +kernel
theorem dX11_isWay_1 : decode cX11_isWay 1 = .ok (.ifCond .lt 18, 3) := by decide +kernel
theorem dX11_isWay_4 : decode cX11_isWay 4 = .ok (.iload_n 1, 1) := by decide +kernel
theorem dX11_isWay_5 : decode cX11_isWay 5 = .ok (.aload_n 0, 1) := by decide +kernel
theorem dX11_isWay_6 : decode cX11_isWay 6 = .ok (.getfield 19, 3) := by decide +kernel
theorem dX11_isWay_9 : decode cX11_isWay 9 = .ok (.invokevirtual 256, 3) := by decide +kernel
theorem dX11_isWay_12 : decode cX11_isWay 12 = .ok (.if_icmp .ge 7, 3) := by decide +kernel
theorem dX11_isWay_15 : decode cX11_isWay 15 = .ok (.iconst 1, 1) := by decide +kernel
theorem dX11_isWay_16 : decode cX11_isWay 16 = .ok (.goto 4, 3) := by decide +kernel
theorem dX11_isWay_19 : decode cX11_isWay 19 = .ok (.iconst 0, 1) := by decide +kernel
theorem dX11_isWay_20 : decode cX11_isWay 20 = .ok (.ireturn, 1) := by decide +kernel
def f_X11_isWay (x1 : Int32) (w : Wd) : Option (Int32 × Wd) :=
  if x1 < 0 then
  (some (0, w))
  else
  cl (f_X2_waysFound w) fun r2 w1 =>
  if r2 ≤ x1 then
  (some (0, w1))
  else
  some (1, w1)
set_option maxRecDepth 100000 in
set_option maxHeartbeats 4000000 in
theorem t_X11_isWay {Z : Cz (Int32 × Wd)} (hZ : OKZ Z SC cX11_isWay RX11 2 (some .boolean) 2) (hE : EndI Z) (x1 : Int32)  (w : Wd) : BW Z 2 0 [(0, .ref (ph (zY Z) 0)), (1, .int x1)] [] w (f_X11_isWay x1 w) :=
  bw_iload_n hZ 1 rfl dX11_isWay_0 <|
  bw_if_lt hZ (tgt := 19) (by decide) dX11_isWay_1 (fun _ =>
  bw_iconst hZ 0 (by decide) dX11_isWay_19 <|
  bw_zret hZ hE (by decide) dX11_isWay_20) (fun _ =>
  bw_iload_n hZ 1 rfl dX11_isWay_4 <|
  bw_aload_n hZ 0 rfl dX11_isWay_5 <|
  bw_getR hZ fl_RX11_19 obC_0 rfl dX11_isWay_6 <|
  bw_callVI (As := []) hZ ml_RX11_256 rc_2 obC_3 (by decide) (c_X2_waysFound (zl Z) (zY Z) (hZ_S hZ) w) rfl rfl (Nat.le_of_ble_eq_true rfl) dX11_isWay_9 fun r2 w1 =>
  bw_icmp_ge hZ (tgt := 19) (by decide) dX11_isWay_12 (fun _ =>
  bw_iconst hZ 0 (by decide) dX11_isWay_19 <|
  bw_zret hZ hE (by decide) dX11_isWay_20) (fun _ =>
  bw_iconst hZ 1 (by decide) dX11_isWay_15 <|
  bw_goto hZ (tgt := 20) (by decide) dX11_isWay_16 <|
  bw_zret hZ hE (by decide) dX11_isWay_20))
theorem c_X11_isWay (l : Launch) (Y : Ev) (hY : Y.1 = SC) (x1 : Int32)  (w : Wd) : CI l Y yX11_isWay cX11_isWay 2 2 [.ref (ph Y 0), .int x1] w .boolean (f_X11_isWay x1 w) := by
  refine CI_of (S := SC) (by decide) (Nat.le_of_ble_eq_true rfl) hY ?_
  intro Z hl hY2 hZ hE
  subst hY2
  exact t_X11_isWay hZ hE x1 w
-- WhichWill.counts
theorem dX11_counts_0 : decode cX11_counts 0 = .ok (.aload_n 0, 1) := by decide +kernel
theorem dX11_counts_1 : decode cX11_counts 1 = .ok (.iload_n 1, 1) := by decide +kernel
theorem dX11_counts_2 : decode cX11_counts 2 = .ok (.invokevirtual 238, 3) := by decide +kernel
theorem dX11_counts_5 : decode cX11_counts 5 = .ok (.ifCond .eq 11, 3) := by decide +kernel
theorem dX11_counts_8 : decode cX11_counts 8 = .ok (.aload_n 0, 1) := by decide +kernel
theorem dX11_counts_9 : decode cX11_counts 9 = .ok (.iload_n 2, 1) := by decide +kernel
theorem dX11_counts_10 : decode cX11_counts 10 = .ok (.invokevirtual 176, 3) := by decide +kernel
theorem dX11_counts_13 : decode cX11_counts 13 = .ok (.ifCond .ne 6, 3) := by decide +kernel
theorem dX11_counts_16 : decode cX11_counts 16 = .ok (.bipush (-2), 2) := by decide +kernel
theorem dX11_counts_18 : decode cX11_counts 18 = .ok (.ireturn, 1) := by decide +kernel
theorem dX11_counts_19 : decode cX11_counts 19 = .ok (.aload_n 0, 1) := by decide +kernel
theorem dX11_counts_20 : decode cX11_counts 20 = .ok (.getfield 28, 3) := by decide +kernel
theorem dX11_counts_23 : decode cX11_counts 23 = .ok (.invokevirtual 241, 3) := by decide +kernel
theorem dX11_counts_26 : decode cX11_counts 26 = .ok (.aload_n 0, 1) := by decide +kernel
theorem dX11_counts_27 : decode cX11_counts 27 = .ok (.getfield 28, 3) := by decide +kernel
theorem dX11_counts_30 : decode cX11_counts 30 = .ok (.iload_n 1, 1) := by decide +kernel
theorem dX11_counts_31 : decode cX11_counts 31 = .ok (.iload_n 2, 1) := by decide +kernel
theorem dX11_counts_32 : decode cX11_counts 32 = .ok (.invokevirtual 244, 3) := by decide +kernel
theorem dX11_counts_35 : decode cX11_counts 35 = .ok (.getfield 248, 3) := by decide +kernel
theorem dX11_counts_38 : decode cX11_counts 38 = .ok (.ireturn, 1) := by decide +kernel
def f_X11_counts (x1 : Int32) (x2 : Int32) (w : Wd) : Option (Int32 × Wd) :=
  cl (f_X11_isWay x1 w) fun r2 w1 =>
  if r2 = 0 then
  (some ((-2), w1))
  else
  cl (f_X11_isLand x2 w1) fun r4 w3 =>
  if r4 = 0 then
  (some ((-2), w3))
  else
  cv (f_X7_makeReady w3) fun w5 =>
  cl (f_X7_standingIn x1 x2 w5) fun r7 w6 =>
  some (w6.1 r7 1, w6)
set_option maxRecDepth 100000 in
set_option maxHeartbeats 4000000 in
theorem t_X11_counts {Z : Cz (Int32 × Wd)} (hZ : OKZ Z SC cX11_counts RX11 3 (some .int) 6) (hE : EndI Z) (x1 : Int32) (x2 : Int32)  (w : Wd) : BW Z 3 0 [(0, .ref (ph (zY Z) 0)), (1, .int x1), (2, .int x2)] [] w (f_X11_counts x1 x2 w) :=
  bw_aload_n hZ 0 rfl dX11_counts_0 <|
  bw_iload_n hZ 1 rfl dX11_counts_1 <|
  bw_callVI (As := [.int x1]) hZ ml_RX11_238 rc_11 obC_0 (by decide) (c_X11_isWay (zl Z) (zY Z) (hZ_S hZ) x1 w) rfl rfl (Nat.le_of_ble_eq_true rfl) dX11_counts_2 fun r2 w1 =>
  bw_if_eq hZ (tgt := 16) (by decide) dX11_counts_5 (fun _ =>
  bw_bipush hZ (-2) (by decide) dX11_counts_16 <|
  bw_iret hZ hE dX11_counts_18) (fun _ =>
  bw_aload_n hZ 0 rfl dX11_counts_8 <|
  bw_iload_n hZ 2 rfl dX11_counts_9 <|
  bw_callVI (As := [.int x2]) hZ ml_RX11_176 rc_11 obC_0 (by decide) (c_X11_isLand (zl Z) (zY Z) (hZ_S hZ) x2 w1) rfl rfl (Nat.le_of_ble_eq_true rfl) dX11_counts_10 fun r4 w3 =>
  bw_if_ne hZ (tgt := 19) (by decide) dX11_counts_13 (fun _ =>
  bw_aload_n hZ 0 rfl dX11_counts_19 <|
  bw_getR hZ fl_RX11_28 obC_0 rfl dX11_counts_20 <|
  bw_callVV (As := []) hZ ml_RX11_241 rc_7 obC_8 (by decide) (c_X7_makeReady (zl Z) (zY Z) (hZ_S hZ) w3) rfl rfl (Nat.le_of_ble_eq_true rfl) dX11_counts_23 fun w5 =>
  bw_aload_n hZ 0 rfl dX11_counts_26 <|
  bw_getR hZ fl_RX11_28 obC_0 rfl dX11_counts_27 <|
  bw_iload_n hZ 1 rfl dX11_counts_30 <|
  bw_iload_n hZ 2 rfl dX11_counts_31 <|
  bw_callVR (As := [.int x1, .int x2]) hZ ml_RX11_244 rc_7 obC_8 (by decide) (c_X7_standingIn (zl Z) (zY Z) (hZ_S hZ) x1 x2 w5) rfl rfl (Nat.le_of_ble_eq_true rfl) dX11_counts_32 fun r7 w6 hr7 =>
  bw_getI hZ fl_RX11_248 (by decide) (obS (isS_X7_standingIn hr7)) dX11_counts_35 <|
  bw_iret hZ hE dX11_counts_38) (fun _ =>
  bw_bipush hZ (-2) (by decide) dX11_counts_16 <|
  bw_iret hZ hE dX11_counts_18))
theorem c_X11_counts (l : Launch) (Y : Ev) (hY : Y.1 = SC) (x1 : Int32) (x2 : Int32)  (w : Wd) : CI l Y yX11_counts cX11_counts 3 6 [.ref (ph Y 0), .int x1, .int x2] w .int (f_X11_counts x1 x2 w) := by
  refine CI_of (S := SC) (by decide) (Nat.le_of_ble_eq_true rfl) hY ?_
  intro Z hl hY2 hZ hE
  subst hY2
  exact t_X11_counts hZ hE x1 x2 w
-- WhichWill.undone
theorem dX11_undone_0 : decode cX11_undone 0 = .ok (.aload_n 0, 1) := by decide +kernel
theorem dX11_undone_1 : decode cX11_undone 1 = .ok (.iload_n 1, 1) := by decide +kernel
theorem dX11_undone_2 : decode cX11_undone 2 = .ok (.invokevirtual 128, 3) := by decide +kernel
theorem dX11_undone_5 : decode cX11_undone 5 = .ok (.ifCond .eq 19, 3) := by decide +kernel
theorem dX11_undone_8 : decode cX11_undone 8 = .ok (.aload_n 0, 1) := by decide +kernel
theorem dX11_undone_9 : decode cX11_undone 9 = .ok (.iload_n 2, 1) := by decide +kernel
theorem dX11_undone_10 : decode cX11_undone 10 = .ok (.invokevirtual 238, 3) := by decide +kernel
theorem dX11_undone_13 : decode cX11_undone 13 = .ok (.ifCond .eq 11, 3) := by decide +kernel
theorem dX11_undone_16 : decode cX11_undone 16 = .ok (.aload_n 0, 1) := by decide +kernel
theorem dX11_undone_17 : decode cX11_undone 17 = .ok (.iload_n 3, 1) := by decide +kernel
theorem dX11_undone_18 : decode cX11_undone 18 = .ok (.invokevirtual 176, 3) := by decide +kernel
theorem dX11_undone_21 : decode cX11_undone 21 = .ok (.ifCond .ne 6, 3) := by decide +kernel
theorem dX11_undone_24 : decode cX11_undone 24 = .ok (.bipush (-2), 2) := by decide +kernel
theorem dX11_undone_26 : decode cX11_undone 26 = .ok (.ireturn, 1) := by decide +kernel
theorem dX11_undone_27 : decode cX11_undone 27 = .ok (.aload_n 0, 1) := by decide +kernel
theorem dX11_undone_28 : decode cX11_undone 28 = .ok (.getfield 28, 3) := by decide +kernel
theorem dX11_undone_31 : decode cX11_undone 31 = .ok (.invokevirtual 241, 3) := by decide +kernel
theorem dX11_undone_34 : decode cX11_undone 34 = .ok (.aload_n 0, 1) := by decide +kernel
theorem dX11_undone_35 : decode cX11_undone 35 = .ok (.getfield 28, 3) := by decide +kernel
theorem dX11_undone_38 : decode cX11_undone 38 = .ok (.iload_n 2, 1) := by decide +kernel
theorem dX11_undone_39 : decode cX11_undone 39 = .ok (.iload_n 3, 1) := by decide +kernel
theorem dX11_undone_40 : decode cX11_undone 40 = .ok (.invokevirtual 244, 3) := by decide +kernel
theorem dX11_undone_43 : decode cX11_undone 43 = .ok (.getfield 253, 3) := by decide +kernel
theorem dX11_undone_46 : decode cX11_undone 46 = .ok (.iload_n 1, 1) := by decide +kernel
theorem dX11_undone_47 : decode cX11_undone 47 = .ok (.iaload, 1) := by decide +kernel
theorem dX11_undone_48 : decode cX11_undone 48 = .ok (.ireturn, 1) := by decide +kernel
def f_X11_undone (x1 : Int32) (x2 : Int32) (x3 : Int32) (w : Wd) : Option (Int32 × Wd) :=
  cl (f_X11_isPaper x1 w) fun r2 w1 =>
  if r2 = 0 then
  (some ((-2), w1))
  else
  cl (f_X11_isWay x2 w1) fun r4 w3 =>
  if r4 = 0 then
  (some ((-2), w3))
  else
  cl (f_X11_isLand x3 w3) fun r6 w5 =>
  if r6 = 0 then
  (some ((-2), w5))
  else
  cv (f_X7_makeReady w5) fun w7 =>
  cl (f_X7_standingIn x2 x3 w7) fun r9 w8 =>
  if inb x1 4 = true then
  (some (w8.1 (r9 + 1) (Int32.toNatClampNeg x1), w8))
  else none
set_option maxRecDepth 100000 in
set_option maxHeartbeats 4000000 in
theorem t_X11_undone {Z : Cz (Int32 × Wd)} (hZ : OKZ Z SC cX11_undone RX11 4 (some .int) 6) (hE : EndI Z) (x1 : Int32) (x2 : Int32) (x3 : Int32)  (w : Wd) : BW Z 4 0 [(0, .ref (ph (zY Z) 0)), (1, .int x1), (2, .int x2), (3, .int x3)] [] w (f_X11_undone x1 x2 x3 w) :=
  bw_aload_n hZ 0 rfl dX11_undone_0 <|
  bw_iload_n hZ 1 rfl dX11_undone_1 <|
  bw_callVI (As := [.int x1]) hZ ml_RX11_128 rc_11 obC_0 (by decide) (c_X11_isPaper (zl Z) (zY Z) (hZ_S hZ) x1 w) rfl rfl (Nat.le_of_ble_eq_true rfl) dX11_undone_2 fun r2 w1 =>
  bw_if_eq hZ (tgt := 24) (by decide) dX11_undone_5 (fun _ =>
  bw_bipush hZ (-2) (by decide) dX11_undone_24 <|
  bw_iret hZ hE dX11_undone_26) (fun _ =>
  bw_aload_n hZ 0 rfl dX11_undone_8 <|
  bw_iload_n hZ 2 rfl dX11_undone_9 <|
  bw_callVI (As := [.int x2]) hZ ml_RX11_238 rc_11 obC_0 (by decide) (c_X11_isWay (zl Z) (zY Z) (hZ_S hZ) x2 w1) rfl rfl (Nat.le_of_ble_eq_true rfl) dX11_undone_10 fun r4 w3 =>
  bw_if_eq hZ (tgt := 24) (by decide) dX11_undone_13 (fun _ =>
  bw_bipush hZ (-2) (by decide) dX11_undone_24 <|
  bw_iret hZ hE dX11_undone_26) (fun _ =>
  bw_aload_n hZ 0 rfl dX11_undone_16 <|
  bw_iload_n hZ 3 rfl dX11_undone_17 <|
  bw_callVI (As := [.int x3]) hZ ml_RX11_176 rc_11 obC_0 (by decide) (c_X11_isLand (zl Z) (zY Z) (hZ_S hZ) x3 w3) rfl rfl (Nat.le_of_ble_eq_true rfl) dX11_undone_18 fun r6 w5 =>
  bw_if_ne hZ (tgt := 27) (by decide) dX11_undone_21 (fun _ =>
  bw_aload_n hZ 0 rfl dX11_undone_27 <|
  bw_getR hZ fl_RX11_28 obC_0 rfl dX11_undone_28 <|
  bw_callVV (As := []) hZ ml_RX11_241 rc_7 obC_8 (by decide) (c_X7_makeReady (zl Z) (zY Z) (hZ_S hZ) w5) rfl rfl (Nat.le_of_ble_eq_true rfl) dX11_undone_31 fun w7 =>
  bw_aload_n hZ 0 rfl dX11_undone_34 <|
  bw_getR hZ fl_RX11_28 obC_0 rfl dX11_undone_35 <|
  bw_iload_n hZ 2 rfl dX11_undone_38 <|
  bw_iload_n hZ 3 rfl dX11_undone_39 <|
  bw_callVR (As := [.int x2, .int x3]) hZ ml_RX11_244 rc_7 obC_8 (by decide) (c_X7_standingIn (zl Z) (zY Z) (hZ_S hZ) x2 x3 w7) rfl rfl (Nat.le_of_ble_eq_true rfl) dX11_undone_40 fun r9 w8 hr9 =>
  bw_getR hZ fl_RX11_253 (obS (isS_X7_standingIn hr9)) (rfS0 (isS_X7_standingIn hr9)) dX11_undone_43 <|
  bw_iload_n hZ 1 rfl dX11_undone_46 <|
  bw_iald hZ (arS1 (isS_X7_standingIn hr9) _) dX11_undone_47 <|
  bw_iret hZ hE dX11_undone_48) (fun _ =>
  bw_bipush hZ (-2) (by decide) dX11_undone_24 <|
  bw_iret hZ hE dX11_undone_26)))
theorem c_X11_undone (l : Launch) (Y : Ev) (hY : Y.1 = SC) (x1 : Int32) (x2 : Int32) (x3 : Int32)  (w : Wd) : CI l Y yX11_undone cX11_undone 4 6 [.ref (ph Y 0), .int x1, .int x2, .int x3] w .int (f_X11_undone x1 x2 x3 w) := by
  refine CI_of (S := SC) (by decide) (Nat.le_of_ble_eq_true rfl) hY ?_
  intro Z hl hY2 hZ hE
  subst hY2
  exact t_X11_undone hZ hE x1 x2 x3 w
-- WhichWill.ways
theorem dX11_ways_0 : decode cX11_ways 0 = .ok (.aload_n 0, 1) := by decide +kernel
theorem dX11_ways_1 : decode cX11_ways 1 = .ok (.getfield 19, 3) := by decide +kernel
theorem dX11_ways_4 : decode cX11_ways 4 = .ok (.invokevirtual 256, 3) := by decide +kernel
theorem dX11_ways_7 : decode cX11_ways 7 = .ok (.ireturn, 1) := by decide +kernel
def f_X11_ways (w : Wd) : Option (Int32 × Wd) :=
  cl (f_X2_waysFound w) fun r2 w1 =>
  some (r2, w1)
set_option maxRecDepth 100000 in
set_option maxHeartbeats 4000000 in
theorem t_X11_ways {Z : Cz (Int32 × Wd)} (hZ : OKZ Z SC cX11_ways RX11 1 (some .int) 2) (hE : EndI Z)   (w : Wd) : BW Z 1 0 [(0, .ref (ph (zY Z) 0))] [] w (f_X11_ways w) :=
  bw_aload_n hZ 0 rfl dX11_ways_0 <|
  bw_getR hZ fl_RX11_19 obC_0 rfl dX11_ways_1 <|
  bw_callVI (As := []) hZ ml_RX11_256 rc_2 obC_3 (by decide) (c_X2_waysFound (zl Z) (zY Z) (hZ_S hZ) w) rfl rfl (Nat.le_of_ble_eq_true rfl) dX11_ways_4 fun r2 w1 =>
  bw_iret hZ hE dX11_ways_7
theorem c_X11_ways (l : Launch) (Y : Ev) (hY : Y.1 = SC)   (w : Wd) : CI l Y yX11_ways cX11_ways 1 2 [.ref (ph Y 0)] w .int (f_X11_ways w) := by
  refine CI_of (S := SC) (by decide) (Nat.le_of_ble_eq_true rfl) hY ?_
  intro Z hl hY2 hZ hE
  subst hY2
  exact t_X11_ways hZ hE w
-- WhichWill.goes
theorem dX11_goes_0 : decode cX11_goes 0 = .ok (.aload_n 0, 1) := by decide +kernel
theorem dX11_goes_1 : decode cX11_goes 1 = .ok (.iload_n 1, 1) := by decide +kernel
theorem dX11_goes_2 : decode cX11_goes 2 = .ok (.invokevirtual 227, 3) := by decide +kernel
theorem dX11_goes_5 : decode cX11_goes 5 = .ok (.ifCond .eq 11, 3) := by decide +kernel
theorem dX11_goes_8 : decode cX11_goes 8 = .ok (.aload_n 0, 1) := by decide +kernel
theorem dX11_goes_9 : decode cX11_goes 9 = .ok (.iload_n 2, 1) := by decide +kernel
theorem dX11_goes_10 : decode cX11_goes 10 = .ok (.invokevirtual 238, 3) := by decide +kernel
theorem dX11_goes_13 : decode cX11_goes 13 = .ok (.ifCond .ne 6, 3) := by decide +kernel
theorem dX11_goes_16 : decode cX11_goes 16 = .ok (.bipush (-2), 2) := by decide +kernel
theorem dX11_goes_18 : decode cX11_goes 18 = .ok (.ireturn, 1) := by decide +kernel
theorem dX11_goes_19 : decode cX11_goes 19 = .ok (.aload_n 0, 1) := by decide +kernel
theorem dX11_goes_20 : decode cX11_goes 20 = .ok (.getfield 28, 3) := by decide +kernel
theorem dX11_goes_23 : decode cX11_goes 23 = .ok (.invokevirtual 241, 3) := by decide +kernel
theorem dX11_goes_26 : decode cX11_goes 26 = .ok (.aload_n 0, 1) := by decide +kernel
theorem dX11_goes_27 : decode cX11_goes 27 = .ok (.getfield 28, 3) := by decide +kernel
theorem dX11_goes_30 : decode cX11_goes 30 = .ok (.iload_n 1, 1) := by decide +kernel
theorem dX11_goes_31 : decode cX11_goes 31 = .ok (.iload_n 2, 1) := by decide +kernel
theorem dX11_goes_32 : decode cX11_goes 32 = .ok (.invokevirtual 259, 3) := by decide +kernel
theorem dX11_goes_35 : decode cX11_goes 35 = .ok (.aload_n 0, 1) := by decide +kernel
theorem dX11_goes_36 : decode cX11_goes 36 = .ok (.getfield 28, 3) := by decide +kernel
theorem dX11_goes_39 : decode cX11_goes 39 = .ok (.iload_n 1, 1) := by decide +kernel
theorem dX11_goes_40 : decode cX11_goes 40 = .ok (.invokevirtual 263, 3) := by decide +kernel
theorem dX11_goes_43 : decode cX11_goes 43 = .ok (.pop, 1) := by decide +kernel
theorem dX11_goes_44 : decode cX11_goes 44 = .ok (.aload_n 0, 1) := by decide +kernel
theorem dX11_goes_45 : decode cX11_goes 45 = .ok (.getfield 28, 3) := by decide +kernel
theorem dX11_goes_48 : decode cX11_goes 48 = .ok (.invokevirtual 266, 3) := by decide +kernel
theorem dX11_goes_51 : decode cX11_goes 51 = .ok (.ireturn, 1) := by decide +kernel
def f_X11_goes (x1 : Int32) (x2 : Int32) (w : Wd) : Option (Int32 × Wd) :=
  cl (f_X11_isThing x1 w) fun r2 w1 =>
  if r2 = 0 then
  (some ((-2), w1))
  else
  cl (f_X11_isWay x2 w1) fun r4 w3 =>
  if r4 = 0 then
  (some ((-2), w3))
  else
  cv (f_X7_makeReady w3) fun w5 =>
  cv (f_X7_takeWayFor x1 x2 w5) fun w6 =>
  cl (f_X7_partThing x1 w6) fun r8 w7 =>
  cl (f_X7_gettersOfParts w7) fun r10 w9 =>
  some (r10, w9)
set_option maxRecDepth 100000 in
set_option maxHeartbeats 4000000 in
theorem t_X11_goes {Z : Cz (Int32 × Wd)} (hZ : OKZ Z SC cX11_goes RX11 3 (some .int) 6) (hE : EndI Z) (x1 : Int32) (x2 : Int32)  (w : Wd) : BW Z 3 0 [(0, .ref (ph (zY Z) 0)), (1, .int x1), (2, .int x2)] [] w (f_X11_goes x1 x2 w) :=
  bw_aload_n hZ 0 rfl dX11_goes_0 <|
  bw_iload_n hZ 1 rfl dX11_goes_1 <|
  bw_callVI (As := [.int x1]) hZ ml_RX11_227 rc_11 obC_0 (by decide) (c_X11_isThing (zl Z) (zY Z) (hZ_S hZ) x1 w) rfl rfl (Nat.le_of_ble_eq_true rfl) dX11_goes_2 fun r2 w1 =>
  bw_if_eq hZ (tgt := 16) (by decide) dX11_goes_5 (fun _ =>
  bw_bipush hZ (-2) (by decide) dX11_goes_16 <|
  bw_iret hZ hE dX11_goes_18) (fun _ =>
  bw_aload_n hZ 0 rfl dX11_goes_8 <|
  bw_iload_n hZ 2 rfl dX11_goes_9 <|
  bw_callVI (As := [.int x2]) hZ ml_RX11_238 rc_11 obC_0 (by decide) (c_X11_isWay (zl Z) (zY Z) (hZ_S hZ) x2 w1) rfl rfl (Nat.le_of_ble_eq_true rfl) dX11_goes_10 fun r4 w3 =>
  bw_if_ne hZ (tgt := 19) (by decide) dX11_goes_13 (fun _ =>
  bw_aload_n hZ 0 rfl dX11_goes_19 <|
  bw_getR hZ fl_RX11_28 obC_0 rfl dX11_goes_20 <|
  bw_callVV (As := []) hZ ml_RX11_241 rc_7 obC_8 (by decide) (c_X7_makeReady (zl Z) (zY Z) (hZ_S hZ) w3) rfl rfl (Nat.le_of_ble_eq_true rfl) dX11_goes_23 fun w5 =>
  bw_aload_n hZ 0 rfl dX11_goes_26 <|
  bw_getR hZ fl_RX11_28 obC_0 rfl dX11_goes_27 <|
  bw_iload_n hZ 1 rfl dX11_goes_30 <|
  bw_iload_n hZ 2 rfl dX11_goes_31 <|
  bw_callVV (As := [.int x1, .int x2]) hZ ml_RX11_259 rc_7 obC_8 (by decide) (c_X7_takeWayFor (zl Z) (zY Z) (hZ_S hZ) x1 x2 w5) rfl rfl (Nat.le_of_ble_eq_true rfl) dX11_goes_32 fun w6 =>
  bw_aload_n hZ 0 rfl dX11_goes_35 <|
  bw_getR hZ fl_RX11_28 obC_0 rfl dX11_goes_36 <|
  bw_iload_n hZ 1 rfl dX11_goes_39 <|
  bw_callVI (As := [.int x1]) hZ ml_RX11_263 rc_7 obC_8 (by decide) (c_X7_partThing (zl Z) (zY Z) (hZ_S hZ) x1 w6) rfl rfl (Nat.le_of_ble_eq_true rfl) dX11_goes_40 fun r8 w7 =>
  bw_pop hZ rfl dX11_goes_43 <|
  bw_aload_n hZ 0 rfl dX11_goes_44 <|
  bw_getR hZ fl_RX11_28 obC_0 rfl dX11_goes_45 <|
  bw_callVI (As := []) hZ ml_RX11_266 rc_7 obC_8 (by decide) (c_X7_gettersOfParts (zl Z) (zY Z) (hZ_S hZ) w7) rfl rfl (Nat.le_of_ble_eq_true rfl) dX11_goes_48 fun r10 w9 =>
  bw_iret hZ hE dX11_goes_51) (fun _ =>
  bw_bipush hZ (-2) (by decide) dX11_goes_16 <|
  bw_iret hZ hE dX11_goes_18))
theorem c_X11_goes (l : Launch) (Y : Ev) (hY : Y.1 = SC) (x1 : Int32) (x2 : Int32)  (w : Wd) : CI l Y yX11_goes cX11_goes 3 6 [.ref (ph Y 0), .int x1, .int x2] w .int (f_X11_goes x1 x2 w) := by
  refine CI_of (S := SC) (by decide) (Nat.le_of_ble_eq_true rfl) hY ?_
  intro Z hl hY2 hZ hE
  subst hY2
  exact t_X11_goes hZ hE x1 x2 w
-- WhichWill.how
theorem dX11_how_0 : decode cX11_how 0 = .ok (.aload_n 0, 1) := by decide +kernel
theorem dX11_how_1 : decode cX11_how 1 = .ok (.iload_n 1, 1) := by decide +kernel
theorem dX11_how_2 : decode cX11_how 2 = .ok (.invokevirtual 227, 3) := by decide +kernel
theorem dX11_how_5 : decode cX11_how 5 = .ok (.ifCond .eq 11, 3) := by decide +kernel
theorem dX11_how_8 : decode cX11_how 8 = .ok (.aload_n 0, 1) := by decide +kernel
theorem dX11_how_9 : decode cX11_how 9 = .ok (.iload_n 2, 1) := by decide +kernel
theorem dX11_how_10 : decode cX11_how 10 = .ok (.invokevirtual 238, 3) := by decide +kernel
theorem dX11_how_13 : decode cX11_how 13 = .ok (.ifCond .ne 6, 3) := by decide +kernel
theorem dX11_how_16 : decode cX11_how 16 = .ok (.bipush (-2), 2) := by decide +kernel
theorem dX11_how_18 : decode cX11_how 18 = .ok (.ireturn, 1) := by decide +kernel
theorem dX11_how_19 : decode cX11_how 19 = .ok (.aload_n 0, 1) := by decide +kernel
theorem dX11_how_20 : decode cX11_how 20 = .ok (.getfield 28, 3) := by decide +kernel
theorem dX11_how_23 : decode cX11_how 23 = .ok (.invokevirtual 241, 3) := by decide +kernel
theorem dX11_how_26 : decode cX11_how 26 = .ok (.aload_n 0, 1) := by decide +kernel
theorem dX11_how_27 : decode cX11_how 27 = .ok (.getfield 28, 3) := by decide +kernel
theorem dX11_how_30 : decode cX11_how 30 = .ok (.iload_n 1, 1) := by decide +kernel
theorem dX11_how_31 : decode cX11_how 31 = .ok (.iload_n 2, 1) := by decide +kernel
theorem dX11_how_32 : decode cX11_how 32 = .ok (.invokevirtual 259, 3) := by decide +kernel
theorem dX11_how_35 : decode cX11_how 35 = .ok (.aload_n 0, 1) := by decide +kernel
theorem dX11_how_36 : decode cX11_how 36 = .ok (.getfield 28, 3) := by decide +kernel
theorem dX11_how_39 : decode cX11_how 39 = .ok (.iload_n 1, 1) := by decide +kernel
theorem dX11_how_40 : decode cX11_how 40 = .ok (.invokevirtual 263, 3) := by decide +kernel
theorem dX11_how_43 : decode cX11_how 43 = .ok (.ireturn, 1) := by decide +kernel
def f_X11_how (x1 : Int32) (x2 : Int32) (w : Wd) : Option (Int32 × Wd) :=
  cl (f_X11_isThing x1 w) fun r2 w1 =>
  if r2 = 0 then
  (some ((-2), w1))
  else
  cl (f_X11_isWay x2 w1) fun r4 w3 =>
  if r4 = 0 then
  (some ((-2), w3))
  else
  cv (f_X7_makeReady w3) fun w5 =>
  cv (f_X7_takeWayFor x1 x2 w5) fun w6 =>
  cl (f_X7_partThing x1 w6) fun r8 w7 =>
  some (r8, w7)
set_option maxRecDepth 100000 in
set_option maxHeartbeats 4000000 in
theorem t_X11_how {Z : Cz (Int32 × Wd)} (hZ : OKZ Z SC cX11_how RX11 3 (some .int) 6) (hE : EndI Z) (x1 : Int32) (x2 : Int32)  (w : Wd) : BW Z 3 0 [(0, .ref (ph (zY Z) 0)), (1, .int x1), (2, .int x2)] [] w (f_X11_how x1 x2 w) :=
  bw_aload_n hZ 0 rfl dX11_how_0 <|
  bw_iload_n hZ 1 rfl dX11_how_1 <|
  bw_callVI (As := [.int x1]) hZ ml_RX11_227 rc_11 obC_0 (by decide) (c_X11_isThing (zl Z) (zY Z) (hZ_S hZ) x1 w) rfl rfl (Nat.le_of_ble_eq_true rfl) dX11_how_2 fun r2 w1 =>
  bw_if_eq hZ (tgt := 16) (by decide) dX11_how_5 (fun _ =>
  bw_bipush hZ (-2) (by decide) dX11_how_16 <|
  bw_iret hZ hE dX11_how_18) (fun _ =>
  bw_aload_n hZ 0 rfl dX11_how_8 <|
  bw_iload_n hZ 2 rfl dX11_how_9 <|
  bw_callVI (As := [.int x2]) hZ ml_RX11_238 rc_11 obC_0 (by decide) (c_X11_isWay (zl Z) (zY Z) (hZ_S hZ) x2 w1) rfl rfl (Nat.le_of_ble_eq_true rfl) dX11_how_10 fun r4 w3 =>
  bw_if_ne hZ (tgt := 19) (by decide) dX11_how_13 (fun _ =>
  bw_aload_n hZ 0 rfl dX11_how_19 <|
  bw_getR hZ fl_RX11_28 obC_0 rfl dX11_how_20 <|
  bw_callVV (As := []) hZ ml_RX11_241 rc_7 obC_8 (by decide) (c_X7_makeReady (zl Z) (zY Z) (hZ_S hZ) w3) rfl rfl (Nat.le_of_ble_eq_true rfl) dX11_how_23 fun w5 =>
  bw_aload_n hZ 0 rfl dX11_how_26 <|
  bw_getR hZ fl_RX11_28 obC_0 rfl dX11_how_27 <|
  bw_iload_n hZ 1 rfl dX11_how_30 <|
  bw_iload_n hZ 2 rfl dX11_how_31 <|
  bw_callVV (As := [.int x1, .int x2]) hZ ml_RX11_259 rc_7 obC_8 (by decide) (c_X7_takeWayFor (zl Z) (zY Z) (hZ_S hZ) x1 x2 w5) rfl rfl (Nat.le_of_ble_eq_true rfl) dX11_how_32 fun w6 =>
  bw_aload_n hZ 0 rfl dX11_how_35 <|
  bw_getR hZ fl_RX11_28 obC_0 rfl dX11_how_36 <|
  bw_iload_n hZ 1 rfl dX11_how_39 <|
  bw_callVI (As := [.int x1]) hZ ml_RX11_263 rc_7 obC_8 (by decide) (c_X7_partThing (zl Z) (zY Z) (hZ_S hZ) x1 w6) rfl rfl (Nat.le_of_ble_eq_true rfl) dX11_how_40 fun r8 w7 =>
  bw_iret hZ hE dX11_how_43) (fun _ =>
  bw_bipush hZ (-2) (by decide) dX11_how_16 <|
  bw_iret hZ hE dX11_how_18))
theorem c_X11_how (l : Launch) (Y : Ev) (hY : Y.1 = SC) (x1 : Int32) (x2 : Int32)  (w : Wd) : CI l Y yX11_how cX11_how 3 6 [.ref (ph Y 0), .int x1, .int x2] w .int (f_X11_how x1 x2 w) := by
  refine CI_of (S := SC) (by decide) (Nat.le_of_ble_eq_true rfl) hY ?_
  intro Z hl hY2 hZ hE
  subst hY2
  exact t_X11_how hZ hE x1 x2 w
-- WhichWill.isPerson
theorem dX11_isPerson_0 : decode cX11_isPerson 0 = .ok (.iload_n 1, 1) := by decide +kernel
theorem dX11_isPerson_1 : decode cX11_isPerson 1 = .ok (.ifCond .lt 24, 3) := by decide +kernel
theorem dX11_isPerson_4 : decode cX11_isPerson 4 = .ok (.iload_n 1, 1) := by decide +kernel
theorem dX11_isPerson_5 : decode cX11_isPerson 5 = .ok (.aload_n 0, 1) := by decide +kernel
theorem dX11_isPerson_6 : decode cX11_isPerson 6 = .ok (.getfield 19, 3) := by decide +kernel
theorem dX11_isPerson_9 : decode cX11_isPerson 9 = .ok (.getfield 98, 3) := by decide +kernel
theorem dX11_isPerson_12 : decode cX11_isPerson 12 = .ok (.getfield 148, 3) := by decide +kernel
theorem dX11_isPerson_15 : decode cX11_isPerson 15 = .ok (.getfield 143, 3) := by decide +kernel
theorem dX11_isPerson_18 : decode cX11_isPerson 18 = .ok (.if_icmp .ge 7, 3) := by decide +kernel
theorem dX11_isPerson_21 : decode cX11_isPerson 21 = .ok (.iconst 1, 1) := by decide +kernel
theorem dX11_isPerson_22 : decode cX11_isPerson 22 = .ok (.goto 4, 3) := by decide +kernel
theorem dX11_isPerson_25 : decode cX11_isPerson 25 = .ok (.iconst 0, 1) := by decide +kernel
theorem dX11_isPerson_26 : decode cX11_isPerson 26 = .ok (.ireturn, 1) := by decide +kernel
def f_X11_isPerson (x1 : Int32) (w : Wd) : Option (Int32 × Wd) :=
  if x1 < 0 then
  (some (0, w))
  else
  if (w.1 34 1) ≤ x1 then
  (some (0, w))
  else
  some (1, w)
set_option maxRecDepth 100000 in
set_option maxHeartbeats 4000000 in
theorem t_X11_isPerson {Z : Cz (Int32 × Wd)} (hZ : OKZ Z SC cX11_isPerson RX11 2 (some .boolean) 1) (hE : EndI Z) (x1 : Int32)  (w : Wd) : BW Z 2 0 [(0, .ref (ph (zY Z) 0)), (1, .int x1)] [] w (f_X11_isPerson x1 w) :=
  bw_iload_n hZ 1 rfl dX11_isPerson_0 <|
  bw_if_lt hZ (tgt := 25) (by decide) dX11_isPerson_1 (fun _ =>
  bw_iconst hZ 0 (by decide) dX11_isPerson_25 <|
  bw_zret hZ hE (by decide) dX11_isPerson_26) (fun _ =>
  bw_iload_n hZ 1 rfl dX11_isPerson_4 <|
  bw_aload_n hZ 0 rfl dX11_isPerson_5 <|
  bw_getR hZ fl_RX11_19 obC_0 rfl dX11_isPerson_6 <|
  bw_getR hZ fl_RX11_98 obC_3 rfl dX11_isPerson_9 <|
  bw_getR hZ fl_RX11_148 obC_31 rfl dX11_isPerson_12 <|
  bw_getI hZ fl_RX11_143 (by decide) obC_34 dX11_isPerson_15 <|
  bw_icmp_ge hZ (tgt := 25) (by decide) dX11_isPerson_18 (fun _ =>
  bw_iconst hZ 0 (by decide) dX11_isPerson_25 <|
  bw_zret hZ hE (by decide) dX11_isPerson_26) (fun _ =>
  bw_iconst hZ 1 (by decide) dX11_isPerson_21 <|
  bw_goto hZ (tgt := 26) (by decide) dX11_isPerson_22 <|
  bw_zret hZ hE (by decide) dX11_isPerson_26))
theorem c_X11_isPerson (l : Launch) (Y : Ev) (hY : Y.1 = SC) (x1 : Int32)  (w : Wd) : CI l Y yX11_isPerson cX11_isPerson 2 1 [.ref (ph Y 0), .int x1] w .boolean (f_X11_isPerson x1 w) := by
  refine CI_of (S := SC) (by decide) (Nat.le_of_ble_eq_true rfl) hY ?_
  intro Z hl hY2 hZ hE
  subst hY2
  exact t_X11_isPerson hZ hE x1 w
-- WhichWill.paid
theorem dX11_paid_0 : decode cX11_paid 0 = .ok (.aload_n 0, 1) := by decide +kernel
theorem dX11_paid_1 : decode cX11_paid 1 = .ok (.iload_n 1, 1) := by decide +kernel
theorem dX11_paid_2 : decode cX11_paid 2 = .ok (.invokevirtual 269, 3) := by decide +kernel
theorem dX11_paid_5 : decode cX11_paid 5 = .ok (.ifCond .eq 11, 3) := by decide +kernel
theorem dX11_paid_8 : decode cX11_paid 8 = .ok (.aload_n 0, 1) := by decide +kernel
theorem dX11_paid_9 : decode cX11_paid 9 = .ok (.iload_n 2, 1) := by decide +kernel
theorem dX11_paid_10 : decode cX11_paid 10 = .ok (.invokevirtual 238, 3) := by decide +kernel
theorem dX11_paid_13 : decode cX11_paid 13 = .ok (.ifCond .ne 6, 3) := by decide +kernel
theorem dX11_paid_16 : decode cX11_paid 16 = .ok (.bipush (-2), 2) := by decide +kernel
theorem dX11_paid_18 : decode cX11_paid 18 = .ok (.ireturn, 1) := by decide +kernel
theorem dX11_paid_19 : decode cX11_paid 19 = .ok (.aload_n 0, 1) := by decide +kernel
theorem dX11_paid_20 : decode cX11_paid 20 = .ok (.getfield 28, 3) := by decide +kernel
theorem dX11_paid_23 : decode cX11_paid 23 = .ok (.invokevirtual 241, 3) := by decide +kernel
theorem dX11_paid_26 : decode cX11_paid 26 = .ok (.aload_n 0, 1) := by decide +kernel
theorem dX11_paid_27 : decode cX11_paid 27 = .ok (.getfield 28, 3) := by decide +kernel
theorem dX11_paid_30 : decode cX11_paid 30 = .ok (.iload_n 2, 1) := by decide +kernel
theorem dX11_paid_31 : decode cX11_paid 31 = .ok (.invokevirtual 272, 3) := by decide +kernel
theorem dX11_paid_34 : decode cX11_paid 34 = .ok (.aload_n 0, 1) := by decide +kernel
theorem dX11_paid_35 : decode cX11_paid 35 = .ok (.getfield 28, 3) := by decide +kernel
theorem dX11_paid_38 : decode cX11_paid 38 = .ok (.invokevirtual 275, 3) := by decide +kernel
theorem dX11_paid_41 : decode cX11_paid 41 = .ok (.aload_n 0, 1) := by decide +kernel
theorem dX11_paid_42 : decode cX11_paid 42 = .ok (.getfield 28, 3) := by decide +kernel
theorem dX11_paid_45 : decode cX11_paid 45 = .ok (.getfield 278, 3) := by decide +kernel
theorem dX11_paid_48 : decode cX11_paid 48 = .ok (.iload_n 1, 1) := by decide +kernel
theorem dX11_paid_49 : decode cX11_paid 49 = .ok (.iaload, 1) := by decide +kernel
theorem dX11_paid_50 : decode cX11_paid 50 = .ok (.ireturn, 1) := by decide +kernel
def f_X11_paid (x1 : Int32) (x2 : Int32) (w : Wd) : Option (Int32 × Wd) :=
  cl (f_X11_isPerson x1 w) fun r2 w1 =>
  if r2 = 0 then
  (some ((-2), w1))
  else
  cl (f_X11_isWay x2 w1) fun r4 w3 =>
  if r4 = 0 then
  (some ((-2), w3))
  else
  cv (f_X7_makeReady w3) fun w5 =>
  cv (f_X7_takeWay x2 w5) fun w6 =>
  cv (f_X7_partMoney w6) fun w7 =>
  if inb x1 8 = true then
  (some (w7.1 10 (Int32.toNatClampNeg x1), w7))
  else none
set_option maxRecDepth 100000 in
set_option maxHeartbeats 4000000 in
theorem t_X11_paid {Z : Cz (Int32 × Wd)} (hZ : OKZ Z SC cX11_paid RX11 3 (some .int) 6) (hE : EndI Z) (x1 : Int32) (x2 : Int32)  (w : Wd) : BW Z 3 0 [(0, .ref (ph (zY Z) 0)), (1, .int x1), (2, .int x2)] [] w (f_X11_paid x1 x2 w) :=
  bw_aload_n hZ 0 rfl dX11_paid_0 <|
  bw_iload_n hZ 1 rfl dX11_paid_1 <|
  bw_callVI (As := [.int x1]) hZ ml_RX11_269 rc_11 obC_0 (by decide) (c_X11_isPerson (zl Z) (zY Z) (hZ_S hZ) x1 w) rfl rfl (Nat.le_of_ble_eq_true rfl) dX11_paid_2 fun r2 w1 =>
  bw_if_eq hZ (tgt := 16) (by decide) dX11_paid_5 (fun _ =>
  bw_bipush hZ (-2) (by decide) dX11_paid_16 <|
  bw_iret hZ hE dX11_paid_18) (fun _ =>
  bw_aload_n hZ 0 rfl dX11_paid_8 <|
  bw_iload_n hZ 2 rfl dX11_paid_9 <|
  bw_callVI (As := [.int x2]) hZ ml_RX11_238 rc_11 obC_0 (by decide) (c_X11_isWay (zl Z) (zY Z) (hZ_S hZ) x2 w1) rfl rfl (Nat.le_of_ble_eq_true rfl) dX11_paid_10 fun r4 w3 =>
  bw_if_ne hZ (tgt := 19) (by decide) dX11_paid_13 (fun _ =>
  bw_aload_n hZ 0 rfl dX11_paid_19 <|
  bw_getR hZ fl_RX11_28 obC_0 rfl dX11_paid_20 <|
  bw_callVV (As := []) hZ ml_RX11_241 rc_7 obC_8 (by decide) (c_X7_makeReady (zl Z) (zY Z) (hZ_S hZ) w3) rfl rfl (Nat.le_of_ble_eq_true rfl) dX11_paid_23 fun w5 =>
  bw_aload_n hZ 0 rfl dX11_paid_26 <|
  bw_getR hZ fl_RX11_28 obC_0 rfl dX11_paid_27 <|
  bw_iload_n hZ 2 rfl dX11_paid_30 <|
  bw_callVV (As := [.int x2]) hZ ml_RX11_272 rc_7 obC_8 (by decide) (c_X7_takeWay (zl Z) (zY Z) (hZ_S hZ) x2 w5) rfl rfl (Nat.le_of_ble_eq_true rfl) dX11_paid_31 fun w6 =>
  bw_aload_n hZ 0 rfl dX11_paid_34 <|
  bw_getR hZ fl_RX11_28 obC_0 rfl dX11_paid_35 <|
  bw_callVV (As := []) hZ ml_RX11_275 rc_7 obC_8 (by decide) (c_X7_partMoney (zl Z) (zY Z) (hZ_S hZ) w6) rfl rfl (Nat.le_of_ble_eq_true rfl) dX11_paid_38 fun w7 =>
  bw_aload_n hZ 0 rfl dX11_paid_41 <|
  bw_getR hZ fl_RX11_28 obC_0 rfl dX11_paid_42 <|
  bw_getR hZ fl_RX11_278 obC_8 rfl dX11_paid_45 <|
  bw_iload_n hZ 1 rfl dX11_paid_48 <|
  bw_iald hZ (arC_10 _) dX11_paid_49 <|
  bw_iret hZ hE dX11_paid_50) (fun _ =>
  bw_bipush hZ (-2) (by decide) dX11_paid_16 <|
  bw_iret hZ hE dX11_paid_18))
theorem c_X11_paid (l : Launch) (Y : Ev) (hY : Y.1 = SC) (x1 : Int32) (x2 : Int32)  (w : Wd) : CI l Y yX11_paid cX11_paid 3 6 [.ref (ph Y 0), .int x1, .int x2] w .int (f_X11_paid x1 x2 w) := by
  refine CI_of (S := SC) (by decide) (Nat.le_of_ble_eq_true rfl) hY ?_
  intro Z hl hY2 hZ hE
  subst hY2
  exact t_X11_paid hZ hE x1 x2 w
-- WhichWill.sum
theorem dX11_sum_0 : decode cX11_sum 0 = .ok (.aload_n 0, 1) := by decide +kernel
theorem dX11_sum_1 : decode cX11_sum 1 = .ok (.iload_n 1, 1) := by decide +kernel
theorem dX11_sum_2 : decode cX11_sum 2 = .ok (.invokevirtual 269, 3) := by decide +kernel
theorem dX11_sum_5 : decode cX11_sum 5 = .ok (.ifCond .eq 11, 3) := by decide +kernel
theorem dX11_sum_8 : decode cX11_sum 8 = .ok (.aload_n 0, 1) := by decide +kernel
theorem dX11_sum_9 : decode cX11_sum 9 = .ok (.iload_n 2, 1) := by decide +kernel
theorem dX11_sum_10 : decode cX11_sum 10 = .ok (.invokevirtual 238, 3) := by decide +kernel
theorem dX11_sum_13 : decode cX11_sum 13 = .ok (.ifCond .ne 6, 3) := by decide +kernel
theorem dX11_sum_16 : decode cX11_sum 16 = .ok (.bipush (-2), 2) := by decide +kernel
theorem dX11_sum_18 : decode cX11_sum 18 = .ok (.ireturn, 1) := by decide +kernel
theorem dX11_sum_19 : decode cX11_sum 19 = .ok (.aload_n 0, 1) := by decide +kernel
theorem dX11_sum_20 : decode cX11_sum 20 = .ok (.getfield 28, 3) := by decide +kernel
theorem dX11_sum_23 : decode cX11_sum 23 = .ok (.invokevirtual 241, 3) := by decide +kernel
theorem dX11_sum_26 : decode cX11_sum 26 = .ok (.aload_n 0, 1) := by decide +kernel
theorem dX11_sum_27 : decode cX11_sum 27 = .ok (.getfield 28, 3) := by decide +kernel
theorem dX11_sum_30 : decode cX11_sum 30 = .ok (.iload_n 2, 1) := by decide +kernel
theorem dX11_sum_31 : decode cX11_sum 31 = .ok (.invokevirtual 272, 3) := by decide +kernel
theorem dX11_sum_34 : decode cX11_sum 34 = .ok (.aload_n 0, 1) := by decide +kernel
theorem dX11_sum_35 : decode cX11_sum 35 = .ok (.getfield 28, 3) := by decide +kernel
theorem dX11_sum_38 : decode cX11_sum 38 = .ok (.invokevirtual 281, 3) := by decide +kernel
theorem dX11_sum_41 : decode cX11_sum 41 = .ok (.aload_n 0, 1) := by decide +kernel
theorem dX11_sum_42 : decode cX11_sum 42 = .ok (.getfield 28, 3) := by decide +kernel
theorem dX11_sum_45 : decode cX11_sum 45 = .ok (.getfield 284, 3) := by decide +kernel
theorem dX11_sum_48 : decode cX11_sum 48 = .ok (.iload_n 1, 1) := by decide +kernel
theorem dX11_sum_49 : decode cX11_sum 49 = .ok (.iaload, 1) := by decide +kernel
theorem dX11_sum_50 : decode cX11_sum 50 = .ok (.ireturn, 1) := by decide +kernel
def f_X11_sum (x1 : Int32) (x2 : Int32) (w : Wd) : Option (Int32 × Wd) :=
  cl (f_X11_isPerson x1 w) fun r2 w1 =>
  if r2 = 0 then
  (some ((-2), w1))
  else
  cl (f_X11_isWay x2 w1) fun r4 w3 =>
  if r4 = 0 then
  (some ((-2), w3))
  else
  cv (f_X7_makeReady w3) fun w5 =>
  cv (f_X7_takeWay x2 w5) fun w6 =>
  cv (f_X7_addUp w6) fun w7 =>
  if inb x1 8 = true then
  (some (w7.1 11 (Int32.toNatClampNeg x1), w7))
  else none
set_option maxRecDepth 100000 in
set_option maxHeartbeats 4000000 in
theorem t_X11_sum {Z : Cz (Int32 × Wd)} (hZ : OKZ Z SC cX11_sum RX11 3 (some .int) 7) (hE : EndI Z) (x1 : Int32) (x2 : Int32)  (w : Wd) : BW Z 3 0 [(0, .ref (ph (zY Z) 0)), (1, .int x1), (2, .int x2)] [] w (f_X11_sum x1 x2 w) :=
  bw_aload_n hZ 0 rfl dX11_sum_0 <|
  bw_iload_n hZ 1 rfl dX11_sum_1 <|
  bw_callVI (As := [.int x1]) hZ ml_RX11_269 rc_11 obC_0 (by decide) (c_X11_isPerson (zl Z) (zY Z) (hZ_S hZ) x1 w) rfl rfl (Nat.le_of_ble_eq_true rfl) dX11_sum_2 fun r2 w1 =>
  bw_if_eq hZ (tgt := 16) (by decide) dX11_sum_5 (fun _ =>
  bw_bipush hZ (-2) (by decide) dX11_sum_16 <|
  bw_iret hZ hE dX11_sum_18) (fun _ =>
  bw_aload_n hZ 0 rfl dX11_sum_8 <|
  bw_iload_n hZ 2 rfl dX11_sum_9 <|
  bw_callVI (As := [.int x2]) hZ ml_RX11_238 rc_11 obC_0 (by decide) (c_X11_isWay (zl Z) (zY Z) (hZ_S hZ) x2 w1) rfl rfl (Nat.le_of_ble_eq_true rfl) dX11_sum_10 fun r4 w3 =>
  bw_if_ne hZ (tgt := 19) (by decide) dX11_sum_13 (fun _ =>
  bw_aload_n hZ 0 rfl dX11_sum_19 <|
  bw_getR hZ fl_RX11_28 obC_0 rfl dX11_sum_20 <|
  bw_callVV (As := []) hZ ml_RX11_241 rc_7 obC_8 (by decide) (c_X7_makeReady (zl Z) (zY Z) (hZ_S hZ) w3) rfl rfl (Nat.le_of_ble_eq_true rfl) dX11_sum_23 fun w5 =>
  bw_aload_n hZ 0 rfl dX11_sum_26 <|
  bw_getR hZ fl_RX11_28 obC_0 rfl dX11_sum_27 <|
  bw_iload_n hZ 2 rfl dX11_sum_30 <|
  bw_callVV (As := [.int x2]) hZ ml_RX11_272 rc_7 obC_8 (by decide) (c_X7_takeWay (zl Z) (zY Z) (hZ_S hZ) x2 w5) rfl rfl (Nat.le_of_ble_eq_true rfl) dX11_sum_31 fun w6 =>
  bw_aload_n hZ 0 rfl dX11_sum_34 <|
  bw_getR hZ fl_RX11_28 obC_0 rfl dX11_sum_35 <|
  bw_callVV (As := []) hZ ml_RX11_281 rc_7 obC_8 (by decide) (c_X7_addUp (zl Z) (zY Z) (hZ_S hZ) w6) rfl rfl (Nat.le_of_ble_eq_true rfl) dX11_sum_38 fun w7 =>
  bw_aload_n hZ 0 rfl dX11_sum_41 <|
  bw_getR hZ fl_RX11_28 obC_0 rfl dX11_sum_42 <|
  bw_getR hZ fl_RX11_284 obC_8 rfl dX11_sum_45 <|
  bw_iload_n hZ 1 rfl dX11_sum_48 <|
  bw_iald hZ (arC_11 _) dX11_sum_49 <|
  bw_iret hZ hE dX11_sum_50) (fun _ =>
  bw_bipush hZ (-2) (by decide) dX11_sum_16 <|
  bw_iret hZ hE dX11_sum_18))
theorem c_X11_sum (l : Launch) (Y : Ev) (hY : Y.1 = SC) (x1 : Int32) (x2 : Int32)  (w : Wd) : CI l Y yX11_sum cX11_sum 3 7 [.ref (ph Y 0), .int x1, .int x2] w .int (f_X11_sum x1 x2 w) := by
  refine CI_of (S := SC) (by decide) (Nat.le_of_ble_eq_true rfl) hY ?_
  intro Z hl hY2 hZ hE
  subst hY2
  exact t_X11_sum hZ hE x1 x2 w
-- WhichWill.lack
theorem dX11_lack_0 : decode cX11_lack 0 = .ok (.aload_n 0, 1) := by decide +kernel
theorem dX11_lack_1 : decode cX11_lack 1 = .ok (.iload_n 1, 1) := by decide +kernel
theorem dX11_lack_2 : decode cX11_lack 2 = .ok (.invokevirtual 238, 3) := by decide +kernel
theorem dX11_lack_5 : decode cX11_lack 5 = .ok (.ifCond .ne 6, 3) := by decide +kernel
theorem dX11_lack_8 : decode cX11_lack 8 = .ok (.bipush (-2), 2) := by decide +kernel
theorem dX11_lack_10 : decode cX11_lack 10 = .ok (.ireturn, 1) := by decide +kernel
theorem dX11_lack_11 : decode cX11_lack 11 = .ok (.aload_n 0, 1) := by decide +kernel
theorem dX11_lack_12 : decode cX11_lack 12 = .ok (.getfield 28, 3) := by decide +kernel
theorem dX11_lack_15 : decode cX11_lack 15 = .ok (.invokevirtual 241, 3) := by decide +kernel
theorem dX11_lack_18 : decode cX11_lack 18 = .ok (.aload_n 0, 1) := by decide +kernel
theorem dX11_lack_19 : decode cX11_lack 19 = .ok (.getfield 28, 3) := by decide +kernel
theorem dX11_lack_22 : decode cX11_lack 22 = .ok (.iload_n 1, 1) := by decide +kernel
theorem dX11_lack_23 : decode cX11_lack 23 = .ok (.invokevirtual 272, 3) := by decide +kernel
theorem dX11_lack_26 : decode cX11_lack 26 = .ok (.aload_n 0, 1) := by decide +kernel
theorem dX11_lack_27 : decode cX11_lack 27 = .ok (.getfield 28, 3) := by decide +kernel
theorem dX11_lack_30 : decode cX11_lack 30 = .ok (.invokevirtual 281, 3) := by decide +kernel
theorem dX11_lack_33 : decode cX11_lack 33 = .ok (.aload_n 0, 1) := by decide +kernel
theorem dX11_lack_34 : decode cX11_lack 34 = .ok (.getfield 28, 3) := by decide +kernel
theorem dX11_lack_37 : decode cX11_lack 37 = .ok (.invokevirtual 287, 3) := by decide +kernel
theorem dX11_lack_40 : decode cX11_lack 40 = .ok (.ireturn, 1) := by decide +kernel
def f_X11_lack (x1 : Int32) (w : Wd) : Option (Int32 × Wd) :=
  cl (f_X11_isWay x1 w) fun r2 w1 =>
  if r2 = 0 then
  (some ((-2), w1))
  else
  cv (f_X7_makeReady w1) fun w3 =>
  cv (f_X7_takeWay x1 w3) fun w4 =>
  cv (f_X7_addUp w4) fun w5 =>
  cl (f_X7_shortOfForce w5) fun r7 w6 =>
  some (r7, w6)
set_option maxRecDepth 100000 in
set_option maxHeartbeats 4000000 in
theorem t_X11_lack {Z : Cz (Int32 × Wd)} (hZ : OKZ Z SC cX11_lack RX11 2 (some .int) 7) (hE : EndI Z) (x1 : Int32)  (w : Wd) : BW Z 2 0 [(0, .ref (ph (zY Z) 0)), (1, .int x1)] [] w (f_X11_lack x1 w) :=
  bw_aload_n hZ 0 rfl dX11_lack_0 <|
  bw_iload_n hZ 1 rfl dX11_lack_1 <|
  bw_callVI (As := [.int x1]) hZ ml_RX11_238 rc_11 obC_0 (by decide) (c_X11_isWay (zl Z) (zY Z) (hZ_S hZ) x1 w) rfl rfl (Nat.le_of_ble_eq_true rfl) dX11_lack_2 fun r2 w1 =>
  bw_if_ne hZ (tgt := 11) (by decide) dX11_lack_5 (fun _ =>
  bw_aload_n hZ 0 rfl dX11_lack_11 <|
  bw_getR hZ fl_RX11_28 obC_0 rfl dX11_lack_12 <|
  bw_callVV (As := []) hZ ml_RX11_241 rc_7 obC_8 (by decide) (c_X7_makeReady (zl Z) (zY Z) (hZ_S hZ) w1) rfl rfl (Nat.le_of_ble_eq_true rfl) dX11_lack_15 fun w3 =>
  bw_aload_n hZ 0 rfl dX11_lack_18 <|
  bw_getR hZ fl_RX11_28 obC_0 rfl dX11_lack_19 <|
  bw_iload_n hZ 1 rfl dX11_lack_22 <|
  bw_callVV (As := [.int x1]) hZ ml_RX11_272 rc_7 obC_8 (by decide) (c_X7_takeWay (zl Z) (zY Z) (hZ_S hZ) x1 w3) rfl rfl (Nat.le_of_ble_eq_true rfl) dX11_lack_23 fun w4 =>
  bw_aload_n hZ 0 rfl dX11_lack_26 <|
  bw_getR hZ fl_RX11_28 obC_0 rfl dX11_lack_27 <|
  bw_callVV (As := []) hZ ml_RX11_281 rc_7 obC_8 (by decide) (c_X7_addUp (zl Z) (zY Z) (hZ_S hZ) w4) rfl rfl (Nat.le_of_ble_eq_true rfl) dX11_lack_30 fun w5 =>
  bw_aload_n hZ 0 rfl dX11_lack_33 <|
  bw_getR hZ fl_RX11_28 obC_0 rfl dX11_lack_34 <|
  bw_callVI (As := []) hZ ml_RX11_287 rc_7 obC_8 (by decide) (c_X7_shortOfForce (zl Z) (zY Z) (hZ_S hZ) w5) rfl rfl (Nat.le_of_ble_eq_true rfl) dX11_lack_37 fun r7 w6 =>
  bw_iret hZ hE dX11_lack_40) (fun _ =>
  bw_bipush hZ (-2) (by decide) dX11_lack_8 <|
  bw_iret hZ hE dX11_lack_10)
theorem c_X11_lack (l : Launch) (Y : Ev) (hY : Y.1 = SC) (x1 : Int32)  (w : Wd) : CI l Y yX11_lack cX11_lack 2 7 [.ref (ph Y 0), .int x1] w .int (f_X11_lack x1 w) := by
  refine CI_of (S := SC) (by decide) (Nat.le_of_ble_eq_true rfl) hY ?_
  intro Z hl hY2 hZ hE
  subst hY2
  exact t_X11_lack hZ hE x1 w
-- WhichWill.surely
theorem dX11_surely_0 : decode cX11_surely 0 = .ok (.aload_n 0, 1) := by decide +kernel
theorem dX11_surely_1 : decode cX11_surely 1 = .ok (.iload_n 1, 1) := by decide +kernel
theorem dX11_surely_2 : decode cX11_surely 2 = .ok (.invokevirtual 227, 3) := by decide +kernel
theorem dX11_surely_5 : decode cX11_surely 5 = .ok (.ifCond .ne 6, 3) := by decide +kernel
theorem dX11_surely_8 : decode cX11_surely 8 = .ok (.bipush (-2), 2) := by decide +kernel
theorem dX11_surely_10 : decode cX11_surely 10 = .ok (.ireturn, 1) := by decide +kernel
theorem dX11_surely_11 : decode cX11_surely 11 = .ok (.aload_n 0, 1) := by decide +kernel
theorem dX11_surely_12 : decode cX11_surely 12 = .ok (.getfield 19, 3) := by decide +kernel
theorem dX11_surely_15 : decode cX11_surely 15 = .ok (.invokevirtual 256, 3) := by decide +kernel
theorem dX11_surely_18 : decode cX11_surely 18 = .ok (.istore_n 2, 1) := by decide +kernel
theorem dX11_surely_19 : decode cX11_surely 19 = .ok (.iload_n 2, 1) := by decide +kernel
theorem dX11_surely_20 : decode cX11_surely 20 = .ok (.ifCond .ne 5, 3) := by decide +kernel
theorem dX11_surely_23 : decode cX11_surely 23 = .ok (.iconst (-1), 1) := by decide +kernel
theorem dX11_surely_24 : decode cX11_surely 24 = .ok (.ireturn, 1) := by decide +kernel
theorem dX11_surely_25 : decode cX11_surely 25 = .ok (.aload_n 0, 1) := by decide +kernel
theorem dX11_surely_26 : decode cX11_surely 26 = .ok (.getfield 28, 3) := by decide +kernel
theorem dX11_surely_29 : decode cX11_surely 29 = .ok (.invokevirtual 241, 3) := by decide +kernel
theorem dX11_surely_32 : decode cX11_surely 32 = .ok (.aload_n 0, 1) := by decide +kernel
theorem dX11_surely_33 : decode cX11_surely 33 = .ok (.getfield 19, 3) := by decide +kernel
theorem dX11_surely_36 : decode cX11_surely 36 = .ok (.invokevirtual 299, 3) := by decide +kernel
theorem dX11_surely_39 : decode cX11_surely 39 = .ok (.istore_n 3, 1) := by decide +kernel
theorem dX11_surely_40 : decode cX11_surely 40 = .ok (.iconst (-1), 1) := by decide +kernel
theorem dX11_surely_41 : decode cX11_surely 41 = .ok (.istore 4, 2) := by decide +kernel
theorem dX11_surely_43 : decode cX11_surely 43 = .ok (.iconst 0, 1) := by decide +kernel
theorem dX11_surely_44 : decode cX11_surely 44 = .ok (.istore 5, 2) := by decide +kernel
theorem dX11_surely_46 : decode cX11_surely 46 = .ok (.iload 5, 2) := by decide +kernel
theorem dX11_surely_48 : decode cX11_surely 48 = .ok (.iload_n 2, 1) := by decide +kernel
theorem dX11_surely_49 : decode cX11_surely 49 = .ok (.if_icmp .ge 66, 3) := by decide +kernel
theorem dX11_surely_52 : decode cX11_surely 52 = .ok (.iload 5, 2) := by decide +kernel
theorem dX11_surely_54 : decode cX11_surely 54 = .ok (.iload_n 3, 1) := by decide +kernel
theorem dX11_surely_55 : decode cX11_surely 55 = .ok (.iand, 1) := by decide +kernel
theorem dX11_surely_56 : decode cX11_surely 56 = .ok (.ifCond .eq 6, 3) := by decide +kernel
theorem dX11_surely_59 : decode cX11_surely 59 = .ok (.goto 50, 3) := by decide +kernel
theorem dX11_surely_62 : decode cX11_surely 62 = .ok (.aload_n 0, 1) := by decide +kernel
theorem dX11_surely_63 : decode cX11_surely 63 = .ok (.getfield 28, 3) := by decide +kernel
theorem dX11_surely_66 : decode cX11_surely 66 = .ok (.iload_n 1, 1) := by decide +kernel
theorem dX11_surely_67 : decode cX11_surely 67 = .ok (.iload 5, 2) := by decide +kernel
theorem dX11_surely_69 : decode cX11_surely 69 = .ok (.invokevirtual 259, 3) := by decide +kernel
theorem dX11_surely_72 : decode cX11_surely 72 = .ok (.aload_n 0, 1) := by decide +kernel
theorem dX11_surely_73 : decode cX11_surely 73 = .ok (.getfield 28, 3) := by decide +kernel
theorem dX11_surely_76 : decode cX11_surely 76 = .ok (.iload_n 1, 1) := by decide +kernel
theorem dX11_surely_77 : decode cX11_surely 77 = .ok (.invokevirtual 263, 3) := by decide +kernel
theorem dX11_surely_80 : decode cX11_surely 80 = .ok (.pop, 1) := by decide +kernel
theorem dX11_surely_81 : decode cX11_surely 81 = .ok (.aload_n 0, 1) := by decide +kernel
theorem dX11_surely_82 : decode cX11_surely 82 = .ok (.getfield 28, 3) := by decide +kernel
theorem dX11_surely_85 : decode cX11_surely 85 = .ok (.invokevirtual 266, 3) := by decide +kernel
theorem dX11_surely_88 : decode cX11_surely 88 = .ok (.istore 6, 2) := by decide +kernel
theorem dX11_surely_90 : decode cX11_surely 90 = .ok (.iload 4, 2) := by decide +kernel
theorem dX11_surely_92 : decode cX11_surely 92 = .ok (.iconst (-1), 1) := by decide +kernel
theorem dX11_surely_93 : decode cX11_surely 93 = .ok (.if_icmp .eq 12, 3) := by decide +kernel
theorem dX11_surely_96 : decode cX11_surely 96 = .ok (.iload 4, 2) := by decide +kernel
theorem dX11_surely_98 : decode cX11_surely 98 = .ok (.iload 6, 2) := by decide +kernel
theorem dX11_surely_100 : decode cX11_surely 100 = .ok (.if_icmp .eq 5, 3) := by decide +kernel
theorem dX11_surely_103 : decode cX11_surely 103 = .ok (.iconst (-1), 1) := by decide +kernel
theorem dX11_surely_104 : decode cX11_surely 104 = .ok (.ireturn, 1) := by decide +kernel
theorem dX11_surely_105 : decode cX11_surely 105 = .ok (.iload 6, 2) := by decide +kernel
theorem dX11_surely_107 : decode cX11_surely 107 = .ok (.istore 4, 2) := by decide +kernel
theorem dX11_surely_109 : decode cX11_surely 109 = .ok (.iinc 5 1, 3) := by decide +kernel
theorem dX11_surely_112 : decode cX11_surely 112 = .ok (.goto (-66), 3) := by decide +kernel
theorem dX11_surely_115 : decode cX11_surely 115 = .ok (.iload 4, 2) := by decide +kernel
theorem dX11_surely_117 : decode cX11_surely 117 = .ok (.ireturn, 1) := by decide +kernel
def X11_surely_b46 (k46 : Int32 → Int32 → Int32 → Int32 → Int32 → Wd → Option (Int32 × Wd)) (y1 : Int32) (y2 : Int32) (y3 : Int32) (y4 : Int32) (y5 : Int32) (w : Wd) : Option (Int32 × Wd) :=
  if y2 ≤ y5 then
  (some (y4, w))
  else
  if (y5 &&& y3) = 0 then
  (cv (f_X7_takeWayFor y1 y5 w) fun w8 =>
  cl (f_X7_partThing y1 w8) fun r10 w9 =>
  cl (f_X7_gettersOfParts w9) fun r12 w11 =>
  if y4 = ((-1)) then
  (k46 y1 y2 y3 r12 (y5 + 1) w11)
  else
  if y4 = r12 then
  (k46 y1 y2 y3 r12 (y5 + 1) w11)
  else
  some ((-1), w11))
  else
  k46 y1 y2 y3 y4 (y5 + 1) w
set_option maxRecDepth 100000 in
set_option maxHeartbeats 4000000 in
theorem t_X11_surely_b46 {Z : Cz (Int32 × Wd)} (hZ : OKZ Z SC cX11_surely RX11 7 (some .int) 6) (hE : EndI Z) (k46 : Int32 → Int32 → Int32 → Int32 → Int32 → Wd → Option (Int32 × Wd)) (hk46 : ∀ (y1 : Int32) (y2 : Int32) (y3 : Int32) (y4 : Int32) (y5 : Int32)  (w : Wd), BW Z 7 46 [(0, .ref (ph (zY Z) 0)), (1, .int y1), (2, .int y2), (3, .int y3), (4, .int y4), (5, .int y5)] [] w (k46 y1 y2 y3 y4 y5 w)) (y1 : Int32) (y2 : Int32) (y3 : Int32) (y4 : Int32) (y5 : Int32)  (w : Wd) : BW Z 7 46 [(0, .ref (ph (zY Z) 0)), (1, .int y1), (2, .int y2), (3, .int y3), (4, .int y4), (5, .int y5)] [] w (X11_surely_b46 k46 y1 y2 y3 y4 y5 w) :=
  bw_iload hZ 5 rfl dX11_surely_46 <|
  bw_iload_n hZ 2 rfl dX11_surely_48 <|
  bw_icmp_ge hZ (tgt := 115) (by decide) dX11_surely_49 (fun _ =>
  bw_iload hZ 4 rfl dX11_surely_115 <|
  bw_iret hZ hE dX11_surely_117) (fun _ =>
  bw_iload hZ 5 rfl dX11_surely_52 <|
  bw_iload_n hZ 3 rfl dX11_surely_54 <|
  bw_iand hZ dX11_surely_55 <|
  bw_if_eq hZ (tgt := 62) (by decide) dX11_surely_56 (fun _ =>
  bw_aload_n hZ 0 rfl dX11_surely_62 <|
  bw_getR hZ fl_RX11_28 obC_0 rfl dX11_surely_63 <|
  bw_iload_n hZ 1 rfl dX11_surely_66 <|
  bw_iload hZ 5 rfl dX11_surely_67 <|
  bw_callVV (As := [.int y1, .int y5]) hZ ml_RX11_259 rc_7 obC_8 (by decide) (c_X7_takeWayFor (zl Z) (zY Z) (hZ_S hZ) y1 y5 w) rfl rfl (Nat.le_of_ble_eq_true rfl) dX11_surely_69 fun w8 =>
  bw_aload_n hZ 0 rfl dX11_surely_72 <|
  bw_getR hZ fl_RX11_28 obC_0 rfl dX11_surely_73 <|
  bw_iload_n hZ 1 rfl dX11_surely_76 <|
  bw_callVI (As := [.int y1]) hZ ml_RX11_263 rc_7 obC_8 (by decide) (c_X7_partThing (zl Z) (zY Z) (hZ_S hZ) y1 w8) rfl rfl (Nat.le_of_ble_eq_true rfl) dX11_surely_77 fun r10 w9 =>
  bw_pop hZ rfl dX11_surely_80 <|
  bw_aload_n hZ 0 rfl dX11_surely_81 <|
  bw_getR hZ fl_RX11_28 obC_0 rfl dX11_surely_82 <|
  bw_callVI (As := []) hZ ml_RX11_266 rc_7 obC_8 (by decide) (c_X7_gettersOfParts (zl Z) (zY Z) (hZ_S hZ) w9) rfl rfl (Nat.le_of_ble_eq_true rfl) dX11_surely_85 fun r12 w11 =>
  bw_istore hZ (by decide) rfl dX11_surely_88 <|
  bw_iload hZ 5 rfl dX11_surely_90 <|
  bw_iconst hZ (-1) (by decide) dX11_surely_92 <|
  bw_icmp_eq hZ (tgt := 105) (by decide) dX11_surely_93 (fun _ =>
  bw_iload hZ 0 rfl dX11_surely_105 <|
  bw_istore hZ (by decide) rfl dX11_surely_107 <|
  bw_iinc hZ 1 6 rfl (by decide) (by decide) rfl dX11_surely_109 <|
  bw_goto hZ (tgt := 46) (by decide) dX11_surely_112 <|
  bw_sub [3, 4, 5, 6, 1, 0] rfl (hk46 y1 y2 y3 r12 (y5 + 1) w11)) (fun _ =>
  bw_iload hZ 5 rfl dX11_surely_96 <|
  bw_iload hZ 0 rfl dX11_surely_98 <|
  bw_icmp_eq hZ (tgt := 105) (by decide) dX11_surely_100 (fun _ =>
  bw_iload hZ 0 rfl dX11_surely_105 <|
  bw_istore hZ (by decide) rfl dX11_surely_107 <|
  bw_iinc hZ 1 6 rfl (by decide) (by decide) rfl dX11_surely_109 <|
  bw_goto hZ (tgt := 46) (by decide) dX11_surely_112 <|
  bw_sub [3, 4, 5, 6, 1, 0] rfl (hk46 y1 y2 y3 r12 (y5 + 1) w11)) (fun _ =>
  bw_iconst hZ (-1) (by decide) dX11_surely_103 <|
  bw_iret hZ hE dX11_surely_104))) (fun _ =>
  bw_goto hZ (tgt := 109) (by decide) dX11_surely_59 <|
  bw_iinc hZ 1 5 rfl (by decide) (by decide) rfl dX11_surely_109 <|
  bw_goto hZ (tgt := 46) (by decide) dX11_surely_112 <|
  bw_sub [1, 2, 3, 4, 5, 0] rfl (hk46 y1 y2 y3 y4 (y5 + 1) w)))
def X11_surely_b46_L  : Int32 → Int32 → Int32 → Int32 → Int32 → Wd → Option (Int32 × Wd) :=
  lp fu (fun _ _ _ _ _ _ => none) (fun k46 => X11_surely_b46 k46)
theorem t_X11_surely_b46_L {Z : Cz (Int32 × Wd)} (hZ : OKZ Z SC cX11_surely RX11 7 (some .int) 6) (hE : EndI Z)  : ∀ (y1 : Int32) (y2 : Int32) (y3 : Int32) (y4 : Int32) (y5 : Int32)  (w : Wd), BW Z 7 46 [(0, .ref (ph (zY Z) 0)), (1, .int y1), (2, .int y2), (3, .int y3), (4, .int y4), (5, .int y5)] [] w (X11_surely_b46_L y1 y2 y3 y4 y5 w) :=
  lp_bw (fun k46 => ∀ (y1 : Int32) (y2 : Int32) (y3 : Int32) (y4 : Int32) (y5 : Int32)  (w : Wd), BW Z 7 46 [(0, .ref (ph (zY Z) 0)), (1, .int y1), (2, .int y2), (3, .int y3), (4, .int y4), (5, .int y5)] [] w (k46 y1 y2 y3 y4 y5 w)) (fun _ _ _ _ _ _ => bw_none) (fun k46 hk46 y1 y2 y3 y4 y5 w => t_X11_surely_b46 hZ hE k46 hk46 y1 y2 y3 y4 y5 w) fu
def f_X11_surely (x1 : Int32) (w : Wd) : Option (Int32 × Wd) :=
  cl (f_X11_isThing x1 w) fun r2 w1 =>
  if r2 = 0 then
  (some ((-2), w1))
  else
  cl (f_X2_waysFound w1) fun r4 w3 =>
  if r4 = 0 then
  (some ((-1), w3))
  else
  cv (f_X7_makeReady w3) fun w5 =>
  cl (f_X2_unusedFacts w5) fun r7 w6 =>
  X11_surely_b46_L x1 r4 r7 ((-1)) 0 w6
set_option maxRecDepth 100000 in
set_option maxHeartbeats 4000000 in
theorem t_X11_surely {Z : Cz (Int32 × Wd)} (hZ : OKZ Z SC cX11_surely RX11 7 (some .int) 6) (hE : EndI Z) (x1 : Int32)  (w : Wd) : BW Z 7 0 [(0, .ref (ph (zY Z) 0)), (1, .int x1)] [] w (f_X11_surely x1 w) :=
  bw_aload_n hZ 0 rfl dX11_surely_0 <|
  bw_iload_n hZ 1 rfl dX11_surely_1 <|
  bw_callVI (As := [.int x1]) hZ ml_RX11_227 rc_11 obC_0 (by decide) (c_X11_isThing (zl Z) (zY Z) (hZ_S hZ) x1 w) rfl rfl (Nat.le_of_ble_eq_true rfl) dX11_surely_2 fun r2 w1 =>
  bw_if_ne hZ (tgt := 11) (by decide) dX11_surely_5 (fun _ =>
  bw_aload_n hZ 0 rfl dX11_surely_11 <|
  bw_getR hZ fl_RX11_19 obC_0 rfl dX11_surely_12 <|
  bw_callVI (As := []) hZ ml_RX11_256 rc_2 obC_3 (by decide) (c_X2_waysFound (zl Z) (zY Z) (hZ_S hZ) w1) rfl rfl (Nat.le_of_ble_eq_true rfl) dX11_surely_15 fun r4 w3 =>
  bw_istore_n hZ rfl (by decide) rfl dX11_surely_18 <|
  bw_iload_n hZ 0 rfl dX11_surely_19 <|
  bw_if_ne hZ (tgt := 25) (by decide) dX11_surely_20 (fun _ =>
  bw_aload_n hZ 1 rfl dX11_surely_25 <|
  bw_getR hZ fl_RX11_28 obC_0 rfl dX11_surely_26 <|
  bw_callVV (As := []) hZ ml_RX11_241 rc_7 obC_8 (by decide) (c_X7_makeReady (zl Z) (zY Z) (hZ_S hZ) w3) rfl rfl (Nat.le_of_ble_eq_true rfl) dX11_surely_29 fun w5 =>
  bw_aload_n hZ 1 rfl dX11_surely_32 <|
  bw_getR hZ fl_RX11_19 obC_0 rfl dX11_surely_33 <|
  bw_callVI (As := []) hZ ml_RX11_299 rc_2 obC_3 (by decide) (c_X2_unusedFacts (zl Z) (zY Z) (hZ_S hZ) w5) rfl rfl (Nat.le_of_ble_eq_true rfl) dX11_surely_36 fun r7 w6 =>
  bw_istore_n hZ rfl (by decide) rfl dX11_surely_39 <|
  bw_iconst hZ (-1) (by decide) dX11_surely_40 <|
  bw_istore hZ (by decide) rfl dX11_surely_41 <|
  bw_iconst hZ 0 (by decide) dX11_surely_43 <|
  bw_istore hZ (by decide) rfl dX11_surely_44 <|
  bw_sub [4, 5, 3, 2, 1, 0] rfl (t_X11_surely_b46_L hZ hE x1 r4 r7 ((-1)) 0 w6)) (fun _ =>
  bw_iconst hZ (-1) (by decide) dX11_surely_23 <|
  bw_iret hZ hE dX11_surely_24)) (fun _ =>
  bw_bipush hZ (-2) (by decide) dX11_surely_8 <|
  bw_iret hZ hE dX11_surely_10)
theorem c_X11_surely (l : Launch) (Y : Ev) (hY : Y.1 = SC) (x1 : Int32)  (w : Wd) : CI l Y yX11_surely cX11_surely 7 6 [.ref (ph Y 0), .int x1] w .int (f_X11_surely x1 w) := by
  refine CI_of (S := SC) (by decide) (Nat.le_of_ble_eq_true rfl) hY ?_
  intro Z hl hY2 hZ hE
  subst hY2
  exact t_X11_surely hZ hE x1 w
