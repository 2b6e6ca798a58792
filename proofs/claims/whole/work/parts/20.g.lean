-- WhichWillModel.goWay
theorem dX12_goWay_0 : decode cX12_goWay 0 = .ok (.aload_n 0, 1) := by decide +kernel
theorem dX12_goWay_1 : decode cX12_goWay 1 = .ok (.iload_n 1, 1) := by decide +kernel
theorem dX12_goWay_2 : decode cX12_goWay 2 = .ok (.bipush 8, 2) := by decide +kernel
theorem dX12_goWay_4 : decode cX12_goWay 4 = .ok (.idiv, 1) := by decide +kernel
theorem dX12_goWay_5 : decode cX12_goWay 5 = .ok (.putfield 634, 3) := by decide +kernel
theorem dX12_goWay_8 : decode cX12_goWay 8 = .ok (.aload_n 0, 1) := by decide +kernel
theorem dX12_goWay_9 : decode cX12_goWay 9 = .ok (.iload_n 1, 1) := by decide +kernel
theorem dX12_goWay_10 : decode cX12_goWay 10 = .ok (.bipush 8, 2) := by decide +kernel
theorem dX12_goWay_12 : decode cX12_goWay 12 = .ok (.irem, 1) := by decide +kernel
theorem dX12_goWay_13 : decode cX12_goWay 13 = .ok (.putfield 637, 3) := by decide +kernel
theorem dX12_goWay_16 : decode cX12_goWay 16 = .ok (.iconst 0, 1) := by decide +kernel
theorem dX12_goWay_17 : decode cX12_goWay 17 = .ok (.istore_n 2, 1) := by decide +kernel
theorem dX12_goWay_18 : decode cX12_goWay 18 = .ok (.iload_n 2, 1) := by decide +kernel
theorem dX12_goWay_19 : decode cX12_goWay 19 = .ok (.aload_n 0, 1) := by decide +kernel
theorem dX12_goWay_20 : decode cX12_goWay 20 = .ok (.getfield 409, 3) := by decide +kernel
theorem dX12_goWay_23 : decode cX12_goWay 23 = .ok (.if_icmp .ge 42, 3) := by decide +kernel
theorem dX12_goWay_26 : decode cX12_goWay 26 = .ok (.aload_n 0, 1) := by decide +kernel
theorem dX12_goWay_27 : decode cX12_goWay 27 = .ok (.aload_n 0, 1) := by decide +kernel
theorem dX12_goWay_28 : decode cX12_goWay 28 = .ok (.getfield 634, 3) := by decide +kernel
theorem dX12_goWay_31 : decode cX12_goWay 31 = .ok (.aload_n 0, 1) := by decide +kernel
theorem dX12_goWay_32 : decode cX12_goWay 32 = .ok (.getfield 637, 3) := by decide +kernel
theorem dX12_goWay_35 : decode cX12_goWay 35 = .ok (.iload_n 2, 1) := by decide +kernel
theorem dX12_goWay_36 : decode cX12_goWay 36 = .ok (.invokevirtual 628, 3) := by decide +kernel
theorem dX12_goWay_39 : decode cX12_goWay 39 = .ok (.aload_n 0, 1) := by decide +kernel
theorem dX12_goWay_40 : decode cX12_goWay 40 = .ok (.getfield 351, 3) := by decide +kernel
theorem dX12_goWay_43 : decode cX12_goWay 43 = .ok (.iload_n 2, 1) := by decide +kernel
theorem dX12_goWay_44 : decode cX12_goWay 44 = .ok (.aload_n 0, 1) := by decide +kernel
theorem dX12_goWay_45 : decode cX12_goWay 45 = .ok (.invokevirtual 631, 3) := by decide +kernel
theorem dX12_goWay_48 : decode cX12_goWay 48 = .ok (.iastore, 1) := by decide +kernel
theorem dX12_goWay_49 : decode cX12_goWay 49 = .ok (.aload_n 0, 1) := by decide +kernel
theorem dX12_goWay_50 : decode cX12_goWay 50 = .ok (.getfield 354, 3) := by decide +kernel
theorem dX12_goWay_53 : decode cX12_goWay 53 = .ok (.iload_n 2, 1) := by decide +kernel
theorem dX12_goWay_54 : decode cX12_goWay 54 = .ok (.aload_n 0, 1) := by decide +kernel
theorem dX12_goWay_55 : decode cX12_goWay 55 = .ok (.getfield 613, 3) := by decide +kernel
theorem dX12_goWay_58 : decode cX12_goWay 58 = .ok (.iastore, 1) := by decide +kernel
theorem dX12_goWay_59 : decode cX12_goWay 59 = .ok (.iinc 2 1, 3) := by decide +kernel
theorem dX12_goWay_62 : decode cX12_goWay 62 = .ok (.goto (-44), 3) := by decide +kernel
theorem dX12_goWay_65 : decode cX12_goWay 65 = .ok (.return_, 1) := by decide +kernel
def X12_goWay_b18 (k18 : Int32 → Wd → Option (Wd)) (y2 : Int32) (w : Wd) : Option (Wd) :=
  if (w.1 0 10) ≤ y2 then
  (some w)
  else
  cv (f_X12_bringAll (w.1 0 88) (w.1 0 89) y2 w) fun w3 =>
  cl (f_X12_counting w3) fun r5 w4 =>
  if inb y2 4 = true then
  (lt (wI w4 46 (Int32.toNatClampNeg y2) r5) fun w6 =>
  if inb y2 4 = true then
  (lt (wI w6 47 (Int32.toNatClampNeg y2) (w6.1 0 84)) fun w7 =>
  k18 (y2 + 1) w7)
  else none)
  else none
set_option maxRecDepth 100000 in
set_option maxHeartbeats 4000000 in
theorem t_X12_goWay_b18 {Z : Cz (Wd)} (hZ : OKZ Z SM cX12_goWay RX12 3 none 6) (hE : EndV Z) (k18 : Int32 → Wd → Option (Wd)) (hk18 : ∀ (y2 : Int32)  (w : Wd), BW Z 3 18 [(0, .ref (ph (zY Z) 0)), (2, .int y2)] [] w (k18 y2 w)) (y2 : Int32)  (w : Wd) : BW Z 3 18 [(0, .ref (ph (zY Z) 0)), (2, .int y2)] [] w (X12_goWay_b18 k18 y2 w) :=
  bw_iload_n hZ 1 rfl dX12_goWay_18 <|
  bw_aload_n hZ 0 rfl dX12_goWay_19 <|
  bw_getI hZ fl_RX12_409 (by decide) obM_0 dX12_goWay_20 <|
  bw_icmp_ge hZ (tgt := 65) (by decide) dX12_goWay_23 (fun _ =>
  bw_vret hZ hE dX12_goWay_65) (fun _ =>
  bw_aload_n hZ 0 rfl dX12_goWay_26 <|
  bw_aload_n hZ 0 rfl dX12_goWay_27 <|
  bw_getI hZ fl_RX12_634 (by decide) obM_0 dX12_goWay_28 <|
  bw_aload_n hZ 0 rfl dX12_goWay_31 <|
  bw_getI hZ fl_RX12_637 (by decide) obM_0 dX12_goWay_32 <|
  bw_iload_n hZ 1 rfl dX12_goWay_35 <|
  bw_callVV (As := [.int (w.1 0 88), .int (w.1 0 89), .int y2]) hZ ml_RX12_628 rc_12 obM_0 (by decide) (c_X12_bringAll (zl Z) (zY Z) (hZ_S hZ) (w.1 0 88) (w.1 0 89) y2 w) rfl rfl (Nat.le_of_ble_eq_true rfl) dX12_goWay_36 fun w3 =>
  bw_aload_n hZ 0 rfl dX12_goWay_39 <|
  bw_getR hZ fl_RX12_351 obM_0 rfl dX12_goWay_40 <|
  bw_iload_n hZ 1 rfl dX12_goWay_43 <|
  bw_aload_n hZ 0 rfl dX12_goWay_44 <|
  bw_callVI (As := []) hZ ml_RX12_631 rc_12 obM_0 (by decide) (c_X12_counting (zl Z) (zY Z) (hZ_S hZ) w3) rfl rfl (Nat.le_of_ble_eq_true rfl) dX12_goWay_45 fun r5 w4 =>
  bw_iast hZ (arM_46 _) dX12_goWay_48 fun w6 =>
  bw_aload_n hZ 0 rfl dX12_goWay_49 <|
  bw_getR hZ fl_RX12_354 obM_0 rfl dX12_goWay_50 <|
  bw_iload_n hZ 1 rfl dX12_goWay_53 <|
  bw_aload_n hZ 0 rfl dX12_goWay_54 <|
  bw_getI hZ fl_RX12_613 (by decide) obM_0 dX12_goWay_55 <|
  bw_iast hZ (arM_47 _) dX12_goWay_58 fun w7 =>
  bw_iinc hZ 1 1 rfl (by decide) (by decide) rfl dX12_goWay_59 <|
  bw_goto hZ (tgt := 18) (by decide) dX12_goWay_62 <|
  bw_sub [1, 0] rfl (hk18 (y2 + 1) w7))
def X12_goWay_b18_L  : Int32 → Wd → Option (Wd) :=
  lp fu (fun _ _ => none) (fun k18 => X12_goWay_b18 k18)
theorem t_X12_goWay_b18_L {Z : Cz (Wd)} (hZ : OKZ Z SM cX12_goWay RX12 3 none 6) (hE : EndV Z)  : ∀ (y2 : Int32)  (w : Wd), BW Z 3 18 [(0, .ref (ph (zY Z) 0)), (2, .int y2)] [] w (X12_goWay_b18_L y2 w) :=
  lp_bw (fun k18 => ∀ (y2 : Int32)  (w : Wd), BW Z 3 18 [(0, .ref (ph (zY Z) 0)), (2, .int y2)] [] w (k18 y2 w)) (fun _ _ => bw_none) (fun k18 hk18 y2 w => t_X12_goWay_b18 hZ hE k18 hk18 y2 w) fu
def f_X12_goWay (x1 : Int32) (w : Wd) : Option (Wd) :=
  lt (wI w 0 88 (x1 / 8)) fun w1 =>
  lt (wI w1 0 89 (x1 - x1 / 8 * 8)) fun w2 =>
  X12_goWay_b18_L 0 w2
set_option maxRecDepth 100000 in
set_option maxHeartbeats 4000000 in
theorem t_X12_goWay {Z : Cz (Wd)} (hZ : OKZ Z SM cX12_goWay RX12 3 none 6) (hE : EndV Z) (x1 : Int32)  (w : Wd) : BW Z 3 0 [(0, .ref (ph (zY Z) 0)), (1, .int x1)] [] w (f_X12_goWay x1 w) :=
  bw_aload_n hZ 0 rfl dX12_goWay_0 <|
  bw_iload_n hZ 1 rfl dX12_goWay_1 <|
  bw_bipush hZ 8 (by decide) dX12_goWay_2 <|
  bw_idivN hZ (by decide) dX12_goWay_4 <|
  bw_putI hZ fl_RX12_634 rfl rfl (by decide) obM_0 dX12_goWay_5 fun w1 =>
  bw_aload_n hZ 0 rfl dX12_goWay_8 <|
  bw_iload_n hZ 1 rfl dX12_goWay_9 <|
  bw_bipush hZ 8 (by decide) dX12_goWay_10 <|
  bw_iremN hZ (by decide) dX12_goWay_12 <|
  bw_putI hZ fl_RX12_637 rfl rfl (by decide) obM_0 dX12_goWay_13 fun w2 =>
  bw_iconst hZ 0 (by decide) dX12_goWay_16 <|
  bw_istore_n hZ rfl (by decide) rfl dX12_goWay_17 <|
  bw_sub [1, 0] rfl (t_X12_goWay_b18_L hZ hE 0 w2)
theorem c_X12_goWay (l : Launch) (Y : Ev) (hY : Y.1 = SM) (x1 : Int32)  (w : Wd) : CV l Y yX12_goWay cX12_goWay 3 6 [.ref (ph Y 0), .int x1] w (f_X12_goWay x1 w) := by
  refine CV_of (S := SM) (by decide) (Nat.le_of_ble_eq_true rfl) hY ?_
  intro Z hl hY2 hZ hE
  subst hY2
  exact t_X12_goWay hZ hE x1 w
-- WhichWillModel.isVoid
theorem dX12_isVoid_0 : decode cX12_isVoid 0 = .ok (.aload_n 0, 1) := by decide +kernel
theorem dX12_isVoid_1 : decode cX12_isVoid 1 = .ok (.getfield 243, 3) := by decide +kernel
theorem dX12_isVoid_4 : decode cX12_isVoid 4 = .ok (.bipush 13, 2) := by decide +kernel
theorem dX12_isVoid_6 : decode cX12_isVoid 6 = .ok (.iload_n 3, 1) := by decide +kernel
theorem dX12_isVoid_7 : decode cX12_isVoid 7 = .ok (.imul, 1) := by decide +kernel
theorem dX12_isVoid_8 : decode cX12_isVoid 8 = .ok (.iconst 3, 1) := by decide +kernel
theorem dX12_isVoid_9 : decode cX12_isVoid 9 = .ok (.iadd, 1) := by decide +kernel
theorem dX12_isVoid_10 : decode cX12_isVoid 10 = .ok (.iaload, 1) := by decide +kernel
theorem dX12_isVoid_11 : decode cX12_isVoid 11 = .ok (.iconst 2, 1) := by decide +kernel
theorem dX12_isVoid_12 : decode cX12_isVoid 12 = .ok (.if_icmp .ne 19, 3) := by decide +kernel
theorem dX12_isVoid_15 : decode cX12_isVoid 15 = .ok (.aload_n 0, 1) := by decide +kernel
theorem dX12_isVoid_16 : decode cX12_isVoid 16 = .ok (.getfield 276, 3) := by decide +kernel
theorem dX12_isVoid_19 : decode cX12_isVoid 19 = .ok (.iload_n 1, 1) := by decide +kernel
theorem dX12_isVoid_20 : decode cX12_isVoid 20 = .ok (.iaload, 1) := by decide +kernel
theorem dX12_isVoid_21 : decode cX12_isVoid 21 = .ok (.iload_n 2, 1) := by decide +kernel
theorem dX12_isVoid_22 : decode cX12_isVoid 22 = .ok (.ishr, 1) := by decide +kernel
theorem dX12_isVoid_23 : decode cX12_isVoid 23 = .ok (.iconst 1, 1) := by decide +kernel
theorem dX12_isVoid_24 : decode cX12_isVoid 24 = .ok (.iand, 1) := by decide +kernel
theorem dX12_isVoid_25 : decode cX12_isVoid 25 = .ok (.iconst 1, 1) := by decide +kernel
theorem dX12_isVoid_26 : decode cX12_isVoid 26 = .ok (.if_icmp .ne 5, 3) := by decide +kernel
theorem dX12_isVoid_29 : decode cX12_isVoid 29 = .ok (.iconst 1, 1) := by decide +kernel
theorem dX12_isVoid_30 : decode cX12_isVoid 30 = .ok (.ireturn, 1) := by decide +kernel
theorem dX12_isVoid_31 : decode cX12_isVoid 31 = .ok (.iload_n 2, 1) := by decide +kernel
theorem dX12_isVoid_32 : decode cX12_isVoid 32 = .ok (.aload_n 0, 1) := by decide +kernel
theorem dX12_isVoid_33 : decode cX12_isVoid 33 = .ok (.getfield 241, 3) := by decide +kernel
theorem dX12_isVoid_36 : decode cX12_isVoid 36 = .ok (.if_icmp .ne 21, 3) := by decide +kernel
theorem dX12_isVoid_39 : decode cX12_isVoid 39 = .ok (.aload_n 0, 1) := by decide +kernel
theorem dX12_isVoid_40 : decode cX12_isVoid 40 = .ok (.getfield 354, 3) := by decide +kernel
theorem dX12_isVoid_43 : decode cX12_isVoid 43 = .ok (.iload_n 3, 1) := by decide +kernel
theorem dX12_isVoid_44 : decode cX12_isVoid 44 = .ok (.iaload, 1) := by decide +kernel
theorem dX12_isVoid_45 : decode cX12_isVoid 45 = .ok (.iload_n 1, 1) := by decide +kernel
theorem dX12_isVoid_46 : decode cX12_isVoid 46 = .ok (.ishr, 1) := by decide +kernel
theorem dX12_isVoid_47 : decode cX12_isVoid 47 = .ok (.iconst 1, 1) := by decide +kernel
theorem dX12_isVoid_48 : decode cX12_isVoid 48 = .ok (.iand, 1) := by decide +kernel
theorem dX12_isVoid_49 : decode cX12_isVoid 49 = .ok (.iconst 1, 1) := by decide +kernel
theorem dX12_isVoid_50 : decode cX12_isVoid 50 = .ok (.if_icmp .ne 7, 3) := by decide +kernel
theorem dX12_isVoid_53 : decode cX12_isVoid 53 = .ok (.iconst 1, 1) := by decide +kernel
theorem dX12_isVoid_54 : decode cX12_isVoid 54 = .ok (.goto 4, 3) := by decide +kernel
theorem dX12_isVoid_57 : decode cX12_isVoid 57 = .ok (.iconst 0, 1) := by decide +kernel
theorem dX12_isVoid_58 : decode cX12_isVoid 58 = .ok (.ireturn, 1) := by decide +kernel
def X12_isVoid_b31 (y1 : Int32) (y2 : Int32) (y3 : Int32) (w : Wd) : Option (Int32 × Wd) :=
  if y2 = (w.1 0 19) then
  (if inb y3 4 = true then
  (if (((w.1 47 (Int32.toNatClampNeg y3)) >>> (y1 &&& 31)) &&& 1) = 1 then
  (some (1, w))
  else
  some (0, w))
  else none)
  else
  some (0, w)
set_option maxRecDepth 100000 in
set_option maxHeartbeats 4000000 in
theorem t_X12_isVoid_b31 {Z : Cz (Int32 × Wd)} (hZ : OKZ Z SM cX12_isVoid RX12 4 (some .boolean) 1) (hE : EndI Z)  (y1 : Int32) (y2 : Int32) (y3 : Int32)  (w : Wd) : BW Z 4 31 [(0, .ref (ph (zY Z) 0)), (1, .int y1), (2, .int y2), (3, .int y3)] [] w (X12_isVoid_b31 y1 y2 y3 w) :=
  bw_iload_n hZ 2 rfl dX12_isVoid_31 <|
  bw_aload_n hZ 0 rfl dX12_isVoid_32 <|
  bw_getI hZ fl_RX12_241 (by decide) obM_0 dX12_isVoid_33 <|
  bw_icmp_ne hZ (tgt := 57) (by decide) dX12_isVoid_36 (fun _ =>
  bw_iconst hZ 0 (by decide) dX12_isVoid_57 <|
  bw_zret hZ hE (by decide) dX12_isVoid_58) (fun _ =>
  bw_aload_n hZ 0 rfl dX12_isVoid_39 <|
  bw_getR hZ fl_RX12_354 obM_0 rfl dX12_isVoid_40 <|
  bw_iload_n hZ 3 rfl dX12_isVoid_43 <|
  bw_iald hZ (arM_47 _) dX12_isVoid_44 <|
  bw_iload_n hZ 1 rfl dX12_isVoid_45 <|
  bw_ishr hZ dX12_isVoid_46 <|
  bw_iconst hZ 1 (by decide) dX12_isVoid_47 <|
  bw_iand hZ dX12_isVoid_48 <|
  bw_iconst hZ 1 (by decide) dX12_isVoid_49 <|
  bw_icmp_ne hZ (tgt := 57) (by decide) dX12_isVoid_50 (fun _ =>
  bw_iconst hZ 0 (by decide) dX12_isVoid_57 <|
  bw_zret hZ hE (by decide) dX12_isVoid_58) (fun _ =>
  bw_iconst hZ 1 (by decide) dX12_isVoid_53 <|
  bw_goto hZ (tgt := 58) (by decide) dX12_isVoid_54 <|
  bw_zret hZ hE (by decide) dX12_isVoid_58))
def f_X12_isVoid (x1 : Int32) (x2 : Int32) (x3 : Int32) (w : Wd) : Option (Int32 × Wd) :=
  if inb ((13 * x3) + 3) 52 = true then
  (if (w.1 2 (Int32.toNatClampNeg ((13 * x3) + 3))) = 2 then
  (if inb x1 4 = true then
  (if (((w.1 22 (Int32.toNatClampNeg x1)) >>> (x2 &&& 31)) &&& 1) = 1 then
  (some (1, w))
  else
  X12_isVoid_b31 x1 x2 x3 w)
  else none)
  else
  X12_isVoid_b31 x1 x2 x3 w)
  else none
set_option maxRecDepth 100000 in
set_option maxHeartbeats 4000000 in
theorem t_X12_isVoid {Z : Cz (Int32 × Wd)} (hZ : OKZ Z SM cX12_isVoid RX12 4 (some .boolean) 1) (hE : EndI Z) (x1 : Int32) (x2 : Int32) (x3 : Int32)  (w : Wd) : BW Z 4 0 [(0, .ref (ph (zY Z) 0)), (1, .int x1), (2, .int x2), (3, .int x3)] [] w (f_X12_isVoid x1 x2 x3 w) :=
  bw_aload_n hZ 0 rfl dX12_isVoid_0 <|
  bw_getR hZ fl_RX12_243 obM_0 rfl dX12_isVoid_1 <|
  bw_bipush hZ 13 (by decide) dX12_isVoid_4 <|
  bw_iload_n hZ 3 rfl dX12_isVoid_6 <|
  bw_imul hZ dX12_isVoid_7 <|
  bw_iconst hZ 3 (by decide) dX12_isVoid_8 <|
  bw_iadd hZ dX12_isVoid_9 <|
  bw_iald hZ (arM_2 _) dX12_isVoid_10 <|
  bw_iconst hZ 2 (by decide) dX12_isVoid_11 <|
  bw_icmp_ne hZ (tgt := 31) (by decide) dX12_isVoid_12 (fun _ =>
  bw_sub [0, 1, 2, 3] rfl (t_X12_isVoid_b31 hZ hE x1 x2 x3 w)) (fun _ =>
  bw_aload_n hZ 0 rfl dX12_isVoid_15 <|
  bw_getR hZ fl_RX12_276 obM_0 rfl dX12_isVoid_16 <|
  bw_iload_n hZ 1 rfl dX12_isVoid_19 <|
  bw_iald hZ (arM_22 _) dX12_isVoid_20 <|
  bw_iload_n hZ 2 rfl dX12_isVoid_21 <|
  bw_ishr hZ dX12_isVoid_22 <|
  bw_iconst hZ 1 (by decide) dX12_isVoid_23 <|
  bw_iand hZ dX12_isVoid_24 <|
  bw_iconst hZ 1 (by decide) dX12_isVoid_25 <|
  bw_icmp_ne hZ (tgt := 31) (by decide) dX12_isVoid_26 (fun _ =>
  bw_sub [0, 1, 2, 3] rfl (t_X12_isVoid_b31 hZ hE x1 x2 x3 w)) (fun _ =>
  bw_iconst hZ 1 (by decide) dX12_isVoid_29 <|
  bw_zret hZ hE (by decide) dX12_isVoid_30))
theorem c_X12_isVoid (l : Launch) (Y : Ev) (hY : Y.1 = SM) (x1 : Int32) (x2 : Int32) (x3 : Int32)  (w : Wd) : CI l Y yX12_isVoid cX12_isVoid 4 1 [.ref (ph Y 0), .int x1, .int x2, .int x3] w .boolean (f_X12_isVoid x1 x2 x3 w) := by
  refine CI_of (S := SM) (by decide) (Nat.le_of_ble_eq_true rfl) hY ?_
  intro Z hl hY2 hZ hE
  subst hY2
  exact t_X12_isVoid hZ hE x1 x2 x3 w
-- WhichWillModel.isSo
theorem dX12_isSo_0 : decode cX12_isSo 0 = .ok (.aload_n 0, 1) := by decide +kernel
theorem dX12_isSo_1 : decode cX12_isSo 1 = .ok (.getfield 315, 3) := by decide +kernel
theorem dX12_isSo_4 : decode cX12_isSo 4 = .ok (.iload_n 1, 1) := by decide +kernel
theorem dX12_isSo_5 : decode cX12_isSo 5 = .ok (.iaload, 1) := by decide +kernel
theorem dX12_isSo_6 : decode cX12_isSo 6 = .ok (.istore_n 2, 1) := by decide +kernel
theorem dX12_isSo_7 : decode cX12_isSo 7 = .ok (.iload_n 2, 1) := by decide +kernel
theorem dX12_isSo_8 : decode cX12_isSo 8 = .ok (.iconst (-1), 1) := by decide +kernel
theorem dX12_isSo_9 : decode cX12_isSo 9 = .ok (.if_icmp .eq 47, 3) := by decide +kernel
theorem dX12_isSo_12 : decode cX12_isSo 12 = .ok (.iload_n 2, 1) := by decide +kernel
theorem dX12_isSo_13 : decode cX12_isSo 13 = .ok (.bipush 10, 2) := by decide +kernel
theorem dX12_isSo_15 : decode cX12_isSo 15 = .ok (.if_icmp .lt 26, 3) := by decide +kernel
theorem dX12_isSo_18 : decode cX12_isSo 18 = .ok (.aload_n 0, 1) := by decide +kernel
theorem dX12_isSo_19 : decode cX12_isSo 19 = .ok (.getfield 637, 3) := by decide +kernel
theorem dX12_isSo_22 : decode cX12_isSo 22 = .ok (.iload_n 2, 1) := by decide +kernel
theorem dX12_isSo_23 : decode cX12_isSo 23 = .ok (.bipush 10, 2) := by decide +kernel
theorem dX12_isSo_25 : decode cX12_isSo 25 = .ok (.isub, 1) := by decide +kernel
theorem dX12_isSo_26 : decode cX12_isSo 26 = .ok (.ishr, 1) := by decide +kernel
theorem dX12_isSo_27 : decode cX12_isSo 27 = .ok (.iconst 1, 1) := by decide +kernel
theorem dX12_isSo_28 : decode cX12_isSo 28 = .ok (.iand, 1) := by decide +kernel
theorem dX12_isSo_29 : decode cX12_isSo 29 = .ok (.iconst 1, 1) := by decide +kernel
theorem dX12_isSo_30 : decode cX12_isSo 30 = .ok (.if_icmp .ne 7, 3) := by decide +kernel
theorem dX12_isSo_33 : decode cX12_isSo 33 = .ok (.iconst 1, 1) := by decide +kernel
theorem dX12_isSo_34 : decode cX12_isSo 34 = .ok (.goto 13, 3) := by decide +kernel
theorem dX12_isSo_37 : decode cX12_isSo 37 = .ok (.iconst 0, 1) := by decide +kernel
theorem dX12_isSo_38 : decode cX12_isSo 38 = .ok (.goto 9, 3) := by decide +kernel
theorem dX12_isSo_41 : decode cX12_isSo 41 = .ok (.aload_n 0, 1) := by decide +kernel
theorem dX12_isSo_42 : decode cX12_isSo 42 = .ok (.getfield 258, 3) := by decide +kernel
theorem dX12_isSo_45 : decode cX12_isSo 45 = .ok (.iload_n 2, 1) := by decide +kernel
theorem dX12_isSo_46 : decode cX12_isSo 46 = .ok (.baload, 1) := by decide +kernel
theorem dX12_isSo_47 : decode cX12_isSo 47 = .ok (.aload_n 0, 1) := by decide +kernel
theorem dX12_isSo_48 : decode cX12_isSo 48 = .ok (.getfield 321, 3) := by decide +kernel
theorem dX12_isSo_51 : decode cX12_isSo 51 = .ok (.iload_n 1, 1) := by decide +kernel
theorem dX12_isSo_52 : decode cX12_isSo 52 = .ok (.baload, 1) := by decide +kernel
theorem dX12_isSo_53 : decode cX12_isSo 53 = .ok (.if_icmp .ne 7, 3) := by decide +kernel
theorem dX12_isSo_56 : decode cX12_isSo 56 = .ok (.iconst 1, 1) := by decide +kernel
theorem dX12_isSo_57 : decode cX12_isSo 57 = .ok (.goto 4, 3) := by decide +kernel
theorem dX12_isSo_60 : decode cX12_isSo 60 = .ok (.iconst 0, 1) := by decide +kernel
theorem dX12_isSo_61 : decode cX12_isSo 61 = .ok (.ireturn, 1) := by decide +kernel
def X12_isSo_b47 (y1 : Int32) (t0 : Int32) (w : Wd) : Option (Int32 × Wd) :=
  if inb y1 32 = true then
  (if t0 = (w.1 37 (Int32.toNatClampNeg y1)) then
  (some (1, w))
  else
  some (0, w))
  else none
set_option maxRecDepth 100000 in
set_option maxHeartbeats 4000000 in
theorem t_X12_isSo_b47 {Z : Cz (Int32 × Wd)} (hZ : OKZ Z SM cX12_isSo RX12 3 (some .boolean) 1) (hE : EndI Z)  (y1 : Int32) (t0 : Int32)  (w : Wd) : BW Z 3 47 [(0, .ref (ph (zY Z) 0)), (1, .int y1)] [.int t0] w (X12_isSo_b47 y1 t0 w) :=
  bw_aload_n hZ 0 rfl dX12_isSo_47 <|
  bw_getR hZ fl_RX12_321 obM_0 rfl dX12_isSo_48 <|
  bw_iload_n hZ 1 rfl dX12_isSo_51 <|
  bw_zald hZ (arM_37 _) dX12_isSo_52 <|
  bw_icmp_ne hZ (tgt := 60) (by decide) dX12_isSo_53 (fun _ =>
  bw_iconst hZ 0 (by decide) dX12_isSo_60 <|
  bw_zret hZ hE (by decide) dX12_isSo_61) (fun _ =>
  bw_iconst hZ 1 (by decide) dX12_isSo_56 <|
  bw_goto hZ (tgt := 61) (by decide) dX12_isSo_57 <|
  bw_zret hZ hE (by decide) dX12_isSo_61)
def f_X12_isSo (x1 : Int32) (w : Wd) : Option (Int32 × Wd) :=
  if inb x1 32 = true then
  (lt (w.1 35 (Int32.toNatClampNeg x1)) fun v1 =>
  if v1 = ((-1)) then
  (some (1, w))
  else
  if v1 < 10 then
  (if inb v1 8 = true then
  (X12_isSo_b47 x1 (w.1 7 (Int32.toNatClampNeg v1)) w)
  else none)
  else
  if (((w.1 0 89) >>> ((v1 - 10) &&& 31)) &&& 1) = 1 then
  (X12_isSo_b47 x1 1 w)
  else
  X12_isSo_b47 x1 0 w)
  else none
set_option maxRecDepth 100000 in
set_option maxHeartbeats 4000000 in
theorem t_X12_isSo {Z : Cz (Int32 × Wd)} (hZ : OKZ Z SM cX12_isSo RX12 3 (some .boolean) 1) (hE : EndI Z) (x1 : Int32)  (w : Wd) : BW Z 3 0 [(0, .ref (ph (zY Z) 0)), (1, .int x1)] [] w (f_X12_isSo x1 w) :=
  bw_aload_n hZ 0 rfl dX12_isSo_0 <|
  bw_getR hZ fl_RX12_315 obM_0 rfl dX12_isSo_1 <|
  bw_iload_n hZ 1 rfl dX12_isSo_4 <|
  bw_iald hZ (arM_35 _) dX12_isSo_5 <|
  bw_nm fun v1 =>
  bw_istore_n hZ rfl (by decide) rfl dX12_isSo_6 <|
  bw_iload_n hZ 0 rfl dX12_isSo_7 <|
  bw_iconst hZ (-1) (by decide) dX12_isSo_8 <|
  bw_icmp_eq hZ (tgt := 56) (by decide) dX12_isSo_9 (fun _ =>
  bw_iconst hZ 1 (by decide) dX12_isSo_56 <|
  bw_goto hZ (tgt := 61) (by decide) dX12_isSo_57 <|
  bw_zret hZ hE (by decide) dX12_isSo_61) (fun _ =>
  bw_iload_n hZ 0 rfl dX12_isSo_12 <|
  bw_bipush hZ 10 (by decide) dX12_isSo_13 <|
  bw_icmp_lt hZ (tgt := 41) (by decide) dX12_isSo_15 (fun _ =>
  bw_aload_n hZ 1 rfl dX12_isSo_41 <|
  bw_getR hZ fl_RX12_258 obM_0 rfl dX12_isSo_42 <|
  bw_iload_n hZ 0 rfl dX12_isSo_45 <|
  bw_zald hZ (arM_7 _) dX12_isSo_46 <|
  bw_sub [1, 2] rfl (t_X12_isSo_b47 hZ hE x1 (w.1 7 (Int32.toNatClampNeg v1)) w)) (fun _ =>
  bw_aload_n hZ 1 rfl dX12_isSo_18 <|
  bw_getI hZ fl_RX12_637 (by decide) obM_0 dX12_isSo_19 <|
  bw_iload_n hZ 0 rfl dX12_isSo_22 <|
  bw_bipush hZ 10 (by decide) dX12_isSo_23 <|
  bw_isub hZ dX12_isSo_25 <|
  bw_ishr hZ dX12_isSo_26 <|
  bw_iconst hZ 1 (by decide) dX12_isSo_27 <|
  bw_iand hZ dX12_isSo_28 <|
  bw_iconst hZ 1 (by decide) dX12_isSo_29 <|
  bw_icmp_ne hZ (tgt := 37) (by decide) dX12_isSo_30 (fun _ =>
  bw_iconst hZ 0 (by decide) dX12_isSo_37 <|
  bw_goto hZ (tgt := 47) (by decide) dX12_isSo_38 <|
  bw_sub [1, 2] rfl (t_X12_isSo_b47 hZ hE x1 0 w)) (fun _ =>
  bw_iconst hZ 1 (by decide) dX12_isSo_33 <|
  bw_goto hZ (tgt := 47) (by decide) dX12_isSo_34 <|
  bw_sub [1, 2] rfl (t_X12_isSo_b47 hZ hE x1 1 w))))
theorem c_X12_isSo (l : Launch) (Y : Ev) (hY : Y.1 = SM) (x1 : Int32)  (w : Wd) : CI l Y yX12_isSo cX12_isSo 3 1 [.ref (ph Y 0), .int x1] w .boolean (f_X12_isSo x1 w) := by
  refine CI_of (S := SM) (by decide) (Nat.le_of_ble_eq_true rfl) hY ?_
  intro Z hl hY2 hZ hE
  subst hY2
  exact t_X12_isSo hZ hE x1 w
-- WhichWillModel.holds
theorem dX12_holds_0 : decode cX12_holds 0 = .ok (.aload_n 0, 1) := by decide +kernel
theorem dX12_holds_1 : decode cX12_holds 1 = .ok (.getfield 351, 3) := by decide +kernel
theorem dX12_holds_4 : decode cX12_holds 4 = .ok (.iload_n 3, 1) := by decide +kernel
theorem dX12_holds_5 : decode cX12_holds 5 = .ok (.iaload, 1) := by decide +kernel
theorem dX12_holds_6 : decode cX12_holds 6 = .ok (.iload_n 1, 1) := by decide +kernel
theorem dX12_holds_7 : decode cX12_holds 7 = .ok (.ishr, 1) := by decide +kernel
theorem dX12_holds_8 : decode cX12_holds 8 = .ok (.iconst 1, 1) := by decide +kernel
theorem dX12_holds_9 : decode cX12_holds 9 = .ok (.iand, 1) := by decide +kernel
theorem dX12_holds_10 : decode cX12_holds 10 = .ok (.iconst 1, 1) := by decide +kernel
theorem dX12_holds_11 : decode cX12_holds 11 = .ok (.if_icmp .ne 44, 3) := by decide +kernel
theorem dX12_holds_14 : decode cX12_holds 14 = .ok (.aload_n 0, 1) := by decide +kernel
theorem dX12_holds_15 : decode cX12_holds 15 = .ok (.getfield 258, 3) := by decide +kernel
theorem dX12_holds_18 : decode cX12_holds 18 = .ok (.aload_n 0, 1) := by decide +kernel
theorem dX12_holds_19 : decode cX12_holds 19 = .ok (.getfield 312, 3) := by decide +kernel
theorem dX12_holds_22 : decode cX12_holds 22 = .ok (.iload_n 2, 1) := by decide +kernel
theorem dX12_holds_23 : decode cX12_holds 23 = .ok (.iaload, 1) := by decide +kernel
theorem dX12_holds_24 : decode cX12_holds 24 = .ok (.baload, 1) := by decide +kernel
theorem dX12_holds_25 : decode cX12_holds 25 = .ok (.ifCond .ne 30, 3) := by decide +kernel
theorem dX12_holds_28 : decode cX12_holds 28 = .ok (.aload_n 0, 1) := by decide +kernel
theorem dX12_holds_29 : decode cX12_holds 29 = .ok (.iload_n 1, 1) := by decide +kernel
theorem dX12_holds_30 : decode cX12_holds 30 = .ok (.aload_n 0, 1) := by decide +kernel
theorem dX12_holds_31 : decode cX12_holds 31 = .ok (.getfield 312, 3) := by decide +kernel
theorem dX12_holds_34 : decode cX12_holds 34 = .ok (.iload_n 2, 1) := by decide +kernel
theorem dX12_holds_35 : decode cX12_holds 35 = .ok (.iaload, 1) := by decide +kernel
theorem dX12_holds_36 : decode cX12_holds 36 = .ok (.iload_n 3, 1) := by decide +kernel
theorem dX12_holds_37 : decode cX12_holds 37 = .ok (.invokevirtual 640, 3) := by decide +kernel
theorem dX12_holds_40 : decode cX12_holds 40 = .ok (.ifCond .ne 15, 3) := by decide +kernel
theorem dX12_holds_43 : decode cX12_holds 43 = .ok (.aload_n 0, 1) := by decide +kernel
theorem dX12_holds_44 : decode cX12_holds 44 = .ok (.iload_n 2, 1) := by decide +kernel
theorem dX12_holds_45 : decode cX12_holds 45 = .ok (.invokevirtual 643, 3) := by decide +kernel
theorem dX12_holds_48 : decode cX12_holds 48 = .ok (.ifCond .eq 7, 3) := by decide +kernel
theorem dX12_holds_51 : decode cX12_holds 51 = .ok (.iconst 1, 1) := by decide +kernel
theorem dX12_holds_52 : decode cX12_holds 52 = .ok (.goto 4, 3) := by decide +kernel
theorem dX12_holds_55 : decode cX12_holds 55 = .ok (.iconst 0, 1) := by decide +kernel
theorem dX12_holds_56 : decode cX12_holds 56 = .ok (.ireturn, 1) := by decide +kernel
def f_X12_holds (x1 : Int32) (x2 : Int32) (x3 : Int32) (w : Wd) : Option (Int32 × Wd) :=
  if inb x3 4 = true then
  (if (((w.1 46 (Int32.toNatClampNeg x3)) >>> (x1 &&& 31)) &&& 1) = 1 then
  (if inb x2 32 = true then
  (if inb (w.1 34 (Int32.toNatClampNeg x2)) 8 = true then
  (if (w.1 7 (Int32.toNatClampNeg (w.1 34 (Int32.toNatClampNeg x2)))) = 0 then
  (if inb x2 32 = true then
  (cl (f_X12_isVoid x1 (w.1 34 (Int32.toNatClampNeg x2)) x3 w) fun r2 w1 =>
  if r2 = 0 then
  (cl (f_X12_isSo x2 w1) fun r4 w3 =>
  if r4 = 0 then
  (some (0, w3))
  else
  some (1, w3))
  else
  some (0, w1))
  else none)
  else
  some (0, w))
  else none)
  else none)
  else
  some (0, w))
  else none
set_option maxRecDepth 100000 in
set_option maxHeartbeats 4000000 in
theorem t_X12_holds {Z : Cz (Int32 × Wd)} (hZ : OKZ Z SM cX12_holds RX12 4 (some .boolean) 2) (hE : EndI Z) (x1 : Int32) (x2 : Int32) (x3 : Int32)  (w : Wd) : BW Z 4 0 [(0, .ref (ph (zY Z) 0)), (1, .int x1), (2, .int x2), (3, .int x3)] [] w (f_X12_holds x1 x2 x3 w) :=
  bw_aload_n hZ 0 rfl dX12_holds_0 <|
  bw_getR hZ fl_RX12_351 obM_0 rfl dX12_holds_1 <|
  bw_iload_n hZ 3 rfl dX12_holds_4 <|
  bw_iald hZ (arM_46 _) dX12_holds_5 <|
  bw_iload_n hZ 1 rfl dX12_holds_6 <|
  bw_ishr hZ dX12_holds_7 <|
  bw_iconst hZ 1 (by decide) dX12_holds_8 <|
  bw_iand hZ dX12_holds_9 <|
  bw_iconst hZ 1 (by decide) dX12_holds_10 <|
  bw_icmp_ne hZ (tgt := 55) (by decide) dX12_holds_11 (fun _ =>
  bw_iconst hZ 0 (by decide) dX12_holds_55 <|
  bw_zret hZ hE (by decide) dX12_holds_56) (fun _ =>
  bw_aload_n hZ 0 rfl dX12_holds_14 <|
  bw_getR hZ fl_RX12_258 obM_0 rfl dX12_holds_15 <|
  bw_aload_n hZ 0 rfl dX12_holds_18 <|
  bw_getR hZ fl_RX12_312 obM_0 rfl dX12_holds_19 <|
  bw_iload_n hZ 2 rfl dX12_holds_22 <|
  bw_iald hZ (arM_34 _) dX12_holds_23 <|
  bw_zald hZ (arM_7 _) dX12_holds_24 <|
  bw_if_ne hZ (tgt := 55) (by decide) dX12_holds_25 (fun _ =>
  bw_iconst hZ 0 (by decide) dX12_holds_55 <|
  bw_zret hZ hE (by decide) dX12_holds_56) (fun _ =>
  bw_aload_n hZ 0 rfl dX12_holds_28 <|
  bw_iload_n hZ 1 rfl dX12_holds_29 <|
  bw_aload_n hZ 0 rfl dX12_holds_30 <|
  bw_getR hZ fl_RX12_312 obM_0 rfl dX12_holds_31 <|
  bw_iload_n hZ 2 rfl dX12_holds_34 <|
  bw_iald hZ (arM_34 _) dX12_holds_35 <|
  bw_iload_n hZ 3 rfl dX12_holds_36 <|
  bw_callVI (As := [.int x1, .int (w.1 34 (Int32.toNatClampNeg x2)), .int x3]) hZ ml_RX12_640 rc_12 obM_0 (by decide) (c_X12_isVoid (zl Z) (zY Z) (hZ_S hZ) x1 (w.1 34 (Int32.toNatClampNeg x2)) x3 w) rfl rfl (Nat.le_of_ble_eq_true rfl) dX12_holds_37 fun r2 w1 =>
  bw_if_ne hZ (tgt := 55) (by decide) dX12_holds_40 (fun _ =>
  bw_iconst hZ 0 (by decide) dX12_holds_55 <|
  bw_zret hZ hE (by decide) dX12_holds_56) (fun _ =>
  bw_aload_n hZ 0 rfl dX12_holds_43 <|
  bw_iload_n hZ 2 rfl dX12_holds_44 <|
  bw_callVI (As := [.int x2]) hZ ml_RX12_643 rc_12 obM_0 (by decide) (c_X12_isSo (zl Z) (zY Z) (hZ_S hZ) x2 w1) rfl rfl (Nat.le_of_ble_eq_true rfl) dX12_holds_45 fun r4 w3 =>
  bw_if_eq hZ (tgt := 55) (by decide) dX12_holds_48 (fun _ =>
  bw_iconst hZ 0 (by decide) dX12_holds_55 <|
  bw_zret hZ hE (by decide) dX12_holds_56) (fun _ =>
  bw_iconst hZ 1 (by decide) dX12_holds_51 <|
  bw_goto hZ (tgt := 56) (by decide) dX12_holds_52 <|
  bw_zret hZ hE (by decide) dX12_holds_56))))
theorem c_X12_holds (l : Launch) (Y : Ev) (hY : Y.1 = SM) (x1 : Int32) (x2 : Int32) (x3 : Int32)  (w : Wd) : CI l Y yX12_holds cX12_holds 4 2 [.ref (ph Y 0), .int x1, .int x2, .int x3] w .boolean (f_X12_holds x1 x2 x3 w) := by
  refine CI_of (S := SM) (by decide) (Nat.le_of_ble_eq_true rfl) hY ?_
  intro Z hl hY2 hZ hE
  subst hY2
  exact t_X12_holds hZ hE x1 x2 x3 w
-- WhichWillModel.noParts
theorem dX12_noParts_0 : decode cX12_noParts 0 = .ok (.iconst 0, 1) := by decide +kernel
theorem dX12_noParts_1 : decode cX12_noParts 1 = .ok (.istore_n 1, 1) := by decide +kernel
theorem dX12_noParts_2 : decode cX12_noParts 2 = .ok (.iload_n 1, 1) := by decide +kernel
theorem dX12_noParts_3 : decode cX12_noParts 3 = .ok (.bipush 8, 2) := by decide +kernel
theorem dX12_noParts_5 : decode cX12_noParts 5 = .ok (.if_icmp .ge 16, 3) := by decide +kernel
theorem dX12_noParts_8 : decode cX12_noParts 8 = .ok (.aload_n 0, 1) := by decide +kernel
theorem dX12_noParts_9 : decode cX12_noParts 9 = .ok (.getfield 357, 3) := by decide +kernel
theorem dX12_noParts_12 : decode cX12_noParts 12 = .ok (.iload_n 1, 1) := by decide +kernel
theorem dX12_noParts_13 : decode cX12_noParts 13 = .ok (.iconst 0, 1) := by decide +kernel
theorem dX12_noParts_14 : decode cX12_noParts 14 = .ok (.iastore, 1) := by decide +kernel
theorem dX12_noParts_15 : decode cX12_noParts 15 = .ok (.iinc 1 1, 3) := by decide +kernel
theorem dX12_noParts_18 : decode cX12_noParts 18 = .ok (.goto (-16), 3) := by decide +kernel
theorem dX12_noParts_21 : decode cX12_noParts 21 = .ok (.return_, 1) := by decide +kernel
def X12_noParts_b2 (k2 : Int32 → Wd → Option (Wd)) (y1 : Int32) (w : Wd) : Option (Wd) :=
  if 8 ≤ y1 then
  (some w)
  else
  if inb y1 8 = true then
  (lt (wI w 48 (Int32.toNatClampNeg y1) 0) fun w1 =>
  k2 (y1 + 1) w1)
  else none
set_option maxRecDepth 100000 in
set_option maxHeartbeats 4000000 in
theorem t_X12_noParts_b2 {Z : Cz (Wd)} (hZ : OKZ Z SM cX12_noParts RX12 2 none 1) (hE : EndV Z) (k2 : Int32 → Wd → Option (Wd)) (hk2 : ∀ (y1 : Int32)  (w : Wd), BW Z 2 2 [(0, .ref (ph (zY Z) 0)), (1, .int y1)] [] w (k2 y1 w)) (y1 : Int32)  (w : Wd) : BW Z 2 2 [(0, .ref (ph (zY Z) 0)), (1, .int y1)] [] w (X12_noParts_b2 k2 y1 w) :=
  bw_iload_n hZ 1 rfl dX12_noParts_2 <|
  bw_bipush hZ 8 (by decide) dX12_noParts_3 <|
  bw_icmp_ge hZ (tgt := 21) (by decide) dX12_noParts_5 (fun _ =>
  bw_vret hZ hE dX12_noParts_21) (fun _ =>
  bw_aload_n hZ 0 rfl dX12_noParts_8 <|
  bw_getR hZ fl_RX12_357 obM_0 rfl dX12_noParts_9 <|
  bw_iload_n hZ 1 rfl dX12_noParts_12 <|
  bw_iconst hZ 0 (by decide) dX12_noParts_13 <|
  bw_iast hZ (arM_48 _) dX12_noParts_14 fun w1 =>
  bw_iinc hZ 1 1 rfl (by decide) (by decide) rfl dX12_noParts_15 <|
  bw_goto hZ (tgt := 2) (by decide) dX12_noParts_18 <|
  bw_sub [1, 0] rfl (hk2 (y1 + 1) w1))
def X12_noParts_b2_L  : Int32 → Wd → Option (Wd) :=
  lp fu (fun _ _ => none) (fun k2 => X12_noParts_b2 k2)
theorem t_X12_noParts_b2_L {Z : Cz (Wd)} (hZ : OKZ Z SM cX12_noParts RX12 2 none 1) (hE : EndV Z)  : ∀ (y1 : Int32)  (w : Wd), BW Z 2 2 [(0, .ref (ph (zY Z) 0)), (1, .int y1)] [] w (X12_noParts_b2_L y1 w) :=
  lp_bw (fun k2 => ∀ (y1 : Int32)  (w : Wd), BW Z 2 2 [(0, .ref (ph (zY Z) 0)), (1, .int y1)] [] w (k2 y1 w)) (fun _ _ => bw_none) (fun k2 hk2 y1 w => t_X12_noParts_b2 hZ hE k2 hk2 y1 w) fu
def f_X12_noParts (w : Wd) : Option (Wd) :=
  X12_noParts_b2_L 0 w
set_option maxRecDepth 100000 in
set_option maxHeartbeats 4000000 in
theorem t_X12_noParts {Z : Cz (Wd)} (hZ : OKZ Z SM cX12_noParts RX12 2 none 1) (hE : EndV Z)   (w : Wd) : BW Z 2 0 [(0, .ref (ph (zY Z) 0))] [] w (f_X12_noParts w) :=
  bw_iconst hZ 0 (by decide) dX12_noParts_0 <|
  bw_istore_n hZ rfl (by decide) rfl dX12_noParts_1 <|
  bw_sub [1, 0] rfl (t_X12_noParts_b2_L hZ hE 0 w)
theorem c_X12_noParts (l : Launch) (Y : Ev) (hY : Y.1 = SM)   (w : Wd) : CV l Y yX12_noParts cX12_noParts 2 1 [.ref (ph Y 0)] w (f_X12_noParts w) := by
  refine CV_of (S := SM) (by decide) (Nat.le_of_ble_eq_true rfl) hY ?_
  intro Z hl hY2 hZ hE
  subst hY2
  exact t_X12_noParts hZ hE w
-- WhichWillModel.heirsIn
theorem dX12_heirsIn_0 : decode cX12_heirsIn 0 = .ok (.iconst 0, 1) := by decide +kernel
theorem dX12_heirsIn_1 : decode cX12_heirsIn 1 = .ok (.istore_n 3, 1) := by decide +kernel
theorem dX12_heirsIn_2 : decode cX12_heirsIn 2 = .ok (.iconst 0, 1) := by decide +kernel
theorem dX12_heirsIn_3 : decode cX12_heirsIn 3 = .ok (.istore 4, 2) := by decide +kernel
theorem dX12_heirsIn_5 : decode cX12_heirsIn 5 = .ok (.iload 4, 2) := by decide +kernel
theorem dX12_heirsIn_7 : decode cX12_heirsIn 7 = .ok (.aload_n 0, 1) := by decide +kernel
theorem dX12_heirsIn_8 : decode cX12_heirsIn 8 = .ok (.getfield 412, 3) := by decide +kernel
theorem dX12_heirsIn_11 : decode cX12_heirsIn 11 = .ok (.if_icmp .ge 51, 3) := by decide +kernel
theorem dX12_heirsIn_14 : decode cX12_heirsIn 14 = .ok (.aload_n 0, 1) := by decide +kernel
theorem dX12_heirsIn_15 : decode cX12_heirsIn 15 = .ok (.iload_n 1, 1) := by decide +kernel
theorem dX12_heirsIn_16 : decode cX12_heirsIn 16 = .ok (.invokevirtual 530, 3) := by decide +kernel
theorem dX12_heirsIn_19 : decode cX12_heirsIn 19 = .ok (.iload 4, 2) := by decide +kernel
theorem dX12_heirsIn_21 : decode cX12_heirsIn 21 = .ok (.ishr, 1) := by decide +kernel
theorem dX12_heirsIn_22 : decode cX12_heirsIn 22 = .ok (.iconst 1, 1) := by decide +kernel
theorem dX12_heirsIn_23 : decode cX12_heirsIn 23 = .ok (.iand, 1) := by decide +kernel
theorem dX12_heirsIn_24 : decode cX12_heirsIn 24 = .ok (.iconst 1, 1) := by decide +kernel
theorem dX12_heirsIn_25 : decode cX12_heirsIn 25 = .ok (.if_icmp .ne 31, 3) := by decide +kernel
theorem dX12_heirsIn_28 : decode cX12_heirsIn 28 = .ok (.aload_n 0, 1) := by decide +kernel
theorem dX12_heirsIn_29 : decode cX12_heirsIn 29 = .ok (.getfield 258, 3) := by decide +kernel
theorem dX12_heirsIn_32 : decode cX12_heirsIn 32 = .ok (.iload 4, 2) := by decide +kernel
theorem dX12_heirsIn_34 : decode cX12_heirsIn 34 = .ok (.baload, 1) := by decide +kernel
theorem dX12_heirsIn_35 : decode cX12_heirsIn 35 = .ok (.ifCond .ne 21, 3) := by decide +kernel
theorem dX12_heirsIn_38 : decode cX12_heirsIn 38 = .ok (.aload_n 0, 1) := by decide +kernel
theorem dX12_heirsIn_39 : decode cX12_heirsIn 39 = .ok (.iload_n 1, 1) := by decide +kernel
theorem dX12_heirsIn_40 : decode cX12_heirsIn 40 = .ok (.iload 4, 2) := by decide +kernel
theorem dX12_heirsIn_42 : decode cX12_heirsIn 42 = .ok (.iload_n 2, 1) := by decide +kernel
theorem dX12_heirsIn_43 : decode cX12_heirsIn 43 = .ok (.invokevirtual 640, 3) := by decide +kernel
theorem dX12_heirsIn_46 : decode cX12_heirsIn 46 = .ok (.ifCond .ne 10, 3) := by decide +kernel
theorem dX12_heirsIn_49 : decode cX12_heirsIn 49 = .ok (.iload_n 3, 1) := by decide +kernel
theorem dX12_heirsIn_50 : decode cX12_heirsIn 50 = .ok (.iconst 1, 1) := by decide +kernel
theorem dX12_heirsIn_51 : decode cX12_heirsIn 51 = .ok (.iload 4, 2) := by decide +kernel
theorem dX12_heirsIn_53 : decode cX12_heirsIn 53 = .ok (.ishl, 1) := by decide +kernel
theorem dX12_heirsIn_54 : decode cX12_heirsIn 54 = .ok (.ior, 1) := by decide +kernel
theorem dX12_heirsIn_55 : decode cX12_heirsIn 55 = .ok (.istore_n 3, 1) := by decide +kernel
theorem dX12_heirsIn_56 : decode cX12_heirsIn 56 = .ok (.iinc 4 1, 3) := by decide +kernel
theorem dX12_heirsIn_59 : decode cX12_heirsIn 59 = .ok (.goto (-54), 3) := by decide +kernel
theorem dX12_heirsIn_62 : decode cX12_heirsIn 62 = .ok (.iload_n 3, 1) := by decide +kernel
theorem dX12_heirsIn_63 : decode cX12_heirsIn 63 = .ok (.ireturn, 1) := by decide +kernel
def X12_heirsIn_b5 (k5 : Int32 → Int32 → Int32 → Int32 → Wd → Option (Int32 × Wd)) (y1 : Int32) (y2 : Int32) (y3 : Int32) (y4 : Int32) (w : Wd) : Option (Int32 × Wd) :=
  if (w.1 0 11) ≤ y4 then
  (some (y3, w))
  else
  cl (f_X12_heirsOf y1 w) fun r2 w1 =>
  if ((r2 >>> (y4 &&& 31)) &&& 1) = 1 then
  (if inb y4 8 = true then
  (if (w1.1 7 (Int32.toNatClampNeg y4)) = 0 then
  (cl (f_X12_isVoid y1 y4 y2 w1) fun r4 w3 =>
  if r4 = 0 then
  (lt (y3 ||| (1 <<< (y4 &&& 31))) fun v5 =>
  k5 y1 y2 v5 (y4 + 1) w3)
  else
  k5 y1 y2 y3 (y4 + 1) w3)
  else
  k5 y1 y2 y3 (y4 + 1) w1)
  else none)
  else
  k5 y1 y2 y3 (y4 + 1) w1
set_option maxRecDepth 100000 in
set_option maxHeartbeats 4000000 in
theorem t_X12_heirsIn_b5 {Z : Cz (Int32 × Wd)} (hZ : OKZ Z SM cX12_heirsIn RX12 5 (some .int) 2) (hE : EndI Z) (k5 : Int32 → Int32 → Int32 → Int32 → Wd → Option (Int32 × Wd)) (hk5 : ∀ (y1 : Int32) (y2 : Int32) (y3 : Int32) (y4 : Int32)  (w : Wd), BW Z 5 5 [(0, .ref (ph (zY Z) 0)), (1, .int y1), (2, .int y2), (3, .int y3), (4, .int y4)] [] w (k5 y1 y2 y3 y4 w)) (y1 : Int32) (y2 : Int32) (y3 : Int32) (y4 : Int32)  (w : Wd) : BW Z 5 5 [(0, .ref (ph (zY Z) 0)), (1, .int y1), (2, .int y2), (3, .int y3), (4, .int y4)] [] w (X12_heirsIn_b5 k5 y1 y2 y3 y4 w) :=
  bw_iload hZ 4 rfl dX12_heirsIn_5 <|
  bw_aload_n hZ 0 rfl dX12_heirsIn_7 <|
  bw_getI hZ fl_RX12_412 (by decide) obM_0 dX12_heirsIn_8 <|
  bw_icmp_ge hZ (tgt := 62) (by decide) dX12_heirsIn_11 (fun _ =>
  bw_iload_n hZ 3 rfl dX12_heirsIn_62 <|
  bw_iret hZ hE dX12_heirsIn_63) (fun _ =>
  bw_aload_n hZ 0 rfl dX12_heirsIn_14 <|
  bw_iload_n hZ 1 rfl dX12_heirsIn_15 <|
  bw_callVI (As := [.int y1]) hZ ml_RX12_530 rc_12 obM_0 (by decide) (c_X12_heirsOf (zl Z) (zY Z) (hZ_S hZ) y1 w) rfl rfl (Nat.le_of_ble_eq_true rfl) dX12_heirsIn_16 fun r2 w1 =>
  bw_iload hZ 4 rfl dX12_heirsIn_19 <|
  bw_ishr hZ dX12_heirsIn_21 <|
  bw_iconst hZ 1 (by decide) dX12_heirsIn_22 <|
  bw_iand hZ dX12_heirsIn_23 <|
  bw_iconst hZ 1 (by decide) dX12_heirsIn_24 <|
  bw_icmp_ne hZ (tgt := 56) (by decide) dX12_heirsIn_25 (fun _ =>
  bw_iinc hZ 1 4 rfl (by decide) (by decide) rfl dX12_heirsIn_56 <|
  bw_goto hZ (tgt := 5) (by decide) dX12_heirsIn_59 <|
  bw_sub [1, 2, 3, 4, 0] rfl (hk5 y1 y2 y3 (y4 + 1) w1)) (fun _ =>
  bw_aload_n hZ 0 rfl dX12_heirsIn_28 <|
  bw_getR hZ fl_RX12_258 obM_0 rfl dX12_heirsIn_29 <|
  bw_iload hZ 4 rfl dX12_heirsIn_32 <|
  bw_zald hZ (arM_7 _) dX12_heirsIn_34 <|
  bw_if_ne hZ (tgt := 56) (by decide) dX12_heirsIn_35 (fun _ =>
  bw_iinc hZ 1 4 rfl (by decide) (by decide) rfl dX12_heirsIn_56 <|
  bw_goto hZ (tgt := 5) (by decide) dX12_heirsIn_59 <|
  bw_sub [1, 2, 3, 4, 0] rfl (hk5 y1 y2 y3 (y4 + 1) w1)) (fun _ =>
  bw_aload_n hZ 0 rfl dX12_heirsIn_38 <|
  bw_iload_n hZ 1 rfl dX12_heirsIn_39 <|
  bw_iload hZ 4 rfl dX12_heirsIn_40 <|
  bw_iload_n hZ 2 rfl dX12_heirsIn_42 <|
  bw_callVI (As := [.int y1, .int y4, .int y2]) hZ ml_RX12_640 rc_12 obM_0 (by decide) (c_X12_isVoid (zl Z) (zY Z) (hZ_S hZ) y1 y4 y2 w1) rfl rfl (Nat.le_of_ble_eq_true rfl) dX12_heirsIn_43 fun r4 w3 =>
  bw_if_ne hZ (tgt := 56) (by decide) dX12_heirsIn_46 (fun _ =>
  bw_iinc hZ 1 4 rfl (by decide) (by decide) rfl dX12_heirsIn_56 <|
  bw_goto hZ (tgt := 5) (by decide) dX12_heirsIn_59 <|
  bw_sub [1, 2, 3, 4, 0] rfl (hk5 y1 y2 y3 (y4 + 1) w3)) (fun _ =>
  bw_iload_n hZ 3 rfl dX12_heirsIn_49 <|
  bw_iconst hZ 1 (by decide) dX12_heirsIn_50 <|
  bw_iload hZ 4 rfl dX12_heirsIn_51 <|
  bw_ishl hZ dX12_heirsIn_53 <|
  bw_ior hZ dX12_heirsIn_54 <|
  bw_nm fun v5 =>
  bw_istore_n hZ rfl (by decide) rfl dX12_heirsIn_55 <|
  bw_iinc hZ 1 4 rfl (by decide) (by decide) rfl dX12_heirsIn_56 <|
  bw_goto hZ (tgt := 5) (by decide) dX12_heirsIn_59 <|
  bw_sub [2, 3, 4, 1, 0] rfl (hk5 y1 y2 v5 (y4 + 1) w3)))))
def X12_heirsIn_b5_L  : Int32 → Int32 → Int32 → Int32 → Wd → Option (Int32 × Wd) :=
  lp fu (fun _ _ _ _ _ => none) (fun k5 => X12_heirsIn_b5 k5)
theorem t_X12_heirsIn_b5_L {Z : Cz (Int32 × Wd)} (hZ : OKZ Z SM cX12_heirsIn RX12 5 (some .int) 2) (hE : EndI Z)  : ∀ (y1 : Int32) (y2 : Int32) (y3 : Int32) (y4 : Int32)  (w : Wd), BW Z 5 5 [(0, .ref (ph (zY Z) 0)), (1, .int y1), (2, .int y2), (3, .int y3), (4, .int y4)] [] w (X12_heirsIn_b5_L y1 y2 y3 y4 w) :=
  lp_bw (fun k5 => ∀ (y1 : Int32) (y2 : Int32) (y3 : Int32) (y4 : Int32)  (w : Wd), BW Z 5 5 [(0, .ref (ph (zY Z) 0)), (1, .int y1), (2, .int y2), (3, .int y3), (4, .int y4)] [] w (k5 y1 y2 y3 y4 w)) (fun _ _ _ _ _ => bw_none) (fun k5 hk5 y1 y2 y3 y4 w => t_X12_heirsIn_b5 hZ hE k5 hk5 y1 y2 y3 y4 w) fu
def f_X12_heirsIn (x1 : Int32) (x2 : Int32) (w : Wd) : Option (Int32 × Wd) :=
  X12_heirsIn_b5_L x1 x2 0 0 w
set_option maxRecDepth 100000 in
set_option maxHeartbeats 4000000 in
theorem t_X12_heirsIn {Z : Cz (Int32 × Wd)} (hZ : OKZ Z SM cX12_heirsIn RX12 5 (some .int) 2) (hE : EndI Z) (x1 : Int32) (x2 : Int32)  (w : Wd) : BW Z 5 0 [(0, .ref (ph (zY Z) 0)), (1, .int x1), (2, .int x2)] [] w (f_X12_heirsIn x1 x2 w) :=
  bw_iconst hZ 0 (by decide) dX12_heirsIn_0 <|
  bw_istore_n hZ rfl (by decide) rfl dX12_heirsIn_1 <|
  bw_iconst hZ 0 (by decide) dX12_heirsIn_2 <|
  bw_istore hZ (by decide) rfl dX12_heirsIn_3 <|
  bw_sub [2, 3, 4, 1, 0] rfl (t_X12_heirsIn_b5_L hZ hE x1 x2 0 0 w)
theorem c_X12_heirsIn (l : Launch) (Y : Ev) (hY : Y.1 = SM) (x1 : Int32) (x2 : Int32)  (w : Wd) : CI l Y yX12_heirsIn cX12_heirsIn 5 2 [.ref (ph Y 0), .int x1, .int x2] w .int (f_X12_heirsIn x1 x2 w) := by
  refine CI_of (S := SM) (by decide) (Nat.le_of_ble_eq_true rfl) hY ?_
  intro Z hl hY2 hZ hE
  subst hY2
  exact t_X12_heirsIn hZ hE x1 x2 w
-- WhichWillModel.leave
theorem dX12_leave_0 : decode cX12_leave 0 = .ok (.aload_n 0, 1) := by decide +kernel
theorem dX12_leave_1 : decode cX12_leave 1 = .ok (.invokevirtual 552, 3) := by decide +kernel
theorem dX12_leave_4 : decode cX12_leave 4 = .ok (.iconst 1, 1) := by decide +kernel
theorem dX12_leave_5 : decode cX12_leave 5 = .ok (.isub, 1) := by decide +kernel
theorem dX12_leave_6 : decode cX12_leave 6 = .ok (.istore_n 3, 1) := by decide +kernel
theorem dX12_leave_7 : decode cX12_leave 7 = .ok (.iload_n 3, 1) := by decide +kernel
theorem dX12_leave_8 : decode cX12_leave 8 = .ok (.ifCond .lt 168, 3) := by decide +kernel
theorem dX12_leave_11 : decode cX12_leave 11 = .ok (.aload_n 0, 1) := by decide +kernel
theorem dX12_leave_12 : decode cX12_leave 12 = .ok (.getfield 339, 3) := by decide +kernel
theorem dX12_leave_15 : decode cX12_leave 15 = .ok (.bipush 6, 2) := by decide +kernel
theorem dX12_leave_17 : decode cX12_leave 17 = .ok (.aload_n 0, 1) := by decide +kernel
theorem dX12_leave_18 : decode cX12_leave 18 = .ok (.getfield 634, 3) := by decide +kernel
theorem dX12_leave_21 : decode cX12_leave 21 = .ok (.imul, 1) := by decide +kernel
theorem dX12_leave_22 : decode cX12_leave 22 = .ok (.iload_n 3, 1) := by decide +kernel
theorem dX12_leave_23 : decode cX12_leave 23 = .ok (.iadd, 1) := by decide +kernel
theorem dX12_leave_24 : decode cX12_leave 24 = .ok (.iaload, 1) := by decide +kernel
theorem dX12_leave_25 : decode cX12_leave 25 = .ok (.istore 4, 2) := by decide +kernel
theorem dX12_leave_27 : decode cX12_leave 27 = .ok (.iload 4, 2) := by decide +kernel
theorem dX12_leave_29 : decode cX12_leave 29 = .ok (.aload_n 0, 1) := by decide +kernel
theorem dX12_leave_30 : decode cX12_leave 30 = .ok (.getfield 431, 3) := by decide +kernel
theorem dX12_leave_33 : decode cX12_leave 33 = .ok (.if_icmp .ge 137, 3) := by decide +kernel
theorem dX12_leave_36 : decode cX12_leave 36 = .ok (.aload_n 0, 1) := by decide +kernel
theorem dX12_leave_37 : decode cX12_leave 37 = .ok (.getfield 351, 3) := by decide +kernel
theorem dX12_leave_40 : decode cX12_leave 40 = .ok (.iload_n 2, 1) := by decide +kernel
theorem dX12_leave_41 : decode cX12_leave 41 = .ok (.iaload, 1) := by decide +kernel
theorem dX12_leave_42 : decode cX12_leave 42 = .ok (.iload 4, 2) := by decide +kernel
theorem dX12_leave_44 : decode cX12_leave 44 = .ok (.ishr, 1) := by decide +kernel
theorem dX12_leave_45 : decode cX12_leave 45 = .ok (.iconst 1, 1) := by decide +kernel
theorem dX12_leave_46 : decode cX12_leave 46 = .ok (.iand, 1) := by decide +kernel
theorem dX12_leave_47 : decode cX12_leave 47 = .ok (.ifCond .ne 6, 3) := by decide +kernel
theorem dX12_leave_50 : decode cX12_leave 50 = .ok (.goto 120, 3) := by decide +kernel
theorem dX12_leave_53 : decode cX12_leave 53 = .ok (.aload_n 0, 1) := by decide +kernel
theorem dX12_leave_54 : decode cX12_leave 54 = .ok (.iload 4, 2) := by decide +kernel
theorem dX12_leave_56 : decode cX12_leave 56 = .ok (.iload_n 2, 1) := by decide +kernel
theorem dX12_leave_57 : decode cX12_leave 57 = .ok (.invokevirtual 646, 3) := by decide +kernel
theorem dX12_leave_60 : decode cX12_leave 60 = .ok (.istore 5, 2) := by decide +kernel
theorem dX12_leave_62 : decode cX12_leave 62 = .ok (.iconst 0, 1) := by decide +kernel
theorem dX12_leave_63 : decode cX12_leave 63 = .ok (.istore 6, 2) := by decide +kernel
theorem dX12_leave_65 : decode cX12_leave 65 = .ok (.iconst 0, 1) := by decide +kernel
theorem dX12_leave_66 : decode cX12_leave 66 = .ok (.istore 7, 2) := by decide +kernel
theorem dX12_leave_68 : decode cX12_leave 68 = .ok (.iload 7, 2) := by decide +kernel
theorem dX12_leave_70 : decode cX12_leave 70 = .ok (.aload_n 0, 1) := by decide +kernel
theorem dX12_leave_71 : decode cX12_leave 71 = .ok (.getfield 412, 3) := by decide +kernel
theorem dX12_leave_74 : decode cX12_leave 74 = .ok (.if_icmp .ge 21, 3) := by decide +kernel
theorem dX12_leave_77 : decode cX12_leave 77 = .ok (.iload 6, 2) := by decide +kernel
theorem dX12_leave_79 : decode cX12_leave 79 = .ok (.iload 5, 2) := by decide +kernel
theorem dX12_leave_81 : decode cX12_leave 81 = .ok (.iload 7, 2) := by decide +kernel
theorem dX12_leave_83 : decode cX12_leave 83 = .ok (.ishr, 1) := by decide +kernel
theorem dX12_leave_84 : decode cX12_leave 84 = .ok (.iconst 1, 1) := by decide +kernel
theorem dX12_leave_85 : decode cX12_leave 85 = .ok (.iand, 1) := by decide +kernel
theorem dX12_leave_86 : decode cX12_leave 86 = .ok (.iadd, 1) := by decide +kernel
theorem dX12_leave_87 : decode cX12_leave 87 = .ok (.istore 6, 2) := by decide +kernel
theorem dX12_leave_89 : decode cX12_leave 89 = .ok (.iinc 7 1, 3) := by decide +kernel
theorem dX12_leave_92 : decode cX12_leave 92 = .ok (.goto (-24), 3) := by decide +kernel
theorem dX12_leave_95 : decode cX12_leave 95 = .ok (.iload 6, 2) := by decide +kernel
theorem dX12_leave_97 : decode cX12_leave 97 = .ok (.ifCond .ne 6, 3) := by decide +kernel
theorem dX12_leave_100 : decode cX12_leave 100 = .ok (.goto 70, 3) := by decide +kernel
theorem dX12_leave_103 : decode cX12_leave 103 = .ok (.iload_n 1, 1) := by decide +kernel
theorem dX12_leave_104 : decode cX12_leave 104 = .ok (.iload 6, 2) := by decide +kernel
theorem dX12_leave_106 : decode cX12_leave 106 = .ok (.irem, 1) := by decide +kernel
theorem dX12_leave_107 : decode cX12_leave 107 = .ok (.istore 7, 2) := by decide +kernel
theorem dX12_leave_109 : decode cX12_leave 109 = .ok (.iconst 0, 1) := by decide +kernel
theorem dX12_leave_110 : decode cX12_leave 110 = .ok (.istore 8, 2) := by decide +kernel
theorem dX12_leave_112 : decode cX12_leave 112 = .ok (.iload 8, 2) := by decide +kernel
theorem dX12_leave_114 : decode cX12_leave 114 = .ok (.aload_n 0, 1) := by decide +kernel
theorem dX12_leave_115 : decode cX12_leave 115 = .ok (.getfield 412, 3) := by decide +kernel
theorem dX12_leave_118 : decode cX12_leave 118 = .ok (.if_icmp .ge 50, 3) := by decide +kernel
theorem dX12_leave_121 : decode cX12_leave 121 = .ok (.iload 5, 2) := by decide +kernel
theorem dX12_leave_123 : decode cX12_leave 123 = .ok (.iload 8, 2) := by decide +kernel
theorem dX12_leave_125 : decode cX12_leave 125 = .ok (.ishr, 1) := by decide +kernel
theorem dX12_leave_126 : decode cX12_leave 126 = .ok (.iconst 1, 1) := by decide +kernel
theorem dX12_leave_127 : decode cX12_leave 127 = .ok (.iand, 1) := by decide +kernel
theorem dX12_leave_128 : decode cX12_leave 128 = .ok (.ifCond .ne 6, 3) := by decide +kernel
theorem dX12_leave_131 : decode cX12_leave 131 = .ok (.goto 31, 3) := by decide +kernel
theorem dX12_leave_134 : decode cX12_leave 134 = .ok (.aload_n 0, 1) := by decide +kernel
theorem dX12_leave_135 : decode cX12_leave 135 = .ok (.getfield 357, 3) := by decide +kernel
theorem dX12_leave_138 : decode cX12_leave 138 = .ok (.iload 8, 2) := by decide +kernel
theorem dX12_leave_140 : decode cX12_leave 140 = .ok (.dup2, 1) := by decide +kernel
theorem dX12_leave_141 : decode cX12_leave 141 = .ok (.iaload, 1) := by decide +kernel
theorem dX12_leave_142 : decode cX12_leave 142 = .ok (.iload_n 1, 1) := by decide +kernel
theorem dX12_leave_143 : decode cX12_leave 143 = .ok (.iload 6, 2) := by decide +kernel
theorem dX12_leave_145 : decode cX12_leave 145 = .ok (.idiv, 1) := by decide +kernel
theorem dX12_leave_146 : decode cX12_leave 146 = .ok (.iload 7, 2) := by decide +kernel
theorem dX12_leave_148 : decode cX12_leave 148 = .ok (.ifCond .le 7, 3) := by decide +kernel
theorem dX12_leave_151 : decode cX12_leave 151 = .ok (.iconst 1, 1) := by decide +kernel
theorem dX12_leave_152 : decode cX12_leave 152 = .ok (.goto 4, 3) := by decide +kernel
theorem dX12_leave_155 : decode cX12_leave 155 = .ok (.iconst 0, 1) := by decide +kernel
theorem dX12_leave_156 : decode cX12_leave 156 = .ok (.iadd, 1) := by decide +kernel
theorem dX12_leave_157 : decode cX12_leave 157 = .ok (.iadd, 1) := by decide +kernel
theorem dX12_leave_158 : decode cX12_leave 158 = .ok (.iastore, 1) := by decide +kernel
theorem dX12_leave_159 : decode cX12_leave 159 = .ok (.iinc 7 (-1), 3) := by decide +kernel
theorem dX12_leave_162 : decode cX12_leave 162 = .ok (.iinc 8 1, 3) := by decide +kernel
theorem dX12_leave_165 : decode cX12_leave 165 = .ok (.goto (-53), 3) := by decide +kernel
theorem dX12_leave_168 : decode cX12_leave 168 = .ok (.iconst 1, 1) := by decide +kernel
theorem dX12_leave_169 : decode cX12_leave 169 = .ok (.ireturn, 1) := by decide +kernel
theorem dX12_leave_170 : decode cX12_leave 170 = .ok (.iinc 3 (-1), 3) := by decide +kernel
theorem dX12_leave_173 : decode cX12_leave 173 = .ok (.goto (-166), 3) := by decide +kernel
theorem dX12_leave_176 : decode cX12_leave 176 = .ok (.iconst 0, 1) := by decide +kernel
theorem dX12_leave_177 : decode cX12_leave 177 = .ok (.ireturn, 1) := by decide +kernel
def X12_leave_b156 (k112 : Int32 → Int32 → Int32 → Int32 → Int32 → Wd → Option (Int32 × Wd)) (y1 : Int32) (y5 : Int32) (y6 : Int32) (y7 : Int32) (y8 : Int32) (t0 : Int32) (t1 : Int32) (t2 : Int32) (t3 : Int32) (w : Wd) : Option (Int32 × Wd) :=
  if inb t3 8 = true then
  (lt (wI w 48 (Int32.toNatClampNeg t3) (t2 + (t1 + t0))) fun w8 =>
  k112 y1 y5 y6 (y7 + (-1)) (y8 + 1) w8)
  else none
set_option maxRecDepth 100000 in
set_option maxHeartbeats 4000000 in
theorem t_X12_leave_b156 {Z : Cz (Int32 × Wd)} (hZ : OKZ Z SM cX12_leave RX12 9 (some .boolean) 3) (hE : EndI Z) (k112 : Int32 → Int32 → Int32 → Int32 → Int32 → Wd → Option (Int32 × Wd)) (hk112 : ∀ (y1 : Int32) (y5 : Int32) (y6 : Int32) (y7 : Int32) (y8 : Int32)  (w : Wd), BW Z 9 112 [(0, .ref (ph (zY Z) 0)), (1, .int y1), (5, .int y5), (6, .int y6), (7, .int y7), (8, .int y8)] [] w (k112 y1 y5 y6 y7 y8 w)) (y1 : Int32) (y5 : Int32) (y6 : Int32) (y7 : Int32) (y8 : Int32) (t0 : Int32) (t1 : Int32) (t2 : Int32) (t3 : Int32)  (w : Wd) : BW Z 9 156 [(0, .ref (ph (zY Z) 0)), (1, .int y1), (5, .int y5), (6, .int y6), (7, .int y7), (8, .int y8)] [.int t0, .int t1, .int t2, .int t3, .ref (ph (zY Z) 48)] w (X12_leave_b156 k112 y1 y5 y6 y7 y8 t0 t1 t2 t3 w) :=
  bw_iadd hZ dX12_leave_156 <|
  bw_iadd hZ dX12_leave_157 <|
  bw_iast hZ (arM_48 _) dX12_leave_158 fun w8 =>
  bw_iinc hZ (-1) 4 rfl (by decide) (by decide) rfl dX12_leave_159 <|
  bw_iinc hZ 1 5 rfl (by decide) (by decide) rfl dX12_leave_162 <|
  bw_goto hZ (tgt := 112) (by decide) dX12_leave_165 <|
  bw_sub [2, 3, 4, 5, 1, 0] rfl (hk112 y1 y5 y6 (y7 + (-1)) (y8 + 1) w8)
def X12_leave_b112 (k112 : Int32 → Int32 → Int32 → Int32 → Int32 → Wd → Option (Int32 × Wd)) (y1 : Int32) (y5 : Int32) (y6 : Int32) (y7 : Int32) (y8 : Int32) (w : Wd) : Option (Int32 × Wd) :=
  if (w.1 0 11) ≤ y8 then
  (some (1, w))
  else
  if ((y5 >>> (y8 &&& 31)) &&& 1) = 0 then
  (k112 y1 y5 y6 y7 (y8 + 1) w)
  else
  if inb y8 8 = true then
  (if y6 = 0 then none else
  if y7 ≤ 0 then
  (X12_leave_b156 k112 y1 y5 y6 y7 y8 0 (y1 / y6) (w.1 48 (Int32.toNatClampNeg y8)) y8 w)
  else
  X12_leave_b156 k112 y1 y5 y6 y7 y8 1 (y1 / y6) (w.1 48 (Int32.toNatClampNeg y8)) y8 w)
  else none
set_option maxRecDepth 100000 in
set_option maxHeartbeats 4000000 in
theorem t_X12_leave_b112 {Z : Cz (Int32 × Wd)} (hZ : OKZ Z SM cX12_leave RX12 9 (some .boolean) 3) (hE : EndI Z) (k112 : Int32 → Int32 → Int32 → Int32 → Int32 → Wd → Option (Int32 × Wd)) (hk112 : ∀ (y1 : Int32) (y5 : Int32) (y6 : Int32) (y7 : Int32) (y8 : Int32)  (w : Wd), BW Z 9 112 [(0, .ref (ph (zY Z) 0)), (1, .int y1), (5, .int y5), (6, .int y6), (7, .int y7), (8, .int y8)] [] w (k112 y1 y5 y6 y7 y8 w)) (y1 : Int32) (y5 : Int32) (y6 : Int32) (y7 : Int32) (y8 : Int32)  (w : Wd) : BW Z 9 112 [(0, .ref (ph (zY Z) 0)), (1, .int y1), (5, .int y5), (6, .int y6), (7, .int y7), (8, .int y8)] [] w (X12_leave_b112 k112 y1 y5 y6 y7 y8 w) :=
  bw_iload hZ 5 rfl dX12_leave_112 <|
  bw_aload_n hZ 0 rfl dX12_leave_114 <|
  bw_getI hZ fl_RX12_412 (by decide) obM_0 dX12_leave_115 <|
  bw_icmp_ge hZ (tgt := 168) (by decide) dX12_leave_118 (fun _ =>
  bw_iconst hZ 1 (by decide) dX12_leave_168 <|
  bw_zret hZ hE (by decide) dX12_leave_169) (fun _ =>
  bw_iload hZ 2 rfl dX12_leave_121 <|
  bw_iload hZ 5 rfl dX12_leave_123 <|
  bw_ishr hZ dX12_leave_125 <|
  bw_iconst hZ 1 (by decide) dX12_leave_126 <|
  bw_iand hZ dX12_leave_127 <|
  bw_if_ne hZ (tgt := 134) (by decide) dX12_leave_128 (fun _ =>
  bw_aload_n hZ 0 rfl dX12_leave_134 <|
  bw_getR hZ fl_RX12_357 obM_0 rfl dX12_leave_135 <|
  bw_iload hZ 5 rfl dX12_leave_138 <|
  bw_dup2 hZ rfl rfl dX12_leave_140 <|
  bw_iald hZ (arM_48 _) dX12_leave_141 <|
  bw_iload_n hZ 1 rfl dX12_leave_142 <|
  bw_iload hZ 3 rfl dX12_leave_143 <|
  bw_idiv hZ dX12_leave_145 <|
  bw_iload hZ 4 rfl dX12_leave_146 <|
  bw_if_le hZ (tgt := 155) (by decide) dX12_leave_148 (fun _ =>
  bw_iconst hZ 0 (by decide) dX12_leave_155 <|
  bw_sub [0, 1, 2, 3, 4, 5] rfl (t_X12_leave_b156 hZ hE k112 hk112 y1 y5 y6 y7 y8 0 (y1 / y6) (w.1 48 (Int32.toNatClampNeg y8)) y8 w)) (fun _ =>
  bw_iconst hZ 1 (by decide) dX12_leave_151 <|
  bw_goto hZ (tgt := 156) (by decide) dX12_leave_152 <|
  bw_sub [0, 1, 2, 3, 4, 5] rfl (t_X12_leave_b156 hZ hE k112 hk112 y1 y5 y6 y7 y8 1 (y1 / y6) (w.1 48 (Int32.toNatClampNeg y8)) y8 w))) (fun _ =>
  bw_goto hZ (tgt := 162) (by decide) dX12_leave_131 <|
  bw_iinc hZ 1 5 rfl (by decide) (by decide) rfl dX12_leave_162 <|
  bw_goto hZ (tgt := 112) (by decide) dX12_leave_165 <|
  bw_sub [1, 2, 3, 4, 5, 0] rfl (hk112 y1 y5 y6 y7 (y8 + 1) w)))
def X12_leave_b112_L  : Int32 → Int32 → Int32 → Int32 → Int32 → Wd → Option (Int32 × Wd) :=
  lp fu (fun _ _ _ _ _ _ => none) (fun k112 => X12_leave_b112 k112)
theorem t_X12_leave_b112_L {Z : Cz (Int32 × Wd)} (hZ : OKZ Z SM cX12_leave RX12 9 (some .boolean) 3) (hE : EndI Z)  : ∀ (y1 : Int32) (y5 : Int32) (y6 : Int32) (y7 : Int32) (y8 : Int32)  (w : Wd), BW Z 9 112 [(0, .ref (ph (zY Z) 0)), (1, .int y1), (5, .int y5), (6, .int y6), (7, .int y7), (8, .int y8)] [] w (X12_leave_b112_L y1 y5 y6 y7 y8 w) :=
  lp_bw (fun k112 => ∀ (y1 : Int32) (y5 : Int32) (y6 : Int32) (y7 : Int32) (y8 : Int32)  (w : Wd), BW Z 9 112 [(0, .ref (ph (zY Z) 0)), (1, .int y1), (5, .int y5), (6, .int y6), (7, .int y7), (8, .int y8)] [] w (k112 y1 y5 y6 y7 y8 w)) (fun _ _ _ _ _ _ => bw_none) (fun k112 hk112 y1 y5 y6 y7 y8 w => t_X12_leave_b112 hZ hE k112 hk112 y1 y5 y6 y7 y8 w) fu
def X12_leave_b68 (k7 : Int32 → Int32 → Int32 → Wd → Option (Int32 × Wd)) (k68 : Int32 → Int32 → Int32 → Int32 → Int32 → Int32 → Wd → Option (Int32 × Wd)) (y1 : Int32) (y2 : Int32) (y3 : Int32) (y5 : Int32) (y6 : Int32) (y7 : Int32) (w : Wd) : Option (Int32 × Wd) :=
  if (w.1 0 11) ≤ y7 then
  (if y6 = 0 then
  (k7 y1 y2 (y3 + (-1)) w)
  else
  if y6 = 0 then none else
  lt (y1 - y1 / y6 * y6) fun v7 =>
  X12_leave_b112_L y1 y5 y6 v7 0 w)
  else
  lt (y6 + ((y5 >>> (y7 &&& 31)) &&& 1)) fun v9 =>
  k68 y1 y2 y3 y5 v9 (y7 + 1) w
set_option maxRecDepth 100000 in
set_option maxHeartbeats 4000000 in
theorem t_X12_leave_b68 {Z : Cz (Int32 × Wd)} (hZ : OKZ Z SM cX12_leave RX12 9 (some .boolean) 3) (hE : EndI Z) (k7 : Int32 → Int32 → Int32 → Wd → Option (Int32 × Wd)) (hk7 : ∀ (y1 : Int32) (y2 : Int32) (y3 : Int32)  (w : Wd), BW Z 9 7 [(0, .ref (ph (zY Z) 0)), (1, .int y1), (2, .int y2), (3, .int y3)] [] w (k7 y1 y2 y3 w)) (k68 : Int32 → Int32 → Int32 → Int32 → Int32 → Int32 → Wd → Option (Int32 × Wd)) (hk68 : ∀ (y1 : Int32) (y2 : Int32) (y3 : Int32) (y5 : Int32) (y6 : Int32) (y7 : Int32)  (w : Wd), BW Z 9 68 [(0, .ref (ph (zY Z) 0)), (1, .int y1), (2, .int y2), (3, .int y3), (5, .int y5), (6, .int y6), (7, .int y7)] [] w (k68 y1 y2 y3 y5 y6 y7 w)) (y1 : Int32) (y2 : Int32) (y3 : Int32) (y5 : Int32) (y6 : Int32) (y7 : Int32)  (w : Wd) : BW Z 9 68 [(0, .ref (ph (zY Z) 0)), (1, .int y1), (2, .int y2), (3, .int y3), (5, .int y5), (6, .int y6), (7, .int y7)] [] w (X12_leave_b68 k7 k68 y1 y2 y3 y5 y6 y7 w) :=
  bw_iload hZ 6 rfl dX12_leave_68 <|
  bw_aload_n hZ 0 rfl dX12_leave_70 <|
  bw_getI hZ fl_RX12_412 (by decide) obM_0 dX12_leave_71 <|
  bw_icmp_ge hZ (tgt := 95) (by decide) dX12_leave_74 (fun _ =>
  bw_iload hZ 5 rfl dX12_leave_95 <|
  bw_if_ne hZ (tgt := 103) (by decide) dX12_leave_97 (fun _ =>
  bw_iload_n hZ 1 rfl dX12_leave_103 <|
  bw_iload hZ 5 rfl dX12_leave_104 <|
  bw_irem hZ dX12_leave_106 <|
  bw_nm fun v7 =>
  bw_istore hZ (by decide) rfl dX12_leave_107 <|
  bw_iconst hZ 0 (by decide) dX12_leave_109 <|
  bw_istore hZ (by decide) rfl dX12_leave_110 <|
  bw_sub [2, 3, 6, 7, 1, 0] rfl (t_X12_leave_b112_L hZ hE y1 y5 y6 v7 0 w)) (fun _ =>
  bw_goto hZ (tgt := 170) (by decide) dX12_leave_100 <|
  bw_iinc hZ (-1) 3 rfl (by decide) (by decide) rfl dX12_leave_170 <|
  bw_goto hZ (tgt := 7) (by decide) dX12_leave_173 <|
  bw_sub [1, 2, 3, 0] rfl (hk7 y1 y2 (y3 + (-1)) w))) (fun _ =>
  bw_iload hZ 5 rfl dX12_leave_77 <|
  bw_iload hZ 4 rfl dX12_leave_79 <|
  bw_iload hZ 6 rfl dX12_leave_81 <|
  bw_ishr hZ dX12_leave_83 <|
  bw_iconst hZ 1 (by decide) dX12_leave_84 <|
  bw_iand hZ dX12_leave_85 <|
  bw_iadd hZ dX12_leave_86 <|
  bw_nm fun v9 =>
  bw_istore hZ (by decide) rfl dX12_leave_87 <|
  bw_iinc hZ 1 6 rfl (by decide) (by decide) rfl dX12_leave_89 <|
  bw_goto hZ (tgt := 68) (by decide) dX12_leave_92 <|
  bw_sub [2, 3, 4, 5, 6, 1, 0] rfl (hk68 y1 y2 y3 y5 v9 (y7 + 1) w))
def X12_leave_b68_L (k7 : Int32 → Int32 → Int32 → Wd → Option (Int32 × Wd)) : Int32 → Int32 → Int32 → Int32 → Int32 → Int32 → Wd → Option (Int32 × Wd) :=
  lp fu (fun _ _ _ _ _ _ _ => none) (fun k68 => X12_leave_b68 k7 k68)
theorem t_X12_leave_b68_L {Z : Cz (Int32 × Wd)} (hZ : OKZ Z SM cX12_leave RX12 9 (some .boolean) 3) (hE : EndI Z) (k7 : Int32 → Int32 → Int32 → Wd → Option (Int32 × Wd)) (hk7 : ∀ (y1 : Int32) (y2 : Int32) (y3 : Int32)  (w : Wd), BW Z 9 7 [(0, .ref (ph (zY Z) 0)), (1, .int y1), (2, .int y2), (3, .int y3)] [] w (k7 y1 y2 y3 w)) : ∀ (y1 : Int32) (y2 : Int32) (y3 : Int32) (y5 : Int32) (y6 : Int32) (y7 : Int32)  (w : Wd), BW Z 9 68 [(0, .ref (ph (zY Z) 0)), (1, .int y1), (2, .int y2), (3, .int y3), (5, .int y5), (6, .int y6), (7, .int y7)] [] w (X12_leave_b68_L k7 y1 y2 y3 y5 y6 y7 w) :=
  lp_bw (fun k68 => ∀ (y1 : Int32) (y2 : Int32) (y3 : Int32) (y5 : Int32) (y6 : Int32) (y7 : Int32)  (w : Wd), BW Z 9 68 [(0, .ref (ph (zY Z) 0)), (1, .int y1), (2, .int y2), (3, .int y3), (5, .int y5), (6, .int y6), (7, .int y7)] [] w (k68 y1 y2 y3 y5 y6 y7 w)) (fun _ _ _ _ _ _ _ => bw_none) (fun k68 hk68 y1 y2 y3 y5 y6 y7 w => t_X12_leave_b68 hZ hE k7 hk7 k68 hk68 y1 y2 y3 y5 y6 y7 w) fu
def X12_leave_b7 (k7 : Int32 → Int32 → Int32 → Wd → Option (Int32 × Wd)) (y1 : Int32) (y2 : Int32) (y3 : Int32) (w : Wd) : Option (Int32 × Wd) :=
  if y3 < 0 then
  (some (0, w))
  else
  if inb ((6 * (w.1 0 88)) + y3) 4320 = true then
  (lt (w.1 43 (Int32.toNatClampNeg ((6 * (w.1 0 88)) + y3))) fun v4 =>
  if (w.1 0 49) ≤ v4 then
  (k7 y1 y2 (y3 + (-1)) w)
  else
  if inb y2 4 = true then
  (if (((w.1 46 (Int32.toNatClampNeg y2)) >>> (v4 &&& 31)) &&& 1) = 0 then
  (k7 y1 y2 (y3 + (-1)) w)
  else
  cl (f_X12_heirsIn v4 y2 w) fun r6 w5 =>
  X12_leave_b68_L k7 y1 y2 y3 r6 0 0 w5)
  else none)
  else none
set_option maxRecDepth 100000 in
set_option maxHeartbeats 4000000 in
theorem t_X12_leave_b7 {Z : Cz (Int32 × Wd)} (hZ : OKZ Z SM cX12_leave RX12 9 (some .boolean) 3) (hE : EndI Z) (k7 : Int32 → Int32 → Int32 → Wd → Option (Int32 × Wd)) (hk7 : ∀ (y1 : Int32) (y2 : Int32) (y3 : Int32)  (w : Wd), BW Z 9 7 [(0, .ref (ph (zY Z) 0)), (1, .int y1), (2, .int y2), (3, .int y3)] [] w (k7 y1 y2 y3 w)) (y1 : Int32) (y2 : Int32) (y3 : Int32)  (w : Wd) : BW Z 9 7 [(0, .ref (ph (zY Z) 0)), (1, .int y1), (2, .int y2), (3, .int y3)] [] w (X12_leave_b7 k7 y1 y2 y3 w) :=
  bw_iload_n hZ 3 rfl dX12_leave_7 <|
  bw_if_lt hZ (tgt := 176) (by decide) dX12_leave_8 (fun _ =>
  bw_iconst hZ 0 (by decide) dX12_leave_176 <|
  bw_zret hZ hE (by decide) dX12_leave_177) (fun _ =>
  bw_aload_n hZ 0 rfl dX12_leave_11 <|
  bw_getR hZ fl_RX12_339 obM_0 rfl dX12_leave_12 <|
  bw_bipush hZ 6 (by decide) dX12_leave_15 <|
  bw_aload_n hZ 0 rfl dX12_leave_17 <|
  bw_getI hZ fl_RX12_634 (by decide) obM_0 dX12_leave_18 <|
  bw_imul hZ dX12_leave_21 <|
  bw_iload_n hZ 3 rfl dX12_leave_22 <|
  bw_iadd hZ dX12_leave_23 <|
  bw_iald hZ (arM_43 _) dX12_leave_24 <|
  bw_nm fun v4 =>
  bw_istore hZ (by decide) rfl dX12_leave_25 <|
  bw_iload hZ 0 rfl dX12_leave_27 <|
  bw_aload_n hZ 1 rfl dX12_leave_29 <|
  bw_getI hZ fl_RX12_431 (by decide) obM_0 dX12_leave_30 <|
  bw_icmp_ge hZ (tgt := 170) (by decide) dX12_leave_33 (fun _ =>
  bw_iinc hZ (-1) 4 rfl (by decide) (by decide) rfl dX12_leave_170 <|
  bw_goto hZ (tgt := 7) (by decide) dX12_leave_173 <|
  bw_sub [2, 3, 4, 0] rfl (hk7 y1 y2 (y3 + (-1)) w)) (fun _ =>
  bw_aload_n hZ 1 rfl dX12_leave_36 <|
  bw_getR hZ fl_RX12_351 obM_0 rfl dX12_leave_37 <|
  bw_iload_n hZ 3 rfl dX12_leave_40 <|
  bw_iald hZ (arM_46 _) dX12_leave_41 <|
  bw_iload hZ 0 rfl dX12_leave_42 <|
  bw_ishr hZ dX12_leave_44 <|
  bw_iconst hZ 1 (by decide) dX12_leave_45 <|
  bw_iand hZ dX12_leave_46 <|
  bw_if_ne hZ (tgt := 53) (by decide) dX12_leave_47 (fun _ =>
  bw_aload_n hZ 1 rfl dX12_leave_53 <|
  bw_iload hZ 0 rfl dX12_leave_54 <|
  bw_iload_n hZ 3 rfl dX12_leave_56 <|
  bw_callVI (As := [.int v4, .int y2]) hZ ml_RX12_646 rc_12 obM_0 (by decide) (c_X12_heirsIn (zl Z) (zY Z) (hZ_S hZ) v4 y2 w) rfl rfl (Nat.le_of_ble_eq_true rfl) dX12_leave_57 fun r6 w5 =>
  bw_istore hZ (by decide) rfl dX12_leave_60 <|
  bw_iconst hZ 0 (by decide) dX12_leave_62 <|
  bw_istore hZ (by decide) rfl dX12_leave_63 <|
  bw_iconst hZ 0 (by decide) dX12_leave_65 <|
  bw_istore hZ (by decide) rfl dX12_leave_66 <|
  bw_sub [4, 5, 6, 7, 2, 1, 0] rfl (t_X12_leave_b68_L hZ hE k7 hk7 y1 y2 y3 r6 0 0 w5)) (fun _ =>
  bw_goto hZ (tgt := 170) (by decide) dX12_leave_50 <|
  bw_iinc hZ (-1) 4 rfl (by decide) (by decide) rfl dX12_leave_170 <|
  bw_goto hZ (tgt := 7) (by decide) dX12_leave_173 <|
  bw_sub [2, 3, 4, 0] rfl (hk7 y1 y2 (y3 + (-1)) w))))
def X12_leave_b7_L  : Int32 → Int32 → Int32 → Wd → Option (Int32 × Wd) :=
  lp fu (fun _ _ _ _ => none) (fun k7 => X12_leave_b7 k7)
theorem t_X12_leave_b7_L {Z : Cz (Int32 × Wd)} (hZ : OKZ Z SM cX12_leave RX12 9 (some .boolean) 3) (hE : EndI Z)  : ∀ (y1 : Int32) (y2 : Int32) (y3 : Int32)  (w : Wd), BW Z 9 7 [(0, .ref (ph (zY Z) 0)), (1, .int y1), (2, .int y2), (3, .int y3)] [] w (X12_leave_b7_L y1 y2 y3 w) :=
  lp_bw (fun k7 => ∀ (y1 : Int32) (y2 : Int32) (y3 : Int32)  (w : Wd), BW Z 9 7 [(0, .ref (ph (zY Z) 0)), (1, .int y1), (2, .int y2), (3, .int y3)] [] w (k7 y1 y2 y3 w)) (fun _ _ _ _ => bw_none) (fun k7 hk7 y1 y2 y3 w => t_X12_leave_b7 hZ hE k7 hk7 y1 y2 y3 w) fu
def f_X12_leave (x1 : Int32) (x2 : Int32) (w : Wd) : Option (Int32 × Wd) :=
  cl (f_X12_items w) fun r2 w1 =>
  lt (r2 - 1) fun v3 =>
  X12_leave_b7_L x1 x2 v3 w1
set_option maxRecDepth 100000 in
set_option maxHeartbeats 4000000 in
theorem t_X12_leave {Z : Cz (Int32 × Wd)} (hZ : OKZ Z SM cX12_leave RX12 9 (some .boolean) 3) (hE : EndI Z) (x1 : Int32) (x2 : Int32)  (w : Wd) : BW Z 9 0 [(0, .ref (ph (zY Z) 0)), (1, .int x1), (2, .int x2)] [] w (f_X12_leave x1 x2 w) :=
  bw_aload_n hZ 0 rfl dX12_leave_0 <|
  bw_callVI (As := []) hZ ml_RX12_552 rc_12 obM_0 (by decide) (c_X12_items (zl Z) (zY Z) (hZ_S hZ) w) rfl rfl (Nat.le_of_ble_eq_true rfl) dX12_leave_1 fun r2 w1 =>
  bw_iconst hZ 1 (by decide) dX12_leave_4 <|
  bw_isub hZ dX12_leave_5 <|
  bw_nm fun v3 =>
  bw_istore_n hZ rfl (by decide) rfl dX12_leave_6 <|
  bw_sub [1, 2, 3, 0] rfl (t_X12_leave_b7_L hZ hE x1 x2 v3 w1)
theorem c_X12_leave (l : Launch) (Y : Ev) (hY : Y.1 = SM) (x1 : Int32) (x2 : Int32)  (w : Wd) : CI l Y yX12_leave cX12_leave 9 3 [.ref (ph Y 0), .int x1, .int x2] w .boolean (f_X12_leave x1 x2 w) := by
  refine CI_of (S := SM) (by decide) (Nat.le_of_ble_eq_true rfl) hY ?_
  intro Z hl hY2 hZ hE
  subst hY2
  exact t_X12_leave hZ hE x1 x2 w
-- WhichWillModel.isStem
theorem dX12_isStem_0 : decode cX12_isStem 0 = .ok (.aload_n 0, 1) := by decide +kernel
theorem dX12_isStem_1 : decode cX12_isStem 1 = .ok (.getfield 258, 3) := by decide +kernel
theorem dX12_isStem_4 : decode cX12_isStem 4 = .ok (.iload_n 1, 1) := by decide +kernel
theorem dX12_isStem_5 : decode cX12_isStem 5 = .ok (.baload, 1) := by decide +kernel
theorem dX12_isStem_6 : decode cX12_isStem 6 = .ok (.ifCond .ne 7, 3) := by decide +kernel
theorem dX12_isStem_9 : decode cX12_isStem 9 = .ok (.iconst 1, 1) := by decide +kernel
theorem dX12_isStem_10 : decode cX12_isStem 10 = .ok (.goto 4, 3) := by decide +kernel
theorem dX12_isStem_13 : decode cX12_isStem 13 = .ok (.iconst 0, 1) := by decide +kernel
theorem dX12_isStem_14 : decode cX12_isStem 14 = .ok (.istore_n 2, 1) := by decide +kernel
theorem dX12_isStem_15 : decode cX12_isStem 15 = .ok (.iload_n 1, 1) := by decide +kernel
theorem dX12_isStem_16 : decode cX12_isStem 16 = .ok (.iconst 1, 1) := by decide +kernel
theorem dX12_isStem_17 : decode cX12_isStem 17 = .ok (.iadd, 1) := by decide +kernel
theorem dX12_isStem_18 : decode cX12_isStem 18 = .ok (.istore_n 3, 1) := by decide +kernel
theorem dX12_isStem_19 : decode cX12_isStem 19 = .ok (.iload_n 3, 1) := by decide +kernel
theorem dX12_isStem_20 : decode cX12_isStem 20 = .ok (.aload_n 0, 1) := by decide +kernel
theorem dX12_isStem_21 : decode cX12_isStem 21 = .ok (.getfield 412, 3) := by decide +kernel
theorem dX12_isStem_24 : decode cX12_isStem 24 = .ok (.if_icmp .ge 37, 3) := by decide +kernel
theorem dX12_isStem_27 : decode cX12_isStem 27 = .ok (.iload_n 2, 1) := by decide +kernel
theorem dX12_isStem_28 : decode cX12_isStem 28 = .ok (.ifCond .ne 33, 3) := by decide +kernel
theorem dX12_isStem_31 : decode cX12_isStem 31 = .ok (.aload_n 0, 1) := by decide +kernel
theorem dX12_isStem_32 : decode cX12_isStem 32 = .ok (.getfield 249, 3) := by decide +kernel
theorem dX12_isStem_35 : decode cX12_isStem 35 = .ok (.iload_n 3, 1) := by decide +kernel
theorem dX12_isStem_36 : decode cX12_isStem 36 = .ok (.iaload, 1) := by decide +kernel
theorem dX12_isStem_37 : decode cX12_isStem 37 = .ok (.iload_n 1, 1) := by decide +kernel
theorem dX12_isStem_38 : decode cX12_isStem 38 = .ok (.if_icmp .ne 15, 3) := by decide +kernel
theorem dX12_isStem_41 : decode cX12_isStem 41 = .ok (.aload_n 0, 1) := by decide +kernel
theorem dX12_isStem_42 : decode cX12_isStem 42 = .ok (.iload_n 3, 1) := by decide +kernel
theorem dX12_isStem_43 : decode cX12_isStem 43 = .ok (.invokevirtual 649, 3) := by decide +kernel
theorem dX12_isStem_46 : decode cX12_isStem 46 = .ok (.ifCond .eq 7, 3) := by decide +kernel
theorem dX12_isStem_49 : decode cX12_isStem 49 = .ok (.iconst 1, 1) := by decide +kernel
theorem dX12_isStem_50 : decode cX12_isStem 50 = .ok (.goto 4, 3) := by decide +kernel
theorem dX12_isStem_53 : decode cX12_isStem 53 = .ok (.iconst 0, 1) := by decide +kernel
theorem dX12_isStem_54 : decode cX12_isStem 54 = .ok (.istore_n 2, 1) := by decide +kernel
theorem dX12_isStem_55 : decode cX12_isStem 55 = .ok (.iinc 3 1, 3) := by decide +kernel
theorem dX12_isStem_58 : decode cX12_isStem 58 = .ok (.goto (-39), 3) := by decide +kernel
theorem dX12_isStem_61 : decode cX12_isStem 61 = .ok (.iload_n 2, 1) := by decide +kernel
theorem dX12_isStem_62 : decode cX12_isStem 62 = .ok (.ireturn, 1) := by decide +kernel
def X12_isStem_b19 (rec : Int32 → Wd → Option (Int32 × Wd)) (k19 : Int32 → Int32 → Int32 → Wd → Option (Int32 × Wd)) (y1 : Int32) (y2 : Int32) (y3 : Int32) (w : Wd) : Option (Int32 × Wd) :=
  if (w.1 0 11) ≤ y3 then
  (if isB y2 = true then some (y2, w) else none)
  else
  if y2 = 0 then
  (if inb y3 8 = true then
  (if (w.1 4 (Int32.toNatClampNeg y3)) = y1 then
  (cl (rec y3 w) fun r3 w2 =>
  if r3 = 0 then
  (k19 y1 0 (y3 + 1) w2)
  else
  k19 y1 1 (y3 + 1) w2)
  else
  k19 y1 0 (y3 + 1) w)
  else none)
  else
  if isB y2 = true then some (y2, w) else none
set_option maxRecDepth 100000 in
set_option maxHeartbeats 4000000 in
theorem t_X12_isStem_b19 {dd d2 : Nat} {Z : Cz (Int32 × Wd)} (hZ : OKZ Z SM cX12_isStem RX12 4 (some .boolean) dd) (hE : EndI Z) (rec : Int32 → Wd → Option (Int32 × Wd)) (hdd : 1 ≤ dd) (hd2 : d2 < dd) (hrec : ∀ (x1 : Int32)  (w : Wd), CI (zl Z) (zY Z) yX12_isStem cX12_isStem 4 d2 [.ref (ph (zY Z) 0), .int x1] w .boolean (rec x1 w)) (k19 : Int32 → Int32 → Int32 → Wd → Option (Int32 × Wd)) (hk19 : ∀ (y1 : Int32) (y2 : Int32) (y3 : Int32)  (w : Wd), BW Z 4 19 [(0, .ref (ph (zY Z) 0)), (1, .int y1), (2, .int y2), (3, .int y3)] [] w (k19 y1 y2 y3 w)) (y1 : Int32) (y2 : Int32) (y3 : Int32)  (w : Wd) : BW Z 4 19 [(0, .ref (ph (zY Z) 0)), (1, .int y1), (2, .int y2), (3, .int y3)] [] w (X12_isStem_b19 rec k19 y1 y2 y3 w) :=
  bw_iload_n hZ 3 rfl dX12_isStem_19 <|
  bw_aload_n hZ 0 rfl dX12_isStem_20 <|
  bw_getI hZ fl_RX12_412 (by decide) obM_0 dX12_isStem_21 <|
  bw_icmp_ge hZ (tgt := 61) (by decide) dX12_isStem_24 (fun _ =>
  bw_iload_n hZ 2 rfl dX12_isStem_61 <|
  bw_zretC hZ hE dX12_isStem_62) (fun _ =>
  bw_iload_n hZ 2 rfl dX12_isStem_27 <|
  bw_if_ne hZ (tgt := 61) (by decide) dX12_isStem_28 (fun _ =>
  bw_iload_n hZ 2 rfl dX12_isStem_61 <|
  bw_zretC hZ hE dX12_isStem_62) (fun _ =>
  bw_aload_n hZ 0 rfl dX12_isStem_31 <|
  bw_getR hZ fl_RX12_249 obM_0 rfl dX12_isStem_32 <|
  bw_iload_n hZ 3 rfl dX12_isStem_35 <|
  bw_iald hZ (arM_4 _) dX12_isStem_36 <|
  bw_iload_n hZ 1 rfl dX12_isStem_37 <|
  bw_icmp_ne hZ (tgt := 53) (by decide) dX12_isStem_38 (fun _ =>
  bw_iconst hZ 0 (by decide) dX12_isStem_53 <|
  bw_istore_n hZ rfl (by decide) rfl dX12_isStem_54 <|
  bw_iinc hZ 1 3 rfl (by decide) (by decide) rfl dX12_isStem_55 <|
  bw_goto hZ (tgt := 19) (by decide) dX12_isStem_58 <|
  bw_sub [2, 3, 1, 0] rfl (hk19 y1 0 (y3 + 1) w)) (fun _ =>
  bw_aload_n hZ 0 rfl dX12_isStem_41 <|
  bw_iload_n hZ 3 rfl dX12_isStem_42 <|
  bw_callVI (As := [.int y3]) hZ ml_RX12_649 rc_12 obM_0 hd2 (hrec y3 w) rfl rfl (Nat.le_of_ble_eq_true rfl) dX12_isStem_43 fun r3 w2 =>
  bw_if_eq hZ (tgt := 53) (by decide) dX12_isStem_46 (fun _ =>
  bw_iconst hZ 0 (by decide) dX12_isStem_53 <|
  bw_istore_n hZ rfl (by decide) rfl dX12_isStem_54 <|
  bw_iinc hZ 1 3 rfl (by decide) (by decide) rfl dX12_isStem_55 <|
  bw_goto hZ (tgt := 19) (by decide) dX12_isStem_58 <|
  bw_sub [2, 3, 1, 0] rfl (hk19 y1 0 (y3 + 1) w2)) (fun _ =>
  bw_iconst hZ 1 (by decide) dX12_isStem_49 <|
  bw_goto hZ (tgt := 54) (by decide) dX12_isStem_50 <|
  bw_istore_n hZ rfl (by decide) rfl dX12_isStem_54 <|
  bw_iinc hZ 1 3 rfl (by decide) (by decide) rfl dX12_isStem_55 <|
  bw_goto hZ (tgt := 19) (by decide) dX12_isStem_58 <|
  bw_sub [2, 3, 1, 0] rfl (hk19 y1 1 (y3 + 1) w2)))))
def X12_isStem_b19_L (rec : Int32 → Wd → Option (Int32 × Wd)) : Int32 → Int32 → Int32 → Wd → Option (Int32 × Wd) :=
  lp fu (fun _ _ _ _ => none) (fun k19 => X12_isStem_b19 rec k19)
theorem t_X12_isStem_b19_L {dd d2 : Nat} {Z : Cz (Int32 × Wd)} (hZ : OKZ Z SM cX12_isStem RX12 4 (some .boolean) dd) (hE : EndI Z) (rec : Int32 → Wd → Option (Int32 × Wd)) (hdd : 1 ≤ dd) (hd2 : d2 < dd) (hrec : ∀ (x1 : Int32)  (w : Wd), CI (zl Z) (zY Z) yX12_isStem cX12_isStem 4 d2 [.ref (ph (zY Z) 0), .int x1] w .boolean (rec x1 w))  : ∀ (y1 : Int32) (y2 : Int32) (y3 : Int32)  (w : Wd), BW Z 4 19 [(0, .ref (ph (zY Z) 0)), (1, .int y1), (2, .int y2), (3, .int y3)] [] w (X12_isStem_b19_L rec y1 y2 y3 w) :=
  lp_bw (fun k19 => ∀ (y1 : Int32) (y2 : Int32) (y3 : Int32)  (w : Wd), BW Z 4 19 [(0, .ref (ph (zY Z) 0)), (1, .int y1), (2, .int y2), (3, .int y3)] [] w (k19 y1 y2 y3 w)) (fun _ _ _ _ => bw_none) (fun k19 hk19 y1 y2 y3 w => t_X12_isStem_b19 hZ hE rec hdd hd2 hrec k19 hk19 y1 y2 y3 w) fu
def X12_isStem_b14 (rec : Int32 → Wd → Option (Int32 × Wd)) (y1 : Int32) (t0 : Int32) (w : Wd) : Option (Int32 × Wd) :=
  lt (y1 + 1) fun v1 =>
  X12_isStem_b19_L rec y1 t0 v1 w
set_option maxRecDepth 100000 in
set_option maxHeartbeats 4000000 in
theorem t_X12_isStem_b14 {dd d2 : Nat} {Z : Cz (Int32 × Wd)} (hZ : OKZ Z SM cX12_isStem RX12 4 (some .boolean) dd) (hE : EndI Z) (rec : Int32 → Wd → Option (Int32 × Wd)) (hdd : 1 ≤ dd) (hd2 : d2 < dd) (hrec : ∀ (x1 : Int32)  (w : Wd), CI (zl Z) (zY Z) yX12_isStem cX12_isStem 4 d2 [.ref (ph (zY Z) 0), .int x1] w .boolean (rec x1 w))  (y1 : Int32) (t0 : Int32)  (w : Wd) : BW Z 4 14 [(0, .ref (ph (zY Z) 0)), (1, .int y1)] [.int t0] w (X12_isStem_b14 rec y1 t0 w) :=
  bw_istore_n hZ rfl (by decide) rfl dX12_isStem_14 <|
  bw_iload_n hZ 2 rfl dX12_isStem_15 <|
  bw_iconst hZ 1 (by decide) dX12_isStem_16 <|
  bw_iadd hZ dX12_isStem_17 <|
  bw_nm fun v1 =>
  bw_istore_n hZ rfl (by decide) rfl dX12_isStem_18 <|
  bw_sub [2, 3, 1, 0] rfl (t_X12_isStem_b19_L hZ hE rec hdd hd2 hrec y1 t0 v1 w)
def X12_isStem_body (rec : Int32 → Wd → Option (Int32 × Wd)) (x1 : Int32) (w : Wd) : Option (Int32 × Wd) :=
  if inb x1 8 = true then
  (if (w.1 7 (Int32.toNatClampNeg x1)) = 0 then
  (X12_isStem_b14 rec x1 1 w)
  else
  X12_isStem_b14 rec x1 0 w)
  else none
set_option maxRecDepth 100000 in
set_option maxHeartbeats 4000000 in
theorem t_X12_isStem_body {dd d2 : Nat} {Z : Cz (Int32 × Wd)} (hZ : OKZ Z SM cX12_isStem RX12 4 (some .boolean) dd) (hE : EndI Z) (rec : Int32 → Wd → Option (Int32 × Wd)) (hdd : 1 ≤ dd) (hd2 : d2 < dd) (hrec : ∀ (x1 : Int32)  (w : Wd), CI (zl Z) (zY Z) yX12_isStem cX12_isStem 4 d2 [.ref (ph (zY Z) 0), .int x1] w .boolean (rec x1 w)) (x1 : Int32)  (w : Wd) : BW Z 4 0 [(0, .ref (ph (zY Z) 0)), (1, .int x1)] [] w (X12_isStem_body rec x1 w) :=
  bw_aload_n hZ 0 rfl dX12_isStem_0 <|
  bw_getR hZ fl_RX12_258 obM_0 rfl dX12_isStem_1 <|
  bw_iload_n hZ 1 rfl dX12_isStem_4 <|
  bw_zald hZ (arM_7 _) dX12_isStem_5 <|
  bw_if_ne hZ (tgt := 13) (by decide) dX12_isStem_6 (fun _ =>
  bw_iconst hZ 0 (by decide) dX12_isStem_13 <|
  bw_sub [0, 1] rfl (t_X12_isStem_b14 hZ hE rec hdd hd2 hrec x1 0 w)) (fun _ =>
  bw_iconst hZ 1 (by decide) dX12_isStem_9 <|
  bw_goto hZ (tgt := 14) (by decide) dX12_isStem_10 <|
  bw_sub [0, 1] rfl (t_X12_isStem_b14 hZ hE rec hdd hd2 hrec x1 1 w))
def f_X12_isStem_n (n : Nat) : Int32 → Wd → Option (Int32 × Wd) :=
  lp n (fun _ _ => none) (fun rec => X12_isStem_body rec)
set_option maxRecDepth 100000 in
theorem c_X12_isStem_n (l : Launch) (Y : Ev) (hY : Y.1 = SM) (n : Nat) : ∀ (x1 : Int32)  (w : Wd), CI l Y yX12_isStem cX12_isStem 4 (1 + n) [.ref (ph Y 0), .int x1] w .boolean (f_X12_isStem_n n x1 w) := by
  induction n with
  | zero => intro x1 w r hr; cases hr
  | succ n ih =>
    intro x1 w
    refine CI_of (S := SM) (by decide) (Nat.le_of_ble_eq_true rfl) hY ?_
    intro Z hl hY2 hZ hE
    subst hY2
    subst hl
    exact t_X12_isStem_body hZ hE (f_X12_isStem_n n) (by omega) (d2 := 1 + n) (by omega) ih x1 w
def f_X12_isStem : Int32 → Wd → Option (Int32 × Wd) := f_X12_isStem_n 9
theorem c_X12_isStem (l : Launch) (Y : Ev) (hY : Y.1 = SM) (x1 : Int32)  (w : Wd) : CI l Y yX12_isStem cX12_isStem 4 10 [.ref (ph Y 0), .int x1] w .boolean (f_X12_isStem x1 w) := c_X12_isStem_n l Y hY 9 x1 w
-- WhichWillModel.isStemOf
theorem dX12_isStemOf_0 : decode cX12_isStemOf 0 = .ok (.iload_n 2, 1) := by decide +kernel
theorem dX12_isStemOf_1 : decode cX12_isStemOf 1 = .ok (.iconst (-1), 1) := by decide +kernel
theorem dX12_isStemOf_2 : decode cX12_isStemOf 2 = .ok (.if_icmp .ne 16, 3) := by decide +kernel
theorem dX12_isStemOf_5 : decode cX12_isStemOf 5 = .ok (.aload_n 0, 1) := by decide +kernel
theorem dX12_isStemOf_6 : decode cX12_isStemOf 6 = .ok (.getfield 246, 3) := by decide +kernel
theorem dX12_isStemOf_9 : decode cX12_isStemOf 9 = .ok (.iload_n 1, 1) := by decide +kernel
theorem dX12_isStemOf_10 : decode cX12_isStemOf 10 = .ok (.iaload, 1) := by decide +kernel
theorem dX12_isStemOf_11 : decode cX12_isStemOf 11 = .ok (.iconst 1, 1) := by decide +kernel
theorem dX12_isStemOf_12 : decode cX12_isStemOf 12 = .ok (.if_icmp .ne 28, 3) := by decide +kernel
theorem dX12_isStemOf_15 : decode cX12_isStemOf 15 = .ok (.goto 13, 3) := by decide +kernel
theorem dX12_isStemOf_18 : decode cX12_isStemOf 18 = .ok (.aload_n 0, 1) := by decide +kernel
theorem dX12_isStemOf_19 : decode cX12_isStemOf 19 = .ok (.getfield 249, 3) := by decide +kernel
theorem dX12_isStemOf_22 : decode cX12_isStemOf 22 = .ok (.iload_n 1, 1) := by decide +kernel
theorem dX12_isStemOf_23 : decode cX12_isStemOf 23 = .ok (.iaload, 1) := by decide +kernel
theorem dX12_isStemOf_24 : decode cX12_isStemOf 24 = .ok (.iload_n 2, 1) := by decide +kernel
theorem dX12_isStemOf_25 : decode cX12_isStemOf 25 = .ok (.if_icmp .ne 15, 3) := by decide +kernel
theorem dX12_isStemOf_28 : decode cX12_isStemOf 28 = .ok (.aload_n 0, 1) := by decide +kernel
theorem dX12_isStemOf_29 : decode cX12_isStemOf 29 = .ok (.iload_n 1, 1) := by decide +kernel
theorem dX12_isStemOf_30 : decode cX12_isStemOf 30 = .ok (.invokevirtual 649, 3) := by decide +kernel
theorem dX12_isStemOf_33 : decode cX12_isStemOf 33 = .ok (.ifCond .eq 7, 3) := by decide +kernel
theorem dX12_isStemOf_36 : decode cX12_isStemOf 36 = .ok (.iconst 1, 1) := by decide +kernel
theorem dX12_isStemOf_37 : decode cX12_isStemOf 37 = .ok (.goto 4, 3) := by decide +kernel
theorem dX12_isStemOf_40 : decode cX12_isStemOf 40 = .ok (.iconst 0, 1) := by decide +kernel
theorem dX12_isStemOf_41 : decode cX12_isStemOf 41 = .ok (.ireturn, 1) := by decide +kernel
def X12_isStemOf_b28 (y1 : Int32) (w : Wd) : Option (Int32 × Wd) :=
  cl (f_X12_isStem y1 w) fun r2 w1 =>
  if r2 = 0 then
  (some (0, w1))
  else
  some (1, w1)
set_option maxRecDepth 100000 in
set_option maxHeartbeats 4000000 in
theorem t_X12_isStemOf_b28 {Z : Cz (Int32 × Wd)} (hZ : OKZ Z SM cX12_isStemOf RX12 3 (some .boolean) 11) (hE : EndI Z)  (y1 : Int32)  (w : Wd) : BW Z 3 28 [(0, .ref (ph (zY Z) 0)), (1, .int y1)] [] w (X12_isStemOf_b28 y1 w) :=
  bw_aload_n hZ 0 rfl dX12_isStemOf_28 <|
  bw_iload_n hZ 1 rfl dX12_isStemOf_29 <|
  bw_callVI (As := [.int y1]) hZ ml_RX12_649 rc_12 obM_0 (by decide) (c_X12_isStem (zl Z) (zY Z) (hZ_S hZ) y1 w) rfl rfl (Nat.le_of_ble_eq_true rfl) dX12_isStemOf_30 fun r2 w1 =>
  bw_if_eq hZ (tgt := 40) (by decide) dX12_isStemOf_33 (fun _ =>
  bw_iconst hZ 0 (by decide) dX12_isStemOf_40 <|
  bw_zret hZ hE (by decide) dX12_isStemOf_41) (fun _ =>
  bw_iconst hZ 1 (by decide) dX12_isStemOf_36 <|
  bw_goto hZ (tgt := 41) (by decide) dX12_isStemOf_37 <|
  bw_zret hZ hE (by decide) dX12_isStemOf_41)
def f_X12_isStemOf (x1 : Int32) (x2 : Int32) (w : Wd) : Option (Int32 × Wd) :=
  if x2 = ((-1)) then
  (if inb x1 8 = true then
  (if (w.1 3 (Int32.toNatClampNeg x1)) = 1 then
  (X12_isStemOf_b28 x1 w)
  else
  some (0, w))
  else none)
  else
  if inb x1 8 = true then
  (if (w.1 4 (Int32.toNatClampNeg x1)) = x2 then
  (X12_isStemOf_b28 x1 w)
  else
  some (0, w))
  else none
set_option maxRecDepth 100000 in
set_option maxHeartbeats 4000000 in
theorem t_X12_isStemOf {Z : Cz (Int32 × Wd)} (hZ : OKZ Z SM cX12_isStemOf RX12 3 (some .boolean) 11) (hE : EndI Z) (x1 : Int32) (x2 : Int32)  (w : Wd) : BW Z 3 0 [(0, .ref (ph (zY Z) 0)), (1, .int x1), (2, .int x2)] [] w (f_X12_isStemOf x1 x2 w) :=
  bw_iload_n hZ 2 rfl dX12_isStemOf_0 <|
  bw_iconst hZ (-1) (by decide) dX12_isStemOf_1 <|
  bw_icmp_ne hZ (tgt := 18) (by decide) dX12_isStemOf_2 (fun _ =>
  bw_aload_n hZ 0 rfl dX12_isStemOf_18 <|
  bw_getR hZ fl_RX12_249 obM_0 rfl dX12_isStemOf_19 <|
  bw_iload_n hZ 1 rfl dX12_isStemOf_22 <|
  bw_iald hZ (arM_4 _) dX12_isStemOf_23 <|
  bw_iload_n hZ 2 rfl dX12_isStemOf_24 <|
  bw_icmp_ne hZ (tgt := 40) (by decide) dX12_isStemOf_25 (fun _ =>
  bw_iconst hZ 0 (by decide) dX12_isStemOf_40 <|
  bw_zret hZ hE (by decide) dX12_isStemOf_41) (fun _ =>
  bw_sub [0, 1] rfl (t_X12_isStemOf_b28 hZ hE x1 w))) (fun _ =>
  bw_aload_n hZ 0 rfl dX12_isStemOf_5 <|
  bw_getR hZ fl_RX12_246 obM_0 rfl dX12_isStemOf_6 <|
  bw_iload_n hZ 1 rfl dX12_isStemOf_9 <|
  bw_iald hZ (arM_3 _) dX12_isStemOf_10 <|
  bw_iconst hZ 1 (by decide) dX12_isStemOf_11 <|
  bw_icmp_ne hZ (tgt := 40) (by decide) dX12_isStemOf_12 (fun _ =>
  bw_iconst hZ 0 (by decide) dX12_isStemOf_40 <|
  bw_zret hZ hE (by decide) dX12_isStemOf_41) (fun _ =>
  bw_goto hZ (tgt := 28) (by decide) dX12_isStemOf_15 <|
  bw_sub [0, 1] rfl (t_X12_isStemOf_b28 hZ hE x1 w)))
theorem c_X12_isStemOf (l : Launch) (Y : Ev) (hY : Y.1 = SM) (x1 : Int32) (x2 : Int32)  (w : Wd) : CI l Y yX12_isStemOf cX12_isStemOf 3 11 [.ref (ph Y 0), .int x1, .int x2] w .boolean (f_X12_isStemOf x1 x2 w) := by
  refine CI_of (S := SM) (by decide) (Nat.le_of_ble_eq_true rfl) hY ?_
  intro Z hl hY2 hZ hE
  subst hY2
  exact t_X12_isStemOf hZ hE x1 x2 w
-- WhichWillModel.toStems
theorem dX12_toStems_0 : decode cX12_toStems 0 = .ok (.iconst 0, 1) := by decide +kernel
theorem dX12_toStems_1 : decode cX12_toStems 1 = .ok (.istore_n 3, 1) := by decide +kernel
theorem dX12_toStems_2 : decode cX12_toStems 2 = .ok (.iconst 0, 1) := by decide +kernel
theorem dX12_toStems_3 : decode cX12_toStems 3 = .ok (.istore 4, 2) := by decide +kernel
theorem dX12_toStems_5 : decode cX12_toStems 5 = .ok (.iload 4, 2) := by decide +kernel
theorem dX12_toStems_7 : decode cX12_toStems 7 = .ok (.aload_n 0, 1) := by decide +kernel
theorem dX12_toStems_8 : decode cX12_toStems 8 = .ok (.getfield 412, 3) := by decide +kernel
theorem dX12_toStems_11 : decode cX12_toStems 11 = .ok (.if_icmp .ge 27, 3) := by decide +kernel
theorem dX12_toStems_14 : decode cX12_toStems 14 = .ok (.iload_n 3, 1) := by decide +kernel
theorem dX12_toStems_15 : decode cX12_toStems 15 = .ok (.aload_n 0, 1) := by decide +kernel
theorem dX12_toStems_16 : decode cX12_toStems 16 = .ok (.iload 4, 2) := by decide +kernel
theorem dX12_toStems_18 : decode cX12_toStems 18 = .ok (.iload_n 1, 1) := by decide +kernel
theorem dX12_toStems_19 : decode cX12_toStems 19 = .ok (.invokevirtual 652, 3) := by decide +kernel
theorem dX12_toStems_22 : decode cX12_toStems 22 = .ok (.ifCond .eq 7, 3) := by decide +kernel
theorem dX12_toStems_25 : decode cX12_toStems 25 = .ok (.iconst 1, 1) := by decide +kernel
theorem dX12_toStems_26 : decode cX12_toStems 26 = .ok (.goto 4, 3) := by decide +kernel
theorem dX12_toStems_29 : decode cX12_toStems 29 = .ok (.iconst 0, 1) := by decide +kernel
theorem dX12_toStems_30 : decode cX12_toStems 30 = .ok (.iadd, 1) := by decide +kernel
theorem dX12_toStems_31 : decode cX12_toStems 31 = .ok (.istore_n 3, 1) := by decide +kernel
theorem dX12_toStems_32 : decode cX12_toStems 32 = .ok (.iinc 4 1, 3) := by decide +kernel
theorem dX12_toStems_35 : decode cX12_toStems 35 = .ok (.goto (-30), 3) := by decide +kernel
theorem dX12_toStems_38 : decode cX12_toStems 38 = .ok (.iload_n 3, 1) := by decide +kernel
theorem dX12_toStems_39 : decode cX12_toStems 39 = .ok (.ifCond .ne 5, 3) := by decide +kernel
theorem dX12_toStems_42 : decode cX12_toStems 42 = .ok (.iconst 0, 1) := by decide +kernel
theorem dX12_toStems_43 : decode cX12_toStems 43 = .ok (.ireturn, 1) := by decide +kernel
theorem dX12_toStems_44 : decode cX12_toStems 44 = .ok (.iload_n 2, 1) := by decide +kernel
theorem dX12_toStems_45 : decode cX12_toStems 45 = .ok (.iload_n 3, 1) := by decide +kernel
theorem dX12_toStems_46 : decode cX12_toStems 46 = .ok (.irem, 1) := by decide +kernel
theorem dX12_toStems_47 : decode cX12_toStems 47 = .ok (.istore 4, 2) := by decide +kernel
theorem dX12_toStems_49 : decode cX12_toStems 49 = .ok (.iconst 0, 1) := by decide +kernel
theorem dX12_toStems_50 : decode cX12_toStems 50 = .ok (.istore 5, 2) := by decide +kernel
theorem dX12_toStems_52 : decode cX12_toStems 52 = .ok (.iload 5, 2) := by decide +kernel
theorem dX12_toStems_54 : decode cX12_toStems 54 = .ok (.aload_n 0, 1) := by decide +kernel
theorem dX12_toStems_55 : decode cX12_toStems 55 = .ok (.getfield 412, 3) := by decide +kernel
theorem dX12_toStems_58 : decode cX12_toStems 58 = .ok (.if_icmp .ge 75, 3) := by decide +kernel
theorem dX12_toStems_61 : decode cX12_toStems 61 = .ok (.aload_n 0, 1) := by decide +kernel
theorem dX12_toStems_62 : decode cX12_toStems 62 = .ok (.iload 5, 2) := by decide +kernel
theorem dX12_toStems_64 : decode cX12_toStems 64 = .ok (.iload_n 1, 1) := by decide +kernel
theorem dX12_toStems_65 : decode cX12_toStems 65 = .ok (.invokevirtual 652, 3) := by decide +kernel
theorem dX12_toStems_68 : decode cX12_toStems 68 = .ok (.ifCond .ne 6, 3) := by decide +kernel
theorem dX12_toStems_71 : decode cX12_toStems 71 = .ok (.goto 56, 3) := by decide +kernel
theorem dX12_toStems_74 : decode cX12_toStems 74 = .ok (.iload_n 2, 1) := by decide +kernel
theorem dX12_toStems_75 : decode cX12_toStems 75 = .ok (.iload_n 3, 1) := by decide +kernel
theorem dX12_toStems_76 : decode cX12_toStems 76 = .ok (.idiv, 1) := by decide +kernel
theorem dX12_toStems_77 : decode cX12_toStems 77 = .ok (.iload 4, 2) := by decide +kernel
theorem dX12_toStems_79 : decode cX12_toStems 79 = .ok (.ifCond .le 7, 3) := by decide +kernel
theorem dX12_toStems_82 : decode cX12_toStems 82 = .ok (.iconst 1, 1) := by decide +kernel
theorem dX12_toStems_83 : decode cX12_toStems 83 = .ok (.goto 4, 3) := by decide +kernel
theorem dX12_toStems_86 : decode cX12_toStems 86 = .ok (.iconst 0, 1) := by decide +kernel
theorem dX12_toStems_87 : decode cX12_toStems 87 = .ok (.iadd, 1) := by decide +kernel
theorem dX12_toStems_88 : decode cX12_toStems 88 = .ok (.istore 6, 2) := by decide +kernel
theorem dX12_toStems_90 : decode cX12_toStems 90 = .ok (.iinc 4 (-1), 3) := by decide +kernel
theorem dX12_toStems_93 : decode cX12_toStems 93 = .ok (.aload_n 0, 1) := by decide +kernel
theorem dX12_toStems_94 : decode cX12_toStems 94 = .ok (.getfield 258, 3) := by decide +kernel
theorem dX12_toStems_97 : decode cX12_toStems 97 = .ok (.iload 5, 2) := by decide +kernel
theorem dX12_toStems_99 : decode cX12_toStems 99 = .ok (.baload, 1) := by decide +kernel
theorem dX12_toStems_100 : decode cX12_toStems 100 = .ok (.ifCond .eq 15, 3) := by decide +kernel
theorem dX12_toStems_103 : decode cX12_toStems 103 = .ok (.aload_n 0, 1) := by decide +kernel
theorem dX12_toStems_104 : decode cX12_toStems 104 = .ok (.iload 5, 2) := by decide +kernel
theorem dX12_toStems_106 : decode cX12_toStems 106 = .ok (.iload 6, 2) := by decide +kernel
theorem dX12_toStems_108 : decode cX12_toStems 108 = .ok (.invokevirtual 655, 3) := by decide +kernel
theorem dX12_toStems_111 : decode cX12_toStems 111 = .ok (.pop, 1) := by decide +kernel
theorem dX12_toStems_112 : decode cX12_toStems 112 = .ok (.goto 15, 3) := by decide +kernel
theorem dX12_toStems_115 : decode cX12_toStems 115 = .ok (.aload_n 0, 1) := by decide +kernel
theorem dX12_toStems_116 : decode cX12_toStems 116 = .ok (.getfield 357, 3) := by decide +kernel
theorem dX12_toStems_119 : decode cX12_toStems 119 = .ok (.iload 5, 2) := by decide +kernel
theorem dX12_toStems_121 : decode cX12_toStems 121 = .ok (.dup2, 1) := by decide +kernel
theorem dX12_toStems_122 : decode cX12_toStems 122 = .ok (.iaload, 1) := by decide +kernel
theorem dX12_toStems_123 : decode cX12_toStems 123 = .ok (.iload 6, 2) := by decide +kernel
theorem dX12_toStems_125 : decode cX12_toStems 125 = .ok (.iadd, 1) := by decide +kernel
theorem dX12_toStems_126 : decode cX12_toStems 126 = .ok (.iastore, 1) := by decide +kernel
theorem dX12_toStems_127 : decode cX12_toStems 127 = .ok (.iinc 5 1, 3) := by decide +kernel
theorem dX12_toStems_130 : decode cX12_toStems 130 = .ok (.goto (-78), 3) := by decide +kernel
theorem dX12_toStems_133 : decode cX12_toStems 133 = .ok (.iconst 1, 1) := by decide +kernel
theorem dX12_toStems_134 : decode cX12_toStems 134 = .ok (.ireturn, 1) := by decide +kernel
def X12_toStems_b87 (rec : Int32 → Int32 → Wd → Option (Int32 × Wd)) (k52 : Int32 → Int32 → Int32 → Int32 → Int32 → Wd → Option (Int32 × Wd)) (y1 : Int32) (y2 : Int32) (y3 : Int32) (y4 : Int32) (y5 : Int32) (t0 : Int32) (t1 : Int32) (w : Wd) : Option (Int32 × Wd) :=
  lt (t1 + t0) fun v4 =>
  if inb y5 8 = true then
  (if (w.1 7 (Int32.toNatClampNeg y5)) = 0 then
  (if inb y5 8 = true then
  (if inb y5 8 = true then
  (lt (wI w 48 (Int32.toNatClampNeg y5) ((w.1 48 (Int32.toNatClampNeg y5)) + v4)) fun w5 =>
  k52 y1 y2 y3 (y4 + (-1)) (y5 + 1) w5)
  else none)
  else none)
  else
  cl (rec y5 v4 w) fun r7 w6 =>
  k52 y1 y2 y3 (y4 + (-1)) (y5 + 1) w6)
  else none
set_option maxRecDepth 100000 in
set_option maxHeartbeats 4000000 in
theorem t_X12_toStems_b87 {dd d2 : Nat} {Z : Cz (Int32 × Wd)} (hZ : OKZ Z SM cX12_toStems RX12 7 (some .boolean) dd) (hE : EndI Z) (rec : Int32 → Int32 → Wd → Option (Int32 × Wd)) (hdd : 12 ≤ dd) (hd2 : d2 < dd) (hrec : ∀ (x1 : Int32) (x2 : Int32)  (w : Wd), CI (zl Z) (zY Z) yX12_toStems cX12_toStems 7 d2 [.ref (ph (zY Z) 0), .int x1, .int x2] w .boolean (rec x1 x2 w)) (k52 : Int32 → Int32 → Int32 → Int32 → Int32 → Wd → Option (Int32 × Wd)) (hk52 : ∀ (y1 : Int32) (y2 : Int32) (y3 : Int32) (y4 : Int32) (y5 : Int32)  (w : Wd), BW Z 7 52 [(0, .ref (ph (zY Z) 0)), (1, .int y1), (2, .int y2), (3, .int y3), (4, .int y4), (5, .int y5)] [] w (k52 y1 y2 y3 y4 y5 w)) (y1 : Int32) (y2 : Int32) (y3 : Int32) (y4 : Int32) (y5 : Int32) (t0 : Int32) (t1 : Int32)  (w : Wd) : BW Z 7 87 [(0, .ref (ph (zY Z) 0)), (1, .int y1), (2, .int y2), (3, .int y3), (4, .int y4), (5, .int y5)] [.int t0, .int t1] w (X12_toStems_b87 rec k52 y1 y2 y3 y4 y5 t0 t1 w) :=
  bw_iadd hZ dX12_toStems_87 <|
  bw_nm fun v4 =>
  bw_istore hZ (by decide) rfl dX12_toStems_88 <|
  bw_iinc hZ (-1) 5 rfl (by decide) (by decide) rfl dX12_toStems_90 <|
  bw_aload_n hZ 2 rfl dX12_toStems_93 <|
  bw_getR hZ fl_RX12_258 obM_0 rfl dX12_toStems_94 <|
  bw_iload hZ 6 rfl dX12_toStems_97 <|
  bw_zald hZ (arM_7 _) dX12_toStems_99 <|
  bw_if_eq hZ (tgt := 115) (by decide) dX12_toStems_100 (fun _ =>
  bw_aload_n hZ 2 rfl dX12_toStems_115 <|
  bw_getR hZ fl_RX12_357 obM_0 rfl dX12_toStems_116 <|
  bw_iload hZ 6 rfl dX12_toStems_119 <|
  bw_dup2 hZ rfl rfl dX12_toStems_121 <|
  bw_iald hZ (arM_48 _) dX12_toStems_122 <|
  bw_iload hZ 1 rfl dX12_toStems_123 <|
  bw_iadd hZ dX12_toStems_125 <|
  bw_iast hZ (arM_48 _) dX12_toStems_126 fun w5 =>
  bw_iinc hZ 1 6 rfl (by decide) (by decide) rfl dX12_toStems_127 <|
  bw_goto hZ (tgt := 52) (by decide) dX12_toStems_130 <|
  bw_sub [3, 4, 5, 6, 1, 0] rfl (hk52 y1 y2 y3 (y4 + (-1)) (y5 + 1) w5)) (fun _ =>
  bw_aload_n hZ 2 rfl dX12_toStems_103 <|
  bw_iload hZ 6 rfl dX12_toStems_104 <|
  bw_iload hZ 1 rfl dX12_toStems_106 <|
  bw_callVI (As := [.int y5, .int v4]) hZ ml_RX12_655 rc_12 obM_0 hd2 (hrec y5 v4 w) rfl rfl (Nat.le_of_ble_eq_true rfl) dX12_toStems_108 fun r7 w6 =>
  bw_pop hZ rfl dX12_toStems_111 <|
  bw_goto hZ (tgt := 127) (by decide) dX12_toStems_112 <|
  bw_iinc hZ 1 6 rfl (by decide) (by decide) rfl dX12_toStems_127 <|
  bw_goto hZ (tgt := 52) (by decide) dX12_toStems_130 <|
  bw_sub [3, 4, 5, 6, 1, 0] rfl (hk52 y1 y2 y3 (y4 + (-1)) (y5 + 1) w6))
def X12_toStems_b52 (rec : Int32 → Int32 → Wd → Option (Int32 × Wd)) (k52 : Int32 → Int32 → Int32 → Int32 → Int32 → Wd → Option (Int32 × Wd)) (y1 : Int32) (y2 : Int32) (y3 : Int32) (y4 : Int32) (y5 : Int32) (w : Wd) : Option (Int32 × Wd) :=
  if (w.1 0 11) ≤ y5 then
  (some (1, w))
  else
  cl (f_X12_isStemOf y5 y1 w) fun r3 w2 =>
  if r3 = 0 then
  (k52 y1 y2 y3 y4 (y5 + 1) w2)
  else
  if y3 = 0 then none else
  if y4 ≤ 0 then
  (X12_toStems_b87 rec k52 y1 y2 y3 y4 y5 0 (y2 / y3) w2)
  else
  X12_toStems_b87 rec k52 y1 y2 y3 y4 y5 1 (y2 / y3) w2
set_option maxRecDepth 100000 in
set_option maxHeartbeats 4000000 in
theorem t_X12_toStems_b52 {dd d2 : Nat} {Z : Cz (Int32 × Wd)} (hZ : OKZ Z SM cX12_toStems RX12 7 (some .boolean) dd) (hE : EndI Z) (rec : Int32 → Int32 → Wd → Option (Int32 × Wd)) (hdd : 12 ≤ dd) (hd2 : d2 < dd) (hrec : ∀ (x1 : Int32) (x2 : Int32)  (w : Wd), CI (zl Z) (zY Z) yX12_toStems cX12_toStems 7 d2 [.ref (ph (zY Z) 0), .int x1, .int x2] w .boolean (rec x1 x2 w)) (k52 : Int32 → Int32 → Int32 → Int32 → Int32 → Wd → Option (Int32 × Wd)) (hk52 : ∀ (y1 : Int32) (y2 : Int32) (y3 : Int32) (y4 : Int32) (y5 : Int32)  (w : Wd), BW Z 7 52 [(0, .ref (ph (zY Z) 0)), (1, .int y1), (2, .int y2), (3, .int y3), (4, .int y4), (5, .int y5)] [] w (k52 y1 y2 y3 y4 y5 w)) (y1 : Int32) (y2 : Int32) (y3 : Int32) (y4 : Int32) (y5 : Int32)  (w : Wd) : BW Z 7 52 [(0, .ref (ph (zY Z) 0)), (1, .int y1), (2, .int y2), (3, .int y3), (4, .int y4), (5, .int y5)] [] w (X12_toStems_b52 rec k52 y1 y2 y3 y4 y5 w) :=
  bw_iload hZ 5 rfl dX12_toStems_52 <|
  bw_aload_n hZ 0 rfl dX12_toStems_54 <|
  bw_getI hZ fl_RX12_412 (by decide) obM_0 dX12_toStems_55 <|
  bw_icmp_ge hZ (tgt := 133) (by decide) dX12_toStems_58 (fun _ =>
  bw_iconst hZ 1 (by decide) dX12_toStems_133 <|
  bw_zret hZ hE (by decide) dX12_toStems_134) (fun _ =>
  bw_aload_n hZ 0 rfl dX12_toStems_61 <|
  bw_iload hZ 5 rfl dX12_toStems_62 <|
  bw_iload_n hZ 1 rfl dX12_toStems_64 <|
  bw_callVI (As := [.int y5, .int y1]) hZ ml_RX12_652 rc_12 obM_0 (Nat.lt_of_lt_of_le (by decide) hdd) (c_X12_isStemOf (zl Z) (zY Z) (hZ_S hZ) y5 y1 w) rfl rfl (Nat.le_of_ble_eq_true rfl) dX12_toStems_65 fun r3 w2 =>
  bw_if_ne hZ (tgt := 74) (by decide) dX12_toStems_68 (fun _ =>
  bw_iload_n hZ 2 rfl dX12_toStems_74 <|
  bw_iload_n hZ 3 rfl dX12_toStems_75 <|
  bw_idiv hZ dX12_toStems_76 <|
  bw_iload hZ 4 rfl dX12_toStems_77 <|
  bw_if_le hZ (tgt := 86) (by decide) dX12_toStems_79 (fun _ =>
  bw_iconst hZ 0 (by decide) dX12_toStems_86 <|
  bw_sub [0, 1, 2, 3, 4, 5] rfl (t_X12_toStems_b87 hZ hE rec hdd hd2 hrec k52 hk52 y1 y2 y3 y4 y5 0 (y2 / y3) w2)) (fun _ =>
  bw_iconst hZ 1 (by decide) dX12_toStems_82 <|
  bw_goto hZ (tgt := 87) (by decide) dX12_toStems_83 <|
  bw_sub [0, 1, 2, 3, 4, 5] rfl (t_X12_toStems_b87 hZ hE rec hdd hd2 hrec k52 hk52 y1 y2 y3 y4 y5 1 (y2 / y3) w2))) (fun _ =>
  bw_goto hZ (tgt := 127) (by decide) dX12_toStems_71 <|
  bw_iinc hZ 1 5 rfl (by decide) (by decide) rfl dX12_toStems_127 <|
  bw_goto hZ (tgt := 52) (by decide) dX12_toStems_130 <|
  bw_sub [1, 2, 3, 4, 5, 0] rfl (hk52 y1 y2 y3 y4 (y5 + 1) w2)))
def X12_toStems_b52_L (rec : Int32 → Int32 → Wd → Option (Int32 × Wd)) : Int32 → Int32 → Int32 → Int32 → Int32 → Wd → Option (Int32 × Wd) :=
  lp fu (fun _ _ _ _ _ _ => none) (fun k52 => X12_toStems_b52 rec k52)
theorem t_X12_toStems_b52_L {dd d2 : Nat} {Z : Cz (Int32 × Wd)} (hZ : OKZ Z SM cX12_toStems RX12 7 (some .boolean) dd) (hE : EndI Z) (rec : Int32 → Int32 → Wd → Option (Int32 × Wd)) (hdd : 12 ≤ dd) (hd2 : d2 < dd) (hrec : ∀ (x1 : Int32) (x2 : Int32)  (w : Wd), CI (zl Z) (zY Z) yX12_toStems cX12_toStems 7 d2 [.ref (ph (zY Z) 0), .int x1, .int x2] w .boolean (rec x1 x2 w))  : ∀ (y1 : Int32) (y2 : Int32) (y3 : Int32) (y4 : Int32) (y5 : Int32)  (w : Wd), BW Z 7 52 [(0, .ref (ph (zY Z) 0)), (1, .int y1), (2, .int y2), (3, .int y3), (4, .int y4), (5, .int y5)] [] w (X12_toStems_b52_L rec y1 y2 y3 y4 y5 w) :=
  lp_bw (fun k52 => ∀ (y1 : Int32) (y2 : Int32) (y3 : Int32) (y4 : Int32) (y5 : Int32)  (w : Wd), BW Z 7 52 [(0, .ref (ph (zY Z) 0)), (1, .int y1), (2, .int y2), (3, .int y3), (4, .int y4), (5, .int y5)] [] w (k52 y1 y2 y3 y4 y5 w)) (fun _ _ _ _ _ _ => bw_none) (fun k52 hk52 y1 y2 y3 y4 y5 w => t_X12_toStems_b52 hZ hE rec hdd hd2 hrec k52 hk52 y1 y2 y3 y4 y5 w) fu
def X12_toStems_b5 (rec : Int32 → Int32 → Wd → Option (Int32 × Wd)) (k5 : Int32 → Int32 → Int32 → Int32 → Wd → Option (Int32 × Wd)) (y1 : Int32) (y2 : Int32) (y3 : Int32) (y4 : Int32) (w : Wd) : Option (Int32 × Wd) :=
  if (w.1 0 11) ≤ y4 then
  (if y3 = 0 then
  (some (0, w))
  else
  if y3 = 0 then none else
  lt (y2 - y2 / y3 * y3) fun v1 =>
  X12_toStems_b52_L rec y1 y2 y3 v1 0 w)
  else
  cl (f_X12_isStemOf y4 y1 w) fun r9 w8 =>
  if r9 = 0 then
  (lt (y3 + 0) fun v10 =>
  k5 y1 y2 v10 (y4 + 1) w8)
  else
  lt (y3 + 1) fun v11 =>
  k5 y1 y2 v11 (y4 + 1) w8
set_option maxRecDepth 100000 in
set_option maxHeartbeats 4000000 in
theorem t_X12_toStems_b5 {dd d2 : Nat} {Z : Cz (Int32 × Wd)} (hZ : OKZ Z SM cX12_toStems RX12 7 (some .boolean) dd) (hE : EndI Z) (rec : Int32 → Int32 → Wd → Option (Int32 × Wd)) (hdd : 12 ≤ dd) (hd2 : d2 < dd) (hrec : ∀ (x1 : Int32) (x2 : Int32)  (w : Wd), CI (zl Z) (zY Z) yX12_toStems cX12_toStems 7 d2 [.ref (ph (zY Z) 0), .int x1, .int x2] w .boolean (rec x1 x2 w)) (k5 : Int32 → Int32 → Int32 → Int32 → Wd → Option (Int32 × Wd)) (hk5 : ∀ (y1 : Int32) (y2 : Int32) (y3 : Int32) (y4 : Int32)  (w : Wd), BW Z 7 5 [(0, .ref (ph (zY Z) 0)), (1, .int y1), (2, .int y2), (3, .int y3), (4, .int y4)] [] w (k5 y1 y2 y3 y4 w)) (y1 : Int32) (y2 : Int32) (y3 : Int32) (y4 : Int32)  (w : Wd) : BW Z 7 5 [(0, .ref (ph (zY Z) 0)), (1, .int y1), (2, .int y2), (3, .int y3), (4, .int y4)] [] w (X12_toStems_b5 rec k5 y1 y2 y3 y4 w) :=
  bw_iload hZ 4 rfl dX12_toStems_5 <|
  bw_aload_n hZ 0 rfl dX12_toStems_7 <|
  bw_getI hZ fl_RX12_412 (by decide) obM_0 dX12_toStems_8 <|
  bw_icmp_ge hZ (tgt := 38) (by decide) dX12_toStems_11 (fun _ =>
  bw_iload_n hZ 3 rfl dX12_toStems_38 <|
  bw_if_ne hZ (tgt := 44) (by decide) dX12_toStems_39 (fun _ =>
  bw_iload_n hZ 2 rfl dX12_toStems_44 <|
  bw_iload_n hZ 3 rfl dX12_toStems_45 <|
  bw_irem hZ dX12_toStems_46 <|
  bw_nm fun v1 =>
  bw_istore hZ (by decide) rfl dX12_toStems_47 <|
  bw_iconst hZ 0 (by decide) dX12_toStems_49 <|
  bw_istore hZ (by decide) rfl dX12_toStems_50 <|
  bw_sub [2, 3, 4, 5, 1, 0] rfl (t_X12_toStems_b52_L hZ hE rec hdd hd2 hrec y1 y2 y3 v1 0 w)) (fun _ =>
  bw_iconst hZ 0 (by decide) dX12_toStems_42 <|
  bw_zret hZ hE (by decide) dX12_toStems_43)) (fun _ =>
  bw_iload_n hZ 3 rfl dX12_toStems_14 <|
  bw_aload_n hZ 0 rfl dX12_toStems_15 <|
  bw_iload hZ 4 rfl dX12_toStems_16 <|
  bw_iload_n hZ 1 rfl dX12_toStems_18 <|
  bw_callVI (As := [.int y4, .int y1]) hZ ml_RX12_652 rc_12 obM_0 (Nat.lt_of_lt_of_le (by decide) hdd) (c_X12_isStemOf (zl Z) (zY Z) (hZ_S hZ) y4 y1 w) rfl rfl (Nat.le_of_ble_eq_true rfl) dX12_toStems_19 fun r9 w8 =>
  bw_if_eq hZ (tgt := 29) (by decide) dX12_toStems_22 (fun _ =>
  bw_iconst hZ 0 (by decide) dX12_toStems_29 <|
  bw_iadd hZ dX12_toStems_30 <|
  bw_nm fun v10 =>
  bw_istore_n hZ rfl (by decide) rfl dX12_toStems_31 <|
  bw_iinc hZ 1 4 rfl (by decide) (by decide) rfl dX12_toStems_32 <|
  bw_goto hZ (tgt := 5) (by decide) dX12_toStems_35 <|
  bw_sub [2, 3, 4, 1, 0] rfl (hk5 y1 y2 v10 (y4 + 1) w8)) (fun _ =>
  bw_iconst hZ 1 (by decide) dX12_toStems_25 <|
  bw_goto hZ (tgt := 30) (by decide) dX12_toStems_26 <|
  bw_iadd hZ dX12_toStems_30 <|
  bw_nm fun v11 =>
  bw_istore_n hZ rfl (by decide) rfl dX12_toStems_31 <|
  bw_iinc hZ 1 4 rfl (by decide) (by decide) rfl dX12_toStems_32 <|
  bw_goto hZ (tgt := 5) (by decide) dX12_toStems_35 <|
  bw_sub [2, 3, 4, 1, 0] rfl (hk5 y1 y2 v11 (y4 + 1) w8)))
def X12_toStems_b5_L (rec : Int32 → Int32 → Wd → Option (Int32 × Wd)) : Int32 → Int32 → Int32 → Int32 → Wd → Option (Int32 × Wd) :=
  lp fu (fun _ _ _ _ _ => none) (fun k5 => X12_toStems_b5 rec k5)
theorem t_X12_toStems_b5_L {dd d2 : Nat} {Z : Cz (Int32 × Wd)} (hZ : OKZ Z SM cX12_toStems RX12 7 (some .boolean) dd) (hE : EndI Z) (rec : Int32 → Int32 → Wd → Option (Int32 × Wd)) (hdd : 12 ≤ dd) (hd2 : d2 < dd) (hrec : ∀ (x1 : Int32) (x2 : Int32)  (w : Wd), CI (zl Z) (zY Z) yX12_toStems cX12_toStems 7 d2 [.ref (ph (zY Z) 0), .int x1, .int x2] w .boolean (rec x1 x2 w))  : ∀ (y1 : Int32) (y2 : Int32) (y3 : Int32) (y4 : Int32)  (w : Wd), BW Z 7 5 [(0, .ref (ph (zY Z) 0)), (1, .int y1), (2, .int y2), (3, .int y3), (4, .int y4)] [] w (X12_toStems_b5_L rec y1 y2 y3 y4 w) :=
  lp_bw (fun k5 => ∀ (y1 : Int32) (y2 : Int32) (y3 : Int32) (y4 : Int32)  (w : Wd), BW Z 7 5 [(0, .ref (ph (zY Z) 0)), (1, .int y1), (2, .int y2), (3, .int y3), (4, .int y4)] [] w (k5 y1 y2 y3 y4 w)) (fun _ _ _ _ _ => bw_none) (fun k5 hk5 y1 y2 y3 y4 w => t_X12_toStems_b5 hZ hE rec hdd hd2 hrec k5 hk5 y1 y2 y3 y4 w) fu
def X12_toStems_body (rec : Int32 → Int32 → Wd → Option (Int32 × Wd)) (x1 : Int32) (x2 : Int32) (w : Wd) : Option (Int32 × Wd) :=
  X12_toStems_b5_L rec x1 x2 0 0 w
set_option maxRecDepth 100000 in
set_option maxHeartbeats 4000000 in
theorem t_X12_toStems_body {dd d2 : Nat} {Z : Cz (Int32 × Wd)} (hZ : OKZ Z SM cX12_toStems RX12 7 (some .boolean) dd) (hE : EndI Z) (rec : Int32 → Int32 → Wd → Option (Int32 × Wd)) (hdd : 12 ≤ dd) (hd2 : d2 < dd) (hrec : ∀ (x1 : Int32) (x2 : Int32)  (w : Wd), CI (zl Z) (zY Z) yX12_toStems cX12_toStems 7 d2 [.ref (ph (zY Z) 0), .int x1, .int x2] w .boolean (rec x1 x2 w)) (x1 : Int32) (x2 : Int32)  (w : Wd) : BW Z 7 0 [(0, .ref (ph (zY Z) 0)), (1, .int x1), (2, .int x2)] [] w (X12_toStems_body rec x1 x2 w) :=
  bw_iconst hZ 0 (by decide) dX12_toStems_0 <|
  bw_istore_n hZ rfl (by decide) rfl dX12_toStems_1 <|
  bw_iconst hZ 0 (by decide) dX12_toStems_2 <|
  bw_istore hZ (by decide) rfl dX12_toStems_3 <|
  bw_sub [2, 3, 4, 1, 0] rfl (t_X12_toStems_b5_L hZ hE rec hdd hd2 hrec x1 x2 0 0 w)
def f_X12_toStems_n (n : Nat) : Int32 → Int32 → Wd → Option (Int32 × Wd) :=
  lp n (fun _ _ _ => none) (fun rec => X12_toStems_body rec)
set_option maxRecDepth 100000 in
theorem c_X12_toStems_n (l : Launch) (Y : Ev) (hY : Y.1 = SM) (n : Nat) : ∀ (x1 : Int32) (x2 : Int32)  (w : Wd), CI l Y yX12_toStems cX12_toStems 7 (12 + n) [.ref (ph Y 0), .int x1, .int x2] w .boolean (f_X12_toStems_n n x1 x2 w) := by
  induction n with
  | zero => intro x1 x2 w r hr; cases hr
  | succ n ih =>
    intro x1 x2 w
    refine CI_of (S := SM) (by decide) (Nat.le_of_ble_eq_true rfl) hY ?_
    intro Z hl hY2 hZ hE
    subst hY2
    subst hl
    exact t_X12_toStems_body hZ hE (f_X12_toStems_n n) (by omega) (d2 := 12 + n) (by omega) ih x1 x2 w
def f_X12_toStems : Int32 → Int32 → Wd → Option (Int32 × Wd) := f_X12_toStems_n 10
theorem c_X12_toStems (l : Launch) (Y : Ev) (hY : Y.1 = SM) (x1 : Int32) (x2 : Int32)  (w : Wd) : CI l Y yX12_toStems cX12_toStems 7 22 [.ref (ph Y 0), .int x1, .int x2] w .boolean (f_X12_toStems x1 x2 w) := c_X12_toStems_n l Y hY 10 x1 x2 w
-- WhichWillModel.byKin
theorem dX12_byKin_0 : decode cX12_byKin 0 = .ok (.aload_n 0, 1) := by decide +kernel
theorem dX12_byKin_1 : decode cX12_byKin 1 = .ok (.getfield 241, 3) := by decide +kernel
theorem dX12_byKin_4 : decode cX12_byKin 4 = .ok (.iconst (-1), 1) := by decide +kernel
theorem dX12_byKin_5 : decode cX12_byKin 5 = .ok (.if_icmp .eq 19, 3) := by decide +kernel
theorem dX12_byKin_8 : decode cX12_byKin 8 = .ok (.aload_n 0, 1) := by decide +kernel
theorem dX12_byKin_9 : decode cX12_byKin 9 = .ok (.getfield 258, 3) := by decide +kernel
theorem dX12_byKin_12 : decode cX12_byKin 12 = .ok (.aload_n 0, 1) := by decide +kernel
theorem dX12_byKin_13 : decode cX12_byKin 13 = .ok (.getfield 241, 3) := by decide +kernel
theorem dX12_byKin_16 : decode cX12_byKin 16 = .ok (.baload, 1) := by decide +kernel
theorem dX12_byKin_17 : decode cX12_byKin 17 = .ok (.ifCond .ne 7, 3) := by decide +kernel
theorem dX12_byKin_20 : decode cX12_byKin 20 = .ok (.iconst 1, 1) := by decide +kernel
theorem dX12_byKin_21 : decode cX12_byKin 21 = .ok (.goto 4, 3) := by decide +kernel
theorem dX12_byKin_24 : decode cX12_byKin 24 = .ok (.iconst 0, 1) := by decide +kernel
theorem dX12_byKin_25 : decode cX12_byKin 25 = .ok (.istore_n 3, 1) := by decide +kernel
theorem dX12_byKin_26 : decode cX12_byKin 26 = .ok (.iconst 0, 1) := by decide +kernel
theorem dX12_byKin_27 : decode cX12_byKin 27 = .ok (.istore 4, 2) := by decide +kernel
theorem dX12_byKin_29 : decode cX12_byKin 29 = .ok (.iconst 0, 1) := by decide +kernel
theorem dX12_byKin_30 : decode cX12_byKin 30 = .ok (.istore 5, 2) := by decide +kernel
theorem dX12_byKin_32 : decode cX12_byKin 32 = .ok (.iload 5, 2) := by decide +kernel
theorem dX12_byKin_34 : decode cX12_byKin 34 = .ok (.aload_n 0, 1) := by decide +kernel
theorem dX12_byKin_35 : decode cX12_byKin 35 = .ok (.getfield 412, 3) := by decide +kernel
theorem dX12_byKin_38 : decode cX12_byKin 38 = .ok (.if_icmp .ge 31, 3) := by decide +kernel
theorem dX12_byKin_41 : decode cX12_byKin 41 = .ok (.iload 4, 2) := by decide +kernel
theorem dX12_byKin_43 : decode cX12_byKin 43 = .ok (.ifCond .ne 13, 3) := by decide +kernel
theorem dX12_byKin_46 : decode cX12_byKin 46 = .ok (.aload_n 0, 1) := by decide +kernel
theorem dX12_byKin_47 : decode cX12_byKin 47 = .ok (.iload 5, 2) := by decide +kernel
theorem dX12_byKin_49 : decode cX12_byKin 49 = .ok (.iconst (-1), 1) := by decide +kernel
theorem dX12_byKin_50 : decode cX12_byKin 50 = .ok (.invokevirtual 652, 3) := by decide +kernel
theorem dX12_byKin_53 : decode cX12_byKin 53 = .ok (.ifCond .eq 7, 3) := by decide +kernel
theorem dX12_byKin_56 : decode cX12_byKin 56 = .ok (.iconst 1, 1) := by decide +kernel
theorem dX12_byKin_57 : decode cX12_byKin 57 = .ok (.goto 4, 3) := by decide +kernel
theorem dX12_byKin_60 : decode cX12_byKin 60 = .ok (.iconst 0, 1) := by decide +kernel
theorem dX12_byKin_61 : decode cX12_byKin 61 = .ok (.istore 4, 2) := by decide +kernel
theorem dX12_byKin_63 : decode cX12_byKin 63 = .ok (.iinc 5 1, 3) := by decide +kernel
theorem dX12_byKin_66 : decode cX12_byKin 66 = .ok (.goto (-34), 3) := by decide +kernel
theorem dX12_byKin_69 : decode cX12_byKin 69 = .ok (.iload_n 3, 1) := by decide +kernel
theorem dX12_byKin_70 : decode cX12_byKin 70 = .ok (.ifCond .ne 10, 3) := by decide +kernel
theorem dX12_byKin_73 : decode cX12_byKin 73 = .ok (.iload 4, 2) := by decide +kernel
theorem dX12_byKin_75 : decode cX12_byKin 75 = .ok (.ifCond .ne 5, 3) := by decide +kernel
theorem dX12_byKin_78 : decode cX12_byKin 78 = .ok (.iconst 0, 1) := by decide +kernel
theorem dX12_byKin_79 : decode cX12_byKin 79 = .ok (.ireturn, 1) := by decide +kernel
theorem dX12_byKin_80 : decode cX12_byKin 80 = .ok (.iload_n 3, 1) := by decide +kernel
theorem dX12_byKin_81 : decode cX12_byKin 81 = .ok (.ifCond .ne 7, 3) := by decide +kernel
theorem dX12_byKin_84 : decode cX12_byKin 84 = .ok (.iconst 0, 1) := by decide +kernel
theorem dX12_byKin_85 : decode cX12_byKin 85 = .ok (.goto 29, 3) := by decide +kernel
theorem dX12_byKin_88 : decode cX12_byKin 88 = .ok (.iload 4, 2) := by decide +kernel
theorem dX12_byKin_90 : decode cX12_byKin 90 = .ok (.ifCond .eq 23, 3) := by decide +kernel
theorem dX12_byKin_93 : decode cX12_byKin 93 = .ok (.iload_n 1, 1) := by decide +kernel
theorem dX12_byKin_94 : decode cX12_byKin 94 = .ok (.aload_n 0, 1) := by decide +kernel
theorem dX12_byKin_95 : decode cX12_byKin 95 = .ok (.getfield 243, 3) := by decide +kernel
theorem dX12_byKin_98 : decode cX12_byKin 98 = .ok (.bipush 13, 2) := by decide +kernel
theorem dX12_byKin_100 : decode cX12_byKin 100 = .ok (.iload_n 2, 1) := by decide +kernel
theorem dX12_byKin_101 : decode cX12_byKin 101 = .ok (.imul, 1) := by decide +kernel
theorem dX12_byKin_102 : decode cX12_byKin 102 = .ok (.bipush 9, 2) := by decide +kernel
theorem dX12_byKin_104 : decode cX12_byKin 104 = .ok (.iadd, 1) := by decide +kernel
theorem dX12_byKin_105 : decode cX12_byKin 105 = .ok (.iaload, 1) := by decide +kernel
theorem dX12_byKin_106 : decode cX12_byKin 106 = .ok (.imul, 1) := by decide +kernel
theorem dX12_byKin_107 : decode cX12_byKin 107 = .ok (.bipush 100, 2) := by decide +kernel
theorem dX12_byKin_109 : decode cX12_byKin 109 = .ok (.idiv, 1) := by decide +kernel
theorem dX12_byKin_110 : decode cX12_byKin 110 = .ok (.goto 4, 3) := by decide +kernel
theorem dX12_byKin_113 : decode cX12_byKin 113 = .ok (.iload_n 1, 1) := by decide +kernel
theorem dX12_byKin_114 : decode cX12_byKin 114 = .ok (.istore 5, 2) := by decide +kernel
theorem dX12_byKin_116 : decode cX12_byKin 116 = .ok (.iload_n 3, 1) := by decide +kernel
theorem dX12_byKin_117 : decode cX12_byKin 117 = .ok (.ifCond .eq 17, 3) := by decide +kernel
theorem dX12_byKin_120 : decode cX12_byKin 120 = .ok (.aload_n 0, 1) := by decide +kernel
theorem dX12_byKin_121 : decode cX12_byKin 121 = .ok (.getfield 357, 3) := by decide +kernel
theorem dX12_byKin_124 : decode cX12_byKin 124 = .ok (.aload_n 0, 1) := by decide +kernel
theorem dX12_byKin_125 : decode cX12_byKin 125 = .ok (.getfield 241, 3) := by decide +kernel
theorem dX12_byKin_128 : decode cX12_byKin 128 = .ok (.dup2, 1) := by decide +kernel
theorem dX12_byKin_129 : decode cX12_byKin 129 = .ok (.iaload, 1) := by decide +kernel
theorem dX12_byKin_130 : decode cX12_byKin 130 = .ok (.iload 5, 2) := by decide +kernel
theorem dX12_byKin_132 : decode cX12_byKin 132 = .ok (.iadd, 1) := by decide +kernel
theorem dX12_byKin_133 : decode cX12_byKin 133 = .ok (.iastore, 1) := by decide +kernel
theorem dX12_byKin_134 : decode cX12_byKin 134 = .ok (.iload 4, 2) := by decide +kernel
theorem dX12_byKin_136 : decode cX12_byKin 136 = .ok (.ifCond .eq 13, 3) := by decide +kernel
theorem dX12_byKin_139 : decode cX12_byKin 139 = .ok (.aload_n 0, 1) := by decide +kernel
theorem dX12_byKin_140 : decode cX12_byKin 140 = .ok (.iconst (-1), 1) := by decide +kernel
theorem dX12_byKin_141 : decode cX12_byKin 141 = .ok (.iload_n 1, 1) := by decide +kernel
theorem dX12_byKin_142 : decode cX12_byKin 142 = .ok (.iload 5, 2) := by decide +kernel
theorem dX12_byKin_144 : decode cX12_byKin 144 = .ok (.isub, 1) := by decide +kernel
theorem dX12_byKin_145 : decode cX12_byKin 145 = .ok (.invokevirtual 655, 3) := by decide +kernel
theorem dX12_byKin_148 : decode cX12_byKin 148 = .ok (.pop, 1) := by decide +kernel
theorem dX12_byKin_149 : decode cX12_byKin 149 = .ok (.iconst 1, 1) := by decide +kernel
theorem dX12_byKin_150 : decode cX12_byKin 150 = .ok (.ireturn, 1) := by decide +kernel
def X12_byKin_b134 (y1 : Int32) (y4 : Int32) (y5 : Int32) (w : Wd) : Option (Int32 × Wd) :=
  if y4 = 0 then
  (some (1, w))
  else
  cl (f_X12_toStems ((-1)) (y1 - y5) w) fun r2 w1 =>
  some (1, w1)
set_option maxRecDepth 100000 in
set_option maxHeartbeats 4000000 in
theorem t_X12_byKin_b134 {Z : Cz (Int32 × Wd)} (hZ : OKZ Z SM cX12_byKin RX12 6 (some .boolean) 23) (hE : EndI Z)  (y1 : Int32) (y4 : Int32) (y5 : Int32)  (w : Wd) : BW Z 6 134 [(0, .ref (ph (zY Z) 0)), (1, .int y1), (4, .int y4), (5, .int y5)] [] w (X12_byKin_b134 y1 y4 y5 w) :=
  bw_iload hZ 2 rfl dX12_byKin_134 <|
  bw_if_eq hZ (tgt := 149) (by decide) dX12_byKin_136 (fun _ =>
  bw_iconst hZ 1 (by decide) dX12_byKin_149 <|
  bw_zret hZ hE (by decide) dX12_byKin_150) (fun _ =>
  bw_aload_n hZ 0 rfl dX12_byKin_139 <|
  bw_iconst hZ (-1) (by decide) dX12_byKin_140 <|
  bw_iload_n hZ 1 rfl dX12_byKin_141 <|
  bw_iload hZ 3 rfl dX12_byKin_142 <|
  bw_isub hZ dX12_byKin_144 <|
  bw_callVI (As := [.int ((-1)), .int (y1 - y5)]) hZ ml_RX12_655 rc_12 obM_0 (by decide) (c_X12_toStems (zl Z) (zY Z) (hZ_S hZ) ((-1)) (y1 - y5) w) rfl rfl (Nat.le_of_ble_eq_true rfl) dX12_byKin_145 fun r2 w1 =>
  bw_pop hZ rfl dX12_byKin_148 <|
  bw_iconst hZ 1 (by decide) dX12_byKin_149 <|
  bw_zret hZ hE (by decide) dX12_byKin_150)
def X12_byKin_b114 (y1 : Int32) (y3 : Int32) (y4 : Int32) (t0 : Int32) (w : Wd) : Option (Int32 × Wd) :=
  if y3 = 0 then
  (X12_byKin_b134 y1 y4 t0 w)
  else
  if inb (w.1 0 19) 8 = true then
  (if inb (w.1 0 19) 8 = true then
  (lt (wI w 48 (Int32.toNatClampNeg (w.1 0 19)) ((w.1 48 (Int32.toNatClampNeg (w.1 0 19))) + t0)) fun w3 =>
  X12_byKin_b134 y1 y4 t0 w3)
  else none)
  else none
set_option maxRecDepth 100000 in
set_option maxHeartbeats 4000000 in
theorem t_X12_byKin_b114 {Z : Cz (Int32 × Wd)} (hZ : OKZ Z SM cX12_byKin RX12 6 (some .boolean) 23) (hE : EndI Z)  (y1 : Int32) (y3 : Int32) (y4 : Int32) (t0 : Int32)  (w : Wd) : BW Z 6 114 [(0, .ref (ph (zY Z) 0)), (1, .int y1), (3, .int y3), (4, .int y4)] [.int t0] w (X12_byKin_b114 y1 y3 y4 t0 w) :=
  bw_istore hZ (by decide) rfl dX12_byKin_114 <|
  bw_iload_n hZ 3 rfl dX12_byKin_116 <|
  bw_if_eq hZ (tgt := 134) (by decide) dX12_byKin_117 (fun _ =>
  bw_sub [1, 2, 4, 0] rfl (t_X12_byKin_b134 hZ hE y1 y4 t0 w)) (fun _ =>
  bw_aload_n hZ 1 rfl dX12_byKin_120 <|
  bw_getR hZ fl_RX12_357 obM_0 rfl dX12_byKin_121 <|
  bw_aload_n hZ 1 rfl dX12_byKin_124 <|
  bw_getI hZ fl_RX12_241 (by decide) obM_0 dX12_byKin_125 <|
  bw_dup2 hZ rfl rfl dX12_byKin_128 <|
  bw_iald hZ (arM_48 _) dX12_byKin_129 <|
  bw_iload hZ 0 rfl dX12_byKin_130 <|
  bw_iadd hZ dX12_byKin_132 <|
  bw_iast hZ (arM_48 _) dX12_byKin_133 fun w3 =>
  bw_sub [1, 2, 4, 0] rfl (t_X12_byKin_b134 hZ hE y1 y4 t0 w3))
def X12_byKin_b80 (y1 : Int32) (y2 : Int32) (y3 : Int32) (y4 : Int32) (w : Wd) : Option (Int32 × Wd) :=
  if y3 = 0 then
  (X12_byKin_b114 y1 y3 y4 0 w)
  else
  if y4 = 0 then
  (X12_byKin_b114 y1 y3 y4 y1 w)
  else
  if inb ((13 * y2) + 9) 52 = true then
  (X12_byKin_b114 y1 y3 y4 ((y1 * (w.1 2 (Int32.toNatClampNeg ((13 * y2) + 9)))) / 100) w)
  else none
set_option maxRecDepth 100000 in
set_option maxHeartbeats 4000000 in
theorem t_X12_byKin_b80 {Z : Cz (Int32 × Wd)} (hZ : OKZ Z SM cX12_byKin RX12 6 (some .boolean) 23) (hE : EndI Z)  (y1 : Int32) (y2 : Int32) (y3 : Int32) (y4 : Int32)  (w : Wd) : BW Z 6 80 [(0, .ref (ph (zY Z) 0)), (1, .int y1), (2, .int y2), (3, .int y3), (4, .int y4)] [] w (X12_byKin_b80 y1 y2 y3 y4 w) :=
  bw_iload_n hZ 3 rfl dX12_byKin_80 <|
  bw_if_ne hZ (tgt := 88) (by decide) dX12_byKin_81 (fun _ =>
  bw_iload hZ 4 rfl dX12_byKin_88 <|
  bw_if_eq hZ (tgt := 113) (by decide) dX12_byKin_90 (fun _ =>
  bw_iload_n hZ 1 rfl dX12_byKin_113 <|
  bw_sub [0, 1, 3, 4] rfl (t_X12_byKin_b114 hZ hE y1 y3 y4 y1 w)) (fun _ =>
  bw_iload_n hZ 1 rfl dX12_byKin_93 <|
  bw_aload_n hZ 0 rfl dX12_byKin_94 <|
  bw_getR hZ fl_RX12_243 obM_0 rfl dX12_byKin_95 <|
  bw_bipush hZ 13 (by decide) dX12_byKin_98 <|
  bw_iload_n hZ 2 rfl dX12_byKin_100 <|
  bw_imul hZ dX12_byKin_101 <|
  bw_bipush hZ 9 (by decide) dX12_byKin_102 <|
  bw_iadd hZ dX12_byKin_104 <|
  bw_iald hZ (arM_2 _) dX12_byKin_105 <|
  bw_imul hZ dX12_byKin_106 <|
  bw_bipush hZ 100 (by decide) dX12_byKin_107 <|
  bw_idivN hZ (by decide) dX12_byKin_109 <|
  bw_goto hZ (tgt := 114) (by decide) dX12_byKin_110 <|
  bw_sub [0, 1, 3, 4] rfl (t_X12_byKin_b114 hZ hE y1 y3 y4 ((y1 * (w.1 2 (Int32.toNatClampNeg ((13 * y2) + 9)))) / 100) w))) (fun _ =>
  bw_iconst hZ 0 (by decide) dX12_byKin_84 <|
  bw_goto hZ (tgt := 114) (by decide) dX12_byKin_85 <|
  bw_sub [0, 1, 3, 4] rfl (t_X12_byKin_b114 hZ hE y1 y3 y4 0 w))
def X12_byKin_b32 (k32 : Int32 → Int32 → Int32 → Int32 → Int32 → Wd → Option (Int32 × Wd)) (y1 : Int32) (y2 : Int32) (y3 : Int32) (y4 : Int32) (y5 : Int32) (w : Wd) : Option (Int32 × Wd) :=
  if (w.1 0 11) ≤ y5 then
  (if y3 = 0 then
  (if y4 = 0 then
  (some (0, w))
  else
  X12_byKin_b80 y1 y2 y3 y4 w)
  else
  X12_byKin_b80 y1 y2 y3 y4 w)
  else
  if y4 = 0 then
  (cl (f_X12_isStemOf y5 ((-1)) w) fun r5 w4 =>
  if r5 = 0 then
  (k32 y1 y2 y3 0 (y5 + 1) w4)
  else
  k32 y1 y2 y3 1 (y5 + 1) w4)
  else
  k32 y1 y2 y3 1 (y5 + 1) w
set_option maxRecDepth 100000 in
set_option maxHeartbeats 4000000 in
theorem t_X12_byKin_b32 {Z : Cz (Int32 × Wd)} (hZ : OKZ Z SM cX12_byKin RX12 6 (some .boolean) 23) (hE : EndI Z) (k32 : Int32 → Int32 → Int32 → Int32 → Int32 → Wd → Option (Int32 × Wd)) (hk32 : ∀ (y1 : Int32) (y2 : Int32) (y3 : Int32) (y4 : Int32) (y5 : Int32)  (w : Wd), BW Z 6 32 [(0, .ref (ph (zY Z) 0)), (1, .int y1), (2, .int y2), (3, .int y3), (4, .int y4), (5, .int y5)] [] w (k32 y1 y2 y3 y4 y5 w)) (y1 : Int32) (y2 : Int32) (y3 : Int32) (y4 : Int32) (y5 : Int32)  (w : Wd) : BW Z 6 32 [(0, .ref (ph (zY Z) 0)), (1, .int y1), (2, .int y2), (3, .int y3), (4, .int y4), (5, .int y5)] [] w (X12_byKin_b32 k32 y1 y2 y3 y4 y5 w) :=
  bw_iload hZ 5 rfl dX12_byKin_32 <|
  bw_aload_n hZ 0 rfl dX12_byKin_34 <|
  bw_getI hZ fl_RX12_412 (by decide) obM_0 dX12_byKin_35 <|
  bw_icmp_ge hZ (tgt := 69) (by decide) dX12_byKin_38 (fun _ =>
  bw_iload_n hZ 3 rfl dX12_byKin_69 <|
  bw_if_ne hZ (tgt := 80) (by decide) dX12_byKin_70 (fun _ =>
  bw_sub [0, 1, 2, 3, 4] rfl (t_X12_byKin_b80 hZ hE y1 y2 y3 y4 w)) (fun _ =>
  bw_iload hZ 4 rfl dX12_byKin_73 <|
  bw_if_ne hZ (tgt := 80) (by decide) dX12_byKin_75 (fun _ =>
  bw_sub [0, 1, 2, 3, 4] rfl (t_X12_byKin_b80 hZ hE y1 y2 y3 y4 w)) (fun _ =>
  bw_iconst hZ 0 (by decide) dX12_byKin_78 <|
  bw_zret hZ hE (by decide) dX12_byKin_79))) (fun _ =>
  bw_iload hZ 4 rfl dX12_byKin_41 <|
  bw_if_ne hZ (tgt := 56) (by decide) dX12_byKin_43 (fun _ =>
  bw_iconst hZ 1 (by decide) dX12_byKin_56 <|
  bw_goto hZ (tgt := 61) (by decide) dX12_byKin_57 <|
  bw_istore hZ (by decide) rfl dX12_byKin_61 <|
  bw_iinc hZ 1 5 rfl (by decide) (by decide) rfl dX12_byKin_63 <|
  bw_goto hZ (tgt := 32) (by decide) dX12_byKin_66 <|
  bw_sub [2, 3, 4, 5, 1, 0] rfl (hk32 y1 y2 y3 1 (y5 + 1) w)) (fun _ =>
  bw_aload_n hZ 0 rfl dX12_byKin_46 <|
  bw_iload hZ 5 rfl dX12_byKin_47 <|
  bw_iconst hZ (-1) (by decide) dX12_byKin_49 <|
  bw_callVI (As := [.int y5, .int ((-1))]) hZ ml_RX12_652 rc_12 obM_0 (by decide) (c_X12_isStemOf (zl Z) (zY Z) (hZ_S hZ) y5 ((-1)) w) rfl rfl (Nat.le_of_ble_eq_true rfl) dX12_byKin_50 fun r5 w4 =>
  bw_if_eq hZ (tgt := 60) (by decide) dX12_byKin_53 (fun _ =>
  bw_iconst hZ 0 (by decide) dX12_byKin_60 <|
  bw_istore hZ (by decide) rfl dX12_byKin_61 <|
  bw_iinc hZ 1 5 rfl (by decide) (by decide) rfl dX12_byKin_63 <|
  bw_goto hZ (tgt := 32) (by decide) dX12_byKin_66 <|
  bw_sub [2, 3, 4, 5, 1, 0] rfl (hk32 y1 y2 y3 0 (y5 + 1) w4)) (fun _ =>
  bw_iconst hZ 1 (by decide) dX12_byKin_56 <|
  bw_goto hZ (tgt := 61) (by decide) dX12_byKin_57 <|
  bw_istore hZ (by decide) rfl dX12_byKin_61 <|
  bw_iinc hZ 1 5 rfl (by decide) (by decide) rfl dX12_byKin_63 <|
  bw_goto hZ (tgt := 32) (by decide) dX12_byKin_66 <|
  bw_sub [2, 3, 4, 5, 1, 0] rfl (hk32 y1 y2 y3 1 (y5 + 1) w4))))
def X12_byKin_b32_L  : Int32 → Int32 → Int32 → Int32 → Int32 → Wd → Option (Int32 × Wd) :=
  lp fu (fun _ _ _ _ _ _ => none) (fun k32 => X12_byKin_b32 k32)
theorem t_X12_byKin_b32_L {Z : Cz (Int32 × Wd)} (hZ : OKZ Z SM cX12_byKin RX12 6 (some .boolean) 23) (hE : EndI Z)  : ∀ (y1 : Int32) (y2 : Int32) (y3 : Int32) (y4 : Int32) (y5 : Int32)  (w : Wd), BW Z 6 32 [(0, .ref (ph (zY Z) 0)), (1, .int y1), (2, .int y2), (3, .int y3), (4, .int y4), (5, .int y5)] [] w (X12_byKin_b32_L y1 y2 y3 y4 y5 w) :=
  lp_bw (fun k32 => ∀ (y1 : Int32) (y2 : Int32) (y3 : Int32) (y4 : Int32) (y5 : Int32)  (w : Wd), BW Z 6 32 [(0, .ref (ph (zY Z) 0)), (1, .int y1), (2, .int y2), (3, .int y3), (4, .int y4), (5, .int y5)] [] w (k32 y1 y2 y3 y4 y5 w)) (fun _ _ _ _ _ _ => bw_none) (fun k32 hk32 y1 y2 y3 y4 y5 w => t_X12_byKin_b32 hZ hE k32 hk32 y1 y2 y3 y4 y5 w) fu
def X12_byKin_b25 (y1 : Int32) (y2 : Int32) (t0 : Int32) (w : Wd) : Option (Int32 × Wd) :=
  X12_byKin_b32_L y1 y2 t0 0 0 w
set_option maxRecDepth 100000 in
set_option maxHeartbeats 4000000 in
theorem t_X12_byKin_b25 {Z : Cz (Int32 × Wd)} (hZ : OKZ Z SM cX12_byKin RX12 6 (some .boolean) 23) (hE : EndI Z)  (y1 : Int32) (y2 : Int32) (t0 : Int32)  (w : Wd) : BW Z 6 25 [(0, .ref (ph (zY Z) 0)), (1, .int y1), (2, .int y2)] [.int t0] w (X12_byKin_b25 y1 y2 t0 w) :=
  bw_istore_n hZ rfl (by decide) rfl dX12_byKin_25 <|
  bw_iconst hZ 0 (by decide) dX12_byKin_26 <|
  bw_istore hZ (by decide) rfl dX12_byKin_27 <|
  bw_iconst hZ 0 (by decide) dX12_byKin_29 <|
  bw_istore hZ (by decide) rfl dX12_byKin_30 <|
  bw_sub [3, 4, 5, 2, 1, 0] rfl (t_X12_byKin_b32_L hZ hE y1 y2 t0 0 0 w)
def f_X12_byKin (x1 : Int32) (x2 : Int32) (w : Wd) : Option (Int32 × Wd) :=
  if (w.1 0 19) = ((-1)) then
  (X12_byKin_b25 x1 x2 0 w)
  else
  if inb (w.1 0 19) 8 = true then
  (if (w.1 7 (Int32.toNatClampNeg (w.1 0 19))) = 0 then
  (X12_byKin_b25 x1 x2 1 w)
  else
  X12_byKin_b25 x1 x2 0 w)
  else none
set_option maxRecDepth 100000 in
set_option maxHeartbeats 4000000 in
theorem t_X12_byKin {Z : Cz (Int32 × Wd)} (hZ : OKZ Z SM cX12_byKin RX12 6 (some .boolean) 23) (hE : EndI Z) (x1 : Int32) (x2 : Int32)  (w : Wd) : BW Z 6 0 [(0, .ref (ph (zY Z) 0)), (1, .int x1), (2, .int x2)] [] w (f_X12_byKin x1 x2 w) :=
  bw_aload_n hZ 0 rfl dX12_byKin_0 <|
  bw_getI hZ fl_RX12_241 (by decide) obM_0 dX12_byKin_1 <|
  bw_iconst hZ (-1) (by decide) dX12_byKin_4 <|
  bw_icmp_eq hZ (tgt := 24) (by decide) dX12_byKin_5 (fun _ =>
  bw_iconst hZ 0 (by decide) dX12_byKin_24 <|
  bw_sub [0, 1, 2] rfl (t_X12_byKin_b25 hZ hE x1 x2 0 w)) (fun _ =>
  bw_aload_n hZ 0 rfl dX12_byKin_8 <|
  bw_getR hZ fl_RX12_258 obM_0 rfl dX12_byKin_9 <|
  bw_aload_n hZ 0 rfl dX12_byKin_12 <|
  bw_getI hZ fl_RX12_241 (by decide) obM_0 dX12_byKin_13 <|
  bw_zald hZ (arM_7 _) dX12_byKin_16 <|
  bw_if_ne hZ (tgt := 24) (by decide) dX12_byKin_17 (fun _ =>
  bw_iconst hZ 0 (by decide) dX12_byKin_24 <|
  bw_sub [0, 1, 2] rfl (t_X12_byKin_b25 hZ hE x1 x2 0 w)) (fun _ =>
  bw_iconst hZ 1 (by decide) dX12_byKin_20 <|
  bw_goto hZ (tgt := 25) (by decide) dX12_byKin_21 <|
  bw_sub [0, 1, 2] rfl (t_X12_byKin_b25 hZ hE x1 x2 1 w)))
theorem c_X12_byKin (l : Launch) (Y : Ev) (hY : Y.1 = SM) (x1 : Int32) (x2 : Int32)  (w : Wd) : CI l Y yX12_byKin cX12_byKin 6 23 [.ref (ph Y 0), .int x1, .int x2] w .boolean (f_X12_byKin x1 x2 w) := by
  refine CI_of (S := SM) (by decide) (Nat.le_of_ble_eq_true rfl) hY ?_
  intro Z hl hY2 hZ hE
  subst hY2
  exact t_X12_byKin hZ hE x1 x2 w
-- WhichWillModel.goThing
theorem dX12_goThing_0 : decode cX12_goThing 0 = .ok (.aload_n 0, 1) := by decide +kernel
theorem dX12_goThing_1 : decode cX12_goThing 1 = .ok (.iload_n 1, 1) := by decide +kernel
theorem dX12_goThing_2 : decode cX12_goThing 2 = .ok (.invokevirtual 586, 3) := by decide +kernel
theorem dX12_goThing_5 : decode cX12_goThing 5 = .ok (.istore_n 2, 1) := by decide +kernel
theorem dX12_goThing_6 : decode cX12_goThing 6 = .ok (.aload_n 0, 1) := by decide +kernel
theorem dX12_goThing_7 : decode cX12_goThing 7 = .ok (.invokevirtual 658, 3) := by decide +kernel
theorem dX12_goThing_10 : decode cX12_goThing 10 = .ok (.aload_n 0, 1) := by decide +kernel
theorem dX12_goThing_11 : decode cX12_goThing 11 = .ok (.invokevirtual 552, 3) := by decide +kernel
theorem dX12_goThing_14 : decode cX12_goThing 14 = .ok (.iconst 1, 1) := by decide +kernel
theorem dX12_goThing_15 : decode cX12_goThing 15 = .ok (.isub, 1) := by decide +kernel
theorem dX12_goThing_16 : decode cX12_goThing 16 = .ok (.istore_n 3, 1) := by decide +kernel
theorem dX12_goThing_17 : decode cX12_goThing 17 = .ok (.iload_n 3, 1) := by decide +kernel
theorem dX12_goThing_18 : decode cX12_goThing 18 = .ok (.ifCond .lt 111, 3) := by decide +kernel
theorem dX12_goThing_21 : decode cX12_goThing 21 = .ok (.aload_n 0, 1) := by decide +kernel
theorem dX12_goThing_22 : decode cX12_goThing 22 = .ok (.getfield 339, 3) := by decide +kernel
theorem dX12_goThing_25 : decode cX12_goThing 25 = .ok (.bipush 6, 2) := by decide +kernel
theorem dX12_goThing_27 : decode cX12_goThing 27 = .ok (.aload_n 0, 1) := by decide +kernel
theorem dX12_goThing_28 : decode cX12_goThing 28 = .ok (.getfield 634, 3) := by decide +kernel
theorem dX12_goThing_31 : decode cX12_goThing 31 = .ok (.imul, 1) := by decide +kernel
theorem dX12_goThing_32 : decode cX12_goThing 32 = .ok (.iload_n 3, 1) := by decide +kernel
theorem dX12_goThing_33 : decode cX12_goThing 33 = .ok (.iadd, 1) := by decide +kernel
theorem dX12_goThing_34 : decode cX12_goThing 34 = .ok (.iaload, 1) := by decide +kernel
theorem dX12_goThing_35 : decode cX12_goThing 35 = .ok (.istore 4, 2) := by decide +kernel
theorem dX12_goThing_37 : decode cX12_goThing 37 = .ok (.iconst 0, 1) := by decide +kernel
theorem dX12_goThing_38 : decode cX12_goThing 38 = .ok (.istore 5, 2) := by decide +kernel
theorem dX12_goThing_40 : decode cX12_goThing 40 = .ok (.iload 4, 2) := by decide +kernel
theorem dX12_goThing_42 : decode cX12_goThing 42 = .ok (.aload_n 0, 1) := by decide +kernel
theorem dX12_goThing_43 : decode cX12_goThing 43 = .ok (.getfield 431, 3) := by decide +kernel
theorem dX12_goThing_46 : decode cX12_goThing 46 = .ok (.if_icmp .ge 77, 3) := by decide +kernel
theorem dX12_goThing_49 : decode cX12_goThing 49 = .ok (.iload 5, 2) := by decide +kernel
theorem dX12_goThing_51 : decode cX12_goThing 51 = .ok (.aload_n 0, 1) := by decide +kernel
theorem dX12_goThing_52 : decode cX12_goThing 52 = .ok (.getfield 279, 3) := by decide +kernel
theorem dX12_goThing_55 : decode cX12_goThing 55 = .ok (.iload 4, 2) := by decide +kernel
theorem dX12_goThing_57 : decode cX12_goThing 57 = .ok (.iaload, 1) := by decide +kernel
theorem dX12_goThing_58 : decode cX12_goThing 58 = .ok (.if_icmp .ge 65, 3) := by decide +kernel
theorem dX12_goThing_61 : decode cX12_goThing 61 = .ok (.bipush 8, 2) := by decide +kernel
theorem dX12_goThing_63 : decode cX12_goThing 63 = .ok (.iload 4, 2) := by decide +kernel
theorem dX12_goThing_65 : decode cX12_goThing 65 = .ok (.imul, 1) := by decide +kernel
theorem dX12_goThing_66 : decode cX12_goThing 66 = .ok (.iload 5, 2) := by decide +kernel
theorem dX12_goThing_68 : decode cX12_goThing 68 = .ok (.iadd, 1) := by decide +kernel
theorem dX12_goThing_69 : decode cX12_goThing 69 = .ok (.istore 6, 2) := by decide +kernel
theorem dX12_goThing_71 : decode cX12_goThing 71 = .ok (.aload_n 0, 1) := by decide +kernel
theorem dX12_goThing_72 : decode cX12_goThing 72 = .ok (.getfield 306, 3) := by decide +kernel
theorem dX12_goThing_75 : decode cX12_goThing 75 = .ok (.iload 6, 2) := by decide +kernel
theorem dX12_goThing_77 : decode cX12_goThing 77 = .ok (.iaload, 1) := by decide +kernel
theorem dX12_goThing_78 : decode cX12_goThing 78 = .ok (.iload_n 1, 1) := by decide +kernel
theorem dX12_goThing_79 : decode cX12_goThing 79 = .ok (.if_icmp .ne 38, 3) := by decide +kernel
theorem dX12_goThing_82 : decode cX12_goThing 82 = .ok (.aload_n 0, 1) := by decide +kernel
theorem dX12_goThing_83 : decode cX12_goThing 83 = .ok (.iload 4, 2) := by decide +kernel
theorem dX12_goThing_85 : decode cX12_goThing 85 = .ok (.iload 6, 2) := by decide +kernel
theorem dX12_goThing_87 : decode cX12_goThing 87 = .ok (.iload_n 2, 1) := by decide +kernel
theorem dX12_goThing_88 : decode cX12_goThing 88 = .ok (.invokevirtual 661, 3) := by decide +kernel
theorem dX12_goThing_91 : decode cX12_goThing 91 = .ok (.ifCond .ne 6, 3) := by decide +kernel
theorem dX12_goThing_94 : decode cX12_goThing 94 = .ok (.goto 23, 3) := by decide +kernel
theorem dX12_goThing_97 : decode cX12_goThing 97 = .ok (.aload_n 0, 1) := by decide +kernel
theorem dX12_goThing_98 : decode cX12_goThing 98 = .ok (.getfield 357, 3) := by decide +kernel
theorem dX12_goThing_101 : decode cX12_goThing 101 = .ok (.aload_n 0, 1) := by decide +kernel
theorem dX12_goThing_102 : decode cX12_goThing 102 = .ok (.getfield 312, 3) := by decide +kernel
theorem dX12_goThing_105 : decode cX12_goThing 105 = .ok (.iload 6, 2) := by decide +kernel
theorem dX12_goThing_107 : decode cX12_goThing 107 = .ok (.iaload, 1) := by decide +kernel
theorem dX12_goThing_108 : decode cX12_goThing 108 = .ok (.aload_n 0, 1) := by decide +kernel
theorem dX12_goThing_109 : decode cX12_goThing 109 = .ok (.getfield 252, 3) := by decide +kernel
theorem dX12_goThing_112 : decode cX12_goThing 112 = .ok (.iload_n 1, 1) := by decide +kernel
theorem dX12_goThing_113 : decode cX12_goThing 113 = .ok (.iaload, 1) := by decide +kernel
theorem dX12_goThing_114 : decode cX12_goThing 114 = .ok (.iastore, 1) := by decide +kernel
theorem dX12_goThing_115 : decode cX12_goThing 115 = .ok (.iconst 0, 1) := by decide +kernel
theorem dX12_goThing_116 : decode cX12_goThing 116 = .ok (.ireturn, 1) := by decide +kernel
theorem dX12_goThing_117 : decode cX12_goThing 117 = .ok (.iinc 5 1, 3) := by decide +kernel
theorem dX12_goThing_120 : decode cX12_goThing 120 = .ok (.goto (-80), 3) := by decide +kernel
theorem dX12_goThing_123 : decode cX12_goThing 123 = .ok (.iinc 3 (-1), 3) := by decide +kernel
theorem dX12_goThing_126 : decode cX12_goThing 126 = .ok (.goto (-109), 3) := by decide +kernel
theorem dX12_goThing_129 : decode cX12_goThing 129 = .ok (.aload_n 0, 1) := by decide +kernel
theorem dX12_goThing_130 : decode cX12_goThing 130 = .ok (.aload_n 0, 1) := by decide +kernel
theorem dX12_goThing_131 : decode cX12_goThing 131 = .ok (.getfield 252, 3) := by decide +kernel
theorem dX12_goThing_134 : decode cX12_goThing 134 = .ok (.iload_n 1, 1) := by decide +kernel
theorem dX12_goThing_135 : decode cX12_goThing 135 = .ok (.iaload, 1) := by decide +kernel
theorem dX12_goThing_136 : decode cX12_goThing 136 = .ok (.iload_n 2, 1) := by decide +kernel
theorem dX12_goThing_137 : decode cX12_goThing 137 = .ok (.invokevirtual 664, 3) := by decide +kernel
theorem dX12_goThing_140 : decode cX12_goThing 140 = .ok (.ifCond .eq 7, 3) := by decide +kernel
theorem dX12_goThing_143 : decode cX12_goThing 143 = .ok (.iconst 1, 1) := by decide +kernel
theorem dX12_goThing_144 : decode cX12_goThing 144 = .ok (.goto 22, 3) := by decide +kernel
theorem dX12_goThing_147 : decode cX12_goThing 147 = .ok (.aload_n 0, 1) := by decide +kernel
theorem dX12_goThing_148 : decode cX12_goThing 148 = .ok (.aload_n 0, 1) := by decide +kernel
theorem dX12_goThing_149 : decode cX12_goThing 149 = .ok (.getfield 252, 3) := by decide +kernel
theorem dX12_goThing_152 : decode cX12_goThing 152 = .ok (.iload_n 1, 1) := by decide +kernel
theorem dX12_goThing_153 : decode cX12_goThing 153 = .ok (.iaload, 1) := by decide +kernel
theorem dX12_goThing_154 : decode cX12_goThing 154 = .ok (.iload_n 2, 1) := by decide +kernel
theorem dX12_goThing_155 : decode cX12_goThing 155 = .ok (.invokevirtual 667, 3) := by decide +kernel
theorem dX12_goThing_158 : decode cX12_goThing 158 = .ok (.ifCond .eq 7, 3) := by decide +kernel
theorem dX12_goThing_161 : decode cX12_goThing 161 = .ok (.iconst 2, 1) := by decide +kernel
theorem dX12_goThing_162 : decode cX12_goThing 162 = .ok (.goto 4, 3) := by decide +kernel
theorem dX12_goThing_165 : decode cX12_goThing 165 = .ok (.iconst 3, 1) := by decide +kernel
theorem dX12_goThing_166 : decode cX12_goThing 166 = .ok (.ireturn, 1) := by decide +kernel
def X12_goThing_b40 (k17 : Int32 → Int32 → Int32 → Wd → Option (Int32 × Wd)) (k40 : Int32 → Int32 → Int32 → Int32 → Int32 → Wd → Option (Int32 × Wd)) (y1 : Int32) (y2 : Int32) (y3 : Int32) (y4 : Int32) (y5 : Int32) (w : Wd) : Option (Int32 × Wd) :=
  if (w.1 0 49) ≤ y4 then
  (k17 y1 y2 (y3 + (-1)) w)
  else
  if inb y4 4 = true then
  (if (w.1 23 (Int32.toNatClampNeg y4)) ≤ y5 then
  (k17 y1 y2 (y3 + (-1)) w)
  else
  lt ((8 * y4) + y5) fun v12 =>
  if inb v12 32 = true then
  (if (w.1 32 (Int32.toNatClampNeg v12)) = y1 then
  (cl (f_X12_holds y4 v12 y2 w) fun r14 w13 =>
  if r14 = 0 then
  (k40 y1 y2 y3 y4 (y5 + 1) w13)
  else
  if inb v12 32 = true then
  (if inb y1 8 = true then
  (if inb (w13.1 34 (Int32.toNatClampNeg v12)) 8 = true then
  (lt (wI w13 48 (Int32.toNatClampNeg (w13.1 34 (Int32.toNatClampNeg v12))) (w13.1 5 (Int32.toNatClampNeg y1))) fun w15 =>
  some (0, w15))
  else none)
  else none)
  else none)
  else
  k40 y1 y2 y3 y4 (y5 + 1) w)
  else none)
  else none
set_option maxRecDepth 100000 in
set_option maxHeartbeats 4000000 in
theorem t_X12_goThing_b40 {Z : Cz (Int32 × Wd)} (hZ : OKZ Z SM cX12_goThing RX12 7 (some .int) 24) (hE : EndI Z) (k17 : Int32 → Int32 → Int32 → Wd → Option (Int32 × Wd)) (hk17 : ∀ (y1 : Int32) (y2 : Int32) (y3 : Int32)  (w : Wd), BW Z 7 17 [(0, .ref (ph (zY Z) 0)), (1, .int y1), (2, .int y2), (3, .int y3)] [] w (k17 y1 y2 y3 w)) (k40 : Int32 → Int32 → Int32 → Int32 → Int32 → Wd → Option (Int32 × Wd)) (hk40 : ∀ (y1 : Int32) (y2 : Int32) (y3 : Int32) (y4 : Int32) (y5 : Int32)  (w : Wd), BW Z 7 40 [(0, .ref (ph (zY Z) 0)), (1, .int y1), (2, .int y2), (3, .int y3), (4, .int y4), (5, .int y5)] [] w (k40 y1 y2 y3 y4 y5 w)) (y1 : Int32) (y2 : Int32) (y3 : Int32) (y4 : Int32) (y5 : Int32)  (w : Wd) : BW Z 7 40 [(0, .ref (ph (zY Z) 0)), (1, .int y1), (2, .int y2), (3, .int y3), (4, .int y4), (5, .int y5)] [] w (X12_goThing_b40 k17 k40 y1 y2 y3 y4 y5 w) :=
  bw_iload hZ 4 rfl dX12_goThing_40 <|
  bw_aload_n hZ 0 rfl dX12_goThing_42 <|
  bw_getI hZ fl_RX12_431 (by decide) obM_0 dX12_goThing_43 <|
  bw_icmp_ge hZ (tgt := 123) (by decide) dX12_goThing_46 (fun _ =>
  bw_iinc hZ (-1) 3 rfl (by decide) (by decide) rfl dX12_goThing_123 <|
  bw_goto hZ (tgt := 17) (by decide) dX12_goThing_126 <|
  bw_sub [1, 2, 3, 0] rfl (hk17 y1 y2 (y3 + (-1)) w)) (fun _ =>
  bw_iload hZ 5 rfl dX12_goThing_49 <|
  bw_aload_n hZ 0 rfl dX12_goThing_51 <|
  bw_getR hZ fl_RX12_279 obM_0 rfl dX12_goThing_52 <|
  bw_iload hZ 4 rfl dX12_goThing_55 <|
  bw_iald hZ (arM_23 _) dX12_goThing_57 <|
  bw_icmp_ge hZ (tgt := 123) (by decide) dX12_goThing_58 (fun _ =>
  bw_iinc hZ (-1) 3 rfl (by decide) (by decide) rfl dX12_goThing_123 <|
  bw_goto hZ (tgt := 17) (by decide) dX12_goThing_126 <|
  bw_sub [1, 2, 3, 0] rfl (hk17 y1 y2 (y3 + (-1)) w)) (fun _ =>
  bw_bipush hZ 8 (by decide) dX12_goThing_61 <|
  bw_iload hZ 4 rfl dX12_goThing_63 <|
  bw_imul hZ dX12_goThing_65 <|
  bw_iload hZ 5 rfl dX12_goThing_66 <|
  bw_iadd hZ dX12_goThing_68 <|
  bw_nm fun v12 =>
  bw_istore hZ (by decide) rfl dX12_goThing_69 <|
  bw_aload_n hZ 1 rfl dX12_goThing_71 <|
  bw_getR hZ fl_RX12_306 obM_0 rfl dX12_goThing_72 <|
  bw_iload hZ 0 rfl dX12_goThing_75 <|
  bw_iald hZ (arM_32 _) dX12_goThing_77 <|
  bw_iload_n hZ 2 rfl dX12_goThing_78 <|
  bw_icmp_ne hZ (tgt := 117) (by decide) dX12_goThing_79 (fun _ =>
  bw_iinc hZ 1 6 rfl (by decide) (by decide) rfl dX12_goThing_117 <|
  bw_goto hZ (tgt := 40) (by decide) dX12_goThing_120 <|
  bw_sub [2, 3, 4, 5, 6, 0] rfl (hk40 y1 y2 y3 y4 (y5 + 1) w)) (fun _ =>
  bw_aload_n hZ 1 rfl dX12_goThing_82 <|
  bw_iload hZ 5 rfl dX12_goThing_83 <|
  bw_iload hZ 0 rfl dX12_goThing_85 <|
  bw_iload_n hZ 3 rfl dX12_goThing_87 <|
  bw_callVI (As := [.int y4, .int v12, .int y2]) hZ ml_RX12_661 rc_12 obM_0 (by decide) (c_X12_holds (zl Z) (zY Z) (hZ_S hZ) y4 v12 y2 w) rfl rfl (Nat.le_of_ble_eq_true rfl) dX12_goThing_88 fun r14 w13 =>
  bw_if_ne hZ (tgt := 97) (by decide) dX12_goThing_91 (fun _ =>
  bw_aload_n hZ 1 rfl dX12_goThing_97 <|
  bw_getR hZ fl_RX12_357 obM_0 rfl dX12_goThing_98 <|
  bw_aload_n hZ 1 rfl dX12_goThing_101 <|
  bw_getR hZ fl_RX12_312 obM_0 rfl dX12_goThing_102 <|
  bw_iload hZ 0 rfl dX12_goThing_105 <|
  bw_iald hZ (arM_34 _) dX12_goThing_107 <|
  bw_aload_n hZ 1 rfl dX12_goThing_108 <|
  bw_getR hZ fl_RX12_252 obM_0 rfl dX12_goThing_109 <|
  bw_iload_n hZ 2 rfl dX12_goThing_112 <|
  bw_iald hZ (arM_5 _) dX12_goThing_113 <|
  bw_iast hZ (arM_48 _) dX12_goThing_114 fun w15 =>
  bw_iconst hZ 0 (by decide) dX12_goThing_115 <|
  bw_iret hZ hE dX12_goThing_116) (fun _ =>
  bw_goto hZ (tgt := 117) (by decide) dX12_goThing_94 <|
  bw_iinc hZ 1 6 rfl (by decide) (by decide) rfl dX12_goThing_117 <|
  bw_goto hZ (tgt := 40) (by decide) dX12_goThing_120 <|
  bw_sub [2, 3, 4, 5, 6, 0] rfl (hk40 y1 y2 y3 y4 (y5 + 1) w13)))))
def X12_goThing_b40_L (k17 : Int32 → Int32 → Int32 → Wd → Option (Int32 × Wd)) : Int32 → Int32 → Int32 → Int32 → Int32 → Wd → Option (Int32 × Wd) :=
  lp fu (fun _ _ _ _ _ _ => none) (fun k40 => X12_goThing_b40 k17 k40)
theorem t_X12_goThing_b40_L {Z : Cz (Int32 × Wd)} (hZ : OKZ Z SM cX12_goThing RX12 7 (some .int) 24) (hE : EndI Z) (k17 : Int32 → Int32 → Int32 → Wd → Option (Int32 × Wd)) (hk17 : ∀ (y1 : Int32) (y2 : Int32) (y3 : Int32)  (w : Wd), BW Z 7 17 [(0, .ref (ph (zY Z) 0)), (1, .int y1), (2, .int y2), (3, .int y3)] [] w (k17 y1 y2 y3 w)) : ∀ (y1 : Int32) (y2 : Int32) (y3 : Int32) (y4 : Int32) (y5 : Int32)  (w : Wd), BW Z 7 40 [(0, .ref (ph (zY Z) 0)), (1, .int y1), (2, .int y2), (3, .int y3), (4, .int y4), (5, .int y5)] [] w (X12_goThing_b40_L k17 y1 y2 y3 y4 y5 w) :=
  lp_bw (fun k40 => ∀ (y1 : Int32) (y2 : Int32) (y3 : Int32) (y4 : Int32) (y5 : Int32)  (w : Wd), BW Z 7 40 [(0, .ref (ph (zY Z) 0)), (1, .int y1), (2, .int y2), (3, .int y3), (4, .int y4), (5, .int y5)] [] w (k40 y1 y2 y3 y4 y5 w)) (fun _ _ _ _ _ _ => bw_none) (fun k40 hk40 y1 y2 y3 y4 y5 w => t_X12_goThing_b40 hZ hE k17 hk17 k40 hk40 y1 y2 y3 y4 y5 w) fu
def X12_goThing_b17 (k17 : Int32 → Int32 → Int32 → Wd → Option (Int32 × Wd)) (y1 : Int32) (y2 : Int32) (y3 : Int32) (w : Wd) : Option (Int32 × Wd) :=
  if y3 < 0 then
  (if inb y1 8 = true then
  (cl (f_X12_leave (w.1 5 (Int32.toNatClampNeg y1)) y2 w) fun r8 w7 =>
  if r8 = 0 then
  (if inb y1 8 = true then
  (cl (f_X12_byKin (w7.1 5 (Int32.toNatClampNeg y1)) y2 w7) fun r10 w9 =>
  if r10 = 0 then
  (some (3, w9))
  else
  some (2, w9))
  else none)
  else
  some (1, w7))
  else none)
  else
  if inb ((6 * (w.1 0 88)) + y3) 4320 = true then
  (lt (w.1 43 (Int32.toNatClampNeg ((6 * (w.1 0 88)) + y3))) fun v11 =>
  X12_goThing_b40_L k17 y1 y2 y3 v11 0 w)
  else none
set_option maxRecDepth 100000 in
set_option maxHeartbeats 4000000 in
theorem t_X12_goThing_b17 {Z : Cz (Int32 × Wd)} (hZ : OKZ Z SM cX12_goThing RX12 7 (some .int) 24) (hE : EndI Z) (k17 : Int32 → Int32 → Int32 → Wd → Option (Int32 × Wd)) (hk17 : ∀ (y1 : Int32) (y2 : Int32) (y3 : Int32)  (w : Wd), BW Z 7 17 [(0, .ref (ph (zY Z) 0)), (1, .int y1), (2, .int y2), (3, .int y3)] [] w (k17 y1 y2 y3 w)) (y1 : Int32) (y2 : Int32) (y3 : Int32)  (w : Wd) : BW Z 7 17 [(0, .ref (ph (zY Z) 0)), (1, .int y1), (2, .int y2), (3, .int y3)] [] w (X12_goThing_b17 k17 y1 y2 y3 w) :=
  bw_iload_n hZ 3 rfl dX12_goThing_17 <|
  bw_if_lt hZ (tgt := 129) (by decide) dX12_goThing_18 (fun _ =>
  bw_aload_n hZ 0 rfl dX12_goThing_129 <|
  bw_aload_n hZ 0 rfl dX12_goThing_130 <|
  bw_getR hZ fl_RX12_252 obM_0 rfl dX12_goThing_131 <|
  bw_iload_n hZ 1 rfl dX12_goThing_134 <|
  bw_iald hZ (arM_5 _) dX12_goThing_135 <|
  bw_iload_n hZ 2 rfl dX12_goThing_136 <|
  bw_callVI (As := [.int (w.1 5 (Int32.toNatClampNeg y1)), .int y2]) hZ ml_RX12_664 rc_12 obM_0 (by decide) (c_X12_leave (zl Z) (zY Z) (hZ_S hZ) (w.1 5 (Int32.toNatClampNeg y1)) y2 w) rfl rfl (Nat.le_of_ble_eq_true rfl) dX12_goThing_137 fun r8 w7 =>
  bw_if_eq hZ (tgt := 147) (by decide) dX12_goThing_140 (fun _ =>
  bw_aload_n hZ 0 rfl dX12_goThing_147 <|
  bw_aload_n hZ 0 rfl dX12_goThing_148 <|
  bw_getR hZ fl_RX12_252 obM_0 rfl dX12_goThing_149 <|
  bw_iload_n hZ 1 rfl dX12_goThing_152 <|
  bw_iald hZ (arM_5 _) dX12_goThing_153 <|
  bw_iload_n hZ 2 rfl dX12_goThing_154 <|
  bw_callVI (As := [.int (w7.1 5 (Int32.toNatClampNeg y1)), .int y2]) hZ ml_RX12_667 rc_12 obM_0 (by decide) (c_X12_byKin (zl Z) (zY Z) (hZ_S hZ) (w7.1 5 (Int32.toNatClampNeg y1)) y2 w7) rfl rfl (Nat.le_of_ble_eq_true rfl) dX12_goThing_155 fun r10 w9 =>
  bw_if_eq hZ (tgt := 165) (by decide) dX12_goThing_158 (fun _ =>
  bw_iconst hZ 3 (by decide) dX12_goThing_165 <|
  bw_iret hZ hE dX12_goThing_166) (fun _ =>
  bw_iconst hZ 2 (by decide) dX12_goThing_161 <|
  bw_goto hZ (tgt := 166) (by decide) dX12_goThing_162 <|
  bw_iret hZ hE dX12_goThing_166)) (fun _ =>
  bw_iconst hZ 1 (by decide) dX12_goThing_143 <|
  bw_goto hZ (tgt := 166) (by decide) dX12_goThing_144 <|
  bw_iret hZ hE dX12_goThing_166)) (fun _ =>
  bw_aload_n hZ 0 rfl dX12_goThing_21 <|
  bw_getR hZ fl_RX12_339 obM_0 rfl dX12_goThing_22 <|
  bw_bipush hZ 6 (by decide) dX12_goThing_25 <|
  bw_aload_n hZ 0 rfl dX12_goThing_27 <|
  bw_getI hZ fl_RX12_634 (by decide) obM_0 dX12_goThing_28 <|
  bw_imul hZ dX12_goThing_31 <|
  bw_iload_n hZ 3 rfl dX12_goThing_32 <|
  bw_iadd hZ dX12_goThing_33 <|
  bw_iald hZ (arM_43 _) dX12_goThing_34 <|
  bw_nm fun v11 =>
  bw_istore hZ (by decide) rfl dX12_goThing_35 <|
  bw_iconst hZ 0 (by decide) dX12_goThing_37 <|
  bw_istore hZ (by decide) rfl dX12_goThing_38 <|
  bw_sub [2, 3, 4, 5, 1, 0] rfl (t_X12_goThing_b40_L hZ hE k17 hk17 y1 y2 y3 v11 0 w))
def X12_goThing_b17_L  : Int32 → Int32 → Int32 → Wd → Option (Int32 × Wd) :=
  lp fu (fun _ _ _ _ => none) (fun k17 => X12_goThing_b17 k17)
theorem t_X12_goThing_b17_L {Z : Cz (Int32 × Wd)} (hZ : OKZ Z SM cX12_goThing RX12 7 (some .int) 24) (hE : EndI Z)  : ∀ (y1 : Int32) (y2 : Int32) (y3 : Int32)  (w : Wd), BW Z 7 17 [(0, .ref (ph (zY Z) 0)), (1, .int y1), (2, .int y2), (3, .int y3)] [] w (X12_goThing_b17_L y1 y2 y3 w) :=
  lp_bw (fun k17 => ∀ (y1 : Int32) (y2 : Int32) (y3 : Int32)  (w : Wd), BW Z 7 17 [(0, .ref (ph (zY Z) 0)), (1, .int y1), (2, .int y2), (3, .int y3)] [] w (k17 y1 y2 y3 w)) (fun _ _ _ _ => bw_none) (fun k17 hk17 y1 y2 y3 w => t_X12_goThing_b17 hZ hE k17 hk17 y1 y2 y3 w) fu
def f_X12_goThing (x1 : Int32) (w : Wd) : Option (Int32 × Wd) :=
  cl (f_X12_lawFor x1 w) fun r2 w1 =>
  cv (f_X12_noParts w1) fun w3 =>
  cl (f_X12_items w3) fun r5 w4 =>
  lt (r5 - 1) fun v6 =>
  X12_goThing_b17_L x1 r2 v6 w4
set_option maxRecDepth 100000 in
set_option maxHeartbeats 4000000 in
theorem t_X12_goThing {Z : Cz (Int32 × Wd)} (hZ : OKZ Z SM cX12_goThing RX12 7 (some .int) 24) (hE : EndI Z) (x1 : Int32)  (w : Wd) : BW Z 7 0 [(0, .ref (ph (zY Z) 0)), (1, .int x1)] [] w (f_X12_goThing x1 w) :=
  bw_aload_n hZ 0 rfl dX12_goThing_0 <|
  bw_iload_n hZ 1 rfl dX12_goThing_1 <|
  bw_callVI (As := [.int x1]) hZ ml_RX12_586 rc_12 obM_0 (by decide) (c_X12_lawFor (zl Z) (zY Z) (hZ_S hZ) x1 w) rfl rfl (Nat.le_of_ble_eq_true rfl) dX12_goThing_2 fun r2 w1 =>
  bw_istore_n hZ rfl (by decide) rfl dX12_goThing_5 <|
  bw_aload_n hZ 1 rfl dX12_goThing_6 <|
  bw_callVV (As := []) hZ ml_RX12_658 rc_12 obM_0 (by decide) (c_X12_noParts (zl Z) (zY Z) (hZ_S hZ) w1) rfl rfl (Nat.le_of_ble_eq_true rfl) dX12_goThing_7 fun w3 =>
  bw_aload_n hZ 1 rfl dX12_goThing_10 <|
  bw_callVI (As := []) hZ ml_RX12_552 rc_12 obM_0 (by decide) (c_X12_items (zl Z) (zY Z) (hZ_S hZ) w3) rfl rfl (Nat.le_of_ble_eq_true rfl) dX12_goThing_11 fun r5 w4 =>
  bw_iconst hZ 1 (by decide) dX12_goThing_14 <|
  bw_isub hZ dX12_goThing_15 <|
  bw_nm fun v6 =>
  bw_istore_n hZ rfl (by decide) rfl dX12_goThing_16 <|
  bw_sub [2, 3, 1, 0] rfl (t_X12_goThing_b17_L hZ hE x1 r2 v6 w4)
theorem c_X12_goThing (l : Launch) (Y : Ev) (hY : Y.1 = SM) (x1 : Int32)  (w : Wd) : CI l Y yX12_goThing cX12_goThing 7 24 [.ref (ph Y 0), .int x1] w .int (f_X12_goThing x1 w) := by
  refine CI_of (S := SM) (by decide) (Nat.le_of_ble_eq_true rfl) hY ?_
  intro Z hl hY2 hZ hE
  subst hY2
  exact t_X12_goThing hZ hE x1 w
-- WhichWillModel.moneyThere
theorem dX12_moneyThere_0 : decode cX12_moneyThere 0 = .ok (.iconst 0, 1) := by decide +kernel
theorem dX12_moneyThere_1 : decode cX12_moneyThere 1 = .ok (.aload_n 0, 1) := by decide +kernel
theorem dX12_moneyThere_2 : decode cX12_moneyThere 2 = .ok (.getfield 418, 3) := by decide +kernel
theorem dX12_moneyThere_5 : decode cX12_moneyThere 5 = .ok (.aload_n 0, 1) := by decide +kernel
theorem dX12_moneyThere_6 : decode cX12_moneyThere 6 = .ok (.getfield 420, 3) := by decide +kernel
theorem dX12_moneyThere_9 : decode cX12_moneyThere 9 = .ok (.isub, 1) := by decide +kernel
theorem dX12_moneyThere_10 : decode cX12_moneyThere 10 = .ok (.invokestatic 558, 3) := by decide +kernel
theorem dX12_moneyThere_13 : decode cX12_moneyThere 13 = .ok (.ireturn, 1) := by decide +kernel
def f_X12_moneyThere (w : Wd) : Option (Int32 × Wd) :=
  some (if (0 : Int32) < ((w.1 0 14) - (w.1 0 15)) then (w.1 0 14) - (w.1 0 15) else 0, w)
set_option maxRecDepth 100000 in
set_option maxHeartbeats 4000000 in
theorem t_X12_moneyThere {Z : Cz (Int32 × Wd)} (hZ : OKZ Z SM cX12_moneyThere RX12 1 (some .int) 1) (hE : EndI Z)   (w : Wd) : BW Z 1 0 [(0, .ref (ph (zY Z) 0))] [] w (f_X12_moneyThere w) :=
  bw_iconst hZ 0 (by decide) dX12_moneyThere_0 <|
  bw_aload_n hZ 0 rfl dX12_moneyThere_1 <|
  bw_getI hZ fl_RX12_418 (by decide) obM_0 dX12_moneyThere_2 <|
  bw_aload_n hZ 0 rfl dX12_moneyThere_5 <|
  bw_getI hZ fl_RX12_420 (by decide) obM_0 dX12_moneyThere_6 <|
  bw_isub hZ dX12_moneyThere_9 <|
  bw_mmax hZ kl_RX12_558 km_max (by decide) (Nat.le_of_ble_eq_true rfl) dX12_moneyThere_10 <|
  bw_iret hZ hE dX12_moneyThere_13
theorem c_X12_moneyThere (l : Launch) (Y : Ev) (hY : Y.1 = SM)   (w : Wd) : CI l Y yX12_moneyThere cX12_moneyThere 1 1 [.ref (ph Y 0)] w .int (f_X12_moneyThere w) := by
  refine CI_of (S := SM) (by decide) (Nat.le_of_ble_eq_true rfl) hY ?_
  intro Z hl hY2 hZ hE
  subst hY2
  exact t_X12_moneyThere hZ hE w
-- WhichWillModel.goMoney
theorem dX12_goMoney_0 : decode cX12_goMoney 0 = .ok (.aload_n 0, 1) := by decide +kernel
theorem dX12_goMoney_1 : decode cX12_goMoney 1 = .ok (.iconst (-1), 1) := by decide +kernel
theorem dX12_goMoney_2 : decode cX12_goMoney 2 = .ok (.invokevirtual 586, 3) := by decide +kernel
theorem dX12_goMoney_5 : decode cX12_goMoney 5 = .ok (.istore_n 1, 1) := by decide +kernel
theorem dX12_goMoney_6 : decode cX12_goMoney 6 = .ok (.aload_n 0, 1) := by decide +kernel
theorem dX12_goMoney_7 : decode cX12_goMoney 7 = .ok (.invokevirtual 670, 3) := by decide +kernel
theorem dX12_goMoney_10 : decode cX12_goMoney 10 = .ok (.istore_n 2, 1) := by decide +kernel
theorem dX12_goMoney_11 : decode cX12_goMoney 11 = .ok (.iconst 0, 1) := by decide +kernel
theorem dX12_goMoney_12 : decode cX12_goMoney 12 = .ok (.istore_n 3, 1) := by decide +kernel
theorem dX12_goMoney_13 : decode cX12_goMoney 13 = .ok (.lconst 0, 1) := by decide +kernel
theorem dX12_goMoney_14 : decode cX12_goMoney 14 = .ok (.lstore 4, 2) := by decide +kernel
theorem dX12_goMoney_16 : decode cX12_goMoney 16 = .ok (.aload_n 0, 1) := by decide +kernel
theorem dX12_goMoney_17 : decode cX12_goMoney 17 = .ok (.invokevirtual 658, 3) := by decide +kernel
theorem dX12_goMoney_20 : decode cX12_goMoney 20 = .ok (.iconst 0, 1) := by decide +kernel
theorem dX12_goMoney_21 : decode cX12_goMoney 21 = .ok (.istore 6, 2) := by decide +kernel
theorem dX12_goMoney_23 : decode cX12_goMoney 23 = .ok (.iload 6, 2) := by decide +kernel
theorem dX12_goMoney_25 : decode cX12_goMoney 25 = .ok (.aload_n 0, 1) := by decide +kernel
theorem dX12_goMoney_26 : decode cX12_goMoney 26 = .ok (.invokevirtual 552, 3) := by decide +kernel
theorem dX12_goMoney_29 : decode cX12_goMoney 29 = .ok (.if_icmp .ge 116, 3) := by decide +kernel
theorem dX12_goMoney_32 : decode cX12_goMoney 32 = .ok (.aload_n 0, 1) := by decide +kernel
theorem dX12_goMoney_33 : decode cX12_goMoney 33 = .ok (.getfield 339, 3) := by decide +kernel
theorem dX12_goMoney_36 : decode cX12_goMoney 36 = .ok (.bipush 6, 2) := by decide +kernel
theorem dX12_goMoney_38 : decode cX12_goMoney 38 = .ok (.aload_n 0, 1) := by decide +kernel
theorem dX12_goMoney_39 : decode cX12_goMoney 39 = .ok (.getfield 634, 3) := by decide +kernel
theorem dX12_goMoney_42 : decode cX12_goMoney 42 = .ok (.imul, 1) := by decide +kernel
theorem dX12_goMoney_43 : decode cX12_goMoney 43 = .ok (.iload 6, 2) := by decide +kernel
theorem dX12_goMoney_45 : decode cX12_goMoney 45 = .ok (.iadd, 1) := by decide +kernel
theorem dX12_goMoney_46 : decode cX12_goMoney 46 = .ok (.iaload, 1) := by decide +kernel
theorem dX12_goMoney_47 : decode cX12_goMoney 47 = .ok (.istore 7, 2) := by decide +kernel
theorem dX12_goMoney_49 : decode cX12_goMoney 49 = .ok (.iconst 0, 1) := by decide +kernel
theorem dX12_goMoney_50 : decode cX12_goMoney 50 = .ok (.istore 8, 2) := by decide +kernel
theorem dX12_goMoney_52 : decode cX12_goMoney 52 = .ok (.iload 7, 2) := by decide +kernel
theorem dX12_goMoney_54 : decode cX12_goMoney 54 = .ok (.aload_n 0, 1) := by decide +kernel
theorem dX12_goMoney_55 : decode cX12_goMoney 55 = .ok (.getfield 431, 3) := by decide +kernel
theorem dX12_goMoney_58 : decode cX12_goMoney 58 = .ok (.if_icmp .ge 81, 3) := by decide +kernel
theorem dX12_goMoney_61 : decode cX12_goMoney 61 = .ok (.iload 8, 2) := by decide +kernel
theorem dX12_goMoney_63 : decode cX12_goMoney 63 = .ok (.aload_n 0, 1) := by decide +kernel
theorem dX12_goMoney_64 : decode cX12_goMoney 64 = .ok (.getfield 279, 3) := by decide +kernel
theorem dX12_goMoney_67 : decode cX12_goMoney 67 = .ok (.iload 7, 2) := by decide +kernel
theorem dX12_goMoney_69 : decode cX12_goMoney 69 = .ok (.iaload, 1) := by decide +kernel
theorem dX12_goMoney_70 : decode cX12_goMoney 70 = .ok (.if_icmp .ge 69, 3) := by decide +kernel
theorem dX12_goMoney_73 : decode cX12_goMoney 73 = .ok (.bipush 8, 2) := by decide +kernel
theorem dX12_goMoney_75 : decode cX12_goMoney 75 = .ok (.iload 7, 2) := by decide +kernel
theorem dX12_goMoney_77 : decode cX12_goMoney 77 = .ok (.imul, 1) := by decide +kernel
theorem dX12_goMoney_78 : decode cX12_goMoney 78 = .ok (.iload 8, 2) := by decide +kernel
theorem dX12_goMoney_80 : decode cX12_goMoney 80 = .ok (.iadd, 1) := by decide +kernel
theorem dX12_goMoney_81 : decode cX12_goMoney 81 = .ok (.istore 9, 2) := by decide +kernel
theorem dX12_goMoney_83 : decode cX12_goMoney 83 = .ok (.aload_n 0, 1) := by decide +kernel
theorem dX12_goMoney_84 : decode cX12_goMoney 84 = .ok (.getfield 306, 3) := by decide +kernel
theorem dX12_goMoney_87 : decode cX12_goMoney 87 = .ok (.iload 9, 2) := by decide +kernel
theorem dX12_goMoney_89 : decode cX12_goMoney 89 = .ok (.iaload, 1) := by decide +kernel
theorem dX12_goMoney_90 : decode cX12_goMoney 90 = .ok (.iconst (-1), 1) := by decide +kernel
theorem dX12_goMoney_91 : decode cX12_goMoney 91 = .ok (.if_icmp .ne 42, 3) := by decide +kernel
theorem dX12_goMoney_94 : decode cX12_goMoney 94 = .ok (.aload_n 0, 1) := by decide +kernel
theorem dX12_goMoney_95 : decode cX12_goMoney 95 = .ok (.iload 7, 2) := by decide +kernel
theorem dX12_goMoney_97 : decode cX12_goMoney 97 = .ok (.iload 9, 2) := by decide +kernel
theorem dX12_goMoney_99 : decode cX12_goMoney 99 = .ok (.iload_n 1, 1) := by decide +kernel
theorem dX12_goMoney_100 : decode cX12_goMoney 100 = .ok (.invokevirtual 661, 3) := by decide +kernel
theorem dX12_goMoney_103 : decode cX12_goMoney 103 = .ok (.ifCond .ne 6, 3) := by decide +kernel
theorem dX12_goMoney_106 : decode cX12_goMoney 106 = .ok (.goto 27, 3) := by decide +kernel
theorem dX12_goMoney_109 : decode cX12_goMoney 109 = .ok (.aload_n 0, 1) := by decide +kernel
theorem dX12_goMoney_110 : decode cX12_goMoney 110 = .ok (.getfield 362, 3) := by decide +kernel
theorem dX12_goMoney_113 : decode cX12_goMoney 113 = .ok (.iload_n 3, 1) := by decide +kernel
theorem dX12_goMoney_114 : decode cX12_goMoney 114 = .ok (.iload 9, 2) := by decide +kernel
theorem dX12_goMoney_116 : decode cX12_goMoney 116 = .ok (.iastore, 1) := by decide +kernel
theorem dX12_goMoney_117 : decode cX12_goMoney 117 = .ok (.iinc 3 1, 3) := by decide +kernel
theorem dX12_goMoney_120 : decode cX12_goMoney 120 = .ok (.lload 4, 2) := by decide +kernel
theorem dX12_goMoney_122 : decode cX12_goMoney 122 = .ok (.aload_n 0, 1) := by decide +kernel
theorem dX12_goMoney_123 : decode cX12_goMoney 123 = .ok (.getfield 309, 3) := by decide +kernel
theorem dX12_goMoney_126 : decode cX12_goMoney 126 = .ok (.iload 9, 2) := by decide +kernel
theorem dX12_goMoney_128 : decode cX12_goMoney 128 = .ok (.iaload, 1) := by decide +kernel
theorem dX12_goMoney_129 : decode cX12_goMoney 129 = .ok (.i2l, 1) := by decide +kernel
theorem dX12_goMoney_130 : decode cX12_goMoney 130 = .ok (.ladd, 1) := by decide +kernel
theorem dX12_goMoney_131 : decode cX12_goMoney 131 = .ok (.lstore 4, 2) := by decide +kernel
theorem dX12_goMoney_133 : decode cX12_goMoney 133 = .ok (.iinc 8 1, 3) := by decide +kernel
theorem dX12_goMoney_136 : decode cX12_goMoney 136 = .ok (.goto (-84), 3) := by decide +kernel
theorem dX12_goMoney_139 : decode cX12_goMoney 139 = .ok (.iinc 6 1, 3) := by decide +kernel
theorem dX12_goMoney_142 : decode cX12_goMoney 142 = .ok (.goto (-119), 3) := by decide +kernel
theorem dX12_goMoney_145 : decode cX12_goMoney 145 = .ok (.iconst 0, 1) := by decide +kernel
theorem dX12_goMoney_146 : decode cX12_goMoney 146 = .ok (.istore 6, 2) := by decide +kernel
theorem dX12_goMoney_148 : decode cX12_goMoney 148 = .ok (.iload 6, 2) := by decide +kernel
theorem dX12_goMoney_150 : decode cX12_goMoney 150 = .ok (.bipush 8, 2) := by decide +kernel
theorem dX12_goMoney_152 : decode cX12_goMoney 152 = .ok (.if_icmp .ge 17, 3) := by decide +kernel
theorem dX12_goMoney_155 : decode cX12_goMoney 155 = .ok (.aload_n 0, 1) := by decide +kernel
theorem dX12_goMoney_156 : decode cX12_goMoney 156 = .ok (.getfield 359, 3) := by decide +kernel
theorem dX12_goMoney_159 : decode cX12_goMoney 159 = .ok (.iload 6, 2) := by decide +kernel
theorem dX12_goMoney_161 : decode cX12_goMoney 161 = .ok (.iconst 0, 1) := by decide +kernel
theorem dX12_goMoney_162 : decode cX12_goMoney 162 = .ok (.iastore, 1) := by decide +kernel
theorem dX12_goMoney_163 : decode cX12_goMoney 163 = .ok (.iinc 6 1, 3) := by decide +kernel
theorem dX12_goMoney_166 : decode cX12_goMoney 166 = .ok (.goto (-18), 3) := by decide +kernel
theorem dX12_goMoney_169 : decode cX12_goMoney 169 = .ok (.iload_n 2, 1) := by decide +kernel
theorem dX12_goMoney_170 : decode cX12_goMoney 170 = .ok (.istore 6, 2) := by decide +kernel
theorem dX12_goMoney_172 : decode cX12_goMoney 172 = .ok (.iconst 0, 1) := by decide +kernel
theorem dX12_goMoney_173 : decode cX12_goMoney 173 = .ok (.istore 7, 2) := by decide +kernel
theorem dX12_goMoney_175 : decode cX12_goMoney 175 = .ok (.iload 7, 2) := by decide +kernel
theorem dX12_goMoney_177 : decode cX12_goMoney 177 = .ok (.iload_n 3, 1) := by decide +kernel
theorem dX12_goMoney_178 : decode cX12_goMoney 178 = .ok (.if_icmp .ge 83, 3) := by decide +kernel
theorem dX12_goMoney_181 : decode cX12_goMoney 181 = .ok (.lload 4, 2) := by decide +kernel
theorem dX12_goMoney_183 : decode cX12_goMoney 183 = .ok (.iload_n 2, 1) := by decide +kernel
theorem dX12_goMoney_184 : decode cX12_goMoney 184 = .ok (.i2l, 1) := by decide +kernel
theorem dX12_goMoney_185 : decode cX12_goMoney 185 = .ok (.lcmp, 1) := by decide +kernel
theorem dX12_goMoney_186 : decode cX12_goMoney 186 = .ok (.ifCond .le 26, 3) := by decide +kernel
theorem dX12_goMoney_189 : decode cX12_goMoney 189 = .ok (.aload_n 0, 1) := by decide +kernel
theorem dX12_goMoney_190 : decode cX12_goMoney 190 = .ok (.getfield 309, 3) := by decide +kernel
theorem dX12_goMoney_193 : decode cX12_goMoney 193 = .ok (.aload_n 0, 1) := by decide +kernel
theorem dX12_goMoney_194 : decode cX12_goMoney 194 = .ok (.getfield 362, 3) := by decide +kernel
theorem dX12_goMoney_197 : decode cX12_goMoney 197 = .ok (.iload 7, 2) := by decide +kernel
theorem dX12_goMoney_199 : decode cX12_goMoney 199 = .ok (.iaload, 1) := by decide +kernel
theorem dX12_goMoney_200 : decode cX12_goMoney 200 = .ok (.iaload, 1) := by decide +kernel
theorem dX12_goMoney_201 : decode cX12_goMoney 201 = .ok (.i2l, 1) := by decide +kernel
theorem dX12_goMoney_202 : decode cX12_goMoney 202 = .ok (.iload_n 2, 1) := by decide +kernel
theorem dX12_goMoney_203 : decode cX12_goMoney 203 = .ok (.i2l, 1) := by decide +kernel
theorem dX12_goMoney_204 : decode cX12_goMoney 204 = .ok (.lmul, 1) := by decide +kernel
theorem dX12_goMoney_205 : decode cX12_goMoney 205 = .ok (.lload 4, 2) := by decide +kernel
theorem dX12_goMoney_207 : decode cX12_goMoney 207 = .ok (.ldiv, 1) := by decide +kernel
theorem dX12_goMoney_208 : decode cX12_goMoney 208 = .ok (.l2i, 1) := by decide +kernel
theorem dX12_goMoney_209 : decode cX12_goMoney 209 = .ok (.goto 15, 3) := by decide +kernel
theorem dX12_goMoney_212 : decode cX12_goMoney 212 = .ok (.aload_n 0, 1) := by decide +kernel
theorem dX12_goMoney_213 : decode cX12_goMoney 213 = .ok (.getfield 309, 3) := by decide +kernel
theorem dX12_goMoney_216 : decode cX12_goMoney 216 = .ok (.aload_n 0, 1) := by decide +kernel
theorem dX12_goMoney_217 : decode cX12_goMoney 217 = .ok (.getfield 362, 3) := by decide +kernel
theorem dX12_goMoney_220 : decode cX12_goMoney 220 = .ok (.iload 7, 2) := by decide +kernel
theorem dX12_goMoney_222 : decode cX12_goMoney 222 = .ok (.iaload, 1) := by decide +kernel
theorem dX12_goMoney_223 : decode cX12_goMoney 223 = .ok (.iaload, 1) := by decide +kernel
theorem dX12_goMoney_224 : decode cX12_goMoney 224 = .ok (.istore 8, 2) := by decide +kernel
theorem dX12_goMoney_226 : decode cX12_goMoney 226 = .ok (.aload_n 0, 1) := by decide +kernel
theorem dX12_goMoney_227 : decode cX12_goMoney 227 = .ok (.getfield 359, 3) := by decide +kernel
theorem dX12_goMoney_230 : decode cX12_goMoney 230 = .ok (.aload_n 0, 1) := by decide +kernel
theorem dX12_goMoney_231 : decode cX12_goMoney 231 = .ok (.getfield 312, 3) := by decide +kernel
theorem dX12_goMoney_234 : decode cX12_goMoney 234 = .ok (.aload_n 0, 1) := by decide +kernel
theorem dX12_goMoney_235 : decode cX12_goMoney 235 = .ok (.getfield 362, 3) := by decide +kernel
theorem dX12_goMoney_238 : decode cX12_goMoney 238 = .ok (.iload 7, 2) := by decide +kernel
theorem dX12_goMoney_240 : decode cX12_goMoney 240 = .ok (.iaload, 1) := by decide +kernel
theorem dX12_goMoney_241 : decode cX12_goMoney 241 = .ok (.iaload, 1) := by decide +kernel
theorem dX12_goMoney_242 : decode cX12_goMoney 242 = .ok (.dup2, 1) := by decide +kernel
theorem dX12_goMoney_243 : decode cX12_goMoney 243 = .ok (.iaload, 1) := by decide +kernel
theorem dX12_goMoney_244 : decode cX12_goMoney 244 = .ok (.iload 8, 2) := by decide +kernel
theorem dX12_goMoney_246 : decode cX12_goMoney 246 = .ok (.iadd, 1) := by decide +kernel
theorem dX12_goMoney_247 : decode cX12_goMoney 247 = .ok (.iastore, 1) := by decide +kernel
theorem dX12_goMoney_248 : decode cX12_goMoney 248 = .ok (.iload 6, 2) := by decide +kernel
theorem dX12_goMoney_250 : decode cX12_goMoney 250 = .ok (.iload 8, 2) := by decide +kernel
theorem dX12_goMoney_252 : decode cX12_goMoney 252 = .ok (.isub, 1) := by decide +kernel
theorem dX12_goMoney_253 : decode cX12_goMoney 253 = .ok (.istore 6, 2) := by decide +kernel
theorem dX12_goMoney_255 : decode cX12_goMoney 255 = .ok (.iinc 7 1, 3) := by decide +kernel
theorem dX12_goMoney_258 : decode cX12_goMoney 258 = .ok (.goto (-83), 3) := by decide +kernel
theorem dX12_goMoney_261 : decode cX12_goMoney 261 = .ok (.iconst 0, 1) := by decide +kernel
theorem dX12_goMoney_262 : decode cX12_goMoney 262 = .ok (.istore 7, 2) := by decide +kernel
theorem dX12_goMoney_264 : decode cX12_goMoney 264 = .ok (.iload 7, 2) := by decide +kernel
theorem dX12_goMoney_266 : decode cX12_goMoney 266 = .ok (.iload_n 3, 1) := by decide +kernel
theorem dX12_goMoney_267 : decode cX12_goMoney 267 = .ok (.if_icmp .ge 46, 3) := by decide +kernel
theorem dX12_goMoney_270 : decode cX12_goMoney 270 = .ok (.lload 4, 2) := by decide +kernel
theorem dX12_goMoney_272 : decode cX12_goMoney 272 = .ok (.iload_n 2, 1) := by decide +kernel
theorem dX12_goMoney_273 : decode cX12_goMoney 273 = .ok (.i2l, 1) := by decide +kernel
theorem dX12_goMoney_274 : decode cX12_goMoney 274 = .ok (.lcmp, 1) := by decide +kernel
theorem dX12_goMoney_275 : decode cX12_goMoney 275 = .ok (.ifCond .le 38, 3) := by decide +kernel
theorem dX12_goMoney_278 : decode cX12_goMoney 278 = .ok (.iload 6, 2) := by decide +kernel
theorem dX12_goMoney_280 : decode cX12_goMoney 280 = .ok (.ifCond .le 33, 3) := by decide +kernel
theorem dX12_goMoney_283 : decode cX12_goMoney 283 = .ok (.aload_n 0, 1) := by decide +kernel
theorem dX12_goMoney_284 : decode cX12_goMoney 284 = .ok (.getfield 359, 3) := by decide +kernel
theorem dX12_goMoney_287 : decode cX12_goMoney 287 = .ok (.aload_n 0, 1) := by decide +kernel
theorem dX12_goMoney_288 : decode cX12_goMoney 288 = .ok (.getfield 312, 3) := by decide +kernel
theorem dX12_goMoney_291 : decode cX12_goMoney 291 = .ok (.aload_n 0, 1) := by decide +kernel
theorem dX12_goMoney_292 : decode cX12_goMoney 292 = .ok (.getfield 362, 3) := by decide +kernel
theorem dX12_goMoney_295 : decode cX12_goMoney 295 = .ok (.iload 7, 2) := by decide +kernel
theorem dX12_goMoney_297 : decode cX12_goMoney 297 = .ok (.iaload, 1) := by decide +kernel
theorem dX12_goMoney_298 : decode cX12_goMoney 298 = .ok (.iaload, 1) := by decide +kernel
theorem dX12_goMoney_299 : decode cX12_goMoney 299 = .ok (.dup2, 1) := by decide +kernel
theorem dX12_goMoney_300 : decode cX12_goMoney 300 = .ok (.iaload, 1) := by decide +kernel
theorem dX12_goMoney_301 : decode cX12_goMoney 301 = .ok (.iconst 1, 1) := by decide +kernel
theorem dX12_goMoney_302 : decode cX12_goMoney 302 = .ok (.iadd, 1) := by decide +kernel
theorem dX12_goMoney_303 : decode cX12_goMoney 303 = .ok (.iastore, 1) := by decide +kernel
theorem dX12_goMoney_304 : decode cX12_goMoney 304 = .ok (.iinc 6 (-1), 3) := by decide +kernel
theorem dX12_goMoney_307 : decode cX12_goMoney 307 = .ok (.iinc 7 1, 3) := by decide +kernel
theorem dX12_goMoney_310 : decode cX12_goMoney 310 = .ok (.goto (-46), 3) := by decide +kernel
theorem dX12_goMoney_313 : decode cX12_goMoney 313 = .ok (.iload 6, 2) := by decide +kernel
theorem dX12_goMoney_315 : decode cX12_goMoney 315 = .ok (.ifCond .le 21, 3) := by decide +kernel
theorem dX12_goMoney_318 : decode cX12_goMoney 318 = .ok (.aload_n 0, 1) := by decide +kernel
theorem dX12_goMoney_319 : decode cX12_goMoney 319 = .ok (.iload 6, 2) := by decide +kernel
theorem dX12_goMoney_321 : decode cX12_goMoney 321 = .ok (.iload_n 1, 1) := by decide +kernel
theorem dX12_goMoney_322 : decode cX12_goMoney 322 = .ok (.invokevirtual 664, 3) := by decide +kernel
theorem dX12_goMoney_325 : decode cX12_goMoney 325 = .ok (.ifCond .ne 11, 3) := by decide +kernel
theorem dX12_goMoney_328 : decode cX12_goMoney 328 = .ok (.aload_n 0, 1) := by decide +kernel
theorem dX12_goMoney_329 : decode cX12_goMoney 329 = .ok (.iload 6, 2) := by decide +kernel
theorem dX12_goMoney_331 : decode cX12_goMoney 331 = .ok (.iload_n 1, 1) := by decide +kernel
theorem dX12_goMoney_332 : decode cX12_goMoney 332 = .ok (.invokevirtual 667, 3) := by decide +kernel
theorem dX12_goMoney_335 : decode cX12_goMoney 335 = .ok (.pop, 1) := by decide +kernel
theorem dX12_goMoney_336 : decode cX12_goMoney 336 = .ok (.iconst 0, 1) := by decide +kernel
theorem dX12_goMoney_337 : decode cX12_goMoney 337 = .ok (.istore 7, 2) := by decide +kernel
theorem dX12_goMoney_339 : decode cX12_goMoney 339 = .ok (.iload 7, 2) := by decide +kernel
theorem dX12_goMoney_341 : decode cX12_goMoney 341 = .ok (.aload_n 0, 1) := by decide +kernel
theorem dX12_goMoney_342 : decode cX12_goMoney 342 = .ok (.getfield 412, 3) := by decide +kernel
theorem dX12_goMoney_345 : decode cX12_goMoney 345 = .ok (.if_icmp .ge 26, 3) := by decide +kernel
theorem dX12_goMoney_348 : decode cX12_goMoney 348 = .ok (.aload_n 0, 1) := by decide +kernel
theorem dX12_goMoney_349 : decode cX12_goMoney 349 = .ok (.getfield 357, 3) := by decide +kernel
theorem dX12_goMoney_352 : decode cX12_goMoney 352 = .ok (.iload 7, 2) := by decide +kernel
theorem dX12_goMoney_354 : decode cX12_goMoney 354 = .ok (.dup2, 1) := by decide +kernel
theorem dX12_goMoney_355 : decode cX12_goMoney 355 = .ok (.iaload, 1) := by decide +kernel
theorem dX12_goMoney_356 : decode cX12_goMoney 356 = .ok (.aload_n 0, 1) := by decide +kernel
theorem dX12_goMoney_357 : decode cX12_goMoney 357 = .ok (.getfield 359, 3) := by decide +kernel
theorem dX12_goMoney_360 : decode cX12_goMoney 360 = .ok (.iload 7, 2) := by decide +kernel
theorem dX12_goMoney_362 : decode cX12_goMoney 362 = .ok (.iaload, 1) := by decide +kernel
theorem dX12_goMoney_363 : decode cX12_goMoney 363 = .ok (.iadd, 1) := by decide +kernel
theorem dX12_goMoney_364 : decode cX12_goMoney 364 = .ok (.iastore, 1) := by decide +kernel
theorem dX12_goMoney_365 : decode cX12_goMoney 365 = .ok (.iinc 7 1, 3) := by decide +kernel
theorem dX12_goMoney_368 : decode cX12_goMoney 368 = .ok (.goto (-29), 3) := by decide +kernel
theorem dX12_goMoney_371 : decode cX12_goMoney 371 = .ok (.return_, 1) := by decide +kernel
def X12_goMoney_b339 (k339 : Int32 → Wd → Option (Wd)) (y7 : Int32) (w : Wd) : Option (Wd) :=
  if (w.1 0 11) ≤ y7 then
  (some w)
  else
  if inb y7 8 = true then
  (if inb y7 8 = true then
  (if inb y7 8 = true then
  (lt (wI w 48 (Int32.toNatClampNeg y7) ((w.1 48 (Int32.toNatClampNeg y7)) + (w.1 49 (Int32.toNatClampNeg y7)))) fun w8 =>
  k339 (y7 + 1) w8)
  else none)
  else none)
  else none
set_option maxRecDepth 100000 in
set_option maxHeartbeats 4000000 in
theorem t_X12_goMoney_b339 {Z : Cz (Wd)} (hZ : OKZ Z SM cX12_goMoney RX12 10 none 24) (hE : EndV Z) (k339 : Int32 → Wd → Option (Wd)) (hk339 : ∀ (y7 : Int32)  (w : Wd), BW Z 10 339 [(0, .ref (ph (zY Z) 0)), (7, .int y7)] [] w (k339 y7 w)) (y7 : Int32)  (w : Wd) : BW Z 10 339 [(0, .ref (ph (zY Z) 0)), (7, .int y7)] [] w (X12_goMoney_b339 k339 y7 w) :=
  bw_iload hZ 1 rfl dX12_goMoney_339 <|
  bw_aload_n hZ 0 rfl dX12_goMoney_341 <|
  bw_getI hZ fl_RX12_412 (by decide) obM_0 dX12_goMoney_342 <|
  bw_icmp_ge hZ (tgt := 371) (by decide) dX12_goMoney_345 (fun _ =>
  bw_vret hZ hE dX12_goMoney_371) (fun _ =>
  bw_aload_n hZ 0 rfl dX12_goMoney_348 <|
  bw_getR hZ fl_RX12_357 obM_0 rfl dX12_goMoney_349 <|
  bw_iload hZ 1 rfl dX12_goMoney_352 <|
  bw_dup2 hZ rfl rfl dX12_goMoney_354 <|
  bw_iald hZ (arM_48 _) dX12_goMoney_355 <|
  bw_aload_n hZ 0 rfl dX12_goMoney_356 <|
  bw_getR hZ fl_RX12_359 obM_0 rfl dX12_goMoney_357 <|
  bw_iload hZ 1 rfl dX12_goMoney_360 <|
  bw_iald hZ (arM_49 _) dX12_goMoney_362 <|
  bw_iadd hZ dX12_goMoney_363 <|
  bw_iast hZ (arM_48 _) dX12_goMoney_364 fun w8 =>
  bw_iinc hZ 1 1 rfl (by decide) (by decide) rfl dX12_goMoney_365 <|
  bw_goto hZ (tgt := 339) (by decide) dX12_goMoney_368 <|
  bw_sub [1, 0] rfl (hk339 (y7 + 1) w8))
def X12_goMoney_b339_L  : Int32 → Wd → Option (Wd) :=
  lp fu (fun _ _ => none) (fun k339 => X12_goMoney_b339 k339)
theorem t_X12_goMoney_b339_L {Z : Cz (Wd)} (hZ : OKZ Z SM cX12_goMoney RX12 10 none 24) (hE : EndV Z)  : ∀ (y7 : Int32)  (w : Wd), BW Z 10 339 [(0, .ref (ph (zY Z) 0)), (7, .int y7)] [] w (X12_goMoney_b339_L y7 w) :=
  lp_bw (fun k339 => ∀ (y7 : Int32)  (w : Wd), BW Z 10 339 [(0, .ref (ph (zY Z) 0)), (7, .int y7)] [] w (k339 y7 w)) (fun _ _ => bw_none) (fun k339 hk339 y7 w => t_X12_goMoney_b339 hZ hE k339 hk339 y7 w) fu
def X12_goMoney_b313 (y1 : Int32) (y6 : Int32) (w : Wd) : Option (Wd) :=
  if y6 ≤ 0 then
  (X12_goMoney_b339_L 0 w)
  else
  cl (f_X12_leave y6 y1 w) fun r10 w9 =>
  if r10 = 0 then
  (cl (f_X12_byKin y6 y1 w9) fun r12 w11 =>
  X12_goMoney_b339_L 0 w11)
  else
  X12_goMoney_b339_L 0 w9
set_option maxRecDepth 100000 in
set_option maxHeartbeats 4000000 in
theorem t_X12_goMoney_b313 {Z : Cz (Wd)} (hZ : OKZ Z SM cX12_goMoney RX12 10 none 24) (hE : EndV Z)  (y1 : Int32) (y6 : Int32)  (w : Wd) : BW Z 10 313 [(0, .ref (ph (zY Z) 0)), (1, .int y1), (6, .int y6)] [] w (X12_goMoney_b313 y1 y6 w) :=
  bw_iload hZ 2 rfl dX12_goMoney_313 <|
  bw_if_le hZ (tgt := 336) (by decide) dX12_goMoney_315 (fun _ =>
  bw_iconst hZ 0 (by decide) dX12_goMoney_336 <|
  bw_istore hZ (by decide) rfl dX12_goMoney_337 <|
  bw_sub [1, 0] rfl (t_X12_goMoney_b339_L hZ hE 0 w)) (fun _ =>
  bw_aload_n hZ 0 rfl dX12_goMoney_318 <|
  bw_iload hZ 2 rfl dX12_goMoney_319 <|
  bw_iload_n hZ 1 rfl dX12_goMoney_321 <|
  bw_callVI (As := [.int y6, .int y1]) hZ ml_RX12_664 rc_12 obM_0 (by decide) (c_X12_leave (zl Z) (zY Z) (hZ_S hZ) y6 y1 w) rfl rfl (Nat.le_of_ble_eq_true rfl) dX12_goMoney_322 fun r10 w9 =>
  bw_if_ne hZ (tgt := 336) (by decide) dX12_goMoney_325 (fun _ =>
  bw_iconst hZ 0 (by decide) dX12_goMoney_336 <|
  bw_istore hZ (by decide) rfl dX12_goMoney_337 <|
  bw_sub [1, 0] rfl (t_X12_goMoney_b339_L hZ hE 0 w9)) (fun _ =>
  bw_aload_n hZ 0 rfl dX12_goMoney_328 <|
  bw_iload hZ 2 rfl dX12_goMoney_329 <|
  bw_iload_n hZ 1 rfl dX12_goMoney_331 <|
  bw_callVI (As := [.int y6, .int y1]) hZ ml_RX12_667 rc_12 obM_0 (by decide) (c_X12_byKin (zl Z) (zY Z) (hZ_S hZ) y6 y1 w9) rfl rfl (Nat.le_of_ble_eq_true rfl) dX12_goMoney_332 fun r12 w11 =>
  bw_pop hZ rfl dX12_goMoney_335 <|
  bw_iconst hZ 0 (by decide) dX12_goMoney_336 <|
  bw_istore hZ (by decide) rfl dX12_goMoney_337 <|
  bw_sub [1, 0] rfl (t_X12_goMoney_b339_L hZ hE 0 w11)))
def X12_goMoney_b264 (k264 : Int32 → Int32 → Int32 → Int64 → Int32 → Int32 → Wd → Option (Wd)) (y1 : Int32) (y2 : Int32) (y3 : Int32) (y4 : Int64) (y6 : Int32) (y7 : Int32) (w : Wd) : Option (Wd) :=
  if y3 ≤ y7 then
  (X12_goMoney_b313 y1 y6 w)
  else
  if (lg_cmp y4 (Int32.toInt64 y2)) ≤ 0 then
  (X12_goMoney_b313 y1 y6 w)
  else
  if y6 ≤ 0 then
  (X12_goMoney_b313 y1 y6 w)
  else
  if inb y7 32 = true then
  (if inb (w.1 50 (Int32.toNatClampNeg y7)) 32 = true then
  (if inb (w.1 34 (Int32.toNatClampNeg (w.1 50 (Int32.toNatClampNeg y7)))) 8 = true then
  (if inb (w.1 34 (Int32.toNatClampNeg (w.1 50 (Int32.toNatClampNeg y7)))) 8 = true then
  (lt (wI w 49 (Int32.toNatClampNeg (w.1 34 (Int32.toNatClampNeg (w.1 50 (Int32.toNatClampNeg y7))))) ((w.1 49 (Int32.toNatClampNeg (w.1 34 (Int32.toNatClampNeg (w.1 50 (Int32.toNatClampNeg y7)))))) + 1)) fun w13 =>
  k264 y1 y2 y3 y4 (y6 + (-1)) (y7 + 1) w13)
  else none)
  else none)
  else none)
  else none
set_option maxRecDepth 100000 in
set_option maxHeartbeats 4000000 in
theorem t_X12_goMoney_b264 {Z : Cz (Wd)} (hZ : OKZ Z SM cX12_goMoney RX12 10 none 24) (hE : EndV Z) (k264 : Int32 → Int32 → Int32 → Int64 → Int32 → Int32 → Wd → Option (Wd)) (hk264 : ∀ (y1 : Int32) (y2 : Int32) (y3 : Int32) (y4 : Int64) (y6 : Int32) (y7 : Int32)  (w : Wd), BW Z 10 264 [(0, .ref (ph (zY Z) 0)), (1, .int y1), (2, .int y2), (3, .int y3), (4, .long y4), (6, .int y6), (7, .int y7)] [] w (k264 y1 y2 y3 y4 y6 y7 w)) (y1 : Int32) (y2 : Int32) (y3 : Int32) (y4 : Int64) (y6 : Int32) (y7 : Int32)  (w : Wd) : BW Z 10 264 [(0, .ref (ph (zY Z) 0)), (1, .int y1), (2, .int y2), (3, .int y3), (4, .long y4), (6, .int y6), (7, .int y7)] [] w (X12_goMoney_b264 k264 y1 y2 y3 y4 y6 y7 w) :=
  bw_iload hZ 6 rfl dX12_goMoney_264 <|
  bw_iload_n hZ 3 rfl dX12_goMoney_266 <|
  bw_icmp_ge hZ (tgt := 313) (by decide) dX12_goMoney_267 (fun _ =>
  bw_sub [0, 1, 5] rfl (t_X12_goMoney_b313 hZ hE y1 y6 w)) (fun _ =>
  bw_lload hZ 4 rfl dX12_goMoney_270 <|
  bw_iload_n hZ 2 rfl dX12_goMoney_272 <|
  bw_i2l hZ dX12_goMoney_273 <|
  bw_lcmp hZ dX12_goMoney_274 <|
  bw_if_le hZ (tgt := 313) (by decide) dX12_goMoney_275 (fun _ =>
  bw_sub [0, 1, 5] rfl (t_X12_goMoney_b313 hZ hE y1 y6 w)) (fun _ =>
  bw_iload hZ 5 rfl dX12_goMoney_278 <|
  bw_if_le hZ (tgt := 313) (by decide) dX12_goMoney_280 (fun _ =>
  bw_sub [0, 1, 5] rfl (t_X12_goMoney_b313 hZ hE y1 y6 w)) (fun _ =>
  bw_aload_n hZ 0 rfl dX12_goMoney_283 <|
  bw_getR hZ fl_RX12_359 obM_0 rfl dX12_goMoney_284 <|
  bw_aload_n hZ 0 rfl dX12_goMoney_287 <|
  bw_getR hZ fl_RX12_312 obM_0 rfl dX12_goMoney_288 <|
  bw_aload_n hZ 0 rfl dX12_goMoney_291 <|
  bw_getR hZ fl_RX12_362 obM_0 rfl dX12_goMoney_292 <|
  bw_iload hZ 6 rfl dX12_goMoney_295 <|
  bw_iald hZ (arM_50 _) dX12_goMoney_297 <|
  bw_iald hZ (arM_34 _) dX12_goMoney_298 <|
  bw_dup2 hZ rfl rfl dX12_goMoney_299 <|
  bw_iald hZ (arM_49 _) dX12_goMoney_300 <|
  bw_iconst hZ 1 (by decide) dX12_goMoney_301 <|
  bw_iadd hZ dX12_goMoney_302 <|
  bw_iast hZ (arM_49 _) dX12_goMoney_303 fun w13 =>
  bw_iinc hZ (-1) 5 rfl (by decide) (by decide) rfl dX12_goMoney_304 <|
  bw_iinc hZ 1 6 rfl (by decide) (by decide) rfl dX12_goMoney_307 <|
  bw_goto hZ (tgt := 264) (by decide) dX12_goMoney_310 <|
  bw_sub [2, 3, 4, 5, 6, 1, 0] rfl (hk264 y1 y2 y3 y4 (y6 + (-1)) (y7 + 1) w13))))
def X12_goMoney_b264_L  : Int32 → Int32 → Int32 → Int64 → Int32 → Int32 → Wd → Option (Wd) :=
  lp fu (fun _ _ _ _ _ _ _ => none) (fun k264 => X12_goMoney_b264 k264)
theorem t_X12_goMoney_b264_L {Z : Cz (Wd)} (hZ : OKZ Z SM cX12_goMoney RX12 10 none 24) (hE : EndV Z)  : ∀ (y1 : Int32) (y2 : Int32) (y3 : Int32) (y4 : Int64) (y6 : Int32) (y7 : Int32)  (w : Wd), BW Z 10 264 [(0, .ref (ph (zY Z) 0)), (1, .int y1), (2, .int y2), (3, .int y3), (4, .long y4), (6, .int y6), (7, .int y7)] [] w (X12_goMoney_b264_L y1 y2 y3 y4 y6 y7 w) :=
  lp_bw (fun k264 => ∀ (y1 : Int32) (y2 : Int32) (y3 : Int32) (y4 : Int64) (y6 : Int32) (y7 : Int32)  (w : Wd), BW Z 10 264 [(0, .ref (ph (zY Z) 0)), (1, .int y1), (2, .int y2), (3, .int y3), (4, .long y4), (6, .int y6), (7, .int y7)] [] w (k264 y1 y2 y3 y4 y6 y7 w)) (fun _ _ _ _ _ _ _ => bw_none) (fun k264 hk264 y1 y2 y3 y4 y6 y7 w => t_X12_goMoney_b264 hZ hE k264 hk264 y1 y2 y3 y4 y6 y7 w) fu
def X12_goMoney_b224 (k175 : Int32 → Int32 → Int32 → Int64 → Int32 → Int32 → Wd → Option (Wd)) (y1 : Int32) (y2 : Int32) (y3 : Int32) (y4 : Int64) (y6 : Int32) (y7 : Int32) (t0 : Int32) (w : Wd) : Option (Wd) :=
  if inb y7 32 = true then
  (if inb (w.1 50 (Int32.toNatClampNeg y7)) 32 = true then
  (if inb (w.1 34 (Int32.toNatClampNeg (w.1 50 (Int32.toNatClampNeg y7)))) 8 = true then
  (if inb (w.1 34 (Int32.toNatClampNeg (w.1 50 (Int32.toNatClampNeg y7)))) 8 = true then
  (lt (wI w 49 (Int32.toNatClampNeg (w.1 34 (Int32.toNatClampNeg (w.1 50 (Int32.toNatClampNeg y7))))) ((w.1 49 (Int32.toNatClampNeg (w.1 34 (Int32.toNatClampNeg (w.1 50 (Int32.toNatClampNeg y7)))))) + t0)) fun w14 =>
  lt (y6 - t0) fun v15 =>
  k175 y1 y2 y3 y4 v15 (y7 + 1) w14)
  else none)
  else none)
  else none)
  else none
set_option maxRecDepth 100000 in
set_option maxHeartbeats 4000000 in
theorem t_X12_goMoney_b224 {Z : Cz (Wd)} (hZ : OKZ Z SM cX12_goMoney RX12 10 none 24) (hE : EndV Z) (k175 : Int32 → Int32 → Int32 → Int64 → Int32 → Int32 → Wd → Option (Wd)) (hk175 : ∀ (y1 : Int32) (y2 : Int32) (y3 : Int32) (y4 : Int64) (y6 : Int32) (y7 : Int32)  (w : Wd), BW Z 10 175 [(0, .ref (ph (zY Z) 0)), (1, .int y1), (2, .int y2), (3, .int y3), (4, .long y4), (6, .int y6), (7, .int y7)] [] w (k175 y1 y2 y3 y4 y6 y7 w)) (y1 : Int32) (y2 : Int32) (y3 : Int32) (y4 : Int64) (y6 : Int32) (y7 : Int32) (t0 : Int32)  (w : Wd) : BW Z 10 224 [(0, .ref (ph (zY Z) 0)), (1, .int y1), (2, .int y2), (3, .int y3), (4, .long y4), (6, .int y6), (7, .int y7)] [.int t0] w (X12_goMoney_b224 k175 y1 y2 y3 y4 y6 y7 t0 w) :=
  bw_istore hZ (by decide) rfl dX12_goMoney_224 <|
  bw_aload_n hZ 1 rfl dX12_goMoney_226 <|
  bw_getR hZ fl_RX12_359 obM_0 rfl dX12_goMoney_227 <|
  bw_aload_n hZ 1 rfl dX12_goMoney_230 <|
  bw_getR hZ fl_RX12_312 obM_0 rfl dX12_goMoney_231 <|
  bw_aload_n hZ 1 rfl dX12_goMoney_234 <|
  bw_getR hZ fl_RX12_362 obM_0 rfl dX12_goMoney_235 <|
  bw_iload hZ 7 rfl dX12_goMoney_238 <|
  bw_iald hZ (arM_50 _) dX12_goMoney_240 <|
  bw_iald hZ (arM_34 _) dX12_goMoney_241 <|
  bw_dup2 hZ rfl rfl dX12_goMoney_242 <|
  bw_iald hZ (arM_49 _) dX12_goMoney_243 <|
  bw_iload hZ 0 rfl dX12_goMoney_244 <|
  bw_iadd hZ dX12_goMoney_246 <|
  bw_iast hZ (arM_49 _) dX12_goMoney_247 fun w14 =>
  bw_iload hZ 6 rfl dX12_goMoney_248 <|
  bw_iload hZ 0 rfl dX12_goMoney_250 <|
  bw_isub hZ dX12_goMoney_252 <|
  bw_nm fun v15 =>
  bw_istore hZ (by decide) rfl dX12_goMoney_253 <|
  bw_iinc hZ 1 7 rfl (by decide) (by decide) rfl dX12_goMoney_255 <|
  bw_goto hZ (tgt := 175) (by decide) dX12_goMoney_258 <|
  bw_sub [3, 4, 5, 6, 7, 1, 0] rfl (hk175 y1 y2 y3 y4 v15 (y7 + 1) w14)
def X12_goMoney_b175 (k175 : Int32 → Int32 → Int32 → Int64 → Int32 → Int32 → Wd → Option (Wd)) (y1 : Int32) (y2 : Int32) (y3 : Int32) (y4 : Int64) (y6 : Int32) (y7 : Int32) (w : Wd) : Option (Wd) :=
  if y3 ≤ y7 then
  (X12_goMoney_b264_L y1 y2 y3 y4 y6 0 w)
  else
  if (lg_cmp y4 (Int32.toInt64 y2)) ≤ 0 then
  (if inb y7 32 = true then
  (if inb (w.1 50 (Int32.toNatClampNeg y7)) 32 = true then
  (X12_goMoney_b224 k175 y1 y2 y3 y4 y6 y7 (w.1 33 (Int32.toNatClampNeg (w.1 50 (Int32.toNatClampNeg y7)))) w)
  else none)
  else none)
  else
  if inb y7 32 = true then
  (if inb (w.1 50 (Int32.toNatClampNeg y7)) 32 = true then
  (if y4 = 0 then none else
  X12_goMoney_b224 k175 y1 y2 y3 y4 y6 y7 (Int64.toInt32 (((Int32.toInt64 (w.1 33 (Int32.toNatClampNeg (w.1 50 (Int32.toNatClampNeg y7))))) * (Int32.toInt64 y2)) / y4)) w)
  else none)
  else none
set_option maxRecDepth 100000 in
set_option maxHeartbeats 4000000 in
theorem t_X12_goMoney_b175 {Z : Cz (Wd)} (hZ : OKZ Z SM cX12_goMoney RX12 10 none 24) (hE : EndV Z) (k175 : Int32 → Int32 → Int32 → Int64 → Int32 → Int32 → Wd → Option (Wd)) (hk175 : ∀ (y1 : Int32) (y2 : Int32) (y3 : Int32) (y4 : Int64) (y6 : Int32) (y7 : Int32)  (w : Wd), BW Z 10 175 [(0, .ref (ph (zY Z) 0)), (1, .int y1), (2, .int y2), (3, .int y3), (4, .long y4), (6, .int y6), (7, .int y7)] [] w (k175 y1 y2 y3 y4 y6 y7 w)) (y1 : Int32) (y2 : Int32) (y3 : Int32) (y4 : Int64) (y6 : Int32) (y7 : Int32)  (w : Wd) : BW Z 10 175 [(0, .ref (ph (zY Z) 0)), (1, .int y1), (2, .int y2), (3, .int y3), (4, .long y4), (6, .int y6), (7, .int y7)] [] w (X12_goMoney_b175 k175 y1 y2 y3 y4 y6 y7 w) :=
  bw_iload hZ 6 rfl dX12_goMoney_175 <|
  bw_iload_n hZ 3 rfl dX12_goMoney_177 <|
  bw_icmp_ge hZ (tgt := 261) (by decide) dX12_goMoney_178 (fun _ =>
  bw_iconst hZ 0 (by decide) dX12_goMoney_261 <|
  bw_istore hZ (by decide) rfl dX12_goMoney_262 <|
  bw_sub [1, 2, 3, 4, 5, 6, 0] rfl (t_X12_goMoney_b264_L hZ hE y1 y2 y3 y4 y6 0 w)) (fun _ =>
  bw_lload hZ 4 rfl dX12_goMoney_181 <|
  bw_iload_n hZ 2 rfl dX12_goMoney_183 <|
  bw_i2l hZ dX12_goMoney_184 <|
  bw_lcmp hZ dX12_goMoney_185 <|
  bw_if_le hZ (tgt := 212) (by decide) dX12_goMoney_186 (fun _ =>
  bw_aload_n hZ 0 rfl dX12_goMoney_212 <|
  bw_getR hZ fl_RX12_309 obM_0 rfl dX12_goMoney_213 <|
  bw_aload_n hZ 0 rfl dX12_goMoney_216 <|
  bw_getR hZ fl_RX12_362 obM_0 rfl dX12_goMoney_217 <|
  bw_iload hZ 6 rfl dX12_goMoney_220 <|
  bw_iald hZ (arM_50 _) dX12_goMoney_222 <|
  bw_iald hZ (arM_33 _) dX12_goMoney_223 <|
  bw_sub [0, 1, 2, 3, 4, 5, 6] rfl (t_X12_goMoney_b224 hZ hE k175 hk175 y1 y2 y3 y4 y6 y7 (w.1 33 (Int32.toNatClampNeg (w.1 50 (Int32.toNatClampNeg y7)))) w)) (fun _ =>
  bw_aload_n hZ 0 rfl dX12_goMoney_189 <|
  bw_getR hZ fl_RX12_309 obM_0 rfl dX12_goMoney_190 <|
  bw_aload_n hZ 0 rfl dX12_goMoney_193 <|
  bw_getR hZ fl_RX12_362 obM_0 rfl dX12_goMoney_194 <|
  bw_iload hZ 6 rfl dX12_goMoney_197 <|
  bw_iald hZ (arM_50 _) dX12_goMoney_199 <|
  bw_iald hZ (arM_33 _) dX12_goMoney_200 <|
  bw_i2l hZ dX12_goMoney_201 <|
  bw_iload_n hZ 2 rfl dX12_goMoney_202 <|
  bw_i2l hZ dX12_goMoney_203 <|
  bw_lmul hZ dX12_goMoney_204 <|
  bw_lload hZ 4 rfl dX12_goMoney_205 <|
  bw_ldiv hZ dX12_goMoney_207 <|
  bw_l2i hZ dX12_goMoney_208 <|
  bw_goto hZ (tgt := 224) (by decide) dX12_goMoney_209 <|
  bw_sub [0, 1, 2, 3, 4, 5, 6] rfl (t_X12_goMoney_b224 hZ hE k175 hk175 y1 y2 y3 y4 y6 y7 (Int64.toInt32 (((Int32.toInt64 (w.1 33 (Int32.toNatClampNeg (w.1 50 (Int32.toNatClampNeg y7))))) * (Int32.toInt64 y2)) / y4)) w)))
def X12_goMoney_b175_L  : Int32 → Int32 → Int32 → Int64 → Int32 → Int32 → Wd → Option (Wd) :=
  lp fu (fun _ _ _ _ _ _ _ => none) (fun k175 => X12_goMoney_b175 k175)
theorem t_X12_goMoney_b175_L {Z : Cz (Wd)} (hZ : OKZ Z SM cX12_goMoney RX12 10 none 24) (hE : EndV Z)  : ∀ (y1 : Int32) (y2 : Int32) (y3 : Int32) (y4 : Int64) (y6 : Int32) (y7 : Int32)  (w : Wd), BW Z 10 175 [(0, .ref (ph (zY Z) 0)), (1, .int y1), (2, .int y2), (3, .int y3), (4, .long y4), (6, .int y6), (7, .int y7)] [] w (X12_goMoney_b175_L y1 y2 y3 y4 y6 y7 w) :=
  lp_bw (fun k175 => ∀ (y1 : Int32) (y2 : Int32) (y3 : Int32) (y4 : Int64) (y6 : Int32) (y7 : Int32)  (w : Wd), BW Z 10 175 [(0, .ref (ph (zY Z) 0)), (1, .int y1), (2, .int y2), (3, .int y3), (4, .long y4), (6, .int y6), (7, .int y7)] [] w (k175 y1 y2 y3 y4 y6 y7 w)) (fun _ _ _ _ _ _ _ => bw_none) (fun k175 hk175 y1 y2 y3 y4 y6 y7 w => t_X12_goMoney_b175 hZ hE k175 hk175 y1 y2 y3 y4 y6 y7 w) fu
def X12_goMoney_b148 (k148 : Int32 → Int32 → Int32 → Int64 → Int32 → Wd → Option (Wd)) (y1 : Int32) (y2 : Int32) (y3 : Int32) (y4 : Int64) (y6 : Int32) (w : Wd) : Option (Wd) :=
  if 8 ≤ y6 then
  (X12_goMoney_b175_L y1 y2 y3 y4 y2 0 w)
  else
  if inb y6 8 = true then
  (lt (wI w 49 (Int32.toNatClampNeg y6) 0) fun w16 =>
  k148 y1 y2 y3 y4 (y6 + 1) w16)
  else none
set_option maxRecDepth 100000 in
set_option maxHeartbeats 4000000 in
theorem t_X12_goMoney_b148 {Z : Cz (Wd)} (hZ : OKZ Z SM cX12_goMoney RX12 10 none 24) (hE : EndV Z) (k148 : Int32 → Int32 → Int32 → Int64 → Int32 → Wd → Option (Wd)) (hk148 : ∀ (y1 : Int32) (y2 : Int32) (y3 : Int32) (y4 : Int64) (y6 : Int32)  (w : Wd), BW Z 10 148 [(0, .ref (ph (zY Z) 0)), (1, .int y1), (2, .int y2), (3, .int y3), (4, .long y4), (6, .int y6)] [] w (k148 y1 y2 y3 y4 y6 w)) (y1 : Int32) (y2 : Int32) (y3 : Int32) (y4 : Int64) (y6 : Int32)  (w : Wd) : BW Z 10 148 [(0, .ref (ph (zY Z) 0)), (1, .int y1), (2, .int y2), (3, .int y3), (4, .long y4), (6, .int y6)] [] w (X12_goMoney_b148 k148 y1 y2 y3 y4 y6 w) :=
  bw_iload hZ 5 rfl dX12_goMoney_148 <|
  bw_bipush hZ 8 (by decide) dX12_goMoney_150 <|
  bw_icmp_ge hZ (tgt := 169) (by decide) dX12_goMoney_152 (fun _ =>
  bw_iload_n hZ 2 rfl dX12_goMoney_169 <|
  bw_istore hZ (by decide) rfl dX12_goMoney_170 <|
  bw_iconst hZ 0 (by decide) dX12_goMoney_172 <|
  bw_istore hZ (by decide) rfl dX12_goMoney_173 <|
  bw_sub [2, 3, 4, 5, 6, 1, 0] rfl (t_X12_goMoney_b175_L hZ hE y1 y2 y3 y4 y2 0 w)) (fun _ =>
  bw_aload_n hZ 0 rfl dX12_goMoney_155 <|
  bw_getR hZ fl_RX12_359 obM_0 rfl dX12_goMoney_156 <|
  bw_iload hZ 5 rfl dX12_goMoney_159 <|
  bw_iconst hZ 0 (by decide) dX12_goMoney_161 <|
  bw_iast hZ (arM_49 _) dX12_goMoney_162 fun w16 =>
  bw_iinc hZ 1 5 rfl (by decide) (by decide) rfl dX12_goMoney_163 <|
  bw_goto hZ (tgt := 148) (by decide) dX12_goMoney_166 <|
  bw_sub [1, 2, 3, 4, 5, 0] rfl (hk148 y1 y2 y3 y4 (y6 + 1) w16))
def X12_goMoney_b148_L  : Int32 → Int32 → Int32 → Int64 → Int32 → Wd → Option (Wd) :=
  lp fu (fun _ _ _ _ _ _ => none) (fun k148 => X12_goMoney_b148 k148)
theorem t_X12_goMoney_b148_L {Z : Cz (Wd)} (hZ : OKZ Z SM cX12_goMoney RX12 10 none 24) (hE : EndV Z)  : ∀ (y1 : Int32) (y2 : Int32) (y3 : Int32) (y4 : Int64) (y6 : Int32)  (w : Wd), BW Z 10 148 [(0, .ref (ph (zY Z) 0)), (1, .int y1), (2, .int y2), (3, .int y3), (4, .long y4), (6, .int y6)] [] w (X12_goMoney_b148_L y1 y2 y3 y4 y6 w) :=
  lp_bw (fun k148 => ∀ (y1 : Int32) (y2 : Int32) (y3 : Int32) (y4 : Int64) (y6 : Int32)  (w : Wd), BW Z 10 148 [(0, .ref (ph (zY Z) 0)), (1, .int y1), (2, .int y2), (3, .int y3), (4, .long y4), (6, .int y6)] [] w (k148 y1 y2 y3 y4 y6 w)) (fun _ _ _ _ _ _ => bw_none) (fun k148 hk148 y1 y2 y3 y4 y6 w => t_X12_goMoney_b148 hZ hE k148 hk148 y1 y2 y3 y4 y6 w) fu
def X12_goMoney_b52 (k23 : Int32 → Int32 → Int32 → Int64 → Int32 → Wd → Option (Wd)) (k52 : Int32 → Int32 → Int32 → Int64 → Int32 → Int32 → Int32 → Wd → Option (Wd)) (y1 : Int32) (y2 : Int32) (y3 : Int32) (y4 : Int64) (y6 : Int32) (y7 : Int32) (y8 : Int32) (w : Wd) : Option (Wd) :=
  if (w.1 0 49) ≤ y7 then
  (k23 y1 y2 y3 y4 (y6 + 1) w)
  else
  if inb y7 4 = true then
  (if (w.1 23 (Int32.toNatClampNeg y7)) ≤ y8 then
  (k23 y1 y2 y3 y4 (y6 + 1) w)
  else
  lt ((8 * y7) + y8) fun v18 =>
  if inb v18 32 = true then
  (if (w.1 32 (Int32.toNatClampNeg v18)) = ((-1)) then
  (cl (f_X12_holds y7 v18 y1 w) fun r20 w19 =>
  if r20 = 0 then
  (k52 y1 y2 y3 y4 y6 y7 (y8 + 1) w19)
  else
  if inb y3 32 = true then
  (lt (wI w19 50 (Int32.toNatClampNeg y3) v18) fun w21 =>
  if inb v18 32 = true then
  (lt (y4 + (Int32.toInt64 (w21.1 33 (Int32.toNatClampNeg v18)))) fun v22 =>
  k52 y1 y2 (y3 + 1) v22 y6 y7 (y8 + 1) w21)
  else none)
  else none)
  else
  k52 y1 y2 y3 y4 y6 y7 (y8 + 1) w)
  else none)
  else none
set_option maxRecDepth 100000 in
set_option maxHeartbeats 4000000 in
theorem t_X12_goMoney_b52 {Z : Cz (Wd)} (hZ : OKZ Z SM cX12_goMoney RX12 10 none 24) (hE : EndV Z) (k23 : Int32 → Int32 → Int32 → Int64 → Int32 → Wd → Option (Wd)) (hk23 : ∀ (y1 : Int32) (y2 : Int32) (y3 : Int32) (y4 : Int64) (y6 : Int32)  (w : Wd), BW Z 10 23 [(0, .ref (ph (zY Z) 0)), (1, .int y1), (2, .int y2), (3, .int y3), (4, .long y4), (6, .int y6)] [] w (k23 y1 y2 y3 y4 y6 w)) (k52 : Int32 → Int32 → Int32 → Int64 → Int32 → Int32 → Int32 → Wd → Option (Wd)) (hk52 : ∀ (y1 : Int32) (y2 : Int32) (y3 : Int32) (y4 : Int64) (y6 : Int32) (y7 : Int32) (y8 : Int32)  (w : Wd), BW Z 10 52 [(0, .ref (ph (zY Z) 0)), (1, .int y1), (2, .int y2), (3, .int y3), (4, .long y4), (6, .int y6), (7, .int y7), (8, .int y8)] [] w (k52 y1 y2 y3 y4 y6 y7 y8 w)) (y1 : Int32) (y2 : Int32) (y3 : Int32) (y4 : Int64) (y6 : Int32) (y7 : Int32) (y8 : Int32)  (w : Wd) : BW Z 10 52 [(0, .ref (ph (zY Z) 0)), (1, .int y1), (2, .int y2), (3, .int y3), (4, .long y4), (6, .int y6), (7, .int y7), (8, .int y8)] [] w (X12_goMoney_b52 k23 k52 y1 y2 y3 y4 y6 y7 y8 w) :=
  bw_iload hZ 6 rfl dX12_goMoney_52 <|
  bw_aload_n hZ 0 rfl dX12_goMoney_54 <|
  bw_getI hZ fl_RX12_431 (by decide) obM_0 dX12_goMoney_55 <|
  bw_icmp_ge hZ (tgt := 139) (by decide) dX12_goMoney_58 (fun _ =>
  bw_iinc hZ 1 5 rfl (by decide) (by decide) rfl dX12_goMoney_139 <|
  bw_goto hZ (tgt := 23) (by decide) dX12_goMoney_142 <|
  bw_sub [1, 2, 3, 4, 5, 0] rfl (hk23 y1 y2 y3 y4 (y6 + 1) w)) (fun _ =>
  bw_iload hZ 7 rfl dX12_goMoney_61 <|
  bw_aload_n hZ 0 rfl dX12_goMoney_63 <|
  bw_getR hZ fl_RX12_279 obM_0 rfl dX12_goMoney_64 <|
  bw_iload hZ 6 rfl dX12_goMoney_67 <|
  bw_iald hZ (arM_23 _) dX12_goMoney_69 <|
  bw_icmp_ge hZ (tgt := 139) (by decide) dX12_goMoney_70 (fun _ =>
  bw_iinc hZ 1 5 rfl (by decide) (by decide) rfl dX12_goMoney_139 <|
  bw_goto hZ (tgt := 23) (by decide) dX12_goMoney_142 <|
  bw_sub [1, 2, 3, 4, 5, 0] rfl (hk23 y1 y2 y3 y4 (y6 + 1) w)) (fun _ =>
  bw_bipush hZ 8 (by decide) dX12_goMoney_73 <|
  bw_iload hZ 6 rfl dX12_goMoney_75 <|
  bw_imul hZ dX12_goMoney_77 <|
  bw_iload hZ 7 rfl dX12_goMoney_78 <|
  bw_iadd hZ dX12_goMoney_80 <|
  bw_nm fun v18 =>
  bw_istore hZ (by decide) rfl dX12_goMoney_81 <|
  bw_aload_n hZ 1 rfl dX12_goMoney_83 <|
  bw_getR hZ fl_RX12_306 obM_0 rfl dX12_goMoney_84 <|
  bw_iload hZ 0 rfl dX12_goMoney_87 <|
  bw_iald hZ (arM_32 _) dX12_goMoney_89 <|
  bw_iconst hZ (-1) (by decide) dX12_goMoney_90 <|
  bw_icmp_ne hZ (tgt := 133) (by decide) dX12_goMoney_91 (fun _ =>
  bw_iinc hZ 1 8 rfl (by decide) (by decide) rfl dX12_goMoney_133 <|
  bw_goto hZ (tgt := 52) (by decide) dX12_goMoney_136 <|
  bw_sub [2, 3, 4, 5, 6, 7, 8, 0] rfl (hk52 y1 y2 y3 y4 y6 y7 (y8 + 1) w)) (fun _ =>
  bw_aload_n hZ 1 rfl dX12_goMoney_94 <|
  bw_iload hZ 7 rfl dX12_goMoney_95 <|
  bw_iload hZ 0 rfl dX12_goMoney_97 <|
  bw_iload_n hZ 2 rfl dX12_goMoney_99 <|
  bw_callVI (As := [.int y7, .int v18, .int y1]) hZ ml_RX12_661 rc_12 obM_0 (by decide) (c_X12_holds (zl Z) (zY Z) (hZ_S hZ) y7 v18 y1 w) rfl rfl (Nat.le_of_ble_eq_true rfl) dX12_goMoney_100 fun r20 w19 =>
  bw_if_ne hZ (tgt := 109) (by decide) dX12_goMoney_103 (fun _ =>
  bw_aload_n hZ 1 rfl dX12_goMoney_109 <|
  bw_getR hZ fl_RX12_362 obM_0 rfl dX12_goMoney_110 <|
  bw_iload_n hZ 4 rfl dX12_goMoney_113 <|
  bw_iload hZ 0 rfl dX12_goMoney_114 <|
  bw_iast hZ (arM_50 _) dX12_goMoney_116 fun w21 =>
  bw_iinc hZ 1 4 rfl (by decide) (by decide) rfl dX12_goMoney_117 <|
  bw_lload hZ 5 rfl dX12_goMoney_120 <|
  bw_aload_n hZ 2 rfl dX12_goMoney_122 <|
  bw_getR hZ fl_RX12_309 obM_0 rfl dX12_goMoney_123 <|
  bw_iload hZ 1 rfl dX12_goMoney_126 <|
  bw_iald hZ (arM_33 _) dX12_goMoney_128 <|
  bw_i2l hZ dX12_goMoney_129 <|
  bw_ladd hZ dX12_goMoney_130 <|
  bw_nmL fun v22 =>
  bw_lstore hZ (by decide) rfl dX12_goMoney_131 <|
  bw_iinc hZ 1 8 rfl (by decide) (by decide) rfl dX12_goMoney_133 <|
  bw_goto hZ (tgt := 52) (by decide) dX12_goMoney_136 <|
  bw_sub [4, 5, 6, 2, 1, 7, 8, 0] rfl (hk52 y1 y2 (y3 + 1) v22 y6 y7 (y8 + 1) w21)) (fun _ =>
  bw_goto hZ (tgt := 133) (by decide) dX12_goMoney_106 <|
  bw_iinc hZ 1 8 rfl (by decide) (by decide) rfl dX12_goMoney_133 <|
  bw_goto hZ (tgt := 52) (by decide) dX12_goMoney_136 <|
  bw_sub [2, 3, 4, 5, 6, 7, 8, 0] rfl (hk52 y1 y2 y3 y4 y6 y7 (y8 + 1) w19)))))
def X12_goMoney_b52_L (k23 : Int32 → Int32 → Int32 → Int64 → Int32 → Wd → Option (Wd)) : Int32 → Int32 → Int32 → Int64 → Int32 → Int32 → Int32 → Wd → Option (Wd) :=
  lp fu (fun _ _ _ _ _ _ _ _ => none) (fun k52 => X12_goMoney_b52 k23 k52)
theorem t_X12_goMoney_b52_L {Z : Cz (Wd)} (hZ : OKZ Z SM cX12_goMoney RX12 10 none 24) (hE : EndV Z) (k23 : Int32 → Int32 → Int32 → Int64 → Int32 → Wd → Option (Wd)) (hk23 : ∀ (y1 : Int32) (y2 : Int32) (y3 : Int32) (y4 : Int64) (y6 : Int32)  (w : Wd), BW Z 10 23 [(0, .ref (ph (zY Z) 0)), (1, .int y1), (2, .int y2), (3, .int y3), (4, .long y4), (6, .int y6)] [] w (k23 y1 y2 y3 y4 y6 w)) : ∀ (y1 : Int32) (y2 : Int32) (y3 : Int32) (y4 : Int64) (y6 : Int32) (y7 : Int32) (y8 : Int32)  (w : Wd), BW Z 10 52 [(0, .ref (ph (zY Z) 0)), (1, .int y1), (2, .int y2), (3, .int y3), (4, .long y4), (6, .int y6), (7, .int y7), (8, .int y8)] [] w (X12_goMoney_b52_L k23 y1 y2 y3 y4 y6 y7 y8 w) :=
  lp_bw (fun k52 => ∀ (y1 : Int32) (y2 : Int32) (y3 : Int32) (y4 : Int64) (y6 : Int32) (y7 : Int32) (y8 : Int32)  (w : Wd), BW Z 10 52 [(0, .ref (ph (zY Z) 0)), (1, .int y1), (2, .int y2), (3, .int y3), (4, .long y4), (6, .int y6), (7, .int y7), (8, .int y8)] [] w (k52 y1 y2 y3 y4 y6 y7 y8 w)) (fun _ _ _ _ _ _ _ _ => bw_none) (fun k52 hk52 y1 y2 y3 y4 y6 y7 y8 w => t_X12_goMoney_b52 hZ hE k23 hk23 k52 hk52 y1 y2 y3 y4 y6 y7 y8 w) fu
def X12_goMoney_b23 (k23 : Int32 → Int32 → Int32 → Int64 → Int32 → Wd → Option (Wd)) (y1 : Int32) (y2 : Int32) (y3 : Int32) (y4 : Int64) (y6 : Int32) (w : Wd) : Option (Wd) :=
  cl (f_X12_items w) fun r7 w6 =>
  if r7 ≤ y6 then
  (X12_goMoney_b148_L y1 y2 y3 y4 0 w6)
  else
  if inb ((6 * (w6.1 0 88)) + y6) 4320 = true then
  (lt (w6.1 43 (Int32.toNatClampNeg ((6 * (w6.1 0 88)) + y6))) fun v17 =>
  X12_goMoney_b52_L k23 y1 y2 y3 y4 y6 v17 0 w6)
  else none
set_option maxRecDepth 100000 in
set_option maxHeartbeats 4000000 in
theorem t_X12_goMoney_b23 {Z : Cz (Wd)} (hZ : OKZ Z SM cX12_goMoney RX12 10 none 24) (hE : EndV Z) (k23 : Int32 → Int32 → Int32 → Int64 → Int32 → Wd → Option (Wd)) (hk23 : ∀ (y1 : Int32) (y2 : Int32) (y3 : Int32) (y4 : Int64) (y6 : Int32)  (w : Wd), BW Z 10 23 [(0, .ref (ph (zY Z) 0)), (1, .int y1), (2, .int y2), (3, .int y3), (4, .long y4), (6, .int y6)] [] w (k23 y1 y2 y3 y4 y6 w)) (y1 : Int32) (y2 : Int32) (y3 : Int32) (y4 : Int64) (y6 : Int32)  (w : Wd) : BW Z 10 23 [(0, .ref (ph (zY Z) 0)), (1, .int y1), (2, .int y2), (3, .int y3), (4, .long y4), (6, .int y6)] [] w (X12_goMoney_b23 k23 y1 y2 y3 y4 y6 w) :=
  bw_iload hZ 5 rfl dX12_goMoney_23 <|
  bw_aload_n hZ 0 rfl dX12_goMoney_25 <|
  bw_callVI (As := []) hZ ml_RX12_552 rc_12 obM_0 (by decide) (c_X12_items (zl Z) (zY Z) (hZ_S hZ) w) rfl rfl (Nat.le_of_ble_eq_true rfl) dX12_goMoney_26 fun r7 w6 =>
  bw_icmp_ge hZ (tgt := 145) (by decide) dX12_goMoney_29 (fun _ =>
  bw_iconst hZ 0 (by decide) dX12_goMoney_145 <|
  bw_istore hZ (by decide) rfl dX12_goMoney_146 <|
  bw_sub [1, 2, 3, 4, 5, 0] rfl (t_X12_goMoney_b148_L hZ hE y1 y2 y3 y4 0 w6)) (fun _ =>
  bw_aload_n hZ 0 rfl dX12_goMoney_32 <|
  bw_getR hZ fl_RX12_339 obM_0 rfl dX12_goMoney_33 <|
  bw_bipush hZ 6 (by decide) dX12_goMoney_36 <|
  bw_aload_n hZ 0 rfl dX12_goMoney_38 <|
  bw_getI hZ fl_RX12_634 (by decide) obM_0 dX12_goMoney_39 <|
  bw_imul hZ dX12_goMoney_42 <|
  bw_iload hZ 5 rfl dX12_goMoney_43 <|
  bw_iadd hZ dX12_goMoney_45 <|
  bw_iald hZ (arM_43 _) dX12_goMoney_46 <|
  bw_nm fun v17 =>
  bw_istore hZ (by decide) rfl dX12_goMoney_47 <|
  bw_iconst hZ 0 (by decide) dX12_goMoney_49 <|
  bw_istore hZ (by decide) rfl dX12_goMoney_50 <|
  bw_sub [2, 3, 4, 5, 6, 7, 1, 0] rfl (t_X12_goMoney_b52_L hZ hE k23 hk23 y1 y2 y3 y4 y6 v17 0 w6))
def X12_goMoney_b23_L  : Int32 → Int32 → Int32 → Int64 → Int32 → Wd → Option (Wd) :=
  lp fu (fun _ _ _ _ _ _ => none) (fun k23 => X12_goMoney_b23 k23)
theorem t_X12_goMoney_b23_L {Z : Cz (Wd)} (hZ : OKZ Z SM cX12_goMoney RX12 10 none 24) (hE : EndV Z)  : ∀ (y1 : Int32) (y2 : Int32) (y3 : Int32) (y4 : Int64) (y6 : Int32)  (w : Wd), BW Z 10 23 [(0, .ref (ph (zY Z) 0)), (1, .int y1), (2, .int y2), (3, .int y3), (4, .long y4), (6, .int y6)] [] w (X12_goMoney_b23_L y1 y2 y3 y4 y6 w) :=
  lp_bw (fun k23 => ∀ (y1 : Int32) (y2 : Int32) (y3 : Int32) (y4 : Int64) (y6 : Int32)  (w : Wd), BW Z 10 23 [(0, .ref (ph (zY Z) 0)), (1, .int y1), (2, .int y2), (3, .int y3), (4, .long y4), (6, .int y6)] [] w (k23 y1 y2 y3 y4 y6 w)) (fun _ _ _ _ _ _ => bw_none) (fun k23 hk23 y1 y2 y3 y4 y6 w => t_X12_goMoney_b23 hZ hE k23 hk23 y1 y2 y3 y4 y6 w) fu
def f_X12_goMoney (w : Wd) : Option (Wd) :=
  cl (f_X12_lawFor ((-1)) w) fun r2 w1 =>
  cl (f_X12_moneyThere w1) fun r4 w3 =>
  cv (f_X12_noParts w3) fun w5 =>
  X12_goMoney_b23_L r2 r4 0 0 0 w5
set_option maxRecDepth 100000 in
set_option maxHeartbeats 4000000 in
theorem t_X12_goMoney {Z : Cz (Wd)} (hZ : OKZ Z SM cX12_goMoney RX12 10 none 24) (hE : EndV Z)   (w : Wd) : BW Z 10 0 [(0, .ref (ph (zY Z) 0))] [] w (f_X12_goMoney w) :=
  bw_aload_n hZ 0 rfl dX12_goMoney_0 <|
  bw_iconst hZ (-1) (by decide) dX12_goMoney_1 <|
  bw_callVI (As := [.int ((-1))]) hZ ml_RX12_586 rc_12 obM_0 (by decide) (c_X12_lawFor (zl Z) (zY Z) (hZ_S hZ) ((-1)) w) rfl rfl (Nat.le_of_ble_eq_true rfl) dX12_goMoney_2 fun r2 w1 =>
  bw_istore_n hZ rfl (by decide) rfl dX12_goMoney_5 <|
  bw_aload_n hZ 1 rfl dX12_goMoney_6 <|
  bw_callVI (As := []) hZ ml_RX12_670 rc_12 obM_0 (by decide) (c_X12_moneyThere (zl Z) (zY Z) (hZ_S hZ) w1) rfl rfl (Nat.le_of_ble_eq_true rfl) dX12_goMoney_7 fun r4 w3 =>
  bw_istore_n hZ rfl (by decide) rfl dX12_goMoney_10 <|
  bw_iconst hZ 0 (by decide) dX12_goMoney_11 <|
  bw_istore_n hZ rfl (by decide) rfl dX12_goMoney_12 <|
  bw_lconst hZ 0 (by decide) dX12_goMoney_13 <|
  bw_lstore hZ (by decide) rfl dX12_goMoney_14 <|
  bw_aload_n hZ 4 rfl dX12_goMoney_16 <|
  bw_callVV (As := []) hZ ml_RX12_658 rc_12 obM_0 (by decide) (c_X12_noParts (zl Z) (zY Z) (hZ_S hZ) w3) rfl rfl (Nat.le_of_ble_eq_true rfl) dX12_goMoney_17 fun w5 =>
  bw_iconst hZ 0 (by decide) dX12_goMoney_20 <|
  bw_istore hZ (by decide) rfl dX12_goMoney_21 <|
  bw_sub [5, 4, 3, 2, 1, 0] rfl (t_X12_goMoney_b23_L hZ hE r2 r4 0 0 0 w5)
theorem c_X12_goMoney (l : Launch) (Y : Ev) (hY : Y.1 = SM)   (w : Wd) : CV l Y yX12_goMoney cX12_goMoney 10 24 [.ref (ph Y 0)] w (f_X12_goMoney w) := by
  refine CV_of (S := SM) (by decide) (Nat.le_of_ble_eq_true rfl) hY ?_
  intro Z hl hY2 hZ hE
  subst hY2
  exact t_X12_goMoney hZ hE w
-- WhichWillModel.ways
theorem dX12_ways_0 : decode cX12_ways 0 = .ok (.aload_n 0, 1) := by decide +kernel
theorem dX12_ways_1 : decode cX12_ways 1 = .ok (.invokevirtual 622, 3) := by decide +kernel
theorem dX12_ways_4 : decode cX12_ways 4 = .ok (.ireturn, 1) := by decide +kernel
def f_X12_ways (w : Wd) : Option (Int32 × Wd) :=
  cl (f_X12_allWays w) fun r2 w1 =>
  some (r2, w1)
set_option maxRecDepth 100000 in
set_option maxHeartbeats 4000000 in
theorem t_X12_ways {Z : Cz (Int32 × Wd)} (hZ : OKZ Z SM cX12_ways RX12 1 (some .int) 2) (hE : EndI Z)   (w : Wd) : BW Z 1 0 [(0, .ref (ph (zY Z) 0))] [] w (f_X12_ways w) :=
  bw_aload_n hZ 0 rfl dX12_ways_0 <|
  bw_callVI (As := []) hZ ml_RX12_622 rc_12 obM_0 (by decide) (c_X12_allWays (zl Z) (zY Z) (hZ_S hZ) w) rfl rfl (Nat.le_of_ble_eq_true rfl) dX12_ways_1 fun r2 w1 =>
  bw_iret hZ hE dX12_ways_4
theorem c_X12_ways (l : Launch) (Y : Ev) (hY : Y.1 = SM)   (w : Wd) : CI l Y yX12_ways cX12_ways 1 2 [.ref (ph Y 0)] w .int (f_X12_ways w) := by
  refine CI_of (S := SM) (by decide) (Nat.le_of_ble_eq_true rfl) hY ?_
  intro Z hl hY2 hZ hE
  subst hY2
  exact t_X12_ways hZ hE w
-- WhichWillModel.whoGets
theorem dX12_whoGets_0 : decode cX12_whoGets 0 = .ok (.iconst 0, 1) := by decide +kernel
theorem dX12_whoGets_1 : decode cX12_whoGets 1 = .ok (.istore_n 1, 1) := by decide +kernel
theorem dX12_whoGets_2 : decode cX12_whoGets 2 = .ok (.iconst 0, 1) := by decide +kernel
theorem dX12_whoGets_3 : decode cX12_whoGets 3 = .ok (.istore_n 2, 1) := by decide +kernel
theorem dX12_whoGets_4 : decode cX12_whoGets 4 = .ok (.iload_n 2, 1) := by decide +kernel
theorem dX12_whoGets_5 : decode cX12_whoGets 5 = .ok (.aload_n 0, 1) := by decide +kernel
theorem dX12_whoGets_6 : decode cX12_whoGets 6 = .ok (.getfield 412, 3) := by decide +kernel
theorem dX12_whoGets_9 : decode cX12_whoGets 9 = .ok (.if_icmp .ge 28, 3) := by decide +kernel
theorem dX12_whoGets_12 : decode cX12_whoGets 12 = .ok (.iload_n 1, 1) := by decide +kernel
theorem dX12_whoGets_13 : decode cX12_whoGets 13 = .ok (.aload_n 0, 1) := by decide +kernel
theorem dX12_whoGets_14 : decode cX12_whoGets 14 = .ok (.getfield 357, 3) := by decide +kernel
theorem dX12_whoGets_17 : decode cX12_whoGets 17 = .ok (.iload_n 2, 1) := by decide +kernel
theorem dX12_whoGets_18 : decode cX12_whoGets 18 = .ok (.iaload, 1) := by decide +kernel
theorem dX12_whoGets_19 : decode cX12_whoGets 19 = .ok (.ifCond .le 9, 3) := by decide +kernel
theorem dX12_whoGets_22 : decode cX12_whoGets 22 = .ok (.iconst 1, 1) := by decide +kernel
theorem dX12_whoGets_23 : decode cX12_whoGets 23 = .ok (.iload_n 2, 1) := by decide +kernel
theorem dX12_whoGets_24 : decode cX12_whoGets 24 = .ok (.ishl, 1) := by decide +kernel
theorem dX12_whoGets_25 : decode cX12_whoGets 25 = .ok (.goto 4, 3) := by decide +kernel
theorem dX12_whoGets_28 : decode cX12_whoGets 28 = .ok (.iconst 0, 1) := by decide +kernel
theorem dX12_whoGets_29 : decode cX12_whoGets 29 = .ok (.ior, 1) := by decide +kernel
theorem dX12_whoGets_30 : decode cX12_whoGets 30 = .ok (.istore_n 1, 1) := by decide +kernel
theorem dX12_whoGets_31 : decode cX12_whoGets 31 = .ok (.iinc 2 1, 3) := by decide +kernel
theorem dX12_whoGets_34 : decode cX12_whoGets 34 = .ok (.goto (-30), 3) := by decide +kernel
theorem dX12_whoGets_37 : decode cX12_whoGets 37 = .ok (.iload_n 1, 1) := by decide +kernel
theorem dX12_whoGets_38 : decode cX12_whoGets 38 = .ok (.ireturn, 1) := by decide +kernel
def X12_whoGets_b4 (k4 : Int32 → Int32 → Wd → Option (Int32 × Wd)) (y1 : Int32) (y2 : Int32) (w : Wd) : Option (Int32 × Wd) :=
  if (w.1 0 11) ≤ y2 then
  (some (y1, w))
  else
  if inb y2 8 = true then
  (if (w.1 48 (Int32.toNatClampNeg y2)) ≤ 0 then
  (lt (y1 ||| 0) fun v1 =>
  k4 v1 (y2 + 1) w)
  else
  lt (y1 ||| (1 <<< (y2 &&& 31))) fun v2 =>
  k4 v2 (y2 + 1) w)
  else none
set_option maxRecDepth 100000 in
set_option maxHeartbeats 4000000 in
theorem t_X12_whoGets_b4 {Z : Cz (Int32 × Wd)} (hZ : OKZ Z SM cX12_whoGets RX12 3 (some .int) 1) (hE : EndI Z) (k4 : Int32 → Int32 → Wd → Option (Int32 × Wd)) (hk4 : ∀ (y1 : Int32) (y2 : Int32)  (w : Wd), BW Z 3 4 [(0, .ref (ph (zY Z) 0)), (1, .int y1), (2, .int y2)] [] w (k4 y1 y2 w)) (y1 : Int32) (y2 : Int32)  (w : Wd) : BW Z 3 4 [(0, .ref (ph (zY Z) 0)), (1, .int y1), (2, .int y2)] [] w (X12_whoGets_b4 k4 y1 y2 w) :=
  bw_iload_n hZ 2 rfl dX12_whoGets_4 <|
  bw_aload_n hZ 0 rfl dX12_whoGets_5 <|
  bw_getI hZ fl_RX12_412 (by decide) obM_0 dX12_whoGets_6 <|
  bw_icmp_ge hZ (tgt := 37) (by decide) dX12_whoGets_9 (fun _ =>
  bw_iload_n hZ 1 rfl dX12_whoGets_37 <|
  bw_iret hZ hE dX12_whoGets_38) (fun _ =>
  bw_iload_n hZ 1 rfl dX12_whoGets_12 <|
  bw_aload_n hZ 0 rfl dX12_whoGets_13 <|
  bw_getR hZ fl_RX12_357 obM_0 rfl dX12_whoGets_14 <|
  bw_iload_n hZ 2 rfl dX12_whoGets_17 <|
  bw_iald hZ (arM_48 _) dX12_whoGets_18 <|
  bw_if_le hZ (tgt := 28) (by decide) dX12_whoGets_19 (fun _ =>
  bw_iconst hZ 0 (by decide) dX12_whoGets_28 <|
  bw_ior hZ dX12_whoGets_29 <|
  bw_nm fun v1 =>
  bw_istore_n hZ rfl (by decide) rfl dX12_whoGets_30 <|
  bw_iinc hZ 1 2 rfl (by decide) (by decide) rfl dX12_whoGets_31 <|
  bw_goto hZ (tgt := 4) (by decide) dX12_whoGets_34 <|
  bw_sub [2, 1, 0] rfl (hk4 v1 (y2 + 1) w)) (fun _ =>
  bw_iconst hZ 1 (by decide) dX12_whoGets_22 <|
  bw_iload_n hZ 2 rfl dX12_whoGets_23 <|
  bw_ishl hZ dX12_whoGets_24 <|
  bw_goto hZ (tgt := 29) (by decide) dX12_whoGets_25 <|
  bw_ior hZ dX12_whoGets_29 <|
  bw_nm fun v2 =>
  bw_istore_n hZ rfl (by decide) rfl dX12_whoGets_30 <|
  bw_iinc hZ 1 2 rfl (by decide) (by decide) rfl dX12_whoGets_31 <|
  bw_goto hZ (tgt := 4) (by decide) dX12_whoGets_34 <|
  bw_sub [2, 1, 0] rfl (hk4 v2 (y2 + 1) w)))
def X12_whoGets_b4_L  : Int32 → Int32 → Wd → Option (Int32 × Wd) :=
  lp fu (fun _ _ _ => none) (fun k4 => X12_whoGets_b4 k4)
theorem t_X12_whoGets_b4_L {Z : Cz (Int32 × Wd)} (hZ : OKZ Z SM cX12_whoGets RX12 3 (some .int) 1) (hE : EndI Z)  : ∀ (y1 : Int32) (y2 : Int32)  (w : Wd), BW Z 3 4 [(0, .ref (ph (zY Z) 0)), (1, .int y1), (2, .int y2)] [] w (X12_whoGets_b4_L y1 y2 w) :=
  lp_bw (fun k4 => ∀ (y1 : Int32) (y2 : Int32)  (w : Wd), BW Z 3 4 [(0, .ref (ph (zY Z) 0)), (1, .int y1), (2, .int y2)] [] w (k4 y1 y2 w)) (fun _ _ _ => bw_none) (fun k4 hk4 y1 y2 w => t_X12_whoGets_b4 hZ hE k4 hk4 y1 y2 w) fu
def f_X12_whoGets (w : Wd) : Option (Int32 × Wd) :=
  X12_whoGets_b4_L 0 0 w
set_option maxRecDepth 100000 in
set_option maxHeartbeats 4000000 in
theorem t_X12_whoGets {Z : Cz (Int32 × Wd)} (hZ : OKZ Z SM cX12_whoGets RX12 3 (some .int) 1) (hE : EndI Z)   (w : Wd) : BW Z 3 0 [(0, .ref (ph (zY Z) 0))] [] w (f_X12_whoGets w) :=
  bw_iconst hZ 0 (by decide) dX12_whoGets_0 <|
  bw_istore_n hZ rfl (by decide) rfl dX12_whoGets_1 <|
  bw_iconst hZ 0 (by decide) dX12_whoGets_2 <|
  bw_istore_n hZ rfl (by decide) rfl dX12_whoGets_3 <|
  bw_sub [2, 1, 0] rfl (t_X12_whoGets_b4_L hZ hE 0 0 w)
theorem c_X12_whoGets (l : Launch) (Y : Ev) (hY : Y.1 = SM)   (w : Wd) : CI l Y yX12_whoGets cX12_whoGets 3 1 [.ref (ph Y 0)] w .int (f_X12_whoGets w) := by
  refine CI_of (S := SM) (by decide) (Nat.le_of_ble_eq_true rfl) hY ?_
  intro Z hl hY2 hZ hE
  subst hY2
  exact t_X12_whoGets hZ hE w
-- WhichWillModel.goes
theorem dX12_goes_0 : decode cX12_goes 0 = .ok (.aload_n 0, 1) := by decide +kernel
theorem dX12_goes_1 : decode cX12_goes 1 = .ok (.iload_n 1, 1) := by decide +kernel
theorem dX12_goes_2 : decode cX12_goes 2 = .ok (.invokevirtual 583, 3) := by decide +kernel
theorem dX12_goes_5 : decode cX12_goes 5 = .ok (.ifCond .eq 11, 3) := by decide +kernel
theorem dX12_goes_8 : decode cX12_goes 8 = .ok (.aload_n 0, 1) := by decide +kernel
theorem dX12_goes_9 : decode cX12_goes 9 = .ok (.iload_n 2, 1) := by decide +kernel
theorem dX12_goes_10 : decode cX12_goes 10 = .ok (.invokevirtual 625, 3) := by decide +kernel
theorem dX12_goes_13 : decode cX12_goes 13 = .ok (.ifCond .ne 6, 3) := by decide +kernel
theorem dX12_goes_16 : decode cX12_goes 16 = .ok (.bipush (-2), 2) := by decide +kernel
theorem dX12_goes_18 : decode cX12_goes 18 = .ok (.ireturn, 1) := by decide +kernel
theorem dX12_goes_19 : decode cX12_goes 19 = .ok (.aload_n 0, 1) := by decide +kernel
theorem dX12_goes_20 : decode cX12_goes 20 = .ok (.iload_n 2, 1) := by decide +kernel
theorem dX12_goes_21 : decode cX12_goes 21 = .ok (.invokevirtual 673, 3) := by decide +kernel
theorem dX12_goes_24 : decode cX12_goes 24 = .ok (.aload_n 0, 1) := by decide +kernel
theorem dX12_goes_25 : decode cX12_goes 25 = .ok (.iload_n 1, 1) := by decide +kernel
theorem dX12_goes_26 : decode cX12_goes 26 = .ok (.invokevirtual 676, 3) := by decide +kernel
theorem dX12_goes_29 : decode cX12_goes 29 = .ok (.pop, 1) := by decide +kernel
theorem dX12_goes_30 : decode cX12_goes 30 = .ok (.aload_n 0, 1) := by decide +kernel
theorem dX12_goes_31 : decode cX12_goes 31 = .ok (.invokevirtual 679, 3) := by decide +kernel
theorem dX12_goes_34 : decode cX12_goes 34 = .ok (.ireturn, 1) := by decide +kernel
def f_X12_goes (x1 : Int32) (x2 : Int32) (w : Wd) : Option (Int32 × Wd) :=
  cl (f_X12_isThing x1 w) fun r2 w1 =>
  if r2 = 0 then
  (some ((-2), w1))
  else
  cl (f_X12_isWay x2 w1) fun r4 w3 =>
  if r4 = 0 then
  (some ((-2), w3))
  else
  cv (f_X12_goWay x2 w3) fun w5 =>
  cl (f_X12_goThing x1 w5) fun r7 w6 =>
  cl (f_X12_whoGets w6) fun r9 w8 =>
  some (r9, w8)
set_option maxRecDepth 100000 in
set_option maxHeartbeats 4000000 in
theorem t_X12_goes {Z : Cz (Int32 × Wd)} (hZ : OKZ Z SM cX12_goes RX12 3 (some .int) 25) (hE : EndI Z) (x1 : Int32) (x2 : Int32)  (w : Wd) : BW Z 3 0 [(0, .ref (ph (zY Z) 0)), (1, .int x1), (2, .int x2)] [] w (f_X12_goes x1 x2 w) :=
  bw_aload_n hZ 0 rfl dX12_goes_0 <|
  bw_iload_n hZ 1 rfl dX12_goes_1 <|
  bw_callVI (As := [.int x1]) hZ ml_RX12_583 rc_12 obM_0 (by decide) (c_X12_isThing (zl Z) (zY Z) (hZ_S hZ) x1 w) rfl rfl (Nat.le_of_ble_eq_true rfl) dX12_goes_2 fun r2 w1 =>
  bw_if_eq hZ (tgt := 16) (by decide) dX12_goes_5 (fun _ =>
  bw_bipush hZ (-2) (by decide) dX12_goes_16 <|
  bw_iret hZ hE dX12_goes_18) (fun _ =>
  bw_aload_n hZ 0 rfl dX12_goes_8 <|
  bw_iload_n hZ 2 rfl dX12_goes_9 <|
  bw_callVI (As := [.int x2]) hZ ml_RX12_625 rc_12 obM_0 (by decide) (c_X12_isWay (zl Z) (zY Z) (hZ_S hZ) x2 w1) rfl rfl (Nat.le_of_ble_eq_true rfl) dX12_goes_10 fun r4 w3 =>
  bw_if_ne hZ (tgt := 19) (by decide) dX12_goes_13 (fun _ =>
  bw_aload_n hZ 0 rfl dX12_goes_19 <|
  bw_iload_n hZ 2 rfl dX12_goes_20 <|
  bw_callVV (As := [.int x2]) hZ ml_RX12_673 rc_12 obM_0 (by decide) (c_X12_goWay (zl Z) (zY Z) (hZ_S hZ) x2 w3) rfl rfl (Nat.le_of_ble_eq_true rfl) dX12_goes_21 fun w5 =>
  bw_aload_n hZ 0 rfl dX12_goes_24 <|
  bw_iload_n hZ 1 rfl dX12_goes_25 <|
  bw_callVI (As := [.int x1]) hZ ml_RX12_676 rc_12 obM_0 (by decide) (c_X12_goThing (zl Z) (zY Z) (hZ_S hZ) x1 w5) rfl rfl (Nat.le_of_ble_eq_true rfl) dX12_goes_26 fun r7 w6 =>
  bw_pop hZ rfl dX12_goes_29 <|
  bw_aload_n hZ 0 rfl dX12_goes_30 <|
  bw_callVI (As := []) hZ ml_RX12_679 rc_12 obM_0 (by decide) (c_X12_whoGets (zl Z) (zY Z) (hZ_S hZ) w6) rfl rfl (Nat.le_of_ble_eq_true rfl) dX12_goes_31 fun r9 w8 =>
  bw_iret hZ hE dX12_goes_34) (fun _ =>
  bw_bipush hZ (-2) (by decide) dX12_goes_16 <|
  bw_iret hZ hE dX12_goes_18))
theorem c_X12_goes (l : Launch) (Y : Ev) (hY : Y.1 = SM) (x1 : Int32) (x2 : Int32)  (w : Wd) : CI l Y yX12_goes cX12_goes 3 25 [.ref (ph Y 0), .int x1, .int x2] w .int (f_X12_goes x1 x2 w) := by
  refine CI_of (S := SM) (by decide) (Nat.le_of_ble_eq_true rfl) hY ?_
  intro Z hl hY2 hZ hE
  subst hY2
  exact t_X12_goes hZ hE x1 x2 w
-- WhichWillModel.how
theorem dX12_how_0 : decode cX12_how 0 = .ok (.aload_n 0, 1) := by decide +kernel
theorem dX12_how_1 : decode cX12_how 1 = .ok (.iload_n 1, 1) := by decide +kernel
theorem dX12_how_2 : decode cX12_how 2 = .ok (.invokevirtual 583, 3) := by decide +kernel
theorem dX12_how_5 : decode cX12_how 5 = .ok (.ifCond .eq 11, 3) := by decide +kernel
theorem dX12_how_8 : decode cX12_how 8 = .ok (.aload_n 0, 1) := by decide +kernel
theorem dX12_how_9 : decode cX12_how 9 = .ok (.iload_n 2, 1) := by decide +kernel
theorem dX12_how_10 : decode cX12_how 10 = .ok (.invokevirtual 625, 3) := by decide +kernel
theorem dX12_how_13 : decode cX12_how 13 = .ok (.ifCond .ne 6, 3) := by decide +kernel
theorem dX12_how_16 : decode cX12_how 16 = .ok (.bipush (-2), 2) := by decide +kernel
theorem dX12_how_18 : decode cX12_how 18 = .ok (.ireturn, 1) := by decide +kernel
theorem dX12_how_19 : decode cX12_how 19 = .ok (.aload_n 0, 1) := by decide +kernel
theorem dX12_how_20 : decode cX12_how 20 = .ok (.iload_n 2, 1) := by decide +kernel
theorem dX12_how_21 : decode cX12_how 21 = .ok (.invokevirtual 673, 3) := by decide +kernel
theorem dX12_how_24 : decode cX12_how 24 = .ok (.aload_n 0, 1) := by decide +kernel
theorem dX12_how_25 : decode cX12_how 25 = .ok (.iload_n 1, 1) := by decide +kernel
theorem dX12_how_26 : decode cX12_how 26 = .ok (.invokevirtual 676, 3) := by decide +kernel
theorem dX12_how_29 : decode cX12_how 29 = .ok (.ireturn, 1) := by decide +kernel
def f_X12_how (x1 : Int32) (x2 : Int32) (w : Wd) : Option (Int32 × Wd) :=
  cl (f_X12_isThing x1 w) fun r2 w1 =>
  if r2 = 0 then
  (some ((-2), w1))
  else
  cl (f_X12_isWay x2 w1) fun r4 w3 =>
  if r4 = 0 then
  (some ((-2), w3))
  else
  cv (f_X12_goWay x2 w3) fun w5 =>
  cl (f_X12_goThing x1 w5) fun r7 w6 =>
  some (r7, w6)
set_option maxRecDepth 100000 in
set_option maxHeartbeats 4000000 in
theorem t_X12_how {Z : Cz (Int32 × Wd)} (hZ : OKZ Z SM cX12_how RX12 3 (some .int) 25) (hE : EndI Z) (x1 : Int32) (x2 : Int32)  (w : Wd) : BW Z 3 0 [(0, .ref (ph (zY Z) 0)), (1, .int x1), (2, .int x2)] [] w (f_X12_how x1 x2 w) :=
  bw_aload_n hZ 0 rfl dX12_how_0 <|
  bw_iload_n hZ 1 rfl dX12_how_1 <|
  bw_callVI (As := [.int x1]) hZ ml_RX12_583 rc_12 obM_0 (by decide) (c_X12_isThing (zl Z) (zY Z) (hZ_S hZ) x1 w) rfl rfl (Nat.le_of_ble_eq_true rfl) dX12_how_2 fun r2 w1 =>
  bw_if_eq hZ (tgt := 16) (by decide) dX12_how_5 (fun _ =>
  bw_bipush hZ (-2) (by decide) dX12_how_16 <|
  bw_iret hZ hE dX12_how_18) (fun _ =>
  bw_aload_n hZ 0 rfl dX12_how_8 <|
  bw_iload_n hZ 2 rfl dX12_how_9 <|
  bw_callVI (As := [.int x2]) hZ ml_RX12_625 rc_12 obM_0 (by decide) (c_X12_isWay (zl Z) (zY Z) (hZ_S hZ) x2 w1) rfl rfl (Nat.le_of_ble_eq_true rfl) dX12_how_10 fun r4 w3 =>
  bw_if_ne hZ (tgt := 19) (by decide) dX12_how_13 (fun _ =>
  bw_aload_n hZ 0 rfl dX12_how_19 <|
  bw_iload_n hZ 2 rfl dX12_how_20 <|
  bw_callVV (As := [.int x2]) hZ ml_RX12_673 rc_12 obM_0 (by decide) (c_X12_goWay (zl Z) (zY Z) (hZ_S hZ) x2 w3) rfl rfl (Nat.le_of_ble_eq_true rfl) dX12_how_21 fun w5 =>
  bw_aload_n hZ 0 rfl dX12_how_24 <|
  bw_iload_n hZ 1 rfl dX12_how_25 <|
  bw_callVI (As := [.int x1]) hZ ml_RX12_676 rc_12 obM_0 (by decide) (c_X12_goThing (zl Z) (zY Z) (hZ_S hZ) x1 w5) rfl rfl (Nat.le_of_ble_eq_true rfl) dX12_how_26 fun r7 w6 =>
  bw_iret hZ hE dX12_how_29) (fun _ =>
  bw_bipush hZ (-2) (by decide) dX12_how_16 <|
  bw_iret hZ hE dX12_how_18))
theorem c_X12_how (l : Launch) (Y : Ev) (hY : Y.1 = SM) (x1 : Int32) (x2 : Int32)  (w : Wd) : CI l Y yX12_how cX12_how 3 25 [.ref (ph Y 0), .int x1, .int x2] w .int (f_X12_how x1 x2 w) := by
  refine CI_of (S := SM) (by decide) (Nat.le_of_ble_eq_true rfl) hY ?_
  intro Z hl hY2 hZ hE
  subst hY2
  exact t_X12_how hZ hE x1 x2 w
-- WhichWillModel.isPerson
theorem dX12_isPerson_0 : decode cX12_isPerson 0 = .ok (.iload_n 1, 1) := by decide +kernel
theorem dX12_isPerson_1 : decode cX12_isPerson 1 = .ok (.i2l, 1) := by decide +kernel
theorem dX12_isPerson_2 : decode cX12_isPerson 2 = .ok (.lconst 0, 1) := by decide +kernel
theorem dX12_isPerson_3 : decode cX12_isPerson 3 = .ok (.aload_n 0, 1) := by decide +kernel
theorem dX12_isPerson_4 : decode cX12_isPerson 4 = .ok (.getfield 412, 3) := by decide +kernel
theorem dX12_isPerson_7 : decode cX12_isPerson 7 = .ok (.i2l, 1) := by decide +kernel
theorem dX12_isPerson_8 : decode cX12_isPerson 8 = .ok (.lconst 1, 1) := by decide +kernel
theorem dX12_isPerson_9 : decode cX12_isPerson 9 = .ok (.lsub, 1) := by decide +kernel
theorem dX12_isPerson_10 : decode cX12_isPerson 10 = .ok (.invokestatic 60, 3) := by decide +kernel
theorem dX12_isPerson_13 : decode cX12_isPerson 13 = .ok (.ireturn, 1) := by decide +kernel
def f_X12_isPerson (x1 : Int32) (w : Wd) : Option (Int32 × Wd) :=
  cl (f_X12_in (Int32.toInt64 x1) 0 ((Int32.toInt64 (w.1 0 11)) - 1) w) fun r2 w1 =>
  if isB r2 = true then some (r2, w1) else none
set_option maxRecDepth 100000 in
set_option maxHeartbeats 4000000 in
theorem t_X12_isPerson {Z : Cz (Int32 × Wd)} (hZ : OKZ Z SM cX12_isPerson RX12 2 (some .boolean) 2) (hE : EndI Z) (x1 : Int32)  (w : Wd) : BW Z 2 0 [(0, .ref (ph (zY Z) 0)), (1, .int x1)] [] w (f_X12_isPerson x1 w) :=
  bw_iload_n hZ 1 rfl dX12_isPerson_0 <|
  bw_i2l hZ dX12_isPerson_1 <|
  bw_lconst hZ 0 (by decide) dX12_isPerson_2 <|
  bw_aload_n hZ 0 rfl dX12_isPerson_3 <|
  bw_getI hZ fl_RX12_412 (by decide) obM_0 dX12_isPerson_4 <|
  bw_i2l hZ dX12_isPerson_7 <|
  bw_lconst hZ 1 (by decide) dX12_isPerson_8 <|
  bw_lsub hZ dX12_isPerson_9 <|
  bw_callSI (As := [.long (Int32.toInt64 x1), .long 0, .long ((Int32.toInt64 (w.1 0 11)) - 1)]) hZ ms_RX12_60 (by decide) (c_X12_in (zl Z) (zY Z) (hZ_S hZ) (Int32.toInt64 x1) 0 ((Int32.toInt64 (w.1 0 11)) - 1) w) rfl rfl (Nat.le_of_ble_eq_true rfl) dX12_isPerson_10 fun r2 w1 =>
  bw_zretC hZ hE dX12_isPerson_13
theorem c_X12_isPerson (l : Launch) (Y : Ev) (hY : Y.1 = SM) (x1 : Int32)  (w : Wd) : CI l Y yX12_isPerson cX12_isPerson 2 2 [.ref (ph Y 0), .int x1] w .boolean (f_X12_isPerson x1 w) := by
  refine CI_of (S := SM) (by decide) (Nat.le_of_ble_eq_true rfl) hY ?_
  intro Z hl hY2 hZ hE
  subst hY2
  exact t_X12_isPerson hZ hE x1 w
