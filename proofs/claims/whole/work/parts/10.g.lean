-- WhichWill$Estate.clear
theorem dX0_clear_0 : decode cX0_clear 0 = .ok (.aload_n 0, 1) := by decide +kernel
theorem dX0_clear_1 : decode cX0_clear 1 = .ok (.getfield 14, 3) := by decide +kernel
theorem dX0_clear_4 : decode cX0_clear 4 = .ok (.iconst 0, 1) := by decide +kernel
theorem dX0_clear_5 : decode cX0_clear 5 = .ok (.putfield 58, 3) := by decide +kernel
theorem dX0_clear_8 : decode cX0_clear 8 = .ok (.aload_n 0, 1) := by decide +kernel
theorem dX0_clear_9 : decode cX0_clear 9 = .ok (.getfield 20, 3) := by decide +kernel
theorem dX0_clear_12 : decode cX0_clear 12 = .ok (.iconst 0, 1) := by decide +kernel
theorem dX0_clear_13 : decode cX0_clear 13 = .ok (.putfield 58, 3) := by decide +kernel
theorem dX0_clear_16 : decode cX0_clear 16 = .ok (.aload_n 0, 1) := by decide +kernel
theorem dX0_clear_17 : decode cX0_clear 17 = .ok (.getfield 23, 3) := by decide +kernel
theorem dX0_clear_20 : decode cX0_clear 20 = .ok (.iconst 0, 1) := by decide +kernel
theorem dX0_clear_21 : decode cX0_clear 21 = .ok (.putfield 58, 3) := by decide +kernel
theorem dX0_clear_24 : decode cX0_clear 24 = .ok (.aload_n 0, 1) := by decide +kernel
theorem dX0_clear_25 : decode cX0_clear 25 = .ok (.iconst 0, 1) := by decide +kernel
theorem dX0_clear_26 : decode cX0_clear 26 = .ok (.putfield 61, 3) := by decide +kernel
theorem dX0_clear_29 : decode cX0_clear 29 = .ok (.aload_n 0, 1) := by decide +kernel
theorem dX0_clear_30 : decode cX0_clear 30 = .ok (.iconst 0, 1) := by decide +kernel
theorem dX0_clear_31 : decode cX0_clear 31 = .ok (.putfield 64, 3) := by decide +kernel
theorem dX0_clear_34 : decode cX0_clear 34 = .ok (.aload_n 0, 1) := by decide +kernel
theorem dX0_clear_35 : decode cX0_clear 35 = .ok (.iconst (-1), 1) := by decide +kernel
theorem dX0_clear_36 : decode cX0_clear 36 = .ok (.putfield 45, 3) := by decide +kernel
theorem dX0_clear_39 : decode cX0_clear 39 = .ok (.aload_n 0, 1) := by decide +kernel
theorem dX0_clear_40 : decode cX0_clear 40 = .ok (.iconst (-1), 1) := by decide +kernel
theorem dX0_clear_41 : decode cX0_clear 41 = .ok (.putfield 49, 3) := by decide +kernel
theorem dX0_clear_44 : decode cX0_clear 44 = .ok (.aload_n 0, 1) := by decide +kernel
theorem dX0_clear_45 : decode cX0_clear 45 = .ok (.iconst (-1), 1) := by decide +kernel
theorem dX0_clear_46 : decode cX0_clear 46 = .ok (.putfield 52, 3) := by decide +kernel
theorem dX0_clear_49 : decode cX0_clear 49 = .ok (.aload_n 0, 1) := by decide +kernel
theorem dX0_clear_50 : decode cX0_clear 50 = .ok (.iconst (-1), 1) := by decide +kernel
theorem dX0_clear_51 : decode cX0_clear 51 = .ok (.putfield 55, 3) := by decide +kernel
theorem dX0_clear_54 : decode cX0_clear 54 = .ok (.aload_n 0, 1) := by decide +kernel
theorem dX0_clear_55 : decode cX0_clear 55 = .ok (.iconst 0, 1) := by decide +kernel
theorem dX0_clear_56 : decode cX0_clear 56 = .ok (.putfield 67, 3) := by decide +kernel
theorem dX0_clear_59 : decode cX0_clear 59 = .ok (.aload_n 0, 1) := by decide +kernel
theorem dX0_clear_60 : decode cX0_clear 60 = .ok (.iconst 0, 1) := by decide +kernel
theorem dX0_clear_61 : decode cX0_clear 61 = .ok (.putfield 70, 3) := by decide +kernel
theorem dX0_clear_64 : decode cX0_clear 64 = .ok (.aload_n 0, 1) := by decide +kernel
theorem dX0_clear_65 : decode cX0_clear 65 = .ok (.iconst 0, 1) := by decide +kernel
theorem dX0_clear_66 : decode cX0_clear 66 = .ok (.putfield 73, 3) := by decide +kernel
theorem dX0_clear_69 : decode cX0_clear 69 = .ok (.aload_n 0, 1) := by decide +kernel
theorem dX0_clear_70 : decode cX0_clear 70 = .ok (.iconst 0, 1) := by decide +kernel
theorem dX0_clear_71 : decode cX0_clear 71 = .ok (.putfield 76, 3) := by decide +kernel
theorem dX0_clear_74 : decode cX0_clear 74 = .ok (.return_, 1) := by decide +kernel
def f_X0_clear (w : Wd) : Option (Wd) :=
  lt (wI w 45 1 0) fun w1 =>
  lt (wI w1 47 1 0) fun w2 =>
  lt (wI w2 49 1 0) fun w3 =>
  lt (wI w3 44 9 0) fun w4 =>
  lt (wI w4 44 10 0) fun w5 =>
  lt (wI w5 44 11 ((-1))) fun w6 =>
  lt (wI w6 44 12 ((-1))) fun w7 =>
  lt (wI w7 44 13 ((-1))) fun w8 =>
  lt (wI w8 44 14 ((-1))) fun w9 =>
  lt (wI w9 44 15 0) fun w10 =>
  lt (wI w10 44 16 0) fun w11 =>
  lt (wI w11 44 17 0) fun w12 =>
  lt (wI w12 44 18 0) fun w13 =>
  some w13
set_option maxRecDepth 100000 in
set_option maxHeartbeats 4000000 in
theorem t_X0_clear {Z : Cz (Wd)} (hZ : OKZ Z SC cX0_clear RX0 1 none 1) (hE : EndV Z)   (w : Wd) : BW Z 1 0 [(0, .ref (ph (zY Z) 44))] [] w (f_X0_clear w) :=
  bw_aload_n hZ 0 rfl dX0_clear_0 <|
  bw_getR hZ fl_RX0_14 obC_44 rfl dX0_clear_1 <|
  bw_iconst hZ 0 (by decide) dX0_clear_4 <|
  bw_putI hZ fl_RX0_58 rfl rfl (by decide) obC_45 dX0_clear_5 fun w1 =>
  bw_aload_n hZ 0 rfl dX0_clear_8 <|
  bw_getR hZ fl_RX0_20 obC_44 rfl dX0_clear_9 <|
  bw_iconst hZ 0 (by decide) dX0_clear_12 <|
  bw_putI hZ fl_RX0_58 rfl rfl (by decide) obC_47 dX0_clear_13 fun w2 =>
  bw_aload_n hZ 0 rfl dX0_clear_16 <|
  bw_getR hZ fl_RX0_23 obC_44 rfl dX0_clear_17 <|
  bw_iconst hZ 0 (by decide) dX0_clear_20 <|
  bw_putI hZ fl_RX0_58 rfl rfl (by decide) obC_49 dX0_clear_21 fun w3 =>
  bw_aload_n hZ 0 rfl dX0_clear_24 <|
  bw_iconst hZ 0 (by decide) dX0_clear_25 <|
  bw_putI hZ fl_RX0_61 rfl rfl (by decide) obC_44 dX0_clear_26 fun w4 =>
  bw_aload_n hZ 0 rfl dX0_clear_29 <|
  bw_iconst hZ 0 (by decide) dX0_clear_30 <|
  bw_putI hZ fl_RX0_64 rfl rfl (by decide) obC_44 dX0_clear_31 fun w5 =>
  bw_aload_n hZ 0 rfl dX0_clear_34 <|
  bw_iconst hZ (-1) (by decide) dX0_clear_35 <|
  bw_putI hZ fl_RX0_45 rfl rfl (by decide) obC_44 dX0_clear_36 fun w6 =>
  bw_aload_n hZ 0 rfl dX0_clear_39 <|
  bw_iconst hZ (-1) (by decide) dX0_clear_40 <|
  bw_putI hZ fl_RX0_49 rfl rfl (by decide) obC_44 dX0_clear_41 fun w7 =>
  bw_aload_n hZ 0 rfl dX0_clear_44 <|
  bw_iconst hZ (-1) (by decide) dX0_clear_45 <|
  bw_putI hZ fl_RX0_52 rfl rfl (by decide) obC_44 dX0_clear_46 fun w8 =>
  bw_aload_n hZ 0 rfl dX0_clear_49 <|
  bw_iconst hZ (-1) (by decide) dX0_clear_50 <|
  bw_putI hZ fl_RX0_55 rfl rfl (by decide) obC_44 dX0_clear_51 fun w9 =>
  bw_aload_n hZ 0 rfl dX0_clear_54 <|
  bw_iconst hZ 0 (by decide) dX0_clear_55 <|
  bw_putI hZ fl_RX0_67 rfl rfl (by decide) obC_44 dX0_clear_56 fun w10 =>
  bw_aload_n hZ 0 rfl dX0_clear_59 <|
  bw_iconst hZ 0 (by decide) dX0_clear_60 <|
  bw_putI hZ fl_RX0_70 rfl rfl (by decide) obC_44 dX0_clear_61 fun w11 =>
  bw_aload_n hZ 0 rfl dX0_clear_64 <|
  bw_iconst hZ 0 (by decide) dX0_clear_65 <|
  bw_putI hZ fl_RX0_73 rfl rfl (by decide) obC_44 dX0_clear_66 fun w12 =>
  bw_aload_n hZ 0 rfl dX0_clear_69 <|
  bw_iconst hZ 0 (by decide) dX0_clear_70 <|
  bw_putI hZ fl_RX0_76 rfl rfl (by decide) obC_44 dX0_clear_71 fun w13 =>
  bw_vret hZ hE dX0_clear_74
theorem c_X0_clear (l : Launch) (Y : Ev) (hY : Y.1 = SC)   (w : Wd) : CV l Y yX0_clear cX0_clear 1 1 [.ref (ph Y 44)] w (f_X0_clear w) := by
  refine CV_of (S := SC) (by decide) (Nat.le_of_ble_eq_true rfl) hY ?_
  intro Z hl hY2 hZ hE
  subst hY2
  exact t_X0_clear hZ hE w
-- WhichWill$Estate.fillUntoldLands
theorem dX0_fillUntoldLands_0 : decode cX0_fillUntoldLands 0 = .ok (.aload_n 0, 1) := by decide +kernel
theorem dX0_fillUntoldLands_1 : decode cX0_fillUntoldLands 1 = .ok (.getfield 14, 3) := by decide +kernel
theorem dX0_fillUntoldLands_4 : decode cX0_fillUntoldLands 4 = .ok (.getfield 58, 3) := by decide +kernel
theorem dX0_fillUntoldLands_7 : decode cX0_fillUntoldLands 7 = .ok (.ifCond .ne 4, 3) := by decide +kernel
theorem dX0_fillUntoldLands_10 : decode cX0_fillUntoldLands 10 = .ok (.return_, 1) := by decide +kernel
theorem dX0_fillUntoldLands_11 : decode cX0_fillUntoldLands 11 = .ok (.aload_n 0, 1) := by decide +kernel
theorem dX0_fillUntoldLands_12 : decode cX0_fillUntoldLands 12 = .ok (.aload_n 0, 1) := by decide +kernel
theorem dX0_fillUntoldLands_13 : decode cX0_fillUntoldLands 13 = .ok (.getfield 49, 3) := by decide +kernel
theorem dX0_fillUntoldLands_16 : decode cX0_fillUntoldLands 16 = .ok (.iconst (-1), 1) := by decide +kernel
theorem dX0_fillUntoldLands_17 : decode cX0_fillUntoldLands 17 = .ok (.if_icmp .ne 7, 3) := by decide +kernel
theorem dX0_fillUntoldLands_20 : decode cX0_fillUntoldLands 20 = .ok (.iconst 0, 1) := by decide +kernel
theorem dX0_fillUntoldLands_21 : decode cX0_fillUntoldLands 21 = .ok (.goto 7, 3) := by decide +kernel
theorem dX0_fillUntoldLands_24 : decode cX0_fillUntoldLands 24 = .ok (.aload_n 0, 1) := by decide +kernel
theorem dX0_fillUntoldLands_25 : decode cX0_fillUntoldLands 25 = .ok (.getfield 49, 3) := by decide +kernel
theorem dX0_fillUntoldLands_28 : decode cX0_fillUntoldLands 28 = .ok (.putfield 49, 3) := by decide +kernel
theorem dX0_fillUntoldLands_31 : decode cX0_fillUntoldLands 31 = .ok (.aload_n 0, 1) := by decide +kernel
theorem dX0_fillUntoldLands_32 : decode cX0_fillUntoldLands 32 = .ok (.aload_n 0, 1) := by decide +kernel
theorem dX0_fillUntoldLands_33 : decode cX0_fillUntoldLands 33 = .ok (.getfield 52, 3) := by decide +kernel
theorem dX0_fillUntoldLands_36 : decode cX0_fillUntoldLands 36 = .ok (.iconst (-1), 1) := by decide +kernel
theorem dX0_fillUntoldLands_37 : decode cX0_fillUntoldLands 37 = .ok (.if_icmp .ne 7, 3) := by decide +kernel
theorem dX0_fillUntoldLands_40 : decode cX0_fillUntoldLands 40 = .ok (.iconst 0, 1) := by decide +kernel
theorem dX0_fillUntoldLands_41 : decode cX0_fillUntoldLands 41 = .ok (.goto 7, 3) := by decide +kernel
theorem dX0_fillUntoldLands_44 : decode cX0_fillUntoldLands 44 = .ok (.aload_n 0, 1) := by decide +kernel
theorem dX0_fillUntoldLands_45 : decode cX0_fillUntoldLands 45 = .ok (.getfield 52, 3) := by decide +kernel
theorem dX0_fillUntoldLands_48 : decode cX0_fillUntoldLands 48 = .ok (.putfield 52, 3) := by decide +kernel
theorem dX0_fillUntoldLands_51 : decode cX0_fillUntoldLands 51 = .ok (.aload_n 0, 1) := by decide +kernel
theorem dX0_fillUntoldLands_52 : decode cX0_fillUntoldLands 52 = .ok (.aload_n 0, 1) := by decide +kernel
theorem dX0_fillUntoldLands_53 : decode cX0_fillUntoldLands 53 = .ok (.getfield 55, 3) := by decide +kernel
theorem dX0_fillUntoldLands_56 : decode cX0_fillUntoldLands 56 = .ok (.iconst (-1), 1) := by decide +kernel
theorem dX0_fillUntoldLands_57 : decode cX0_fillUntoldLands 57 = .ok (.if_icmp .ne 7, 3) := by decide +kernel
theorem dX0_fillUntoldLands_60 : decode cX0_fillUntoldLands 60 = .ok (.iconst 0, 1) := by decide +kernel
theorem dX0_fillUntoldLands_61 : decode cX0_fillUntoldLands 61 = .ok (.goto 7, 3) := by decide +kernel
theorem dX0_fillUntoldLands_64 : decode cX0_fillUntoldLands 64 = .ok (.aload_n 0, 1) := by decide +kernel
theorem dX0_fillUntoldLands_65 : decode cX0_fillUntoldLands 65 = .ok (.getfield 55, 3) := by decide +kernel
theorem dX0_fillUntoldLands_68 : decode cX0_fillUntoldLands 68 = .ok (.putfield 55, 3) := by decide +kernel
theorem dX0_fillUntoldLands_71 : decode cX0_fillUntoldLands 71 = .ok (.return_, 1) := by decide +kernel
def X0_fillUntoldLands_b48 (t0 : Int32) (w : Wd) : Option (Wd) :=
  lt (wI w 44 13 t0) fun w2 =>
  if (w2.1 44 14) = ((-1)) then
  (lt (wI w2 44 14 0) fun w4 =>
  some w4)
  else
  lt (wI w2 44 14 (w2.1 44 14)) fun w3 =>
  some w3
set_option maxRecDepth 100000 in
set_option maxHeartbeats 4000000 in
theorem t_X0_fillUntoldLands_b48 {Z : Cz (Wd)} (hZ : OKZ Z SC cX0_fillUntoldLands RX0 1 none 1) (hE : EndV Z)  (t0 : Int32)  (w : Wd) : BW Z 1 48 [(0, .ref (ph (zY Z) 44))] [.int t0, .ref (ph (zY Z) 44)] w (X0_fillUntoldLands_b48 t0 w) :=
  bw_putI hZ fl_RX0_52 rfl rfl (by decide) obC_44 dX0_fillUntoldLands_48 fun w2 =>
  bw_aload_n hZ 0 rfl dX0_fillUntoldLands_51 <|
  bw_aload_n hZ 0 rfl dX0_fillUntoldLands_52 <|
  bw_getI hZ fl_RX0_55 (by decide) obC_44 dX0_fillUntoldLands_53 <|
  bw_iconst hZ (-1) (by decide) dX0_fillUntoldLands_56 <|
  bw_icmp_ne hZ (tgt := 64) (by decide) dX0_fillUntoldLands_57 (fun _ =>
  bw_aload_n hZ 0 rfl dX0_fillUntoldLands_64 <|
  bw_getI hZ fl_RX0_55 (by decide) obC_44 dX0_fillUntoldLands_65 <|
  bw_putI hZ fl_RX0_55 rfl rfl (by decide) obC_44 dX0_fillUntoldLands_68 fun w3 =>
  bw_vret hZ hE dX0_fillUntoldLands_71) (fun _ =>
  bw_iconst hZ 0 (by decide) dX0_fillUntoldLands_60 <|
  bw_goto hZ (tgt := 68) (by decide) dX0_fillUntoldLands_61 <|
  bw_putI hZ fl_RX0_55 rfl rfl (by decide) obC_44 dX0_fillUntoldLands_68 fun w4 =>
  bw_vret hZ hE dX0_fillUntoldLands_71)
def X0_fillUntoldLands_b28 (t0 : Int32) (w : Wd) : Option (Wd) :=
  lt (wI w 44 12 t0) fun w1 =>
  if (w1.1 44 13) = ((-1)) then
  (X0_fillUntoldLands_b48 0 w1)
  else
  X0_fillUntoldLands_b48 (w1.1 44 13) w1
set_option maxRecDepth 100000 in
set_option maxHeartbeats 4000000 in
theorem t_X0_fillUntoldLands_b28 {Z : Cz (Wd)} (hZ : OKZ Z SC cX0_fillUntoldLands RX0 1 none 1) (hE : EndV Z)  (t0 : Int32)  (w : Wd) : BW Z 1 28 [(0, .ref (ph (zY Z) 44))] [.int t0, .ref (ph (zY Z) 44)] w (X0_fillUntoldLands_b28 t0 w) :=
  bw_putI hZ fl_RX0_49 rfl rfl (by decide) obC_44 dX0_fillUntoldLands_28 fun w1 =>
  bw_aload_n hZ 0 rfl dX0_fillUntoldLands_31 <|
  bw_aload_n hZ 0 rfl dX0_fillUntoldLands_32 <|
  bw_getI hZ fl_RX0_52 (by decide) obC_44 dX0_fillUntoldLands_33 <|
  bw_iconst hZ (-1) (by decide) dX0_fillUntoldLands_36 <|
  bw_icmp_ne hZ (tgt := 44) (by decide) dX0_fillUntoldLands_37 (fun _ =>
  bw_aload_n hZ 0 rfl dX0_fillUntoldLands_44 <|
  bw_getI hZ fl_RX0_52 (by decide) obC_44 dX0_fillUntoldLands_45 <|
  bw_sub [0] rfl (t_X0_fillUntoldLands_b48 hZ hE (w1.1 44 13) w1)) (fun _ =>
  bw_iconst hZ 0 (by decide) dX0_fillUntoldLands_40 <|
  bw_goto hZ (tgt := 48) (by decide) dX0_fillUntoldLands_41 <|
  bw_sub [0] rfl (t_X0_fillUntoldLands_b48 hZ hE 0 w1))
def f_X0_fillUntoldLands (w : Wd) : Option (Wd) :=
  if (w.1 45 1) = 0 then
  (some w)
  else
  if (w.1 44 12) = ((-1)) then
  (X0_fillUntoldLands_b28 0 w)
  else
  X0_fillUntoldLands_b28 (w.1 44 12) w
set_option maxRecDepth 100000 in
set_option maxHeartbeats 4000000 in
theorem t_X0_fillUntoldLands {Z : Cz (Wd)} (hZ : OKZ Z SC cX0_fillUntoldLands RX0 1 none 1) (hE : EndV Z)   (w : Wd) : BW Z 1 0 [(0, .ref (ph (zY Z) 44))] [] w (f_X0_fillUntoldLands w) :=
  bw_aload_n hZ 0 rfl dX0_fillUntoldLands_0 <|
  bw_getR hZ fl_RX0_14 obC_44 rfl dX0_fillUntoldLands_1 <|
  bw_getI hZ fl_RX0_58 (by decide) obC_45 dX0_fillUntoldLands_4 <|
  bw_if_ne hZ (tgt := 11) (by decide) dX0_fillUntoldLands_7 (fun _ =>
  bw_aload_n hZ 0 rfl dX0_fillUntoldLands_11 <|
  bw_aload_n hZ 0 rfl dX0_fillUntoldLands_12 <|
  bw_getI hZ fl_RX0_49 (by decide) obC_44 dX0_fillUntoldLands_13 <|
  bw_iconst hZ (-1) (by decide) dX0_fillUntoldLands_16 <|
  bw_icmp_ne hZ (tgt := 24) (by decide) dX0_fillUntoldLands_17 (fun _ =>
  bw_aload_n hZ 0 rfl dX0_fillUntoldLands_24 <|
  bw_getI hZ fl_RX0_49 (by decide) obC_44 dX0_fillUntoldLands_25 <|
  bw_sub [0] rfl (t_X0_fillUntoldLands_b28 hZ hE (w.1 44 12) w)) (fun _ =>
  bw_iconst hZ 0 (by decide) dX0_fillUntoldLands_20 <|
  bw_goto hZ (tgt := 28) (by decide) dX0_fillUntoldLands_21 <|
  bw_sub [0] rfl (t_X0_fillUntoldLands_b28 hZ hE 0 w))) (fun _ =>
  bw_vret hZ hE dX0_fillUntoldLands_10)
theorem c_X0_fillUntoldLands (l : Launch) (Y : Ev) (hY : Y.1 = SC)   (w : Wd) : CV l Y yX0_fillUntoldLands cX0_fillUntoldLands 1 1 [.ref (ph Y 44)] w (f_X0_fillUntoldLands w) := by
  refine CV_of (S := SC) (by decide) (Nat.le_of_ble_eq_true rfl) hY ?_
  intro Z hl hY2 hZ hE
  subst hY2
  exact t_X0_fillUntoldLands hZ hE w
-- WhichWill$Estate.isDead
theorem dX0_isDead_0 : decode cX0_isDead 0 = .ok (.aload_n 0, 1) := by decide +kernel
theorem dX0_isDead_1 : decode cX0_isDead 1 = .ok (.getfield 64, 3) := by decide +kernel
theorem dX0_isDead_4 : decode cX0_isDead 4 = .ok (.iload_n 1, 1) := by decide +kernel
theorem dX0_isDead_5 : decode cX0_isDead 5 = .ok (.ishr, 1) := by decide +kernel
theorem dX0_isDead_6 : decode cX0_isDead 6 = .ok (.iconst 1, 1) := by decide +kernel
theorem dX0_isDead_7 : decode cX0_isDead 7 = .ok (.iand, 1) := by decide +kernel
theorem dX0_isDead_8 : decode cX0_isDead 8 = .ok (.ifCond .eq 7, 3) := by decide +kernel
theorem dX0_isDead_11 : decode cX0_isDead 11 = .ok (.iconst 1, 1) := by decide +kernel
theorem dX0_isDead_12 : decode cX0_isDead 12 = .ok (.goto 4, 3) := by decide +kernel
theorem dX0_isDead_15 : decode cX0_isDead 15 = .ok (.iconst 0, 1) := by decide +kernel
theorem dX0_isDead_16 : decode cX0_isDead 16 = .ok (.ireturn, 1) := by decide +kernel
def f_X0_isDead (o0 : Nat) (x1 : Int32) (w : Wd) : Option (Int32 × Wd) :=
  if (((w.1 o0 10) >>> (x1 &&& 31)) &&& 1) = 0 then
  (some (0, w))
  else
  some (1, w)
set_option maxRecDepth 100000 in
set_option maxHeartbeats 4000000 in
theorem t_X0_isDead {Z : Cz (Int32 × Wd)} (hZ : OKZ Z SC cX0_isDead RX0 2 (some .boolean) 1) (hE : EndI Z) (o0 : Nat) (x1 : Int32) (ho0 : IsE o0) (w : Wd) : BW Z 2 0 [(0, .ref (ph (zY Z) o0)), (1, .int x1)] [] w (f_X0_isDead o0 x1 w) :=
  bw_aload_n hZ 0 rfl dX0_isDead_0 <|
  bw_getI hZ fl_RX0_64 (by decide) (obE ho0) dX0_isDead_1 <|
  bw_iload_n hZ 1 rfl dX0_isDead_4 <|
  bw_ishr hZ dX0_isDead_5 <|
  bw_iconst hZ 1 (by decide) dX0_isDead_6 <|
  bw_iand hZ dX0_isDead_7 <|
  bw_if_eq hZ (tgt := 15) (by decide) dX0_isDead_8 (fun _ =>
  bw_iconst hZ 0 (by decide) dX0_isDead_15 <|
  bw_zret hZ hE (by decide) dX0_isDead_16) (fun _ =>
  bw_iconst hZ 1 (by decide) dX0_isDead_11 <|
  bw_goto hZ (tgt := 16) (by decide) dX0_isDead_12 <|
  bw_zret hZ hE (by decide) dX0_isDead_16)
theorem c_X0_isDead (l : Launch) (Y : Ev) (hY : Y.1 = SC) (o0 : Nat) (x1 : Int32) (ho0 : IsE o0) (w : Wd) : CI l Y yX0_isDead cX0_isDead 2 1 [.ref (ph Y o0), .int x1] w .boolean (f_X0_isDead o0 x1 w) := by
  refine CI_of (S := SC) (by decide) (Nat.le_of_ble_eq_true rfl) hY ?_
  intro Z hl hY2 hZ hE
  subst hY2
  exact t_X0_isDead hZ hE o0 x1 ho0 w
-- WhichWill$Estate.findStems
theorem dX0_findStems_0 : decode cX0_findStems 0 = .ok (.aload_n 0, 1) := by decide +kernel
theorem dX0_findStems_1 : decode cX0_findStems 1 = .ok (.getfield 20, 3) := by decide +kernel
theorem dX0_findStems_4 : decode cX0_findStems 4 = .ok (.getfield 58, 3) := by decide +kernel
theorem dX0_findStems_7 : decode cX0_findStems 7 = .ok (.iconst 1, 1) := by decide +kernel
theorem dX0_findStems_8 : decode cX0_findStems 8 = .ok (.isub, 1) := by decide +kernel
theorem dX0_findStems_9 : decode cX0_findStems 9 = .ok (.istore_n 1, 1) := by decide +kernel
theorem dX0_findStems_10 : decode cX0_findStems 10 = .ok (.iload_n 1, 1) := by decide +kernel
theorem dX0_findStems_11 : decode cX0_findStems 11 = .ok (.ifCond .lt 82, 3) := by decide +kernel
theorem dX0_findStems_14 : decode cX0_findStems 14 = .ok (.aload_n 0, 1) := by decide +kernel
theorem dX0_findStems_15 : decode cX0_findStems 15 = .ok (.iload_n 1, 1) := by decide +kernel
theorem dX0_findStems_16 : decode cX0_findStems 16 = .ok (.invokevirtual 243, 3) := by decide +kernel
theorem dX0_findStems_19 : decode cX0_findStems 19 = .ok (.ifCond .eq 15, 3) := by decide +kernel
theorem dX0_findStems_22 : decode cX0_findStems 22 = .ok (.aload_n 0, 1) := by decide +kernel
theorem dX0_findStems_23 : decode cX0_findStems 23 = .ok (.getfield 42, 3) := by decide +kernel
theorem dX0_findStems_26 : decode cX0_findStems 26 = .ok (.iload_n 1, 1) := by decide +kernel
theorem dX0_findStems_27 : decode cX0_findStems 27 = .ok (.iaload, 1) := by decide +kernel
theorem dX0_findStems_28 : decode cX0_findStems 28 = .ok (.ifCond .ne 6, 3) := by decide +kernel
theorem dX0_findStems_31 : decode cX0_findStems 31 = .ok (.goto 56, 3) := by decide +kernel
theorem dX0_findStems_34 : decode cX0_findStems 34 = .ok (.aload_n 0, 1) := by decide +kernel
theorem dX0_findStems_35 : decode cX0_findStems 35 = .ok (.getfield 33, 3) := by decide +kernel
theorem dX0_findStems_38 : decode cX0_findStems 38 = .ok (.iload_n 1, 1) := by decide +kernel
theorem dX0_findStems_39 : decode cX0_findStems 39 = .ok (.iaload, 1) := by decide +kernel
theorem dX0_findStems_40 : decode cX0_findStems 40 = .ok (.istore_n 2, 1) := by decide +kernel
theorem dX0_findStems_41 : decode cX0_findStems 41 = .ok (.aload_n 0, 1) := by decide +kernel
theorem dX0_findStems_42 : decode cX0_findStems 42 = .ok (.getfield 30, 3) := by decide +kernel
theorem dX0_findStems_45 : decode cX0_findStems 45 = .ok (.iload_n 1, 1) := by decide +kernel
theorem dX0_findStems_46 : decode cX0_findStems 46 = .ok (.iaload, 1) := by decide +kernel
theorem dX0_findStems_47 : decode cX0_findStems 47 = .ok (.iconst 1, 1) := by decide +kernel
theorem dX0_findStems_48 : decode cX0_findStems 48 = .ok (.if_icmp .ne 18, 3) := by decide +kernel
theorem dX0_findStems_51 : decode cX0_findStems 51 = .ok (.aload_n 0, 1) := by decide +kernel
theorem dX0_findStems_52 : decode cX0_findStems 52 = .ok (.dup, 1) := by decide +kernel
theorem dX0_findStems_53 : decode cX0_findStems 53 = .ok (.getfield 61, 3) := by decide +kernel
theorem dX0_findStems_56 : decode cX0_findStems 56 = .ok (.iconst 1, 1) := by decide +kernel
theorem dX0_findStems_57 : decode cX0_findStems 57 = .ok (.iload_n 1, 1) := by decide +kernel
theorem dX0_findStems_58 : decode cX0_findStems 58 = .ok (.ishl, 1) := by decide +kernel
theorem dX0_findStems_59 : decode cX0_findStems 59 = .ok (.ior, 1) := by decide +kernel
theorem dX0_findStems_60 : decode cX0_findStems 60 = .ok (.putfield 61, 3) := by decide +kernel
theorem dX0_findStems_63 : decode cX0_findStems 63 = .ok (.goto 24, 3) := by decide +kernel
theorem dX0_findStems_66 : decode cX0_findStems 66 = .ok (.iload_n 2, 1) := by decide +kernel
theorem dX0_findStems_67 : decode cX0_findStems 67 = .ok (.ifCond .lt 20, 3) := by decide +kernel
theorem dX0_findStems_70 : decode cX0_findStems 70 = .ok (.iload_n 2, 1) := by decide +kernel
theorem dX0_findStems_71 : decode cX0_findStems 71 = .ok (.iload_n 1, 1) := by decide +kernel
theorem dX0_findStems_72 : decode cX0_findStems 72 = .ok (.if_icmp .ge 15, 3) := by decide +kernel
theorem dX0_findStems_75 : decode cX0_findStems 75 = .ok (.aload_n 0, 1) := by decide +kernel
theorem dX0_findStems_76 : decode cX0_findStems 76 = .ok (.getfield 42, 3) := by decide +kernel
theorem dX0_findStems_79 : decode cX0_findStems 79 = .ok (.iload_n 2, 1) := by decide +kernel
theorem dX0_findStems_80 : decode cX0_findStems 80 = .ok (.dup2, 1) := by decide +kernel
theorem dX0_findStems_81 : decode cX0_findStems 81 = .ok (.iaload, 1) := by decide +kernel
theorem dX0_findStems_82 : decode cX0_findStems 82 = .ok (.iconst 1, 1) := by decide +kernel
theorem dX0_findStems_83 : decode cX0_findStems 83 = .ok (.iload_n 1, 1) := by decide +kernel
theorem dX0_findStems_84 : decode cX0_findStems 84 = .ok (.ishl, 1) := by decide +kernel
theorem dX0_findStems_85 : decode cX0_findStems 85 = .ok (.ior, 1) := by decide +kernel
theorem dX0_findStems_86 : decode cX0_findStems 86 = .ok (.iastore, 1) := by decide +kernel
theorem dX0_findStems_87 : decode cX0_findStems 87 = .ok (.iinc 1 (-1), 3) := by decide +kernel
theorem dX0_findStems_90 : decode cX0_findStems 90 = .ok (.goto (-80), 3) := by decide +kernel
theorem dX0_findStems_93 : decode cX0_findStems 93 = .ok (.return_, 1) := by decide +kernel
def X0_findStems_b34 (k10 : Int32 → Wd → Option (Wd)) (y1 : Int32) (w : Wd) : Option (Wd) :=
  if inb y1 8 = true then
  (lt (w.1 53 (Int32.toNatClampNeg y1)) fun v4 =>
  if inb y1 8 = true then
  (if (w.1 52 (Int32.toNatClampNeg y1)) = 1 then
  (lt (wI w 44 9 ((w.1 44 9) ||| (1 <<< (y1 &&& 31)))) fun w6 =>
  k10 (y1 + (-1)) w6)
  else
  if v4 < 0 then
  (k10 (y1 + (-1)) w)
  else
  if y1 ≤ v4 then
  (k10 (y1 + (-1)) w)
  else
  if inb v4 8 = true then
  (if inb v4 8 = true then
  (lt (wI w 56 (Int32.toNatClampNeg v4) ((w.1 56 (Int32.toNatClampNeg v4)) ||| (1 <<< (y1 &&& 31)))) fun w5 =>
  k10 (y1 + (-1)) w5)
  else none)
  else none)
  else none)
  else none
set_option maxRecDepth 100000 in
set_option maxHeartbeats 4000000 in
theorem t_X0_findStems_b34 {Z : Cz (Wd)} (hZ : OKZ Z SC cX0_findStems RX0 3 none 2) (hE : EndV Z) (k10 : Int32 → Wd → Option (Wd)) (hk10 : ∀ (y1 : Int32)  (w : Wd), BW Z 3 10 [(0, .ref (ph (zY Z) 44)), (1, .int y1)] [] w (k10 y1 w)) (y1 : Int32)  (w : Wd) : BW Z 3 34 [(0, .ref (ph (zY Z) 44)), (1, .int y1)] [] w (X0_findStems_b34 k10 y1 w) :=
  bw_aload_n hZ 0 rfl dX0_findStems_34 <|
  bw_getR hZ fl_RX0_33 obC_44 rfl dX0_findStems_35 <|
  bw_iload_n hZ 1 rfl dX0_findStems_38 <|
  bw_iald hZ (arC_53 _) dX0_findStems_39 <|
  bw_nm fun v4 =>
  bw_istore_n hZ rfl (by decide) rfl dX0_findStems_40 <|
  bw_aload_n hZ 1 rfl dX0_findStems_41 <|
  bw_getR hZ fl_RX0_30 obC_44 rfl dX0_findStems_42 <|
  bw_iload_n hZ 2 rfl dX0_findStems_45 <|
  bw_iald hZ (arC_52 _) dX0_findStems_46 <|
  bw_iconst hZ 1 (by decide) dX0_findStems_47 <|
  bw_icmp_ne hZ (tgt := 66) (by decide) dX0_findStems_48 (fun _ =>
  bw_iload_n hZ 0 rfl dX0_findStems_66 <|
  bw_if_lt hZ (tgt := 87) (by decide) dX0_findStems_67 (fun _ =>
  bw_iinc hZ (-1) 2 rfl (by decide) (by decide) rfl dX0_findStems_87 <|
  bw_goto hZ (tgt := 10) (by decide) dX0_findStems_90 <|
  bw_sub [2, 0] rfl (hk10 (y1 + (-1)) w)) (fun _ =>
  bw_iload_n hZ 0 rfl dX0_findStems_70 <|
  bw_iload_n hZ 2 rfl dX0_findStems_71 <|
  bw_icmp_ge hZ (tgt := 87) (by decide) dX0_findStems_72 (fun _ =>
  bw_iinc hZ (-1) 2 rfl (by decide) (by decide) rfl dX0_findStems_87 <|
  bw_goto hZ (tgt := 10) (by decide) dX0_findStems_90 <|
  bw_sub [2, 0] rfl (hk10 (y1 + (-1)) w)) (fun _ =>
  bw_aload_n hZ 1 rfl dX0_findStems_75 <|
  bw_getR hZ fl_RX0_42 obC_44 rfl dX0_findStems_76 <|
  bw_iload_n hZ 0 rfl dX0_findStems_79 <|
  bw_dup2 hZ rfl rfl dX0_findStems_80 <|
  bw_iald hZ (arC_56 _) dX0_findStems_81 <|
  bw_iconst hZ 1 (by decide) dX0_findStems_82 <|
  bw_iload_n hZ 2 rfl dX0_findStems_83 <|
  bw_ishl hZ dX0_findStems_84 <|
  bw_ior hZ dX0_findStems_85 <|
  bw_iast hZ (arC_56 _) dX0_findStems_86 fun w5 =>
  bw_iinc hZ (-1) 2 rfl (by decide) (by decide) rfl dX0_findStems_87 <|
  bw_goto hZ (tgt := 10) (by decide) dX0_findStems_90 <|
  bw_sub [2, 0] rfl (hk10 (y1 + (-1)) w5)))) (fun _ =>
  bw_aload_n hZ 1 rfl dX0_findStems_51 <|
  bw_dup hZ rfl dX0_findStems_52 <|
  bw_getI hZ fl_RX0_61 (by decide) obC_44 dX0_findStems_53 <|
  bw_iconst hZ 1 (by decide) dX0_findStems_56 <|
  bw_iload_n hZ 2 rfl dX0_findStems_57 <|
  bw_ishl hZ dX0_findStems_58 <|
  bw_ior hZ dX0_findStems_59 <|
  bw_putI hZ fl_RX0_61 rfl rfl (by decide) obC_44 dX0_findStems_60 fun w6 =>
  bw_goto hZ (tgt := 87) (by decide) dX0_findStems_63 <|
  bw_iinc hZ (-1) 2 rfl (by decide) (by decide) rfl dX0_findStems_87 <|
  bw_goto hZ (tgt := 10) (by decide) dX0_findStems_90 <|
  bw_sub [2, 0] rfl (hk10 (y1 + (-1)) w6))
def X0_findStems_b10 (k10 : Int32 → Wd → Option (Wd)) (y1 : Int32) (w : Wd) : Option (Wd) :=
  if y1 < 0 then
  (some w)
  else
  cl (f_X0_isDead 44 y1 w) fun r3 w2 =>
  if r3 = 0 then
  (X0_findStems_b34 k10 y1 w2)
  else
  if inb y1 8 = true then
  (if (w2.1 56 (Int32.toNatClampNeg y1)) = 0 then
  (k10 (y1 + (-1)) w2)
  else
  X0_findStems_b34 k10 y1 w2)
  else none
set_option maxRecDepth 100000 in
set_option maxHeartbeats 4000000 in
theorem t_X0_findStems_b10 {Z : Cz (Wd)} (hZ : OKZ Z SC cX0_findStems RX0 3 none 2) (hE : EndV Z) (k10 : Int32 → Wd → Option (Wd)) (hk10 : ∀ (y1 : Int32)  (w : Wd), BW Z 3 10 [(0, .ref (ph (zY Z) 44)), (1, .int y1)] [] w (k10 y1 w)) (y1 : Int32)  (w : Wd) : BW Z 3 10 [(0, .ref (ph (zY Z) 44)), (1, .int y1)] [] w (X0_findStems_b10 k10 y1 w) :=
  bw_iload_n hZ 1 rfl dX0_findStems_10 <|
  bw_if_lt hZ (tgt := 93) (by decide) dX0_findStems_11 (fun _ =>
  bw_vret hZ hE dX0_findStems_93) (fun _ =>
  bw_aload_n hZ 0 rfl dX0_findStems_14 <|
  bw_iload_n hZ 1 rfl dX0_findStems_15 <|
  bw_callVI (As := [.int y1]) hZ ml_RX0_243 rc_0 obC_44 (by decide) (c_X0_isDead (zl Z) (zY Z) (hZ_S hZ) 44 y1 isE44 w) rfl rfl (Nat.le_of_ble_eq_true rfl) dX0_findStems_16 fun r3 w2 =>
  bw_if_eq hZ (tgt := 34) (by decide) dX0_findStems_19 (fun _ =>
  bw_sub [0, 1] rfl (t_X0_findStems_b34 hZ hE k10 hk10 y1 w2)) (fun _ =>
  bw_aload_n hZ 0 rfl dX0_findStems_22 <|
  bw_getR hZ fl_RX0_42 obC_44 rfl dX0_findStems_23 <|
  bw_iload_n hZ 1 rfl dX0_findStems_26 <|
  bw_iald hZ (arC_56 _) dX0_findStems_27 <|
  bw_if_ne hZ (tgt := 34) (by decide) dX0_findStems_28 (fun _ =>
  bw_sub [0, 1] rfl (t_X0_findStems_b34 hZ hE k10 hk10 y1 w2)) (fun _ =>
  bw_goto hZ (tgt := 87) (by decide) dX0_findStems_31 <|
  bw_iinc hZ (-1) 1 rfl (by decide) (by decide) rfl dX0_findStems_87 <|
  bw_goto hZ (tgt := 10) (by decide) dX0_findStems_90 <|
  bw_sub [1, 0] rfl (hk10 (y1 + (-1)) w2))))
def X0_findStems_b10_L  : Int32 → Wd → Option (Wd) :=
  lp fu (fun _ _ => none) (fun k10 => X0_findStems_b10 k10)
theorem t_X0_findStems_b10_L {Z : Cz (Wd)} (hZ : OKZ Z SC cX0_findStems RX0 3 none 2) (hE : EndV Z)  : ∀ (y1 : Int32)  (w : Wd), BW Z 3 10 [(0, .ref (ph (zY Z) 44)), (1, .int y1)] [] w (X0_findStems_b10_L y1 w) :=
  lp_bw (fun k10 => ∀ (y1 : Int32)  (w : Wd), BW Z 3 10 [(0, .ref (ph (zY Z) 44)), (1, .int y1)] [] w (k10 y1 w)) (fun _ _ => bw_none) (fun k10 hk10 y1 w => t_X0_findStems_b10 hZ hE k10 hk10 y1 w) fu
def f_X0_findStems (w : Wd) : Option (Wd) :=
  lt ((w.1 47 1) - 1) fun v1 =>
  X0_findStems_b10_L v1 w
set_option maxRecDepth 100000 in
set_option maxHeartbeats 4000000 in
theorem t_X0_findStems {Z : Cz (Wd)} (hZ : OKZ Z SC cX0_findStems RX0 3 none 2) (hE : EndV Z)   (w : Wd) : BW Z 3 0 [(0, .ref (ph (zY Z) 44))] [] w (f_X0_findStems w) :=
  bw_aload_n hZ 0 rfl dX0_findStems_0 <|
  bw_getR hZ fl_RX0_20 obC_44 rfl dX0_findStems_1 <|
  bw_getI hZ fl_RX0_58 (by decide) obC_47 dX0_findStems_4 <|
  bw_iconst hZ 1 (by decide) dX0_findStems_7 <|
  bw_isub hZ dX0_findStems_8 <|
  bw_nm fun v1 =>
  bw_istore_n hZ rfl (by decide) rfl dX0_findStems_9 <|
  bw_sub [1, 0] rfl (t_X0_findStems_b10_L hZ hE v1 w)
theorem c_X0_findStems (l : Launch) (Y : Ev) (hY : Y.1 = SC)   (w : Wd) : CV l Y yX0_findStems cX0_findStems 3 2 [.ref (ph Y 44)] w (f_X0_findStems w) := by
  refine CV_of (S := SC) (by decide) (Nat.le_of_ble_eq_true rfl) hY ?_
  intro Z hl hY2 hZ hE
  subst hY2
  exact t_X0_findStems hZ hE w
-- WhichWill$Tape.fail
theorem dX10_fail_0 : decode cX10_fail 0 = .ok (.aload_n 0, 1) := by decide +kernel
theorem dX10_fail_1 : decode cX10_fail 1 = .ok (.getfield 22, 3) := by decide +kernel
theorem dX10_fail_4 : decode cX10_fail 4 = .ok (.ifCond .ne 21, 3) := by decide +kernel
theorem dX10_fail_7 : decode cX10_fail 7 = .ok (.aload_n 0, 1) := by decide +kernel
theorem dX10_fail_8 : decode cX10_fail 8 = .ok (.iload_n 1, 1) := by decide +kernel
theorem dX10_fail_9 : decode cX10_fail 9 = .ok (.putfield 22, 3) := by decide +kernel
theorem dX10_fail_12 : decode cX10_fail 12 = .ok (.aload_n 0, 1) := by decide +kernel
theorem dX10_fail_13 : decode cX10_fail 13 = .ok (.aload_n 0, 1) := by decide +kernel
theorem dX10_fail_14 : decode cX10_fail 14 = .ok (.getfield 34, 3) := by decide +kernel
theorem dX10_fail_17 : decode cX10_fail 17 = .ok (.putfield 15, 3) := by decide +kernel
theorem dX10_fail_20 : decode cX10_fail 20 = .ok (.aload_n 0, 1) := by decide +kernel
theorem dX10_fail_21 : decode cX10_fail 21 = .ok (.iconst 4, 1) := by decide +kernel
theorem dX10_fail_22 : decode cX10_fail 22 = .ok (.putfield 31, 3) := by decide +kernel
theorem dX10_fail_25 : decode cX10_fail 25 = .ok (.return_, 1) := by decide +kernel
def f_X10_fail (x1 : Int32) (w : Wd) : Option (Wd) :=
  if (w.1 1 4) = 0 then
  (lt (wI w 1 4 x1) fun w1 =>
  lt (wI w1 1 5 (w1.1 1 7)) fun w2 =>
  lt (wI w2 1 2 4) fun w3 =>
  some w3)
  else
  some w
set_option maxRecDepth 100000 in
set_option maxHeartbeats 4000000 in
theorem t_X10_fail {Z : Cz (Wd)} (hZ : OKZ Z SC cX10_fail RX10 2 none 1) (hE : EndV Z) (x1 : Int32)  (w : Wd) : BW Z 2 0 [(0, .ref (ph (zY Z) 1)), (1, .int x1)] [] w (f_X10_fail x1 w) :=
  bw_aload_n hZ 0 rfl dX10_fail_0 <|
  bw_getI hZ fl_RX10_22 (by decide) obC_1 dX10_fail_1 <|
  bw_if_ne hZ (tgt := 25) (by decide) dX10_fail_4 (fun _ =>
  bw_vret hZ hE dX10_fail_25) (fun _ =>
  bw_aload_n hZ 0 rfl dX10_fail_7 <|
  bw_iload_n hZ 1 rfl dX10_fail_8 <|
  bw_putI hZ fl_RX10_22 rfl rfl (by decide) obC_1 dX10_fail_9 fun w1 =>
  bw_aload_n hZ 0 rfl dX10_fail_12 <|
  bw_aload_n hZ 0 rfl dX10_fail_13 <|
  bw_getI hZ fl_RX10_34 (by decide) obC_1 dX10_fail_14 <|
  bw_putI hZ fl_RX10_15 rfl rfl (by decide) obC_1 dX10_fail_17 fun w2 =>
  bw_aload_n hZ 0 rfl dX10_fail_20 <|
  bw_iconst hZ 4 (by decide) dX10_fail_21 <|
  bw_putI hZ fl_RX10_31 rfl rfl (by decide) obC_1 dX10_fail_22 fun w3 =>
  bw_vret hZ hE dX10_fail_25)
theorem c_X10_fail (l : Launch) (Y : Ev) (hY : Y.1 = SC) (x1 : Int32)  (w : Wd) : CV l Y yX10_fail cX10_fail 2 1 [.ref (ph Y 1), .int x1] w (f_X10_fail x1 w) := by
  refine CV_of (S := SC) (by decide) (Nat.le_of_ble_eq_true rfl) hY ?_
  intro Z hl hY2 hZ hE
  subst hY2
  exact t_X10_fail hZ hE x1 w
-- WhichWill$Tape.step
theorem dX10_step_0 : decode cX10_step 0 = .ok (.aload_n 0, 1) := by decide +kernel
theorem dX10_step_1 : decode cX10_step 1 = .ok (.getfield 22, 3) := by decide +kernel
theorem dX10_step_4 : decode cX10_step 4 = .ok (.ifCond .eq 4, 3) := by decide +kernel
theorem dX10_step_7 : decode cX10_step 7 = .ok (.return_, 1) := by decide +kernel
theorem dX10_step_8 : decode cX10_step 8 = .ok (.aload_n 0, 1) := by decide +kernel
theorem dX10_step_9 : decode cX10_step 9 = .ok (.getfield 25, 3) := by decide +kernel
theorem dX10_step_12 : decode cX10_step 12 = .ok (.aload_n 0, 1) := by decide +kernel
theorem dX10_step_13 : decode cX10_step 13 = .ok (.getfield 19, 3) := by decide +kernel
theorem dX10_step_16 : decode cX10_step 16 = .ok (.if_icmp .ge 44, 3) := by decide +kernel
theorem dX10_step_19 : decode cX10_step 19 = .ok (.aload_n 0, 1) := by decide +kernel
theorem dX10_step_20 : decode cX10_step 20 = .ok (.getfield 11, 3) := by decide +kernel
theorem dX10_step_23 : decode cX10_step 23 = .ok (.aload_n 0, 1) := by decide +kernel
theorem dX10_step_24 : decode cX10_step 24 = .ok (.getfield 25, 3) := by decide +kernel
theorem dX10_step_27 : decode cX10_step 27 = .ok (.baload, 1) := by decide +kernel
theorem dX10_step_28 : decode cX10_step 28 = .ok (.bipush 32, 2) := by decide +kernel
theorem dX10_step_30 : decode cX10_step 30 = .ok (.if_icmp .eq 17, 3) := by decide +kernel
theorem dX10_step_33 : decode cX10_step 33 = .ok (.aload_n 0, 1) := by decide +kernel
theorem dX10_step_34 : decode cX10_step 34 = .ok (.getfield 11, 3) := by decide +kernel
theorem dX10_step_37 : decode cX10_step 37 = .ok (.aload_n 0, 1) := by decide +kernel
theorem dX10_step_38 : decode cX10_step 38 = .ok (.getfield 25, 3) := by decide +kernel
theorem dX10_step_41 : decode cX10_step 41 = .ok (.baload, 1) := by decide +kernel
theorem dX10_step_42 : decode cX10_step 42 = .ok (.bipush 10, 2) := by decide +kernel
theorem dX10_step_44 : decode cX10_step 44 = .ok (.if_icmp .ne 16, 3) := by decide +kernel
theorem dX10_step_47 : decode cX10_step 47 = .ok (.aload_n 0, 1) := by decide +kernel
theorem dX10_step_48 : decode cX10_step 48 = .ok (.dup, 1) := by decide +kernel
theorem dX10_step_49 : decode cX10_step 49 = .ok (.getfield 25, 3) := by decide +kernel
theorem dX10_step_52 : decode cX10_step 52 = .ok (.iconst 1, 1) := by decide +kernel
theorem dX10_step_53 : decode cX10_step 53 = .ok (.iadd, 1) := by decide +kernel
theorem dX10_step_54 : decode cX10_step 54 = .ok (.putfield 25, 3) := by decide +kernel
theorem dX10_step_57 : decode cX10_step 57 = .ok (.goto (-49), 3) := by decide +kernel
theorem dX10_step_60 : decode cX10_step 60 = .ok (.aload_n 0, 1) := by decide +kernel
theorem dX10_step_61 : decode cX10_step 61 = .ok (.aload_n 0, 1) := by decide +kernel
theorem dX10_step_62 : decode cX10_step 62 = .ok (.getfield 25, 3) := by decide +kernel
theorem dX10_step_65 : decode cX10_step 65 = .ok (.putfield 34, 3) := by decide +kernel
theorem dX10_step_68 : decode cX10_step 68 = .ok (.aload_n 0, 1) := by decide +kernel
theorem dX10_step_69 : decode cX10_step 69 = .ok (.lconst 0, 1) := by decide +kernel
theorem dX10_step_70 : decode cX10_step 70 = .ok (.putfield 37, 3) := by decide +kernel
theorem dX10_step_73 : decode cX10_step 73 = .ok (.aload_n 0, 1) := by decide +kernel
theorem dX10_step_74 : decode cX10_step 74 = .ok (.getfield 25, 3) := by decide +kernel
theorem dX10_step_77 : decode cX10_step 77 = .ok (.aload_n 0, 1) := by decide +kernel
theorem dX10_step_78 : decode cX10_step 78 = .ok (.getfield 19, 3) := by decide +kernel
theorem dX10_step_81 : decode cX10_step 81 = .ok (.if_icmp .ge 70, 3) := by decide +kernel
theorem dX10_step_84 : decode cX10_step 84 = .ok (.aload_n 0, 1) := by decide +kernel
theorem dX10_step_85 : decode cX10_step 85 = .ok (.getfield 11, 3) := by decide +kernel
theorem dX10_step_88 : decode cX10_step 88 = .ok (.aload_n 0, 1) := by decide +kernel
theorem dX10_step_89 : decode cX10_step 89 = .ok (.getfield 25, 3) := by decide +kernel
theorem dX10_step_92 : decode cX10_step 92 = .ok (.baload, 1) := by decide +kernel
theorem dX10_step_93 : decode cX10_step 93 = .ok (.bipush 97, 2) := by decide +kernel
theorem dX10_step_95 : decode cX10_step 95 = .ok (.if_icmp .lt 56, 3) := by decide +kernel
theorem dX10_step_98 : decode cX10_step 98 = .ok (.aload_n 0, 1) := by decide +kernel
theorem dX10_step_99 : decode cX10_step 99 = .ok (.getfield 11, 3) := by decide +kernel
theorem dX10_step_102 : decode cX10_step 102 = .ok (.aload_n 0, 1) := by decide +kernel
theorem dX10_step_103 : decode cX10_step 103 = .ok (.getfield 25, 3) := by decide +kernel
theorem dX10_step_106 : decode cX10_step 106 = .ok (.baload, 1) := by decide +kernel
theorem dX10_step_107 : decode cX10_step 107 = .ok (.bipush 122, 2) := by decide +kernel
theorem dX10_step_109 : decode cX10_step 109 = .ok (.if_icmp .gt 42, 3) := by decide +kernel
theorem dX10_step_112 : decode cX10_step 112 = .ok (.aload_n 0, 1) := by decide +kernel
theorem dX10_step_113 : decode cX10_step 113 = .ok (.aload_n 0, 1) := by decide +kernel
theorem dX10_step_114 : decode cX10_step 114 = .ok (.getfield 37, 3) := by decide +kernel
theorem dX10_step_117 : decode cX10_step 117 = .ok (.iconst 5, 1) := by decide +kernel
theorem dX10_step_118 : decode cX10_step 118 = .ok (.lshl, 1) := by decide +kernel
theorem dX10_step_119 : decode cX10_step 119 = .ok (.aload_n 0, 1) := by decide +kernel
theorem dX10_step_120 : decode cX10_step 120 = .ok (.getfield 11, 3) := by decide +kernel
theorem dX10_step_123 : decode cX10_step 123 = .ok (.aload_n 0, 1) := by decide +kernel
theorem dX10_step_124 : decode cX10_step 124 = .ok (.getfield 25, 3) := by decide +kernel
theorem dX10_step_127 : decode cX10_step 127 = .ok (.baload, 1) := by decide +kernel
theorem dX10_step_128 : decode cX10_step 128 = .ok (.bipush 97, 2) := by decide +kernel
theorem dX10_step_130 : decode cX10_step 130 = .ok (.isub, 1) := by decide +kernel
theorem dX10_step_131 : decode cX10_step 131 = .ok (.iconst 1, 1) := by decide +kernel
theorem dX10_step_132 : decode cX10_step 132 = .ok (.iadd, 1) := by decide +kernel
theorem dX10_step_133 : decode cX10_step 133 = .ok (.i2l, 1) := by decide +kernel
theorem dX10_step_134 : decode cX10_step 134 = .ok (.ladd, 1) := by decide +kernel
theorem dX10_step_135 : decode cX10_step 135 = .ok (.putfield 37, 3) := by decide +kernel
theorem dX10_step_138 : decode cX10_step 138 = .ok (.aload_n 0, 1) := by decide +kernel
theorem dX10_step_139 : decode cX10_step 139 = .ok (.dup, 1) := by decide +kernel
theorem dX10_step_140 : decode cX10_step 140 = .ok (.getfield 25, 3) := by decide +kernel
theorem dX10_step_143 : decode cX10_step 143 = .ok (.iconst 1, 1) := by decide +kernel
theorem dX10_step_144 : decode cX10_step 144 = .ok (.iadd, 1) := by decide +kernel
theorem dX10_step_145 : decode cX10_step 145 = .ok (.putfield 25, 3) := by decide +kernel
theorem dX10_step_148 : decode cX10_step 148 = .ok (.goto (-75), 3) := by decide +kernel
theorem dX10_step_151 : decode cX10_step 151 = .ok (.aload_n 0, 1) := by decide +kernel
theorem dX10_step_152 : decode cX10_step 152 = .ok (.getfield 25, 3) := by decide +kernel
theorem dX10_step_155 : decode cX10_step 155 = .ok (.aload_n 0, 1) := by decide +kernel
theorem dX10_step_156 : decode cX10_step 156 = .ok (.getfield 34, 3) := by decide +kernel
theorem dX10_step_159 : decode cX10_step 159 = .ok (.if_icmp .le 27, 3) := by decide +kernel
theorem dX10_step_162 : decode cX10_step 162 = .ok (.aload_n 0, 1) := by decide +kernel
theorem dX10_step_163 : decode cX10_step 163 = .ok (.aload_n 0, 1) := by decide +kernel
theorem dX10_step_164 : decode cX10_step 164 = .ok (.getfield 25, 3) := by decide +kernel
theorem dX10_step_167 : decode cX10_step 167 = .ok (.aload_n 0, 1) := by decide +kernel
theorem dX10_step_168 : decode cX10_step 168 = .ok (.getfield 34, 3) := by decide +kernel
theorem dX10_step_171 : decode cX10_step 171 = .ok (.isub, 1) := by decide +kernel
theorem dX10_step_172 : decode cX10_step 172 = .ok (.bipush 8, 2) := by decide +kernel
theorem dX10_step_174 : decode cX10_step 174 = .ok (.if_icmp .gt 7, 3) := by decide +kernel
theorem dX10_step_177 : decode cX10_step 177 = .ok (.iconst 1, 1) := by decide +kernel
theorem dX10_step_178 : decode cX10_step 178 = .ok (.goto 4, 3) := by decide +kernel
theorem dX10_step_181 : decode cX10_step 181 = .ok (.iconst 4, 1) := by decide +kernel
theorem dX10_step_182 : decode cX10_step 182 = .ok (.putfield 31, 3) := by decide +kernel
theorem dX10_step_185 : decode cX10_step 185 = .ok (.return_, 1) := by decide +kernel
theorem dX10_step_186 : decode cX10_step 186 = .ok (.aload_n 0, 1) := by decide +kernel
theorem dX10_step_187 : decode cX10_step 187 = .ok (.iconst 0, 1) := by decide +kernel
theorem dX10_step_188 : decode cX10_step 188 = .ok (.putfield 41, 3) := by decide +kernel
theorem dX10_step_191 : decode cX10_step 191 = .ok (.aload_n 0, 1) := by decide +kernel
theorem dX10_step_192 : decode cX10_step 192 = .ok (.getfield 25, 3) := by decide +kernel
theorem dX10_step_195 : decode cX10_step 195 = .ok (.aload_n 0, 1) := by decide +kernel
theorem dX10_step_196 : decode cX10_step 196 = .ok (.getfield 19, 3) := by decide +kernel
theorem dX10_step_199 : decode cX10_step 199 = .ok (.if_icmp .ge 68, 3) := by decide +kernel
theorem dX10_step_202 : decode cX10_step 202 = .ok (.aload_n 0, 1) := by decide +kernel
theorem dX10_step_203 : decode cX10_step 203 = .ok (.getfield 11, 3) := by decide +kernel
theorem dX10_step_206 : decode cX10_step 206 = .ok (.aload_n 0, 1) := by decide +kernel
theorem dX10_step_207 : decode cX10_step 207 = .ok (.getfield 25, 3) := by decide +kernel
theorem dX10_step_210 : decode cX10_step 210 = .ok (.baload, 1) := by decide +kernel
theorem dX10_step_211 : decode cX10_step 211 = .ok (.bipush 48, 2) := by decide +kernel
theorem dX10_step_213 : decode cX10_step 213 = .ok (.if_icmp .lt 54, 3) := by decide +kernel
theorem dX10_step_216 : decode cX10_step 216 = .ok (.aload_n 0, 1) := by decide +kernel
theorem dX10_step_217 : decode cX10_step 217 = .ok (.getfield 11, 3) := by decide +kernel
theorem dX10_step_220 : decode cX10_step 220 = .ok (.aload_n 0, 1) := by decide +kernel
theorem dX10_step_221 : decode cX10_step 221 = .ok (.getfield 25, 3) := by decide +kernel
theorem dX10_step_224 : decode cX10_step 224 = .ok (.baload, 1) := by decide +kernel
theorem dX10_step_225 : decode cX10_step 225 = .ok (.bipush 57, 2) := by decide +kernel
theorem dX10_step_227 : decode cX10_step 227 = .ok (.if_icmp .gt 40, 3) := by decide +kernel
theorem dX10_step_230 : decode cX10_step 230 = .ok (.aload_n 0, 1) := by decide +kernel
theorem dX10_step_231 : decode cX10_step 231 = .ok (.aload_n 0, 1) := by decide +kernel
theorem dX10_step_232 : decode cX10_step 232 = .ok (.getfield 41, 3) := by decide +kernel
theorem dX10_step_235 : decode cX10_step 235 = .ok (.bipush 10, 2) := by decide +kernel
theorem dX10_step_237 : decode cX10_step 237 = .ok (.imul, 1) := by decide +kernel
theorem dX10_step_238 : decode cX10_step 238 = .ok (.aload_n 0, 1) := by decide +kernel
theorem dX10_step_239 : decode cX10_step 239 = .ok (.getfield 11, 3) := by decide +kernel
theorem dX10_step_242 : decode cX10_step 242 = .ok (.aload_n 0, 1) := by decide +kernel
theorem dX10_step_243 : decode cX10_step 243 = .ok (.getfield 25, 3) := by decide +kernel
theorem dX10_step_246 : decode cX10_step 246 = .ok (.baload, 1) := by decide +kernel
theorem dX10_step_247 : decode cX10_step 247 = .ok (.bipush 48, 2) := by decide +kernel
theorem dX10_step_249 : decode cX10_step 249 = .ok (.isub, 1) := by decide +kernel
theorem dX10_step_250 : decode cX10_step 250 = .ok (.iadd, 1) := by decide +kernel
theorem dX10_step_251 : decode cX10_step 251 = .ok (.putfield 41, 3) := by decide +kernel
theorem dX10_step_254 : decode cX10_step 254 = .ok (.aload_n 0, 1) := by decide +kernel
theorem dX10_step_255 : decode cX10_step 255 = .ok (.dup, 1) := by decide +kernel
theorem dX10_step_256 : decode cX10_step 256 = .ok (.getfield 25, 3) := by decide +kernel
theorem dX10_step_259 : decode cX10_step 259 = .ok (.iconst 1, 1) := by decide +kernel
theorem dX10_step_260 : decode cX10_step 260 = .ok (.iadd, 1) := by decide +kernel
theorem dX10_step_261 : decode cX10_step 261 = .ok (.putfield 25, 3) := by decide +kernel
theorem dX10_step_264 : decode cX10_step 264 = .ok (.goto (-73), 3) := by decide +kernel
theorem dX10_step_267 : decode cX10_step 267 = .ok (.aload_n 0, 1) := by decide +kernel
theorem dX10_step_268 : decode cX10_step 268 = .ok (.getfield 25, 3) := by decide +kernel
theorem dX10_step_271 : decode cX10_step 271 = .ok (.aload_n 0, 1) := by decide +kernel
theorem dX10_step_272 : decode cX10_step 272 = .ok (.getfield 34, 3) := by decide +kernel
theorem dX10_step_275 : decode cX10_step 275 = .ok (.if_icmp .le 28, 3) := by decide +kernel
theorem dX10_step_278 : decode cX10_step 278 = .ok (.aload_n 0, 1) := by decide +kernel
theorem dX10_step_279 : decode cX10_step 279 = .ok (.aload_n 0, 1) := by decide +kernel
theorem dX10_step_280 : decode cX10_step 280 = .ok (.getfield 25, 3) := by decide +kernel
theorem dX10_step_283 : decode cX10_step 283 = .ok (.aload_n 0, 1) := by decide +kernel
theorem dX10_step_284 : decode cX10_step 284 = .ok (.getfield 34, 3) := by decide +kernel
theorem dX10_step_287 : decode cX10_step 287 = .ok (.isub, 1) := by decide +kernel
theorem dX10_step_288 : decode cX10_step 288 = .ok (.iconst 5, 1) := by decide +kernel
theorem dX10_step_289 : decode cX10_step 289 = .ok (.if_icmp .gt 7, 3) := by decide +kernel
theorem dX10_step_292 : decode cX10_step 292 = .ok (.iconst 2, 1) := by decide +kernel
theorem dX10_step_293 : decode cX10_step 293 = .ok (.goto 4, 3) := by decide +kernel
theorem dX10_step_296 : decode cX10_step 296 = .ok (.iconst 4, 1) := by decide +kernel
theorem dX10_step_297 : decode cX10_step 297 = .ok (.putfield 31, 3) := by decide +kernel
theorem dX10_step_300 : decode cX10_step 300 = .ok (.goto 55, 3) := by decide +kernel
theorem dX10_step_303 : decode cX10_step 303 = .ok (.aload_n 0, 1) := by decide +kernel
theorem dX10_step_304 : decode cX10_step 304 = .ok (.getfield 25, 3) := by decide +kernel
theorem dX10_step_307 : decode cX10_step 307 = .ok (.aload_n 0, 1) := by decide +kernel
theorem dX10_step_308 : decode cX10_step 308 = .ok (.getfield 19, 3) := by decide +kernel
theorem dX10_step_311 : decode cX10_step 311 = .ok (.if_icmp .ge 39, 3) := by decide +kernel
theorem dX10_step_314 : decode cX10_step 314 = .ok (.aload_n 0, 1) := by decide +kernel
theorem dX10_step_315 : decode cX10_step 315 = .ok (.aload_n 0, 1) := by decide +kernel
theorem dX10_step_316 : decode cX10_step 316 = .ok (.getfield 11, 3) := by decide +kernel
theorem dX10_step_319 : decode cX10_step 319 = .ok (.aload_n 0, 1) := by decide +kernel
theorem dX10_step_320 : decode cX10_step 320 = .ok (.getfield 25, 3) := by decide +kernel
theorem dX10_step_323 : decode cX10_step 323 = .ok (.baload, 1) := by decide +kernel
theorem dX10_step_324 : decode cX10_step 324 = .ok (.bipush 59, 2) := by decide +kernel
theorem dX10_step_326 : decode cX10_step 326 = .ok (.if_icmp .ne 7, 3) := by decide +kernel
theorem dX10_step_329 : decode cX10_step 329 = .ok (.iconst 3, 1) := by decide +kernel
theorem dX10_step_330 : decode cX10_step 330 = .ok (.goto 4, 3) := by decide +kernel
theorem dX10_step_333 : decode cX10_step 333 = .ok (.iconst 4, 1) := by decide +kernel
theorem dX10_step_334 : decode cX10_step 334 = .ok (.putfield 31, 3) := by decide +kernel
theorem dX10_step_337 : decode cX10_step 337 = .ok (.aload_n 0, 1) := by decide +kernel
theorem dX10_step_338 : decode cX10_step 338 = .ok (.dup, 1) := by decide +kernel
theorem dX10_step_339 : decode cX10_step 339 = .ok (.getfield 25, 3) := by decide +kernel
theorem dX10_step_342 : decode cX10_step 342 = .ok (.iconst 1, 1) := by decide +kernel
theorem dX10_step_343 : decode cX10_step 343 = .ok (.iadd, 1) := by decide +kernel
theorem dX10_step_344 : decode cX10_step 344 = .ok (.putfield 25, 3) := by decide +kernel
theorem dX10_step_347 : decode cX10_step 347 = .ok (.goto 8, 3) := by decide +kernel
theorem dX10_step_350 : decode cX10_step 350 = .ok (.aload_n 0, 1) := by decide +kernel
theorem dX10_step_351 : decode cX10_step 351 = .ok (.iconst 0, 1) := by decide +kernel
theorem dX10_step_352 : decode cX10_step 352 = .ok (.putfield 31, 3) := by decide +kernel
theorem dX10_step_355 : decode cX10_step 355 = .ok (.return_, 1) := by decide +kernel
def X10_step_b334 (t0 : Int32) (w : Wd) : Option (Wd) :=
  lt (wI w 1 2 t0) fun w5 =>
  lt (wI w5 1 8 ((w5.1 1 8) + 1)) fun w6 =>
  some w6
set_option maxRecDepth 100000 in
set_option maxHeartbeats 4000000 in
theorem t_X10_step_b334 {Z : Cz (Wd)} (hZ : OKZ Z SC cX10_step RX10 1 none 1) (hE : EndV Z)  (t0 : Int32)  (w : Wd) : BW Z 1 334 [(0, .ref (ph (zY Z) 1))] [.int t0, .ref (ph (zY Z) 1)] w (X10_step_b334 t0 w) :=
  bw_putI hZ fl_RX10_31 rfl rfl (by decide) obC_1 dX10_step_334 fun w5 =>
  bw_aload_n hZ 0 rfl dX10_step_337 <|
  bw_dup hZ rfl dX10_step_338 <|
  bw_getI hZ fl_RX10_25 (by decide) obC_1 dX10_step_339 <|
  bw_iconst hZ 1 (by decide) dX10_step_342 <|
  bw_iadd hZ dX10_step_343 <|
  bw_putI hZ fl_RX10_25 rfl rfl (by decide) obC_1 dX10_step_344 fun w6 =>
  bw_goto hZ (tgt := 355) (by decide) dX10_step_347 <|
  bw_vret hZ hE dX10_step_355
def X10_step_b267 (w : Wd) : Option (Wd) :=
  if (w.1 1 8) ≤ (w.1 1 7) then
  (if (w.1 1 1) ≤ (w.1 1 8) then
  (lt (wI w 1 2 0) fun w4 =>
  some w4)
  else
  if inb (w.1 1 8) 900 = true then
  (if (w.1 2 (Int32.toNatClampNeg (w.1 1 8))) = 59 then
  (X10_step_b334 3 w)
  else
  X10_step_b334 4 w)
  else none)
  else
  if 5 < ((w.1 1 8) - (w.1 1 7)) then
  (lt (wI w 1 2 4) fun w7 =>
  some w7)
  else
  lt (wI w 1 2 2) fun w8 =>
  some w8
set_option maxRecDepth 100000 in
set_option maxHeartbeats 4000000 in
theorem t_X10_step_b267 {Z : Cz (Wd)} (hZ : OKZ Z SC cX10_step RX10 1 none 1) (hE : EndV Z)    (w : Wd) : BW Z 1 267 [(0, .ref (ph (zY Z) 1))] [] w (X10_step_b267 w) :=
  bw_aload_n hZ 0 rfl dX10_step_267 <|
  bw_getI hZ fl_RX10_25 (by decide) obC_1 dX10_step_268 <|
  bw_aload_n hZ 0 rfl dX10_step_271 <|
  bw_getI hZ fl_RX10_34 (by decide) obC_1 dX10_step_272 <|
  bw_icmp_le hZ (tgt := 303) (by decide) dX10_step_275 (fun _ =>
  bw_aload_n hZ 0 rfl dX10_step_303 <|
  bw_getI hZ fl_RX10_25 (by decide) obC_1 dX10_step_304 <|
  bw_aload_n hZ 0 rfl dX10_step_307 <|
  bw_getI hZ fl_RX10_19 (by decide) obC_1 dX10_step_308 <|
  bw_icmp_ge hZ (tgt := 350) (by decide) dX10_step_311 (fun _ =>
  bw_aload_n hZ 0 rfl dX10_step_350 <|
  bw_iconst hZ 0 (by decide) dX10_step_351 <|
  bw_putI hZ fl_RX10_31 rfl rfl (by decide) obC_1 dX10_step_352 fun w4 =>
  bw_vret hZ hE dX10_step_355) (fun _ =>
  bw_aload_n hZ 0 rfl dX10_step_314 <|
  bw_aload_n hZ 0 rfl dX10_step_315 <|
  bw_getR hZ fl_RX10_11 obC_1 rfl dX10_step_316 <|
  bw_aload_n hZ 0 rfl dX10_step_319 <|
  bw_getI hZ fl_RX10_25 (by decide) obC_1 dX10_step_320 <|
  bw_bald hZ (arC_2 _) dX10_step_323 <|
  bw_bipush hZ 59 (by decide) dX10_step_324 <|
  bw_icmp_ne hZ (tgt := 333) (by decide) dX10_step_326 (fun _ =>
  bw_iconst hZ 4 (by decide) dX10_step_333 <|
  bw_sub [0] rfl (t_X10_step_b334 hZ hE 4 w)) (fun _ =>
  bw_iconst hZ 3 (by decide) dX10_step_329 <|
  bw_goto hZ (tgt := 334) (by decide) dX10_step_330 <|
  bw_sub [0] rfl (t_X10_step_b334 hZ hE 3 w)))) (fun _ =>
  bw_aload_n hZ 0 rfl dX10_step_278 <|
  bw_aload_n hZ 0 rfl dX10_step_279 <|
  bw_getI hZ fl_RX10_25 (by decide) obC_1 dX10_step_280 <|
  bw_aload_n hZ 0 rfl dX10_step_283 <|
  bw_getI hZ fl_RX10_34 (by decide) obC_1 dX10_step_284 <|
  bw_isub hZ dX10_step_287 <|
  bw_iconst hZ 5 (by decide) dX10_step_288 <|
  bw_icmp_gt hZ (tgt := 296) (by decide) dX10_step_289 (fun _ =>
  bw_iconst hZ 4 (by decide) dX10_step_296 <|
  bw_putI hZ fl_RX10_31 rfl rfl (by decide) obC_1 dX10_step_297 fun w7 =>
  bw_goto hZ (tgt := 355) (by decide) dX10_step_300 <|
  bw_vret hZ hE dX10_step_355) (fun _ =>
  bw_iconst hZ 2 (by decide) dX10_step_292 <|
  bw_goto hZ (tgt := 297) (by decide) dX10_step_293 <|
  bw_putI hZ fl_RX10_31 rfl rfl (by decide) obC_1 dX10_step_297 fun w8 =>
  bw_goto hZ (tgt := 355) (by decide) dX10_step_300 <|
  bw_vret hZ hE dX10_step_355))
def X10_step_b191 (k191 : Wd → Option (Wd)) (w : Wd) : Option (Wd) :=
  if (w.1 1 1) ≤ (w.1 1 8) then
  (X10_step_b267 w)
  else
  if inb (w.1 1 8) 900 = true then
  (if (w.1 2 (Int32.toNatClampNeg (w.1 1 8))) < 48 then
  (X10_step_b267 w)
  else
  if inb (w.1 1 8) 900 = true then
  (if 57 < (w.1 2 (Int32.toNatClampNeg (w.1 1 8))) then
  (X10_step_b267 w)
  else
  if inb (w.1 1 8) 900 = true then
  (lt (wI w 1 6 (((w.1 1 6) * 10) + ((w.1 2 (Int32.toNatClampNeg (w.1 1 8))) - 48))) fun w9 =>
  lt (wI w9 1 8 ((w9.1 1 8) + 1)) fun w10 =>
  k191 w10)
  else none)
  else none)
  else none
set_option maxRecDepth 100000 in
set_option maxHeartbeats 4000000 in
theorem t_X10_step_b191 {Z : Cz (Wd)} (hZ : OKZ Z SC cX10_step RX10 1 none 1) (hE : EndV Z) (k191 : Wd → Option (Wd)) (hk191 : ∀   (w : Wd), BW Z 1 191 [(0, .ref (ph (zY Z) 1))] [] w (k191 w))   (w : Wd) : BW Z 1 191 [(0, .ref (ph (zY Z) 1))] [] w (X10_step_b191 k191 w) :=
  bw_aload_n hZ 0 rfl dX10_step_191 <|
  bw_getI hZ fl_RX10_25 (by decide) obC_1 dX10_step_192 <|
  bw_aload_n hZ 0 rfl dX10_step_195 <|
  bw_getI hZ fl_RX10_19 (by decide) obC_1 dX10_step_196 <|
  bw_icmp_ge hZ (tgt := 267) (by decide) dX10_step_199 (fun _ =>
  bw_sub [0] rfl (t_X10_step_b267 hZ hE w)) (fun _ =>
  bw_aload_n hZ 0 rfl dX10_step_202 <|
  bw_getR hZ fl_RX10_11 obC_1 rfl dX10_step_203 <|
  bw_aload_n hZ 0 rfl dX10_step_206 <|
  bw_getI hZ fl_RX10_25 (by decide) obC_1 dX10_step_207 <|
  bw_bald hZ (arC_2 _) dX10_step_210 <|
  bw_bipush hZ 48 (by decide) dX10_step_211 <|
  bw_icmp_lt hZ (tgt := 267) (by decide) dX10_step_213 (fun _ =>
  bw_sub [0] rfl (t_X10_step_b267 hZ hE w)) (fun _ =>
  bw_aload_n hZ 0 rfl dX10_step_216 <|
  bw_getR hZ fl_RX10_11 obC_1 rfl dX10_step_217 <|
  bw_aload_n hZ 0 rfl dX10_step_220 <|
  bw_getI hZ fl_RX10_25 (by decide) obC_1 dX10_step_221 <|
  bw_bald hZ (arC_2 _) dX10_step_224 <|
  bw_bipush hZ 57 (by decide) dX10_step_225 <|
  bw_icmp_gt hZ (tgt := 267) (by decide) dX10_step_227 (fun _ =>
  bw_sub [0] rfl (t_X10_step_b267 hZ hE w)) (fun _ =>
  bw_aload_n hZ 0 rfl dX10_step_230 <|
  bw_aload_n hZ 0 rfl dX10_step_231 <|
  bw_getI hZ fl_RX10_41 (by decide) obC_1 dX10_step_232 <|
  bw_bipush hZ 10 (by decide) dX10_step_235 <|
  bw_imul hZ dX10_step_237 <|
  bw_aload_n hZ 0 rfl dX10_step_238 <|
  bw_getR hZ fl_RX10_11 obC_1 rfl dX10_step_239 <|
  bw_aload_n hZ 0 rfl dX10_step_242 <|
  bw_getI hZ fl_RX10_25 (by decide) obC_1 dX10_step_243 <|
  bw_bald hZ (arC_2 _) dX10_step_246 <|
  bw_bipush hZ 48 (by decide) dX10_step_247 <|
  bw_isub hZ dX10_step_249 <|
  bw_iadd hZ dX10_step_250 <|
  bw_putI hZ fl_RX10_41 rfl rfl (by decide) obC_1 dX10_step_251 fun w9 =>
  bw_aload_n hZ 0 rfl dX10_step_254 <|
  bw_dup hZ rfl dX10_step_255 <|
  bw_getI hZ fl_RX10_25 (by decide) obC_1 dX10_step_256 <|
  bw_iconst hZ 1 (by decide) dX10_step_259 <|
  bw_iadd hZ dX10_step_260 <|
  bw_putI hZ fl_RX10_25 rfl rfl (by decide) obC_1 dX10_step_261 fun w10 =>
  bw_goto hZ (tgt := 191) (by decide) dX10_step_264 <|
  bw_sub [0] rfl (hk191 w10))))
def X10_step_b191_L  : Wd → Option (Wd) :=
  lp fu (fun _ => none) (fun k191 => X10_step_b191 k191)
theorem t_X10_step_b191_L {Z : Cz (Wd)} (hZ : OKZ Z SC cX10_step RX10 1 none 1) (hE : EndV Z)  : ∀   (w : Wd), BW Z 1 191 [(0, .ref (ph (zY Z) 1))] [] w (X10_step_b191_L w) :=
  lp_bw (fun k191 => ∀   (w : Wd), BW Z 1 191 [(0, .ref (ph (zY Z) 1))] [] w (k191 w)) (fun _ => bw_none) (fun k191 hk191 w => t_X10_step_b191 hZ hE k191 hk191 w) fu
def X10_step_b151 (w : Wd) : Option (Wd) :=
  if (w.1 1 8) ≤ (w.1 1 7) then
  (lt (wI w 1 6 0) fun w3 =>
  X10_step_b191_L w3)
  else
  if 8 < ((w.1 1 8) - (w.1 1 7)) then
  (lt (wI w 1 2 4) fun w11 =>
  some w11)
  else
  lt (wI w 1 2 1) fun w12 =>
  some w12
set_option maxRecDepth 100000 in
set_option maxHeartbeats 4000000 in
theorem t_X10_step_b151 {Z : Cz (Wd)} (hZ : OKZ Z SC cX10_step RX10 1 none 1) (hE : EndV Z)    (w : Wd) : BW Z 1 151 [(0, .ref (ph (zY Z) 1))] [] w (X10_step_b151 w) :=
  bw_aload_n hZ 0 rfl dX10_step_151 <|
  bw_getI hZ fl_RX10_25 (by decide) obC_1 dX10_step_152 <|
  bw_aload_n hZ 0 rfl dX10_step_155 <|
  bw_getI hZ fl_RX10_34 (by decide) obC_1 dX10_step_156 <|
  bw_icmp_le hZ (tgt := 186) (by decide) dX10_step_159 (fun _ =>
  bw_aload_n hZ 0 rfl dX10_step_186 <|
  bw_iconst hZ 0 (by decide) dX10_step_187 <|
  bw_putI hZ fl_RX10_41 rfl rfl (by decide) obC_1 dX10_step_188 fun w3 =>
  bw_sub [0] rfl (t_X10_step_b191_L hZ hE w3)) (fun _ =>
  bw_aload_n hZ 0 rfl dX10_step_162 <|
  bw_aload_n hZ 0 rfl dX10_step_163 <|
  bw_getI hZ fl_RX10_25 (by decide) obC_1 dX10_step_164 <|
  bw_aload_n hZ 0 rfl dX10_step_167 <|
  bw_getI hZ fl_RX10_34 (by decide) obC_1 dX10_step_168 <|
  bw_isub hZ dX10_step_171 <|
  bw_bipush hZ 8 (by decide) dX10_step_172 <|
  bw_icmp_gt hZ (tgt := 181) (by decide) dX10_step_174 (fun _ =>
  bw_iconst hZ 4 (by decide) dX10_step_181 <|
  bw_putI hZ fl_RX10_31 rfl rfl (by decide) obC_1 dX10_step_182 fun w11 =>
  bw_vret hZ hE dX10_step_185) (fun _ =>
  bw_iconst hZ 1 (by decide) dX10_step_177 <|
  bw_goto hZ (tgt := 182) (by decide) dX10_step_178 <|
  bw_putI hZ fl_RX10_31 rfl rfl (by decide) obC_1 dX10_step_182 fun w12 =>
  bw_vret hZ hE dX10_step_185))
def X10_step_b73 (k73 : Wd → Option (Wd)) (w : Wd) : Option (Wd) :=
  if (w.1 1 1) ≤ (w.1 1 8) then
  (X10_step_b151 w)
  else
  if inb (w.1 1 8) 900 = true then
  (if (w.1 2 (Int32.toNatClampNeg (w.1 1 8))) < 97 then
  (X10_step_b151 w)
  else
  if inb (w.1 1 8) 900 = true then
  (if 122 < (w.1 2 (Int32.toNatClampNeg (w.1 1 8))) then
  (X10_step_b151 w)
  else
  if inb (w.1 1 8) 900 = true then
  (lt (wG w 1 3 (((w.2 1 3) <<< (Int32.toInt64 5 &&& 63)) + (Int32.toInt64 (((w.1 2 (Int32.toNatClampNeg (w.1 1 8))) - 97) + 1)))) fun w13 =>
  lt (wI w13 1 8 ((w13.1 1 8) + 1)) fun w14 =>
  k73 w14)
  else none)
  else none)
  else none
set_option maxRecDepth 100000 in
set_option maxHeartbeats 4000000 in
theorem t_X10_step_b73 {Z : Cz (Wd)} (hZ : OKZ Z SC cX10_step RX10 1 none 1) (hE : EndV Z) (k73 : Wd → Option (Wd)) (hk73 : ∀   (w : Wd), BW Z 1 73 [(0, .ref (ph (zY Z) 1))] [] w (k73 w))   (w : Wd) : BW Z 1 73 [(0, .ref (ph (zY Z) 1))] [] w (X10_step_b73 k73 w) :=
  bw_aload_n hZ 0 rfl dX10_step_73 <|
  bw_getI hZ fl_RX10_25 (by decide) obC_1 dX10_step_74 <|
  bw_aload_n hZ 0 rfl dX10_step_77 <|
  bw_getI hZ fl_RX10_19 (by decide) obC_1 dX10_step_78 <|
  bw_icmp_ge hZ (tgt := 151) (by decide) dX10_step_81 (fun _ =>
  bw_sub [0] rfl (t_X10_step_b151 hZ hE w)) (fun _ =>
  bw_aload_n hZ 0 rfl dX10_step_84 <|
  bw_getR hZ fl_RX10_11 obC_1 rfl dX10_step_85 <|
  bw_aload_n hZ 0 rfl dX10_step_88 <|
  bw_getI hZ fl_RX10_25 (by decide) obC_1 dX10_step_89 <|
  bw_bald hZ (arC_2 _) dX10_step_92 <|
  bw_bipush hZ 97 (by decide) dX10_step_93 <|
  bw_icmp_lt hZ (tgt := 151) (by decide) dX10_step_95 (fun _ =>
  bw_sub [0] rfl (t_X10_step_b151 hZ hE w)) (fun _ =>
  bw_aload_n hZ 0 rfl dX10_step_98 <|
  bw_getR hZ fl_RX10_11 obC_1 rfl dX10_step_99 <|
  bw_aload_n hZ 0 rfl dX10_step_102 <|
  bw_getI hZ fl_RX10_25 (by decide) obC_1 dX10_step_103 <|
  bw_bald hZ (arC_2 _) dX10_step_106 <|
  bw_bipush hZ 122 (by decide) dX10_step_107 <|
  bw_icmp_gt hZ (tgt := 151) (by decide) dX10_step_109 (fun _ =>
  bw_sub [0] rfl (t_X10_step_b151 hZ hE w)) (fun _ =>
  bw_aload_n hZ 0 rfl dX10_step_112 <|
  bw_aload_n hZ 0 rfl dX10_step_113 <|
  bw_getG hZ fl_RX10_37 obC_1 dX10_step_114 <|
  bw_iconst hZ 5 (by decide) dX10_step_117 <|
  bw_lshl hZ dX10_step_118 <|
  bw_aload_n hZ 0 rfl dX10_step_119 <|
  bw_getR hZ fl_RX10_11 obC_1 rfl dX10_step_120 <|
  bw_aload_n hZ 0 rfl dX10_step_123 <|
  bw_getI hZ fl_RX10_25 (by decide) obC_1 dX10_step_124 <|
  bw_bald hZ (arC_2 _) dX10_step_127 <|
  bw_bipush hZ 97 (by decide) dX10_step_128 <|
  bw_isub hZ dX10_step_130 <|
  bw_iconst hZ 1 (by decide) dX10_step_131 <|
  bw_iadd hZ dX10_step_132 <|
  bw_i2l hZ dX10_step_133 <|
  bw_ladd hZ dX10_step_134 <|
  bw_putG hZ fl_RX10_37 rfl obC_1 dX10_step_135 fun w13 =>
  bw_aload_n hZ 0 rfl dX10_step_138 <|
  bw_dup hZ rfl dX10_step_139 <|
  bw_getI hZ fl_RX10_25 (by decide) obC_1 dX10_step_140 <|
  bw_iconst hZ 1 (by decide) dX10_step_143 <|
  bw_iadd hZ dX10_step_144 <|
  bw_putI hZ fl_RX10_25 rfl rfl (by decide) obC_1 dX10_step_145 fun w14 =>
  bw_goto hZ (tgt := 73) (by decide) dX10_step_148 <|
  bw_sub [0] rfl (hk73 w14))))
def X10_step_b73_L  : Wd → Option (Wd) :=
  lp fu (fun _ => none) (fun k73 => X10_step_b73 k73)
theorem t_X10_step_b73_L {Z : Cz (Wd)} (hZ : OKZ Z SC cX10_step RX10 1 none 1) (hE : EndV Z)  : ∀   (w : Wd), BW Z 1 73 [(0, .ref (ph (zY Z) 1))] [] w (X10_step_b73_L w) :=
  lp_bw (fun k73 => ∀   (w : Wd), BW Z 1 73 [(0, .ref (ph (zY Z) 1))] [] w (k73 w)) (fun _ => bw_none) (fun k73 hk73 w => t_X10_step_b73 hZ hE k73 hk73 w) fu
def X10_step_b60 (w : Wd) : Option (Wd) :=
  lt (wI w 1 7 (w.1 1 8)) fun w1 =>
  lt (wG w1 1 3 0) fun w2 =>
  X10_step_b73_L w2
set_option maxRecDepth 100000 in
set_option maxHeartbeats 4000000 in
theorem t_X10_step_b60 {Z : Cz (Wd)} (hZ : OKZ Z SC cX10_step RX10 1 none 1) (hE : EndV Z)    (w : Wd) : BW Z 1 60 [(0, .ref (ph (zY Z) 1))] [] w (X10_step_b60 w) :=
  bw_aload_n hZ 0 rfl dX10_step_60 <|
  bw_aload_n hZ 0 rfl dX10_step_61 <|
  bw_getI hZ fl_RX10_25 (by decide) obC_1 dX10_step_62 <|
  bw_putI hZ fl_RX10_34 rfl rfl (by decide) obC_1 dX10_step_65 fun w1 =>
  bw_aload_n hZ 0 rfl dX10_step_68 <|
  bw_lconst hZ 0 (by decide) dX10_step_69 <|
  bw_putG hZ fl_RX10_37 rfl obC_1 dX10_step_70 fun w2 =>
  bw_sub [0] rfl (t_X10_step_b73_L hZ hE w2)
def X10_step_b47 (k8 : Wd → Option (Wd)) (w : Wd) : Option (Wd) :=
  lt (wI w 1 8 ((w.1 1 8) + 1)) fun w15 =>
  k8 w15
set_option maxRecDepth 100000 in
set_option maxHeartbeats 4000000 in
theorem t_X10_step_b47 {Z : Cz (Wd)} (hZ : OKZ Z SC cX10_step RX10 1 none 1) (hE : EndV Z) (k8 : Wd → Option (Wd)) (hk8 : ∀   (w : Wd), BW Z 1 8 [(0, .ref (ph (zY Z) 1))] [] w (k8 w))   (w : Wd) : BW Z 1 47 [(0, .ref (ph (zY Z) 1))] [] w (X10_step_b47 k8 w) :=
  bw_aload_n hZ 0 rfl dX10_step_47 <|
  bw_dup hZ rfl dX10_step_48 <|
  bw_getI hZ fl_RX10_25 (by decide) obC_1 dX10_step_49 <|
  bw_iconst hZ 1 (by decide) dX10_step_52 <|
  bw_iadd hZ dX10_step_53 <|
  bw_putI hZ fl_RX10_25 rfl rfl (by decide) obC_1 dX10_step_54 fun w15 =>
  bw_goto hZ (tgt := 8) (by decide) dX10_step_57 <|
  bw_sub [0] rfl (hk8 w15)
def X10_step_b8 (k8 : Wd → Option (Wd)) (w : Wd) : Option (Wd) :=
  if (w.1 1 1) ≤ (w.1 1 8) then
  (X10_step_b60 w)
  else
  if inb (w.1 1 8) 900 = true then
  (if (w.1 2 (Int32.toNatClampNeg (w.1 1 8))) = 32 then
  (X10_step_b47 k8 w)
  else
  if inb (w.1 1 8) 900 = true then
  (if (w.1 2 (Int32.toNatClampNeg (w.1 1 8))) = 10 then
  (X10_step_b47 k8 w)
  else
  X10_step_b60 w)
  else none)
  else none
set_option maxRecDepth 100000 in
set_option maxHeartbeats 4000000 in
theorem t_X10_step_b8 {Z : Cz (Wd)} (hZ : OKZ Z SC cX10_step RX10 1 none 1) (hE : EndV Z) (k8 : Wd → Option (Wd)) (hk8 : ∀   (w : Wd), BW Z 1 8 [(0, .ref (ph (zY Z) 1))] [] w (k8 w))   (w : Wd) : BW Z 1 8 [(0, .ref (ph (zY Z) 1))] [] w (X10_step_b8 k8 w) :=
  bw_aload_n hZ 0 rfl dX10_step_8 <|
  bw_getI hZ fl_RX10_25 (by decide) obC_1 dX10_step_9 <|
  bw_aload_n hZ 0 rfl dX10_step_12 <|
  bw_getI hZ fl_RX10_19 (by decide) obC_1 dX10_step_13 <|
  bw_icmp_ge hZ (tgt := 60) (by decide) dX10_step_16 (fun _ =>
  bw_sub [0] rfl (t_X10_step_b60 hZ hE w)) (fun _ =>
  bw_aload_n hZ 0 rfl dX10_step_19 <|
  bw_getR hZ fl_RX10_11 obC_1 rfl dX10_step_20 <|
  bw_aload_n hZ 0 rfl dX10_step_23 <|
  bw_getI hZ fl_RX10_25 (by decide) obC_1 dX10_step_24 <|
  bw_bald hZ (arC_2 _) dX10_step_27 <|
  bw_bipush hZ 32 (by decide) dX10_step_28 <|
  bw_icmp_eq hZ (tgt := 47) (by decide) dX10_step_30 (fun _ =>
  bw_sub [0] rfl (t_X10_step_b47 hZ hE k8 hk8 w)) (fun _ =>
  bw_aload_n hZ 0 rfl dX10_step_33 <|
  bw_getR hZ fl_RX10_11 obC_1 rfl dX10_step_34 <|
  bw_aload_n hZ 0 rfl dX10_step_37 <|
  bw_getI hZ fl_RX10_25 (by decide) obC_1 dX10_step_38 <|
  bw_bald hZ (arC_2 _) dX10_step_41 <|
  bw_bipush hZ 10 (by decide) dX10_step_42 <|
  bw_icmp_ne hZ (tgt := 60) (by decide) dX10_step_44 (fun _ =>
  bw_sub [0] rfl (t_X10_step_b60 hZ hE w)) (fun _ =>
  bw_sub [0] rfl (t_X10_step_b47 hZ hE k8 hk8 w))))
def X10_step_b8_L  : Wd → Option (Wd) :=
  lp fu (fun _ => none) (fun k8 => X10_step_b8 k8)
theorem t_X10_step_b8_L {Z : Cz (Wd)} (hZ : OKZ Z SC cX10_step RX10 1 none 1) (hE : EndV Z)  : ∀   (w : Wd), BW Z 1 8 [(0, .ref (ph (zY Z) 1))] [] w (X10_step_b8_L w) :=
  lp_bw (fun k8 => ∀   (w : Wd), BW Z 1 8 [(0, .ref (ph (zY Z) 1))] [] w (k8 w)) (fun _ => bw_none) (fun k8 hk8 w => t_X10_step_b8 hZ hE k8 hk8 w) fu
def f_X10_step (w : Wd) : Option (Wd) :=
  if (w.1 1 4) = 0 then
  (X10_step_b8_L w)
  else
  some w
set_option maxRecDepth 100000 in
set_option maxHeartbeats 4000000 in
theorem t_X10_step {Z : Cz (Wd)} (hZ : OKZ Z SC cX10_step RX10 1 none 1) (hE : EndV Z)   (w : Wd) : BW Z 1 0 [(0, .ref (ph (zY Z) 1))] [] w (f_X10_step w) :=
  bw_aload_n hZ 0 rfl dX10_step_0 <|
  bw_getI hZ fl_RX10_22 (by decide) obC_1 dX10_step_1 <|
  bw_if_eq hZ (tgt := 8) (by decide) dX10_step_4 (fun _ =>
  bw_sub [0] rfl (t_X10_step_b8_L hZ hE w)) (fun _ =>
  bw_vret hZ hE dX10_step_7)
theorem c_X10_step (l : Launch) (Y : Ev) (hY : Y.1 = SC)   (w : Wd) : CV l Y yX10_step cX10_step 1 1 [.ref (ph Y 1)] w (f_X10_step w) := by
  refine CV_of (S := SC) (by decide) (Nat.le_of_ble_eq_true rfl) hY ?_
  intro Z hl hY2 hZ hE
  subst hY2
  exact t_X10_step hZ hE w
-- WhichWill$Estate.passOnce
theorem dX0_passOnce_0 : decode cX0_passOnce 0 = .ok (.aload_n 0, 1) := by decide +kernel
theorem dX0_passOnce_1 : decode cX0_passOnce 1 = .ok (.getfield 76, 3) := by decide +kernel
theorem dX0_passOnce_4 : decode cX0_passOnce 4 = .ok (.iload_n 2, 1) := by decide +kernel
theorem dX0_passOnce_5 : decode cX0_passOnce 5 = .ok (.iand, 1) := by decide +kernel
theorem dX0_passOnce_6 : decode cX0_passOnce 6 = .ok (.ifCond .eq 8, 3) := by decide +kernel
theorem dX0_passOnce_9 : decode cX0_passOnce 9 = .ok (.aload_n 1, 1) := by decide +kernel
theorem dX0_passOnce_10 : decode cX0_passOnce 10 = .ok (.iconst 3, 1) := by decide +kernel
theorem dX0_passOnce_11 : decode cX0_passOnce 11 = .ok (.invokevirtual 138, 3) := by decide +kernel
theorem dX0_passOnce_14 : decode cX0_passOnce 14 = .ok (.aload_n 0, 1) := by decide +kernel
theorem dX0_passOnce_15 : decode cX0_passOnce 15 = .ok (.dup, 1) := by decide +kernel
theorem dX0_passOnce_16 : decode cX0_passOnce 16 = .ok (.getfield 76, 3) := by decide +kernel
theorem dX0_passOnce_19 : decode cX0_passOnce 19 = .ok (.iload_n 2, 1) := by decide +kernel
theorem dX0_passOnce_20 : decode cX0_passOnce 20 = .ok (.ior, 1) := by decide +kernel
theorem dX0_passOnce_21 : decode cX0_passOnce 21 = .ok (.putfield 76, 3) := by decide +kernel
theorem dX0_passOnce_24 : decode cX0_passOnce 24 = .ok (.aload_n 1, 1) := by decide +kernel
theorem dX0_passOnce_25 : decode cX0_passOnce 25 = .ok (.invokevirtual 141, 3) := by decide +kernel
theorem dX0_passOnce_28 : decode cX0_passOnce 28 = .ok (.return_, 1) := by decide +kernel
def X0_passOnce_b14 (y2 : Int32) (w : Wd) : Option (Wd) :=
  lt (wI w 44 18 ((w.1 44 18) ||| y2)) fun w1 =>
  cv (f_X10_step w1) fun w2 =>
  some w2
set_option maxRecDepth 100000 in
set_option maxHeartbeats 4000000 in
theorem t_X0_passOnce_b14 {Z : Cz (Wd)} (hZ : OKZ Z SC cX0_passOnce RX0 3 none 2) (hE : EndV Z)  (y2 : Int32)  (w : Wd) : BW Z 3 14 [(0, .ref (ph (zY Z) 44)), (1, .ref (ph (zY Z) 1)), (2, .int y2)] [] w (X0_passOnce_b14 y2 w) :=
  bw_aload_n hZ 0 rfl dX0_passOnce_14 <|
  bw_dup hZ rfl dX0_passOnce_15 <|
  bw_getI hZ fl_RX0_76 (by decide) obC_44 dX0_passOnce_16 <|
  bw_iload_n hZ 2 rfl dX0_passOnce_19 <|
  bw_ior hZ dX0_passOnce_20 <|
  bw_putI hZ fl_RX0_76 rfl rfl (by decide) obC_44 dX0_passOnce_21 fun w1 =>
  bw_aload_n hZ 1 rfl dX0_passOnce_24 <|
  bw_callVV (As := []) hZ ml_RX0_141 rc_10 obC_1 (by decide) (c_X10_step (zl Z) (zY Z) (hZ_S hZ) w1) rfl rfl (Nat.le_of_ble_eq_true rfl) dX0_passOnce_25 fun w2 =>
  bw_vret hZ hE dX0_passOnce_28
def f_X0_passOnce (x2 : Int32) (w : Wd) : Option (Wd) :=
  if ((w.1 44 18) &&& x2) = 0 then
  (X0_passOnce_b14 x2 w)
  else
  cv (f_X10_fail 3 w) fun w3 =>
  X0_passOnce_b14 x2 w3
set_option maxRecDepth 100000 in
set_option maxHeartbeats 4000000 in
theorem t_X0_passOnce {Z : Cz (Wd)} (hZ : OKZ Z SC cX0_passOnce RX0 3 none 2) (hE : EndV Z) (x2 : Int32)  (w : Wd) : BW Z 3 0 [(0, .ref (ph (zY Z) 44)), (1, .ref (ph (zY Z) 1)), (2, .int x2)] [] w (f_X0_passOnce x2 w) :=
  bw_aload_n hZ 0 rfl dX0_passOnce_0 <|
  bw_getI hZ fl_RX0_76 (by decide) obC_44 dX0_passOnce_1 <|
  bw_iload_n hZ 2 rfl dX0_passOnce_4 <|
  bw_iand hZ dX0_passOnce_5 <|
  bw_if_eq hZ (tgt := 14) (by decide) dX0_passOnce_6 (fun _ =>
  bw_sub [0, 1, 2] rfl (t_X0_passOnce_b14 hZ hE x2 w)) (fun _ =>
  bw_aload_n hZ 1 rfl dX0_passOnce_9 <|
  bw_iconst hZ 3 (by decide) dX0_passOnce_10 <|
  bw_callVV (As := [.int 3]) hZ ml_RX0_138 rc_10 obC_1 (by decide) (c_X10_fail (zl Z) (zY Z) (hZ_S hZ) 3 w) rfl rfl (Nat.le_of_ble_eq_true rfl) dX0_passOnce_11 fun w3 =>
  bw_sub [0, 1, 2] rfl (t_X0_passOnce_b14 hZ hE x2 w3))
theorem c_X0_passOnce (l : Launch) (Y : Ev) (hY : Y.1 = SC) (x2 : Int32)  (w : Wd) : CV l Y yX0_passOnce cX0_passOnce 3 2 [.ref (ph Y 44), .ref (ph Y 1), .int x2] w (f_X0_passOnce x2 w) := by
  refine CV_of (S := SC) (by decide) (Nat.le_of_ble_eq_true rfl) hY ?_
  intro Z hl hY2 hZ hE
  subst hY2
  exact t_X0_passOnce hZ hE x2 w
-- WhichWill$Tape.number
theorem dX10_number_0 : decode cX10_number 0 = .ok (.aload_n 0, 1) := by decide +kernel
theorem dX10_number_1 : decode cX10_number 1 = .ok (.getfield 31, 3) := by decide +kernel
theorem dX10_number_4 : decode cX10_number 4 = .ok (.iconst 2, 1) := by decide +kernel
theorem dX10_number_5 : decode cX10_number 5 = .ok (.if_icmp .eq 10, 3) := by decide +kernel
theorem dX10_number_8 : decode cX10_number 8 = .ok (.aload_n 0, 1) := by decide +kernel
theorem dX10_number_9 : decode cX10_number 9 = .ok (.iconst 1, 1) := by decide +kernel
theorem dX10_number_10 : decode cX10_number 10 = .ok (.invokevirtual 57, 3) := by decide +kernel
theorem dX10_number_13 : decode cX10_number 13 = .ok (.iload_n 1, 1) := by decide +kernel
theorem dX10_number_14 : decode cX10_number 14 = .ok (.ireturn, 1) := by decide +kernel
theorem dX10_number_15 : decode cX10_number 15 = .ok (.aload_n 0, 1) := by decide +kernel
theorem dX10_number_16 : decode cX10_number 16 = .ok (.getfield 41, 3) := by decide +kernel
theorem dX10_number_19 : decode cX10_number 19 = .ok (.istore_n 3, 1) := by decide +kernel
theorem dX10_number_20 : decode cX10_number 20 = .ok (.iload_n 3, 1) := by decide +kernel
theorem dX10_number_21 : decode cX10_number 21 = .ok (.iload_n 1, 1) := by decide +kernel
theorem dX10_number_22 : decode cX10_number 22 = .ok (.if_icmp .lt 8, 3) := by decide +kernel
theorem dX10_number_25 : decode cX10_number 25 = .ok (.iload_n 3, 1) := by decide +kernel
theorem dX10_number_26 : decode cX10_number 26 = .ok (.iload_n 2, 1) := by decide +kernel
theorem dX10_number_27 : decode cX10_number 27 = .ok (.if_icmp .le 10, 3) := by decide +kernel
theorem dX10_number_30 : decode cX10_number 30 = .ok (.aload_n 0, 1) := by decide +kernel
theorem dX10_number_31 : decode cX10_number 31 = .ok (.iconst 2, 1) := by decide +kernel
theorem dX10_number_32 : decode cX10_number 32 = .ok (.invokevirtual 57, 3) := by decide +kernel
theorem dX10_number_35 : decode cX10_number 35 = .ok (.iload_n 1, 1) := by decide +kernel
theorem dX10_number_36 : decode cX10_number 36 = .ok (.ireturn, 1) := by decide +kernel
theorem dX10_number_37 : decode cX10_number 37 = .ok (.aload_n 0, 1) := by decide +kernel
theorem dX10_number_38 : decode cX10_number 38 = .ok (.invokevirtual 28, 3) := by decide +kernel
theorem dX10_number_41 : decode cX10_number 41 = .ok (.iload_n 3, 1) := by decide +kernel
theorem dX10_number_42 : decode cX10_number 42 = .ok (.ireturn, 1) := by decide +kernel
def X10_number_b30 (y1 : Int32) (w : Wd) : Option (Int32 × Wd) :=
  cv (f_X10_fail 2 w) fun w2 =>
  some (y1, w2)
set_option maxRecDepth 100000 in
set_option maxHeartbeats 4000000 in
theorem t_X10_number_b30 {Z : Cz (Int32 × Wd)} (hZ : OKZ Z SC cX10_number RX10 4 (some .int) 2) (hE : EndI Z)  (y1 : Int32)  (w : Wd) : BW Z 4 30 [(0, .ref (ph (zY Z) 1)), (1, .int y1)] [] w (X10_number_b30 y1 w) :=
  bw_aload_n hZ 0 rfl dX10_number_30 <|
  bw_iconst hZ 2 (by decide) dX10_number_31 <|
  bw_callVV (As := [.int 2]) hZ ml_RX10_57 rc_10 obC_1 (by decide) (c_X10_fail (zl Z) (zY Z) (hZ_S hZ) 2 w) rfl rfl (Nat.le_of_ble_eq_true rfl) dX10_number_32 fun w2 =>
  bw_iload_n hZ 1 rfl dX10_number_35 <|
  bw_iret hZ hE dX10_number_36
def f_X10_number (x1 : Int32) (x2 : Int32) (w : Wd) : Option (Int32 × Wd) :=
  if (w.1 1 2) = 2 then
  (lt (w.1 1 6) fun v1 =>
  if v1 < x1 then
  (X10_number_b30 x1 w)
  else
  if v1 ≤ x2 then
  (cv (f_X10_step w) fun w3 =>
  some (v1, w3))
  else
  X10_number_b30 x1 w)
  else
  cv (f_X10_fail 1 w) fun w4 =>
  some (x1, w4)
set_option maxRecDepth 100000 in
set_option maxHeartbeats 4000000 in
theorem t_X10_number {Z : Cz (Int32 × Wd)} (hZ : OKZ Z SC cX10_number RX10 4 (some .int) 2) (hE : EndI Z) (x1 : Int32) (x2 : Int32)  (w : Wd) : BW Z 4 0 [(0, .ref (ph (zY Z) 1)), (1, .int x1), (2, .int x2)] [] w (f_X10_number x1 x2 w) :=
  bw_aload_n hZ 0 rfl dX10_number_0 <|
  bw_getI hZ fl_RX10_31 (by decide) obC_1 dX10_number_1 <|
  bw_iconst hZ 2 (by decide) dX10_number_4 <|
  bw_icmp_eq hZ (tgt := 15) (by decide) dX10_number_5 (fun _ =>
  bw_aload_n hZ 0 rfl dX10_number_15 <|
  bw_getI hZ fl_RX10_41 (by decide) obC_1 dX10_number_16 <|
  bw_nm fun v1 =>
  bw_istore_n hZ rfl (by decide) rfl dX10_number_19 <|
  bw_iload_n hZ 0 rfl dX10_number_20 <|
  bw_iload_n hZ 2 rfl dX10_number_21 <|
  bw_icmp_lt hZ (tgt := 30) (by decide) dX10_number_22 (fun _ =>
  bw_sub [1, 2] rfl (t_X10_number_b30 hZ hE x1 w)) (fun _ =>
  bw_iload_n hZ 0 rfl dX10_number_25 <|
  bw_iload_n hZ 3 rfl dX10_number_26 <|
  bw_icmp_le hZ (tgt := 37) (by decide) dX10_number_27 (fun _ =>
  bw_aload_n hZ 1 rfl dX10_number_37 <|
  bw_callVV (As := []) hZ ml_RX10_28 rc_10 obC_1 (by decide) (c_X10_step (zl Z) (zY Z) (hZ_S hZ) w) rfl rfl (Nat.le_of_ble_eq_true rfl) dX10_number_38 fun w3 =>
  bw_iload_n hZ 0 rfl dX10_number_41 <|
  bw_iret hZ hE dX10_number_42) (fun _ =>
  bw_sub [1, 2] rfl (t_X10_number_b30 hZ hE x1 w)))) (fun _ =>
  bw_aload_n hZ 0 rfl dX10_number_8 <|
  bw_iconst hZ 1 (by decide) dX10_number_9 <|
  bw_callVV (As := [.int 1]) hZ ml_RX10_57 rc_10 obC_1 (by decide) (c_X10_fail (zl Z) (zY Z) (hZ_S hZ) 1 w) rfl rfl (Nat.le_of_ble_eq_true rfl) dX10_number_10 fun w4 =>
  bw_iload_n hZ 1 rfl dX10_number_13 <|
  bw_iret hZ hE dX10_number_14)
theorem c_X10_number (l : Launch) (Y : Ev) (hY : Y.1 = SC) (x1 : Int32) (x2 : Int32)  (w : Wd) : CI l Y yX10_number cX10_number 4 2 [.ref (ph Y 1), .int x1, .int x2] w .int (f_X10_number x1 x2 w) := by
  refine CI_of (S := SC) (by decide) (Nat.le_of_ble_eq_true rfl) hY ?_
  intro Z hl hY2 hZ hE
  subst hY2
  exact t_X10_number hZ hE x1 x2 w
-- WhichWill$Estate.readAmount
theorem dX0_readAmount_0 : decode cX0_readAmount 0 = .ok (.aload_n 0, 1) := by decide +kernel
theorem dX0_readAmount_1 : decode cX0_readAmount 1 = .ok (.aload_n 1, 1) := by decide +kernel
theorem dX0_readAmount_2 : decode cX0_readAmount 2 = .ok (.iload_n 2, 1) := by decide +kernel
theorem dX0_readAmount_3 : decode cX0_readAmount 3 = .ok (.invokevirtual 144, 3) := by decide +kernel
theorem dX0_readAmount_6 : decode cX0_readAmount 6 = .ok (.aload_n 1, 1) := by decide +kernel
theorem dX0_readAmount_7 : decode cX0_readAmount 7 = .ok (.iconst 0, 1) := by decide +kernel
theorem dX0_readAmount_8 : decode cX0_readAmount 8 = .ok (.ldc 152, 2) := by decide +kernel
theorem dX0_readAmount_10 : decode cX0_readAmount 10 = .ok (.invokevirtual 153, 3) := by decide +kernel
theorem dX0_readAmount_13 : decode cX0_readAmount 13 = .ok (.ireturn, 1) := by decide +kernel
def f_X0_readAmount (x2 : Int32) (w : Wd) : Option (Int32 × Wd) :=
  cv (f_X0_passOnce x2 w) fun w1 =>
  cl (f_X10_number 0 99999 w1) fun r3 w2 =>
  some (r3, w2)
set_option maxRecDepth 100000 in
set_option maxHeartbeats 4000000 in
theorem t_X0_readAmount {Z : Cz (Int32 × Wd)} (hZ : OKZ Z SC cX0_readAmount RX0 3 (some .int) 3) (hE : EndI Z) (x2 : Int32)  (w : Wd) : BW Z 3 0 [(0, .ref (ph (zY Z) 44)), (1, .ref (ph (zY Z) 1)), (2, .int x2)] [] w (f_X0_readAmount x2 w) :=
  bw_aload_n hZ 0 rfl dX0_readAmount_0 <|
  bw_aload_n hZ 1 rfl dX0_readAmount_1 <|
  bw_iload_n hZ 2 rfl dX0_readAmount_2 <|
  bw_callVV (As := [.ref (ph (zY Z) 1), .int x2]) hZ ml_RX0_144 rc_0 obC_44 (by decide) (c_X0_passOnce (zl Z) (zY Z) (hZ_S hZ) x2 w) rfl rfl (Nat.le_of_ble_eq_true rfl) dX0_readAmount_3 fun w1 =>
  bw_aload_n hZ 1 rfl dX0_readAmount_6 <|
  bw_iconst hZ 0 (by decide) dX0_readAmount_7 <|
  bw_ldc hZ kk_RX0_152 dX0_readAmount_8 <|
  bw_callVI (As := [.int 0, .int 99999]) hZ ml_RX0_153 rc_10 obC_1 (by decide) (c_X10_number (zl Z) (zY Z) (hZ_S hZ) 0 99999 w1) rfl rfl (Nat.le_of_ble_eq_true rfl) dX0_readAmount_10 fun r3 w2 =>
  bw_iret hZ hE dX0_readAmount_13
theorem c_X0_readAmount (l : Launch) (Y : Ev) (hY : Y.1 = SC) (x2 : Int32)  (w : Wd) : CI l Y yX0_readAmount cX0_readAmount 3 3 [.ref (ph Y 44), .ref (ph Y 1), .int x2] w .int (f_X0_readAmount x2 w) := by
  refine CI_of (S := SC) (by decide) (Nat.le_of_ble_eq_true rfl) hY ?_
  intro Z hl hY2 hZ hE
  subst hY2
  exact t_X0_readAmount hZ hE x2 w
-- WhichWill$Names.isFull
theorem dX4_isFull_0 : decode cX4_isFull 0 = .ok (.aload_n 0, 1) := by decide +kernel
theorem dX4_isFull_1 : decode cX4_isFull 1 = .ok (.getfield 15, 3) := by decide +kernel
theorem dX4_isFull_4 : decode cX4_isFull 4 = .ok (.aload_n 0, 1) := by decide +kernel
theorem dX4_isFull_5 : decode cX4_isFull 5 = .ok (.getfield 9, 3) := by decide +kernel
theorem dX4_isFull_8 : decode cX4_isFull 8 = .ok (.arraylength, 1) := by decide +kernel
theorem dX4_isFull_9 : decode cX4_isFull 9 = .ok (.if_icmp .lt 7, 3) := by decide +kernel
theorem dX4_isFull_12 : decode cX4_isFull 12 = .ok (.iconst 1, 1) := by decide +kernel
theorem dX4_isFull_13 : decode cX4_isFull 13 = .ok (.goto 4, 3) := by decide +kernel
theorem dX4_isFull_16 : decode cX4_isFull 16 = .ok (.iconst 0, 1) := by decide +kernel
theorem dX4_isFull_17 : decode cX4_isFull 17 = .ok (.ireturn, 1) := by decide +kernel
def f_X4_isFull (o0 : Nat) (n0 : Nat) (w : Wd) : Option (Int32 × Wd) :=
  if (w.1 o0 1) < (Int32.ofNat n0) then
  (some (0, w))
  else
  some (1, w)
set_option maxRecDepth 100000 in
set_option maxHeartbeats 4000000 in
theorem t_X4_isFull {Z : Cz (Int32 × Wd)} (hZ : OKZ Z SC cX4_isFull RX4 1 (some .boolean) 1) (hE : EndI Z) (o0 : Nat) (n0 : Nat) (ho0 : IsN o0 n0) (w : Wd) : BW Z 1 0 [(0, .ref (ph (zY Z) o0))] [] w (f_X4_isFull o0 n0 w) :=
  bw_aload_n hZ 0 rfl dX4_isFull_0 <|
  bw_getI hZ fl_RX4_15 (by decide) (obN ho0) dX4_isFull_1 <|
  bw_aload_n hZ 0 rfl dX4_isFull_4 <|
  bw_getR hZ fl_RX4_9 (obN ho0) (rfN ho0) dX4_isFull_5 <|
  bw_alenL hZ (arN ho0 _) rfl dX4_isFull_8 <|
  bw_icmp_lt hZ (tgt := 16) (by decide) dX4_isFull_9 (fun _ =>
  bw_iconst hZ 0 (by decide) dX4_isFull_16 <|
  bw_zret hZ hE (by decide) dX4_isFull_17) (fun _ =>
  bw_iconst hZ 1 (by decide) dX4_isFull_12 <|
  bw_goto hZ (tgt := 17) (by decide) dX4_isFull_13 <|
  bw_zret hZ hE (by decide) dX4_isFull_17)
theorem c_X4_isFull (l : Launch) (Y : Ev) (hY : Y.1 = SC) (o0 : Nat) (n0 : Nat) (ho0 : IsN o0 n0) (w : Wd) : CI l Y yX4_isFull cX4_isFull 1 1 [.ref (ph Y o0)] w .boolean (f_X4_isFull o0 n0 w) := by
  refine CI_of (S := SC) (by decide) (Nat.le_of_ble_eq_true rfl) hY ?_
  intro Z hl hY2 hZ hE
  subst hY2
  exact t_X4_isFull hZ hE o0 n0 ho0 w
-- WhichWill$Estate.passUnlessFull
theorem dX0_passUnlessFull_0 : decode cX0_passUnlessFull 0 = .ok (.aload_n 1, 1) := by decide +kernel
theorem dX0_passUnlessFull_1 : decode cX0_passUnlessFull 1 = .ok (.invokevirtual 157, 3) := by decide +kernel
theorem dX0_passUnlessFull_4 : decode cX0_passUnlessFull 4 = .ok (.ifCond .eq 8, 3) := by decide +kernel
theorem dX0_passUnlessFull_7 : decode cX0_passUnlessFull 7 = .ok (.aload_n 0, 1) := by decide +kernel
theorem dX0_passUnlessFull_8 : decode cX0_passUnlessFull 8 = .ok (.iconst 4, 1) := by decide +kernel
theorem dX0_passUnlessFull_9 : decode cX0_passUnlessFull 9 = .ok (.invokevirtual 138, 3) := by decide +kernel
theorem dX0_passUnlessFull_12 : decode cX0_passUnlessFull 12 = .ok (.aload_n 0, 1) := by decide +kernel
theorem dX0_passUnlessFull_13 : decode cX0_passUnlessFull 13 = .ok (.invokevirtual 141, 3) := by decide +kernel
theorem dX0_passUnlessFull_16 : decode cX0_passUnlessFull 16 = .ok (.return_, 1) := by decide +kernel
def X0_passUnlessFull_b12 (w : Wd) : Option (Wd) :=
  cv (f_X10_step w) fun w3 =>
  some w3
set_option maxRecDepth 100000 in
set_option maxHeartbeats 4000000 in
theorem t_X0_passUnlessFull_b12 {Z : Cz (Wd)} (hZ : OKZ Z SC cX0_passUnlessFull RX0 2 none 2) (hE : EndV Z)    (w : Wd) : BW Z 2 12 [(0, .ref (ph (zY Z) 1))] [] w (X0_passUnlessFull_b12 w) :=
  bw_aload_n hZ 0 rfl dX0_passUnlessFull_12 <|
  bw_callVV (As := []) hZ ml_RX0_141 rc_10 obC_1 (by decide) (c_X10_step (zl Z) (zY Z) (hZ_S hZ) w) rfl rfl (Nat.le_of_ble_eq_true rfl) dX0_passUnlessFull_13 fun w3 =>
  bw_vret hZ hE dX0_passUnlessFull_16
def f_X0_passUnlessFull (o1 : Nat) (n1 : Nat) (w : Wd) : Option (Wd) :=
  cl (f_X4_isFull o1 n1 w) fun r2 w1 =>
  if r2 = 0 then
  (X0_passUnlessFull_b12 w1)
  else
  cv (f_X10_fail 4 w1) fun w4 =>
  X0_passUnlessFull_b12 w4
set_option maxRecDepth 100000 in
set_option maxHeartbeats 4000000 in
theorem t_X0_passUnlessFull {Z : Cz (Wd)} (hZ : OKZ Z SC cX0_passUnlessFull RX0 2 none 2) (hE : EndV Z) (o1 : Nat) (n1 : Nat) (ho1 : IsN o1 n1) (w : Wd) : BW Z 2 0 [(0, .ref (ph (zY Z) 1)), (1, .ref (ph (zY Z) o1))] [] w (f_X0_passUnlessFull o1 n1 w) :=
  bw_aload_n hZ 1 rfl dX0_passUnlessFull_0 <|
  bw_callVI (As := []) hZ ml_RX0_157 rc_4 (obN ho1) (by decide) (c_X4_isFull (zl Z) (zY Z) (hZ_S hZ) o1 n1 ho1 w) rfl rfl (Nat.le_of_ble_eq_true rfl) dX0_passUnlessFull_1 fun r2 w1 =>
  bw_if_eq hZ (tgt := 12) (by decide) dX0_passUnlessFull_4 (fun _ =>
  bw_sub [0] rfl (t_X0_passUnlessFull_b12 hZ hE w1)) (fun _ =>
  bw_aload_n hZ 0 rfl dX0_passUnlessFull_7 <|
  bw_iconst hZ 4 (by decide) dX0_passUnlessFull_8 <|
  bw_callVV (As := [.int 4]) hZ ml_RX0_138 rc_10 obC_1 (by decide) (c_X10_fail (zl Z) (zY Z) (hZ_S hZ) 4 w1) rfl rfl (Nat.le_of_ble_eq_true rfl) dX0_passUnlessFull_9 fun w4 =>
  bw_sub [0] rfl (t_X0_passUnlessFull_b12 hZ hE w4))
theorem c_X0_passUnlessFull (l : Launch) (Y : Ev) (hY : Y.1 = SC) (o1 : Nat) (n1 : Nat) (ho1 : IsN o1 n1) (w : Wd) : CV l Y yX0_passUnlessFull cX0_passUnlessFull 2 2 [.ref (ph Y 1), .ref (ph Y o1)] w (f_X0_passUnlessFull o1 n1 w) := by
  refine CV_of (S := SC) (by decide) (Nat.le_of_ble_eq_true rfl) hY ?_
  intro Z hl hY2 hZ hE
  subst hY2
  exact t_X0_passUnlessFull hZ hE o1 n1 ho1 w
-- WhichWill$Tape.is
theorem dX10_is_0 : decode cX10_is 0 = .ok (.aload_n 0, 1) := by decide +kernel
theorem dX10_is_1 : decode cX10_is 1 = .ok (.getfield 31, 3) := by decide +kernel
theorem dX10_is_4 : decode cX10_is 4 = .ok (.iconst 1, 1) := by decide +kernel
theorem dX10_is_5 : decode cX10_is 5 = .ok (.if_icmp .ne 19, 3) := by decide +kernel
theorem dX10_is_8 : decode cX10_is 8 = .ok (.aload_n 0, 1) := by decide +kernel
theorem dX10_is_9 : decode cX10_is 9 = .ok (.getfield 25, 3) := by decide +kernel
theorem dX10_is_12 : decode cX10_is 12 = .ok (.aload_n 0, 1) := by decide +kernel
theorem dX10_is_13 : decode cX10_is 13 = .ok (.getfield 34, 3) := by decide +kernel
theorem dX10_is_16 : decode cX10_is 16 = .ok (.isub, 1) := by decide +kernel
theorem dX10_is_17 : decode cX10_is 17 = .ok (.aload_n 1, 1) := by decide +kernel
theorem dX10_is_18 : decode cX10_is 18 = .ok (.invokevirtual 44, 3) := by decide +kernel
theorem dX10_is_21 : decode cX10_is 21 = .ok (.if_icmp .eq 5, 3) := by decide +kernel
theorem dX10_is_24 : decode cX10_is 24 = .ok (.iconst 0, 1) := by decide +kernel
theorem dX10_is_25 : decode cX10_is 25 = .ok (.ireturn, 1) := by decide +kernel
theorem dX10_is_26 : decode cX10_is 26 = .ok (.iconst 0, 1) := by decide +kernel
theorem dX10_is_27 : decode cX10_is 27 = .ok (.istore_n 2, 1) := by decide +kernel
theorem dX10_is_28 : decode cX10_is 28 = .ok (.iload_n 2, 1) := by decide +kernel
theorem dX10_is_29 : decode cX10_is 29 = .ok (.aload_n 1, 1) := by decide +kernel
theorem dX10_is_30 : decode cX10_is 30 = .ok (.invokevirtual 44, 3) := by decide +kernel
theorem dX10_is_33 : decode cX10_is 33 = .ok (.if_icmp .ge 30, 3) := by decide +kernel
theorem dX10_is_36 : decode cX10_is 36 = .ok (.aload_n 0, 1) := by decide +kernel
theorem dX10_is_37 : decode cX10_is 37 = .ok (.getfield 11, 3) := by decide +kernel
theorem dX10_is_40 : decode cX10_is 40 = .ok (.aload_n 0, 1) := by decide +kernel
theorem dX10_is_41 : decode cX10_is 41 = .ok (.getfield 34, 3) := by decide +kernel
theorem dX10_is_44 : decode cX10_is 44 = .ok (.iload_n 2, 1) := by decide +kernel
theorem dX10_is_45 : decode cX10_is 45 = .ok (.iadd, 1) := by decide +kernel
theorem dX10_is_46 : decode cX10_is 46 = .ok (.baload, 1) := by decide +kernel
theorem dX10_is_47 : decode cX10_is 47 = .ok (.aload_n 1, 1) := by decide +kernel
theorem dX10_is_48 : decode cX10_is 48 = .ok (.iload_n 2, 1) := by decide +kernel
theorem dX10_is_49 : decode cX10_is 49 = .ok (.invokevirtual 49, 3) := by decide +kernel
theorem dX10_is_52 : decode cX10_is 52 = .ok (.if_icmp .eq 5, 3) := by decide +kernel
theorem dX10_is_55 : decode cX10_is 55 = .ok (.iconst 0, 1) := by decide +kernel
theorem dX10_is_56 : decode cX10_is 56 = .ok (.ireturn, 1) := by decide +kernel
theorem dX10_is_57 : decode cX10_is 57 = .ok (.iinc 2 1, 3) := by decide +kernel
theorem dX10_is_60 : decode cX10_is 60 = .ok (.goto (-32), 3) := by decide +kernel
theorem dX10_is_63 : decode cX10_is 63 = .ok (.iconst 1, 1) := by decide +kernel
theorem dX10_is_64 : decode cX10_is 64 = .ok (.ireturn, 1) := by decide +kernel
def X10_is_b28 (k28 : Nat → Int32 → Wd → Option (Int32 × Wd)) (y1 : Nat) (y2 : Int32) (w : Wd) : Option (Int32 × Wd) :=
  if (Int32.ofNat (sLen.getD y1 0)) ≤ y2 then
  (some (1, w))
  else
  if inb ((w.1 1 7) + y2) 900 = true then
  (if inb y2 (sLen.getD y1 0) = true then
  (if (w.1 2 (Int32.toNatClampNeg ((w.1 1 7) + y2))) = ((sByt.getD y1 []).getD (Int32.toNatClampNeg y2) 0) then
  (k28 y1 (y2 + 1) w)
  else
  some (0, w))
  else none)
  else none
set_option maxRecDepth 100000 in
set_option maxHeartbeats 4000000 in
theorem t_X10_is_b28 {Z : Cz (Int32 × Wd)} (hZ : OKZ Z SC cX10_is RX10 3 (some .boolean) 5) (hE : EndI Z) (k28 : Nat → Int32 → Wd → Option (Int32 × Wd)) (hk28 : ∀ (y1 : Nat) (y2 : Int32) (hy1 : y1 < sNum) (w : Wd), BW Z 3 28 [(0, .ref (ph (zY Z) 1)), (1, .ref (sK (zY Z) y1)), (2, .int y2)] [] w (k28 y1 y2 w)) (y1 : Nat) (y2 : Int32) (hy1 : y1 < sNum) (w : Wd) : BW Z 3 28 [(0, .ref (ph (zY Z) 1)), (1, .ref (sK (zY Z) y1)), (2, .int y2)] [] w (X10_is_b28 k28 y1 y2 w) :=
  bw_iload_n hZ 2 rfl dX10_is_28 <|
  bw_aload_n hZ 1 rfl dX10_is_29 <|
  bw_slen hZ ml_RX10_44 hy1 (by decide) (Nat.le_of_ble_eq_true rfl) dX10_is_30 <|
  bw_icmp_ge hZ (tgt := 63) (by decide) dX10_is_33 (fun _ =>
  bw_iconst hZ 1 (by decide) dX10_is_63 <|
  bw_zret hZ hE (by decide) dX10_is_64) (fun _ =>
  bw_aload_n hZ 0 rfl dX10_is_36 <|
  bw_getR hZ fl_RX10_11 obC_1 rfl dX10_is_37 <|
  bw_aload_n hZ 0 rfl dX10_is_40 <|
  bw_getI hZ fl_RX10_34 (by decide) obC_1 dX10_is_41 <|
  bw_iload_n hZ 2 rfl dX10_is_44 <|
  bw_iadd hZ dX10_is_45 <|
  bw_bald hZ (arC_2 _) dX10_is_46 <|
  bw_aload_n hZ 1 rfl dX10_is_47 <|
  bw_iload_n hZ 2 rfl dX10_is_48 <|
  bw_schar hZ ml_RX10_49 hy1 (by decide) (Nat.le_of_ble_eq_true rfl) dX10_is_49 <|
  bw_icmp_eq hZ (tgt := 57) (by decide) dX10_is_52 (fun _ =>
  bw_iinc hZ 1 2 rfl (by decide) (by decide) rfl dX10_is_57 <|
  bw_goto hZ (tgt := 28) (by decide) dX10_is_60 <|
  bw_sub [1, 2, 0] rfl (hk28 y1 (y2 + 1) hy1 w)) (fun _ =>
  bw_iconst hZ 0 (by decide) dX10_is_55 <|
  bw_zret hZ hE (by decide) dX10_is_56))
def X10_is_b28_L  : Nat → Int32 → Wd → Option (Int32 × Wd) :=
  lp fu (fun _ _ _ => none) (fun k28 => X10_is_b28 k28)
theorem t_X10_is_b28_L {Z : Cz (Int32 × Wd)} (hZ : OKZ Z SC cX10_is RX10 3 (some .boolean) 5) (hE : EndI Z)  : ∀ (y1 : Nat) (y2 : Int32) (hy1 : y1 < sNum) (w : Wd), BW Z 3 28 [(0, .ref (ph (zY Z) 1)), (1, .ref (sK (zY Z) y1)), (2, .int y2)] [] w (X10_is_b28_L y1 y2 w) :=
  lp_bw (fun k28 => ∀ (y1 : Nat) (y2 : Int32) (hy1 : y1 < sNum) (w : Wd), BW Z 3 28 [(0, .ref (ph (zY Z) 1)), (1, .ref (sK (zY Z) y1)), (2, .int y2)] [] w (k28 y1 y2 w)) (fun _ _ _ _ => bw_none) (fun k28 hk28 y1 y2 hy1 w => t_X10_is_b28 hZ hE k28 hk28 y1 y2 hy1 w) fu
def f_X10_is (s1 : Nat) (w : Wd) : Option (Int32 × Wd) :=
  if (w.1 1 2) = 1 then
  (if ((w.1 1 8) - (w.1 1 7)) = (Int32.ofNat (sLen.getD s1 0)) then
  (X10_is_b28_L s1 0 w)
  else
  some (0, w))
  else
  some (0, w)
set_option maxRecDepth 100000 in
set_option maxHeartbeats 4000000 in
theorem t_X10_is {Z : Cz (Int32 × Wd)} (hZ : OKZ Z SC cX10_is RX10 3 (some .boolean) 5) (hE : EndI Z) (s1 : Nat) (hs1 : s1 < sNum) (w : Wd) : BW Z 3 0 [(0, .ref (ph (zY Z) 1)), (1, .ref (sK (zY Z) s1))] [] w (f_X10_is s1 w) :=
  bw_aload_n hZ 0 rfl dX10_is_0 <|
  bw_getI hZ fl_RX10_31 (by decide) obC_1 dX10_is_1 <|
  bw_iconst hZ 1 (by decide) dX10_is_4 <|
  bw_icmp_ne hZ (tgt := 24) (by decide) dX10_is_5 (fun _ =>
  bw_iconst hZ 0 (by decide) dX10_is_24 <|
  bw_zret hZ hE (by decide) dX10_is_25) (fun _ =>
  bw_aload_n hZ 0 rfl dX10_is_8 <|
  bw_getI hZ fl_RX10_25 (by decide) obC_1 dX10_is_9 <|
  bw_aload_n hZ 0 rfl dX10_is_12 <|
  bw_getI hZ fl_RX10_34 (by decide) obC_1 dX10_is_13 <|
  bw_isub hZ dX10_is_16 <|
  bw_aload_n hZ 1 rfl dX10_is_17 <|
  bw_slen hZ ml_RX10_44 hs1 (by decide) (Nat.le_of_ble_eq_true rfl) dX10_is_18 <|
  bw_icmp_eq hZ (tgt := 26) (by decide) dX10_is_21 (fun _ =>
  bw_iconst hZ 0 (by decide) dX10_is_26 <|
  bw_istore_n hZ rfl (by decide) rfl dX10_is_27 <|
  bw_sub [1, 2, 0] rfl (t_X10_is_b28_L hZ hE s1 0 hs1 w)) (fun _ =>
  bw_iconst hZ 0 (by decide) dX10_is_24 <|
  bw_zret hZ hE (by decide) dX10_is_25))
theorem c_X10_is (l : Launch) (Y : Ev) (hY : Y.1 = SC) (s1 : Nat) (hs1 : s1 < sNum) (w : Wd) : CI l Y yX10_is cX10_is 3 5 [.ref (ph Y 1), .ref (sK Y s1)] w .boolean (f_X10_is s1 w) := by
  refine CI_of (S := SC) (by decide) (Nat.le_of_ble_eq_true rfl) hY ?_
  intro Z hl hY2 hZ hE
  subst hY2
  exact t_X10_is hZ hE s1 hs1 w
-- WhichWill$Tape.chosen
theorem dX10_chosen_0 : decode cX10_chosen 0 = .ok (.iconst 0, 1) := by decide +kernel
theorem dX10_chosen_1 : decode cX10_chosen 1 = .ok (.istore 5, 2) := by decide +kernel
theorem dX10_chosen_3 : decode cX10_chosen 3 = .ok (.aload_n 0, 1) := by decide +kernel
theorem dX10_chosen_4 : decode cX10_chosen 4 = .ok (.aload_n 2, 1) := by decide +kernel
theorem dX10_chosen_5 : decode cX10_chosen 5 = .ok (.invokevirtual 53, 3) := by decide +kernel
theorem dX10_chosen_8 : decode cX10_chosen 8 = .ok (.ifCond .eq 9, 3) := by decide +kernel
theorem dX10_chosen_11 : decode cX10_chosen 11 = .ok (.iconst 1, 1) := by decide +kernel
theorem dX10_chosen_12 : decode cX10_chosen 12 = .ok (.istore 5, 2) := by decide +kernel
theorem dX10_chosen_14 : decode cX10_chosen 14 = .ok (.goto 45, 3) := by decide +kernel
theorem dX10_chosen_17 : decode cX10_chosen 17 = .ok (.aload_n 0, 1) := by decide +kernel
theorem dX10_chosen_18 : decode cX10_chosen 18 = .ok (.aload_n 3, 1) := by decide +kernel
theorem dX10_chosen_19 : decode cX10_chosen 19 = .ok (.invokevirtual 53, 3) := by decide +kernel
theorem dX10_chosen_22 : decode cX10_chosen 22 = .ok (.ifCond .eq 9, 3) := by decide +kernel
theorem dX10_chosen_25 : decode cX10_chosen 25 = .ok (.iconst 2, 1) := by decide +kernel
theorem dX10_chosen_26 : decode cX10_chosen 26 = .ok (.istore 5, 2) := by decide +kernel
theorem dX10_chosen_28 : decode cX10_chosen 28 = .ok (.goto 31, 3) := by decide +kernel
theorem dX10_chosen_31 : decode cX10_chosen 31 = .ok (.aload_n 0, 1) := by decide +kernel
theorem dX10_chosen_32 : decode cX10_chosen 32 = .ok (.aload 4, 2) := by decide +kernel
theorem dX10_chosen_34 : decode cX10_chosen 34 = .ok (.invokevirtual 53, 3) := by decide +kernel
theorem dX10_chosen_37 : decode cX10_chosen 37 = .ok (.ifCond .eq 9, 3) := by decide +kernel
theorem dX10_chosen_40 : decode cX10_chosen 40 = .ok (.iconst 3, 1) := by decide +kernel
theorem dX10_chosen_41 : decode cX10_chosen 41 = .ok (.istore 5, 2) := by decide +kernel
theorem dX10_chosen_43 : decode cX10_chosen 43 = .ok (.goto 16, 3) := by decide +kernel
theorem dX10_chosen_46 : decode cX10_chosen 46 = .ok (.aload_n 0, 1) := by decide +kernel
theorem dX10_chosen_47 : decode cX10_chosen 47 = .ok (.aload_n 1, 1) := by decide +kernel
theorem dX10_chosen_48 : decode cX10_chosen 48 = .ok (.invokevirtual 53, 3) := by decide +kernel
theorem dX10_chosen_51 : decode cX10_chosen 51 = .ok (.ifCond .ne 8, 3) := by decide +kernel
theorem dX10_chosen_54 : decode cX10_chosen 54 = .ok (.aload_n 0, 1) := by decide +kernel
theorem dX10_chosen_55 : decode cX10_chosen 55 = .ok (.iconst 1, 1) := by decide +kernel
theorem dX10_chosen_56 : decode cX10_chosen 56 = .ok (.invokevirtual 57, 3) := by decide +kernel
theorem dX10_chosen_59 : decode cX10_chosen 59 = .ok (.aload_n 0, 1) := by decide +kernel
theorem dX10_chosen_60 : decode cX10_chosen 60 = .ok (.invokevirtual 28, 3) := by decide +kernel
theorem dX10_chosen_63 : decode cX10_chosen 63 = .ok (.iload 5, 2) := by decide +kernel
theorem dX10_chosen_65 : decode cX10_chosen 65 = .ok (.ireturn, 1) := by decide +kernel
def X10_chosen_b59 (y5 : Int32) (w : Wd) : Option (Int32 × Wd) :=
  cv (f_X10_step w) fun w9 =>
  some (y5, w9)
set_option maxRecDepth 100000 in
set_option maxHeartbeats 4000000 in
theorem t_X10_chosen_b59 {Z : Cz (Int32 × Wd)} (hZ : OKZ Z SC cX10_chosen RX10 6 (some .int) 6) (hE : EndI Z)  (y5 : Int32)  (w : Wd) : BW Z 6 59 [(0, .ref (ph (zY Z) 1)), (5, .int y5)] [] w (X10_chosen_b59 y5 w) :=
  bw_aload_n hZ 0 rfl dX10_chosen_59 <|
  bw_callVV (As := []) hZ ml_RX10_28 rc_10 obC_1 (by decide) (c_X10_step (zl Z) (zY Z) (hZ_S hZ) w) rfl rfl (Nat.le_of_ble_eq_true rfl) dX10_chosen_60 fun w9 =>
  bw_iload hZ 1 rfl dX10_chosen_63 <|
  bw_iret hZ hE dX10_chosen_65
def f_X10_chosen (s1 : Nat) (s2 : Nat) (s3 : Nat) (s4 : Nat) (w : Wd) : Option (Int32 × Wd) :=
  cl (f_X10_is s2 w) fun r2 w1 =>
  if r2 = 0 then
  (cl (f_X10_is s3 w1) fun r4 w3 =>
  if r4 = 0 then
  (cl (f_X10_is s4 w3) fun r6 w5 =>
  if r6 = 0 then
  (cl (f_X10_is s1 w5) fun r8 w7 =>
  if r8 = 0 then
  (cv (f_X10_fail 1 w7) fun w10 =>
  X10_chosen_b59 0 w10)
  else
  X10_chosen_b59 0 w7)
  else
  X10_chosen_b59 3 w5)
  else
  X10_chosen_b59 2 w3)
  else
  X10_chosen_b59 1 w1
set_option maxRecDepth 100000 in
set_option maxHeartbeats 4000000 in
theorem t_X10_chosen {Z : Cz (Int32 × Wd)} (hZ : OKZ Z SC cX10_chosen RX10 6 (some .int) 6) (hE : EndI Z) (s1 : Nat) (s2 : Nat) (s3 : Nat) (s4 : Nat) (hs1 : s1 < sNum) (hs2 : s2 < sNum) (hs3 : s3 < sNum) (hs4 : s4 < sNum) (w : Wd) : BW Z 6 0 [(0, .ref (ph (zY Z) 1)), (1, .ref (sK (zY Z) s1)), (2, .ref (sK (zY Z) s2)), (3, .ref (sK (zY Z) s3)), (4, .ref (sK (zY Z) s4))] [] w (f_X10_chosen s1 s2 s3 s4 w) :=
  bw_iconst hZ 0 (by decide) dX10_chosen_0 <|
  bw_istore hZ (by decide) rfl dX10_chosen_1 <|
  bw_aload_n hZ 1 rfl dX10_chosen_3 <|
  bw_aload_n hZ 3 rfl dX10_chosen_4 <|
  bw_callVI (As := [.ref (sK (zY Z) s2)]) hZ ml_RX10_53 rc_10 obC_1 (by decide) (c_X10_is (zl Z) (zY Z) (hZ_S hZ) s2 hs2 w) rfl rfl (Nat.le_of_ble_eq_true rfl) dX10_chosen_5 fun r2 w1 =>
  bw_if_eq hZ (tgt := 17) (by decide) dX10_chosen_8 (fun _ =>
  bw_aload_n hZ 1 rfl dX10_chosen_17 <|
  bw_aload_n hZ 4 rfl dX10_chosen_18 <|
  bw_callVI (As := [.ref (sK (zY Z) s3)]) hZ ml_RX10_53 rc_10 obC_1 (by decide) (c_X10_is (zl Z) (zY Z) (hZ_S hZ) s3 hs3 w1) rfl rfl (Nat.le_of_ble_eq_true rfl) dX10_chosen_19 fun r4 w3 =>
  bw_if_eq hZ (tgt := 31) (by decide) dX10_chosen_22 (fun _ =>
  bw_aload_n hZ 1 rfl dX10_chosen_31 <|
  bw_aload hZ 5 rfl dX10_chosen_32 <|
  bw_callVI (As := [.ref (sK (zY Z) s4)]) hZ ml_RX10_53 rc_10 obC_1 (by decide) (c_X10_is (zl Z) (zY Z) (hZ_S hZ) s4 hs4 w3) rfl rfl (Nat.le_of_ble_eq_true rfl) dX10_chosen_34 fun r6 w5 =>
  bw_if_eq hZ (tgt := 46) (by decide) dX10_chosen_37 (fun _ =>
  bw_aload_n hZ 1 rfl dX10_chosen_46 <|
  bw_aload_n hZ 2 rfl dX10_chosen_47 <|
  bw_callVI (As := [.ref (sK (zY Z) s1)]) hZ ml_RX10_53 rc_10 obC_1 (by decide) (c_X10_is (zl Z) (zY Z) (hZ_S hZ) s1 hs1 w5) rfl rfl (Nat.le_of_ble_eq_true rfl) dX10_chosen_48 fun r8 w7 =>
  bw_if_ne hZ (tgt := 59) (by decide) dX10_chosen_51 (fun _ =>
  bw_sub [1, 0] rfl (t_X10_chosen_b59 hZ hE 0 w7)) (fun _ =>
  bw_aload_n hZ 1 rfl dX10_chosen_54 <|
  bw_iconst hZ 1 (by decide) dX10_chosen_55 <|
  bw_callVV (As := [.int 1]) hZ ml_RX10_57 rc_10 obC_1 (by decide) (c_X10_fail (zl Z) (zY Z) (hZ_S hZ) 1 w7) rfl rfl (Nat.le_of_ble_eq_true rfl) dX10_chosen_56 fun w10 =>
  bw_sub [1, 0] rfl (t_X10_chosen_b59 hZ hE 0 w10))) (fun _ =>
  bw_iconst hZ 3 (by decide) dX10_chosen_40 <|
  bw_istore hZ (by decide) rfl dX10_chosen_41 <|
  bw_goto hZ (tgt := 59) (by decide) dX10_chosen_43 <|
  bw_sub [1, 0] rfl (t_X10_chosen_b59 hZ hE 3 w5))) (fun _ =>
  bw_iconst hZ 2 (by decide) dX10_chosen_25 <|
  bw_istore hZ (by decide) rfl dX10_chosen_26 <|
  bw_goto hZ (tgt := 59) (by decide) dX10_chosen_28 <|
  bw_sub [1, 0] rfl (t_X10_chosen_b59 hZ hE 2 w3))) (fun _ =>
  bw_iconst hZ 1 (by decide) dX10_chosen_11 <|
  bw_istore hZ (by decide) rfl dX10_chosen_12 <|
  bw_goto hZ (tgt := 59) (by decide) dX10_chosen_14 <|
  bw_sub [1, 0] rfl (t_X10_chosen_b59 hZ hE 1 w1))
theorem c_X10_chosen (l : Launch) (Y : Ev) (hY : Y.1 = SC) (s1 : Nat) (s2 : Nat) (s3 : Nat) (s4 : Nat) (hs1 : s1 < sNum) (hs2 : s2 < sNum) (hs3 : s3 < sNum) (hs4 : s4 < sNum) (w : Wd) : CI l Y yX10_chosen cX10_chosen 6 6 [.ref (ph Y 1), .ref (sK Y s1), .ref (sK Y s2), .ref (sK Y s3), .ref (sK Y s4)] w .int (f_X10_chosen s1 s2 s3 s4 w) := by
  refine CI_of (S := SC) (by decide) (Nat.le_of_ble_eq_true rfl) hY ?_
  intro Z hl hY2 hZ hE
  subst hY2
  exact t_X10_chosen hZ hE s1 s2 s3 s4 hs1 hs2 hs3 hs4 w
-- WhichWill$Estate.readRule
theorem dX0_readRule_0 : decode cX0_readRule 0 = .ok (.iload_n 1, 1) := by decide +kernel
theorem dX0_readRule_1 : decode cX0_readRule 1 = .ok (.tableswitch 131 0 12 #[67, 131, 131, 90, 131, 131, 131, 131, 131, 74, 82, 105, 118], 67) := by decide +kernel
theorem dX0_readRule_68 : decode cX0_readRule 68 = .ok (.aload_n 0, 1) := by decide +kernel
theorem dX0_readRule_69 : decode cX0_readRule 69 = .ok (.iconst 0, 1) := by decide +kernel
theorem dX0_readRule_70 : decode cX0_readRule 70 = .ok (.iconst 3, 1) := by decide +kernel
theorem dX0_readRule_71 : decode cX0_readRule 71 = .ok (.invokevirtual 153, 3) := by decide +kernel
theorem dX0_readRule_74 : decode cX0_readRule 74 = .ok (.ireturn, 1) := by decide +kernel
theorem dX0_readRule_75 : decode cX0_readRule 75 = .ok (.aload_n 0, 1) := by decide +kernel
theorem dX0_readRule_76 : decode cX0_readRule 76 = .ok (.iconst 0, 1) := by decide +kernel
theorem dX0_readRule_77 : decode cX0_readRule 77 = .ok (.bipush 100, 2) := by decide +kernel
theorem dX0_readRule_79 : decode cX0_readRule 79 = .ok (.invokevirtual 153, 3) := by decide +kernel
theorem dX0_readRule_82 : decode cX0_readRule 82 = .ok (.ireturn, 1) := by decide +kernel
theorem dX0_readRule_83 : decode cX0_readRule 83 = .ok (.aload_n 0, 1) := by decide +kernel
theorem dX0_readRule_84 : decode cX0_readRule 84 = .ok (.iconst 0, 1) := by decide +kernel
theorem dX0_readRule_85 : decode cX0_readRule 85 = .ok (.bipush 90, 2) := by decide +kernel
theorem dX0_readRule_87 : decode cX0_readRule 87 = .ok (.invokevirtual 153, 3) := by decide +kernel
theorem dX0_readRule_90 : decode cX0_readRule 90 = .ok (.ireturn, 1) := by decide +kernel
theorem dX0_readRule_91 : decode cX0_readRule 91 = .ok (.iconst 1, 1) := by decide +kernel
theorem dX0_readRule_92 : decode cX0_readRule 92 = .ok (.aload_n 0, 1) := by decide +kernel
theorem dX0_readRule_93 : decode cX0_readRule 93 = .ok (.ldc 214, 2) := by decide +kernel
theorem dX0_readRule_95 : decode cX0_readRule 95 = .ok (.ldc 216, 2) := by decide +kernel
theorem dX0_readRule_97 : decode cX0_readRule 97 = .ok (.ldc 218, 2) := by decide +kernel
theorem dX0_readRule_99 : decode cX0_readRule 99 = .ok (.ldc 218, 2) := by decide +kernel
theorem dX0_readRule_101 : decode cX0_readRule 101 = .ok (.invokevirtual 220, 3) := by decide +kernel
theorem dX0_readRule_104 : decode cX0_readRule 104 = .ok (.iadd, 1) := by decide +kernel
theorem dX0_readRule_105 : decode cX0_readRule 105 = .ok (.ireturn, 1) := by decide +kernel
theorem dX0_readRule_106 : decode cX0_readRule 106 = .ok (.aload_n 0, 1) := by decide +kernel
theorem dX0_readRule_107 : decode cX0_readRule 107 = .ok (.ldc 224, 2) := by decide +kernel
theorem dX0_readRule_109 : decode cX0_readRule 109 = .ok (.ldc 226, 2) := by decide +kernel
theorem dX0_readRule_111 : decode cX0_readRule 111 = .ok (.ldc 121, 2) := by decide +kernel
theorem dX0_readRule_113 : decode cX0_readRule 113 = .ok (.ldc 122, 2) := by decide +kernel
theorem dX0_readRule_115 : decode cX0_readRule 115 = .ok (.invokevirtual 220, 3) := by decide +kernel
theorem dX0_readRule_118 : decode cX0_readRule 118 = .ok (.ireturn, 1) := by decide +kernel
theorem dX0_readRule_119 : decode cX0_readRule 119 = .ok (.aload_n 0, 1) := by decide +kernel
theorem dX0_readRule_120 : decode cX0_readRule 120 = .ok (.ldc 224, 2) := by decide +kernel
theorem dX0_readRule_122 : decode cX0_readRule 122 = .ok (.ldc 218, 2) := by decide +kernel
theorem dX0_readRule_124 : decode cX0_readRule 124 = .ok (.ldc 121, 2) := by decide +kernel
theorem dX0_readRule_126 : decode cX0_readRule 126 = .ok (.ldc 122, 2) := by decide +kernel
theorem dX0_readRule_128 : decode cX0_readRule 128 = .ok (.invokevirtual 220, 3) := by decide +kernel
theorem dX0_readRule_131 : decode cX0_readRule 131 = .ok (.ireturn, 1) := by decide +kernel
theorem dX0_readRule_132 : decode cX0_readRule 132 = .ok (.iconst 1, 1) := by decide +kernel
theorem dX0_readRule_133 : decode cX0_readRule 133 = .ok (.ireturn, 1) := by decide +kernel
def f_X0_readRule (x1 : Int32) (w : Wd) : Option (Int32 × Wd) :=
  if x1 = 0 then
  (cl (f_X10_number 0 3 w) fun r12 w11 =>
  some (r12, w11))
  else
  if x1 = 1 then
  (some (1, w))
  else
  if x1 = 2 then
  (some (1, w))
  else
  if x1 = 3 then
  (cl (f_X10_chosen 14 15 16 16 w) fun r10 w9 =>
  some (1 + r10, w9))
  else
  if x1 = 4 then
  (some (1, w))
  else
  if x1 = 5 then
  (some (1, w))
  else
  if x1 = 6 then
  (some (1, w))
  else
  if x1 = 7 then
  (some (1, w))
  else
  if x1 = 8 then
  (some (1, w))
  else
  if x1 = 9 then
  (cl (f_X10_number 0 100 w) fun r8 w7 =>
  some (r8, w7))
  else
  if x1 = 10 then
  (cl (f_X10_number 0 90 w) fun r6 w5 =>
  some (r6, w5))
  else
  if x1 = 11 then
  (cl (f_X10_chosen 17 18 19 20 w) fun r4 w3 =>
  some (r4, w3))
  else
  if x1 = 12 then
  (cl (f_X10_chosen 17 16 19 20 w) fun r2 w1 =>
  some (r2, w1))
  else
  some (1, w)
set_option maxRecDepth 100000 in
set_option maxHeartbeats 4000000 in
theorem t_X0_readRule {Z : Cz (Int32 × Wd)} (hZ : OKZ Z SC cX0_readRule RX0 2 (some .int) 7) (hE : EndI Z) (x1 : Int32)  (w : Wd) : BW Z 2 0 [(0, .ref (ph (zY Z) 1)), (1, .int x1)] [] w (f_X0_readRule x1 w) :=
  bw_iload_n hZ 1 rfl dX0_readRule_0 <|
  bw_if (fun h => bw_tabIn hZ (tgt := 68) (off := 67) 0 (by rw [h]; decide) (by decide) (by decide) (by decide) (by decide) dX0_readRule_1 <|
  bw_aload_n hZ 0 rfl dX0_readRule_68 <|
  bw_iconst hZ 0 (by decide) dX0_readRule_69 <|
  bw_iconst hZ 3 (by decide) dX0_readRule_70 <|
  bw_callVI (As := [.int 0, .int 3]) hZ ml_RX0_153 rc_10 obC_1 (by decide) (c_X10_number (zl Z) (zY Z) (hZ_S hZ) 0 3 w) rfl rfl (Nat.le_of_ble_eq_true rfl) dX0_readRule_71 fun r12 w11 =>
  bw_iret hZ hE dX0_readRule_74) (fun h0 =>
  bw_if (fun h => bw_tabIn hZ (tgt := 132) (off := 131) 1 (by rw [h]; decide) (by decide) (by decide) (by decide) (by decide) dX0_readRule_1 <|
  bw_iconst hZ 1 (by decide) dX0_readRule_132 <|
  bw_iret hZ hE dX0_readRule_133) (fun h1 =>
  bw_if (fun h => bw_tabIn hZ (tgt := 132) (off := 131) 2 (by rw [h]; decide) (by decide) (by decide) (by decide) (by decide) dX0_readRule_1 <|
  bw_iconst hZ 1 (by decide) dX0_readRule_132 <|
  bw_iret hZ hE dX0_readRule_133) (fun h2 =>
  bw_if (fun h => bw_tabIn hZ (tgt := 91) (off := 90) 3 (by rw [h]; decide) (by decide) (by decide) (by decide) (by decide) dX0_readRule_1 <|
  bw_iconst hZ 1 (by decide) dX0_readRule_91 <|
  bw_aload_n hZ 0 rfl dX0_readRule_92 <|
  bw_ldcS hZ 14 rfl dX0_readRule_93 <|
  bw_ldcS hZ 15 rfl dX0_readRule_95 <|
  bw_ldcS hZ 16 rfl dX0_readRule_97 <|
  bw_ldcS hZ 16 rfl dX0_readRule_99 <|
  bw_callVI (As := [.ref (sK (zY Z) 14), .ref (sK (zY Z) 15), .ref (sK (zY Z) 16), .ref (sK (zY Z) 16)]) hZ ml_RX0_220 rc_10 obC_1 (by decide) (c_X10_chosen (zl Z) (zY Z) (hZ_S hZ) 14 15 16 16 (by decide) (by decide) (by decide) (by decide) w) rfl rfl (Nat.le_of_ble_eq_true rfl) dX0_readRule_101 fun r10 w9 =>
  bw_iadd hZ dX0_readRule_104 <|
  bw_iret hZ hE dX0_readRule_105) (fun h3 =>
  bw_if (fun h => bw_tabIn hZ (tgt := 132) (off := 131) 4 (by rw [h]; decide) (by decide) (by decide) (by decide) (by decide) dX0_readRule_1 <|
  bw_iconst hZ 1 (by decide) dX0_readRule_132 <|
  bw_iret hZ hE dX0_readRule_133) (fun h4 =>
  bw_if (fun h => bw_tabIn hZ (tgt := 132) (off := 131) 5 (by rw [h]; decide) (by decide) (by decide) (by decide) (by decide) dX0_readRule_1 <|
  bw_iconst hZ 1 (by decide) dX0_readRule_132 <|
  bw_iret hZ hE dX0_readRule_133) (fun h5 =>
  bw_if (fun h => bw_tabIn hZ (tgt := 132) (off := 131) 6 (by rw [h]; decide) (by decide) (by decide) (by decide) (by decide) dX0_readRule_1 <|
  bw_iconst hZ 1 (by decide) dX0_readRule_132 <|
  bw_iret hZ hE dX0_readRule_133) (fun h6 =>
  bw_if (fun h => bw_tabIn hZ (tgt := 132) (off := 131) 7 (by rw [h]; decide) (by decide) (by decide) (by decide) (by decide) dX0_readRule_1 <|
  bw_iconst hZ 1 (by decide) dX0_readRule_132 <|
  bw_iret hZ hE dX0_readRule_133) (fun h7 =>
  bw_if (fun h => bw_tabIn hZ (tgt := 132) (off := 131) 8 (by rw [h]; decide) (by decide) (by decide) (by decide) (by decide) dX0_readRule_1 <|
  bw_iconst hZ 1 (by decide) dX0_readRule_132 <|
  bw_iret hZ hE dX0_readRule_133) (fun h8 =>
  bw_if (fun h => bw_tabIn hZ (tgt := 75) (off := 74) 9 (by rw [h]; decide) (by decide) (by decide) (by decide) (by decide) dX0_readRule_1 <|
  bw_aload_n hZ 0 rfl dX0_readRule_75 <|
  bw_iconst hZ 0 (by decide) dX0_readRule_76 <|
  bw_bipush hZ 100 (by decide) dX0_readRule_77 <|
  bw_callVI (As := [.int 0, .int 100]) hZ ml_RX0_153 rc_10 obC_1 (by decide) (c_X10_number (zl Z) (zY Z) (hZ_S hZ) 0 100 w) rfl rfl (Nat.le_of_ble_eq_true rfl) dX0_readRule_79 fun r8 w7 =>
  bw_iret hZ hE dX0_readRule_82) (fun h9 =>
  bw_if (fun h => bw_tabIn hZ (tgt := 83) (off := 82) 10 (by rw [h]; decide) (by decide) (by decide) (by decide) (by decide) dX0_readRule_1 <|
  bw_aload_n hZ 0 rfl dX0_readRule_83 <|
  bw_iconst hZ 0 (by decide) dX0_readRule_84 <|
  bw_bipush hZ 90 (by decide) dX0_readRule_85 <|
  bw_callVI (As := [.int 0, .int 90]) hZ ml_RX0_153 rc_10 obC_1 (by decide) (c_X10_number (zl Z) (zY Z) (hZ_S hZ) 0 90 w) rfl rfl (Nat.le_of_ble_eq_true rfl) dX0_readRule_87 fun r6 w5 =>
  bw_iret hZ hE dX0_readRule_90) (fun h10 =>
  bw_if (fun h => bw_tabIn hZ (tgt := 106) (off := 105) 11 (by rw [h]; decide) (by decide) (by decide) (by decide) (by decide) dX0_readRule_1 <|
  bw_aload_n hZ 0 rfl dX0_readRule_106 <|
  bw_ldcS hZ 17 rfl dX0_readRule_107 <|
  bw_ldcS hZ 18 rfl dX0_readRule_109 <|
  bw_ldcS hZ 19 rfl dX0_readRule_111 <|
  bw_ldcS hZ 20 rfl dX0_readRule_113 <|
  bw_callVI (As := [.ref (sK (zY Z) 17), .ref (sK (zY Z) 18), .ref (sK (zY Z) 19), .ref (sK (zY Z) 20)]) hZ ml_RX0_220 rc_10 obC_1 (by decide) (c_X10_chosen (zl Z) (zY Z) (hZ_S hZ) 17 18 19 20 (by decide) (by decide) (by decide) (by decide) w) rfl rfl (Nat.le_of_ble_eq_true rfl) dX0_readRule_115 fun r4 w3 =>
  bw_iret hZ hE dX0_readRule_118) (fun h11 =>
  bw_if (fun h => bw_tabIn hZ (tgt := 119) (off := 118) 12 (by rw [h]; decide) (by decide) (by decide) (by decide) (by decide) dX0_readRule_1 <|
  bw_aload_n hZ 0 rfl dX0_readRule_119 <|
  bw_ldcS hZ 17 rfl dX0_readRule_120 <|
  bw_ldcS hZ 16 rfl dX0_readRule_122 <|
  bw_ldcS hZ 19 rfl dX0_readRule_124 <|
  bw_ldcS hZ 20 rfl dX0_readRule_126 <|
  bw_callVI (As := [.ref (sK (zY Z) 17), .ref (sK (zY Z) 16), .ref (sK (zY Z) 19), .ref (sK (zY Z) 20)]) hZ ml_RX0_220 rc_10 obC_1 (by decide) (c_X10_chosen (zl Z) (zY Z) (hZ_S hZ) 17 16 19 20 (by decide) (by decide) (by decide) (by decide) w) rfl rfl (Nat.le_of_ble_eq_true rfl) dX0_readRule_128 fun r2 w1 =>
  bw_iret hZ hE dX0_readRule_131) (fun h12 =>
  bw_tabOut hZ (tgt := 132) (by have q0 := ne_int h0 (n := 0) (by decide); have q1 := ne_int h1 (n := 1) (by decide); have q2 := ne_int h2 (n := 2) (by decide); have q3 := ne_int h3 (n := 3) (by decide); have q4 := ne_int h4 (n := 4) (by decide); have q5 := ne_int h5 (n := 5) (by decide); have q6 := ne_int h6 (n := 6) (by decide); have q7 := ne_int h7 (n := 7) (by decide); have q8 := ne_int h8 (n := 8) (by decide); have q9 := ne_int h9 (n := 9) (by decide); have q10 := ne_int h10 (n := 10) (by decide); have q11 := ne_int h11 (n := 11) (by decide); have q12 := ne_int h12 (n := 12) (by decide); omega) (by decide) dX0_readRule_1 <|
  bw_iconst hZ 1 (by decide) dX0_readRule_132 <|
  bw_iret hZ hE dX0_readRule_133)))))))))))))
theorem c_X0_readRule (l : Launch) (Y : Ev) (hY : Y.1 = SC) (x1 : Int32)  (w : Wd) : CI l Y yX0_readRule cX0_readRule 2 7 [.ref (ph Y 1), .int x1] w .int (f_X0_readRule x1 w) := by
  refine CI_of (S := SC) (by decide) (Nat.le_of_ble_eq_true rfl) hY ?_
  intro Z hl hY2 hZ hE
  subst hY2
  exact t_X0_readRule hZ hE x1 w
-- WhichWill$Estate.ruleNamed
theorem dX0_ruleNamed_0 : decode cX0_ruleNamed 0 = .ok (.aload_n 0, 1) := by decide +kernel
theorem dX0_ruleNamed_1 : decode cX0_ruleNamed 1 = .ok (.ldc 189, 2) := by decide +kernel
theorem dX0_ruleNamed_3 : decode cX0_ruleNamed 3 = .ok (.invokevirtual 109, 3) := by decide +kernel
theorem dX0_ruleNamed_6 : decode cX0_ruleNamed 6 = .ok (.ifCond .eq 5, 3) := by decide +kernel
theorem dX0_ruleNamed_9 : decode cX0_ruleNamed 9 = .ok (.iconst 0, 1) := by decide +kernel
theorem dX0_ruleNamed_10 : decode cX0_ruleNamed 10 = .ok (.ireturn, 1) := by decide +kernel
theorem dX0_ruleNamed_11 : decode cX0_ruleNamed 11 = .ok (.aload_n 0, 1) := by decide +kernel
theorem dX0_ruleNamed_12 : decode cX0_ruleNamed 12 = .ok (.ldc 191, 2) := by decide +kernel
theorem dX0_ruleNamed_14 : decode cX0_ruleNamed 14 = .ok (.invokevirtual 109, 3) := by decide +kernel
theorem dX0_ruleNamed_17 : decode cX0_ruleNamed 17 = .ok (.ifCond .eq 5, 3) := by decide +kernel
theorem dX0_ruleNamed_20 : decode cX0_ruleNamed 20 = .ok (.iconst 1, 1) := by decide +kernel
theorem dX0_ruleNamed_21 : decode cX0_ruleNamed 21 = .ok (.ireturn, 1) := by decide +kernel
theorem dX0_ruleNamed_22 : decode cX0_ruleNamed 22 = .ok (.aload_n 0, 1) := by decide +kernel
theorem dX0_ruleNamed_23 : decode cX0_ruleNamed 23 = .ok (.ldc 193, 2) := by decide +kernel
theorem dX0_ruleNamed_25 : decode cX0_ruleNamed 25 = .ok (.invokevirtual 109, 3) := by decide +kernel
theorem dX0_ruleNamed_28 : decode cX0_ruleNamed 28 = .ok (.ifCond .eq 5, 3) := by decide +kernel
theorem dX0_ruleNamed_31 : decode cX0_ruleNamed 31 = .ok (.iconst 2, 1) := by decide +kernel
theorem dX0_ruleNamed_32 : decode cX0_ruleNamed 32 = .ok (.ireturn, 1) := by decide +kernel
theorem dX0_ruleNamed_33 : decode cX0_ruleNamed 33 = .ok (.aload_n 0, 1) := by decide +kernel
theorem dX0_ruleNamed_34 : decode cX0_ruleNamed 34 = .ok (.ldc 195, 2) := by decide +kernel
theorem dX0_ruleNamed_36 : decode cX0_ruleNamed 36 = .ok (.invokevirtual 109, 3) := by decide +kernel
theorem dX0_ruleNamed_39 : decode cX0_ruleNamed 39 = .ok (.ifCond .eq 5, 3) := by decide +kernel
theorem dX0_ruleNamed_42 : decode cX0_ruleNamed 42 = .ok (.iconst 3, 1) := by decide +kernel
theorem dX0_ruleNamed_43 : decode cX0_ruleNamed 43 = .ok (.ireturn, 1) := by decide +kernel
theorem dX0_ruleNamed_44 : decode cX0_ruleNamed 44 = .ok (.aload_n 0, 1) := by decide +kernel
theorem dX0_ruleNamed_45 : decode cX0_ruleNamed 45 = .ok (.ldc 197, 2) := by decide +kernel
theorem dX0_ruleNamed_47 : decode cX0_ruleNamed 47 = .ok (.invokevirtual 109, 3) := by decide +kernel
theorem dX0_ruleNamed_50 : decode cX0_ruleNamed 50 = .ok (.ifCond .eq 5, 3) := by decide +kernel
theorem dX0_ruleNamed_53 : decode cX0_ruleNamed 53 = .ok (.iconst 4, 1) := by decide +kernel
theorem dX0_ruleNamed_54 : decode cX0_ruleNamed 54 = .ok (.ireturn, 1) := by decide +kernel
theorem dX0_ruleNamed_55 : decode cX0_ruleNamed 55 = .ok (.aload_n 0, 1) := by decide +kernel
theorem dX0_ruleNamed_56 : decode cX0_ruleNamed 56 = .ok (.ldc 199, 2) := by decide +kernel
theorem dX0_ruleNamed_58 : decode cX0_ruleNamed 58 = .ok (.invokevirtual 109, 3) := by decide +kernel
theorem dX0_ruleNamed_61 : decode cX0_ruleNamed 61 = .ok (.ifCond .eq 5, 3) := by decide +kernel
theorem dX0_ruleNamed_64 : decode cX0_ruleNamed 64 = .ok (.iconst 5, 1) := by decide +kernel
theorem dX0_ruleNamed_65 : decode cX0_ruleNamed 65 = .ok (.ireturn, 1) := by decide +kernel
theorem dX0_ruleNamed_66 : decode cX0_ruleNamed 66 = .ok (.aload_n 0, 1) := by decide +kernel
theorem dX0_ruleNamed_67 : decode cX0_ruleNamed 67 = .ok (.ldc 201, 2) := by decide +kernel
theorem dX0_ruleNamed_69 : decode cX0_ruleNamed 69 = .ok (.invokevirtual 109, 3) := by decide +kernel
theorem dX0_ruleNamed_72 : decode cX0_ruleNamed 72 = .ok (.ifCond .eq 6, 3) := by decide +kernel
theorem dX0_ruleNamed_75 : decode cX0_ruleNamed 75 = .ok (.bipush 6, 2) := by decide +kernel
theorem dX0_ruleNamed_77 : decode cX0_ruleNamed 77 = .ok (.ireturn, 1) := by decide +kernel
theorem dX0_ruleNamed_78 : decode cX0_ruleNamed 78 = .ok (.aload_n 0, 1) := by decide +kernel
theorem dX0_ruleNamed_79 : decode cX0_ruleNamed 79 = .ok (.ldc 203, 2) := by decide +kernel
theorem dX0_ruleNamed_81 : decode cX0_ruleNamed 81 = .ok (.invokevirtual 109, 3) := by decide +kernel
theorem dX0_ruleNamed_84 : decode cX0_ruleNamed 84 = .ok (.ifCond .eq 6, 3) := by decide +kernel
theorem dX0_ruleNamed_87 : decode cX0_ruleNamed 87 = .ok (.bipush 7, 2) := by decide +kernel
theorem dX0_ruleNamed_89 : decode cX0_ruleNamed 89 = .ok (.ireturn, 1) := by decide +kernel
theorem dX0_ruleNamed_90 : decode cX0_ruleNamed 90 = .ok (.aload_n 0, 1) := by decide +kernel
theorem dX0_ruleNamed_91 : decode cX0_ruleNamed 91 = .ok (.ldc 205, 2) := by decide +kernel
theorem dX0_ruleNamed_93 : decode cX0_ruleNamed 93 = .ok (.invokevirtual 109, 3) := by decide +kernel
theorem dX0_ruleNamed_96 : decode cX0_ruleNamed 96 = .ok (.ifCond .eq 6, 3) := by decide +kernel
theorem dX0_ruleNamed_99 : decode cX0_ruleNamed 99 = .ok (.bipush 8, 2) := by decide +kernel
theorem dX0_ruleNamed_101 : decode cX0_ruleNamed 101 = .ok (.ireturn, 1) := by decide +kernel
theorem dX0_ruleNamed_102 : decode cX0_ruleNamed 102 = .ok (.aload_n 0, 1) := by decide +kernel
theorem dX0_ruleNamed_103 : decode cX0_ruleNamed 103 = .ok (.ldc 207, 2) := by decide +kernel
theorem dX0_ruleNamed_105 : decode cX0_ruleNamed 105 = .ok (.invokevirtual 109, 3) := by decide +kernel
theorem dX0_ruleNamed_108 : decode cX0_ruleNamed 108 = .ok (.ifCond .eq 6, 3) := by decide +kernel
theorem dX0_ruleNamed_111 : decode cX0_ruleNamed 111 = .ok (.bipush 9, 2) := by decide +kernel
theorem dX0_ruleNamed_113 : decode cX0_ruleNamed 113 = .ok (.ireturn, 1) := by decide +kernel
theorem dX0_ruleNamed_114 : decode cX0_ruleNamed 114 = .ok (.aload_n 0, 1) := by decide +kernel
theorem dX0_ruleNamed_115 : decode cX0_ruleNamed 115 = .ok (.ldc 208, 2) := by decide +kernel
theorem dX0_ruleNamed_117 : decode cX0_ruleNamed 117 = .ok (.invokevirtual 109, 3) := by decide +kernel
theorem dX0_ruleNamed_120 : decode cX0_ruleNamed 120 = .ok (.ifCond .eq 6, 3) := by decide +kernel
theorem dX0_ruleNamed_123 : decode cX0_ruleNamed 123 = .ok (.bipush 10, 2) := by decide +kernel
theorem dX0_ruleNamed_125 : decode cX0_ruleNamed 125 = .ok (.ireturn, 1) := by decide +kernel
theorem dX0_ruleNamed_126 : decode cX0_ruleNamed 126 = .ok (.aload_n 0, 1) := by decide +kernel
theorem dX0_ruleNamed_127 : decode cX0_ruleNamed 127 = .ok (.ldc 210, 2) := by decide +kernel
theorem dX0_ruleNamed_129 : decode cX0_ruleNamed 129 = .ok (.invokevirtual 109, 3) := by decide +kernel
theorem dX0_ruleNamed_132 : decode cX0_ruleNamed 132 = .ok (.ifCond .eq 6, 3) := by decide +kernel
theorem dX0_ruleNamed_135 : decode cX0_ruleNamed 135 = .ok (.bipush 11, 2) := by decide +kernel
theorem dX0_ruleNamed_137 : decode cX0_ruleNamed 137 = .ok (.ireturn, 1) := by decide +kernel
theorem dX0_ruleNamed_138 : decode cX0_ruleNamed 138 = .ok (.aload_n 0, 1) := by decide +kernel
theorem dX0_ruleNamed_139 : decode cX0_ruleNamed 139 = .ok (.ldc 212, 2) := by decide +kernel
theorem dX0_ruleNamed_141 : decode cX0_ruleNamed 141 = .ok (.invokevirtual 109, 3) := by decide +kernel
theorem dX0_ruleNamed_144 : decode cX0_ruleNamed 144 = .ok (.ifCond .eq 8, 3) := by decide +kernel
theorem dX0_ruleNamed_147 : decode cX0_ruleNamed 147 = .ok (.bipush 12, 2) := by decide +kernel
theorem dX0_ruleNamed_149 : decode cX0_ruleNamed 149 = .ok (.goto 4, 3) := by decide +kernel
theorem dX0_ruleNamed_152 : decode cX0_ruleNamed 152 = .ok (.iconst (-1), 1) := by decide +kernel
theorem dX0_ruleNamed_153 : decode cX0_ruleNamed 153 = .ok (.ireturn, 1) := by decide +kernel
def f_X0_ruleNamed (w : Wd) : Option (Int32 × Wd) :=
  cl (f_X10_is 1 w) fun r2 w1 =>
  if r2 = 0 then
  (cl (f_X10_is 2 w1) fun r4 w3 =>
  if r4 = 0 then
  (cl (f_X10_is 3 w3) fun r6 w5 =>
  if r6 = 0 then
  (cl (f_X10_is 4 w5) fun r8 w7 =>
  if r8 = 0 then
  (cl (f_X10_is 5 w7) fun r10 w9 =>
  if r10 = 0 then
  (cl (f_X10_is 6 w9) fun r12 w11 =>
  if r12 = 0 then
  (cl (f_X10_is 7 w11) fun r14 w13 =>
  if r14 = 0 then
  (cl (f_X10_is 8 w13) fun r16 w15 =>
  if r16 = 0 then
  (cl (f_X10_is 9 w15) fun r18 w17 =>
  if r18 = 0 then
  (cl (f_X10_is 10 w17) fun r20 w19 =>
  if r20 = 0 then
  (cl (f_X10_is 11 w19) fun r22 w21 =>
  if r22 = 0 then
  (cl (f_X10_is 12 w21) fun r24 w23 =>
  if r24 = 0 then
  (cl (f_X10_is 13 w23) fun r26 w25 =>
  if r26 = 0 then
  (some ((-1), w25))
  else
  some (12, w25))
  else
  some (11, w23))
  else
  some (10, w21))
  else
  some (9, w19))
  else
  some (8, w17))
  else
  some (7, w15))
  else
  some (6, w13))
  else
  some (5, w11))
  else
  some (4, w9))
  else
  some (3, w7))
  else
  some (2, w5))
  else
  some (1, w3))
  else
  some (0, w1)
set_option maxRecDepth 100000 in
set_option maxHeartbeats 4000000 in
theorem t_X0_ruleNamed {Z : Cz (Int32 × Wd)} (hZ : OKZ Z SC cX0_ruleNamed RX0 1 (some .int) 6) (hE : EndI Z)   (w : Wd) : BW Z 1 0 [(0, .ref (ph (zY Z) 1))] [] w (f_X0_ruleNamed w) :=
  bw_aload_n hZ 0 rfl dX0_ruleNamed_0 <|
  bw_ldcS hZ 1 rfl dX0_ruleNamed_1 <|
  bw_callVI (As := [.ref (sK (zY Z) 1)]) hZ ml_RX0_109 rc_10 obC_1 (by decide) (c_X10_is (zl Z) (zY Z) (hZ_S hZ) 1 (by decide) w) rfl rfl (Nat.le_of_ble_eq_true rfl) dX0_ruleNamed_3 fun r2 w1 =>
  bw_if_eq hZ (tgt := 11) (by decide) dX0_ruleNamed_6 (fun _ =>
  bw_aload_n hZ 0 rfl dX0_ruleNamed_11 <|
  bw_ldcS hZ 2 rfl dX0_ruleNamed_12 <|
  bw_callVI (As := [.ref (sK (zY Z) 2)]) hZ ml_RX0_109 rc_10 obC_1 (by decide) (c_X10_is (zl Z) (zY Z) (hZ_S hZ) 2 (by decide) w1) rfl rfl (Nat.le_of_ble_eq_true rfl) dX0_ruleNamed_14 fun r4 w3 =>
  bw_if_eq hZ (tgt := 22) (by decide) dX0_ruleNamed_17 (fun _ =>
  bw_aload_n hZ 0 rfl dX0_ruleNamed_22 <|
  bw_ldcS hZ 3 rfl dX0_ruleNamed_23 <|
  bw_callVI (As := [.ref (sK (zY Z) 3)]) hZ ml_RX0_109 rc_10 obC_1 (by decide) (c_X10_is (zl Z) (zY Z) (hZ_S hZ) 3 (by decide) w3) rfl rfl (Nat.le_of_ble_eq_true rfl) dX0_ruleNamed_25 fun r6 w5 =>
  bw_if_eq hZ (tgt := 33) (by decide) dX0_ruleNamed_28 (fun _ =>
  bw_aload_n hZ 0 rfl dX0_ruleNamed_33 <|
  bw_ldcS hZ 4 rfl dX0_ruleNamed_34 <|
  bw_callVI (As := [.ref (sK (zY Z) 4)]) hZ ml_RX0_109 rc_10 obC_1 (by decide) (c_X10_is (zl Z) (zY Z) (hZ_S hZ) 4 (by decide) w5) rfl rfl (Nat.le_of_ble_eq_true rfl) dX0_ruleNamed_36 fun r8 w7 =>
  bw_if_eq hZ (tgt := 44) (by decide) dX0_ruleNamed_39 (fun _ =>
  bw_aload_n hZ 0 rfl dX0_ruleNamed_44 <|
  bw_ldcS hZ 5 rfl dX0_ruleNamed_45 <|
  bw_callVI (As := [.ref (sK (zY Z) 5)]) hZ ml_RX0_109 rc_10 obC_1 (by decide) (c_X10_is (zl Z) (zY Z) (hZ_S hZ) 5 (by decide) w7) rfl rfl (Nat.le_of_ble_eq_true rfl) dX0_ruleNamed_47 fun r10 w9 =>
  bw_if_eq hZ (tgt := 55) (by decide) dX0_ruleNamed_50 (fun _ =>
  bw_aload_n hZ 0 rfl dX0_ruleNamed_55 <|
  bw_ldcS hZ 6 rfl dX0_ruleNamed_56 <|
  bw_callVI (As := [.ref (sK (zY Z) 6)]) hZ ml_RX0_109 rc_10 obC_1 (by decide) (c_X10_is (zl Z) (zY Z) (hZ_S hZ) 6 (by decide) w9) rfl rfl (Nat.le_of_ble_eq_true rfl) dX0_ruleNamed_58 fun r12 w11 =>
  bw_if_eq hZ (tgt := 66) (by decide) dX0_ruleNamed_61 (fun _ =>
  bw_aload_n hZ 0 rfl dX0_ruleNamed_66 <|
  bw_ldcS hZ 7 rfl dX0_ruleNamed_67 <|
  bw_callVI (As := [.ref (sK (zY Z) 7)]) hZ ml_RX0_109 rc_10 obC_1 (by decide) (c_X10_is (zl Z) (zY Z) (hZ_S hZ) 7 (by decide) w11) rfl rfl (Nat.le_of_ble_eq_true rfl) dX0_ruleNamed_69 fun r14 w13 =>
  bw_if_eq hZ (tgt := 78) (by decide) dX0_ruleNamed_72 (fun _ =>
  bw_aload_n hZ 0 rfl dX0_ruleNamed_78 <|
  bw_ldcS hZ 8 rfl dX0_ruleNamed_79 <|
  bw_callVI (As := [.ref (sK (zY Z) 8)]) hZ ml_RX0_109 rc_10 obC_1 (by decide) (c_X10_is (zl Z) (zY Z) (hZ_S hZ) 8 (by decide) w13) rfl rfl (Nat.le_of_ble_eq_true rfl) dX0_ruleNamed_81 fun r16 w15 =>
  bw_if_eq hZ (tgt := 90) (by decide) dX0_ruleNamed_84 (fun _ =>
  bw_aload_n hZ 0 rfl dX0_ruleNamed_90 <|
  bw_ldcS hZ 9 rfl dX0_ruleNamed_91 <|
  bw_callVI (As := [.ref (sK (zY Z) 9)]) hZ ml_RX0_109 rc_10 obC_1 (by decide) (c_X10_is (zl Z) (zY Z) (hZ_S hZ) 9 (by decide) w15) rfl rfl (Nat.le_of_ble_eq_true rfl) dX0_ruleNamed_93 fun r18 w17 =>
  bw_if_eq hZ (tgt := 102) (by decide) dX0_ruleNamed_96 (fun _ =>
  bw_aload_n hZ 0 rfl dX0_ruleNamed_102 <|
  bw_ldcS hZ 10 rfl dX0_ruleNamed_103 <|
  bw_callVI (As := [.ref (sK (zY Z) 10)]) hZ ml_RX0_109 rc_10 obC_1 (by decide) (c_X10_is (zl Z) (zY Z) (hZ_S hZ) 10 (by decide) w17) rfl rfl (Nat.le_of_ble_eq_true rfl) dX0_ruleNamed_105 fun r20 w19 =>
  bw_if_eq hZ (tgt := 114) (by decide) dX0_ruleNamed_108 (fun _ =>
  bw_aload_n hZ 0 rfl dX0_ruleNamed_114 <|
  bw_ldcS hZ 11 rfl dX0_ruleNamed_115 <|
  bw_callVI (As := [.ref (sK (zY Z) 11)]) hZ ml_RX0_109 rc_10 obC_1 (by decide) (c_X10_is (zl Z) (zY Z) (hZ_S hZ) 11 (by decide) w19) rfl rfl (Nat.le_of_ble_eq_true rfl) dX0_ruleNamed_117 fun r22 w21 =>
  bw_if_eq hZ (tgt := 126) (by decide) dX0_ruleNamed_120 (fun _ =>
  bw_aload_n hZ 0 rfl dX0_ruleNamed_126 <|
  bw_ldcS hZ 12 rfl dX0_ruleNamed_127 <|
  bw_callVI (As := [.ref (sK (zY Z) 12)]) hZ ml_RX0_109 rc_10 obC_1 (by decide) (c_X10_is (zl Z) (zY Z) (hZ_S hZ) 12 (by decide) w21) rfl rfl (Nat.le_of_ble_eq_true rfl) dX0_ruleNamed_129 fun r24 w23 =>
  bw_if_eq hZ (tgt := 138) (by decide) dX0_ruleNamed_132 (fun _ =>
  bw_aload_n hZ 0 rfl dX0_ruleNamed_138 <|
  bw_ldcS hZ 13 rfl dX0_ruleNamed_139 <|
  bw_callVI (As := [.ref (sK (zY Z) 13)]) hZ ml_RX0_109 rc_10 obC_1 (by decide) (c_X10_is (zl Z) (zY Z) (hZ_S hZ) 13 (by decide) w23) rfl rfl (Nat.le_of_ble_eq_true rfl) dX0_ruleNamed_141 fun r26 w25 =>
  bw_if_eq hZ (tgt := 152) (by decide) dX0_ruleNamed_144 (fun _ =>
  bw_iconst hZ (-1) (by decide) dX0_ruleNamed_152 <|
  bw_iret hZ hE dX0_ruleNamed_153) (fun _ =>
  bw_bipush hZ 12 (by decide) dX0_ruleNamed_147 <|
  bw_goto hZ (tgt := 153) (by decide) dX0_ruleNamed_149 <|
  bw_iret hZ hE dX0_ruleNamed_153)) (fun _ =>
  bw_bipush hZ 11 (by decide) dX0_ruleNamed_135 <|
  bw_iret hZ hE dX0_ruleNamed_137)) (fun _ =>
  bw_bipush hZ 10 (by decide) dX0_ruleNamed_123 <|
  bw_iret hZ hE dX0_ruleNamed_125)) (fun _ =>
  bw_bipush hZ 9 (by decide) dX0_ruleNamed_111 <|
  bw_iret hZ hE dX0_ruleNamed_113)) (fun _ =>
  bw_bipush hZ 8 (by decide) dX0_ruleNamed_99 <|
  bw_iret hZ hE dX0_ruleNamed_101)) (fun _ =>
  bw_bipush hZ 7 (by decide) dX0_ruleNamed_87 <|
  bw_iret hZ hE dX0_ruleNamed_89)) (fun _ =>
  bw_bipush hZ 6 (by decide) dX0_ruleNamed_75 <|
  bw_iret hZ hE dX0_ruleNamed_77)) (fun _ =>
  bw_iconst hZ 5 (by decide) dX0_ruleNamed_64 <|
  bw_iret hZ hE dX0_ruleNamed_65)) (fun _ =>
  bw_iconst hZ 4 (by decide) dX0_ruleNamed_53 <|
  bw_iret hZ hE dX0_ruleNamed_54)) (fun _ =>
  bw_iconst hZ 3 (by decide) dX0_ruleNamed_42 <|
  bw_iret hZ hE dX0_ruleNamed_43)) (fun _ =>
  bw_iconst hZ 2 (by decide) dX0_ruleNamed_31 <|
  bw_iret hZ hE dX0_ruleNamed_32)) (fun _ =>
  bw_iconst hZ 1 (by decide) dX0_ruleNamed_20 <|
  bw_iret hZ hE dX0_ruleNamed_21)) (fun _ =>
  bw_iconst hZ 0 (by decide) dX0_ruleNamed_9 <|
  bw_iret hZ hE dX0_ruleNamed_10)
theorem c_X0_ruleNamed (l : Launch) (Y : Ev) (hY : Y.1 = SC)   (w : Wd) : CI l Y yX0_ruleNamed cX0_ruleNamed 1 6 [.ref (ph Y 1)] w .int (f_X0_ruleNamed w) := by
  refine CI_of (S := SC) (by decide) (Nat.le_of_ble_eq_true rfl) hY ?_
  intro Z hl hY2 hZ hE
  subst hY2
  exact t_X0_ruleNamed hZ hE w
-- WhichWill$Estate.setUntoldRules
theorem dX0_setUntoldRules_0 : decode cX0_setUntoldRules 0 = .ok (.iload_n 1, 1) := by decide +kernel
theorem dX0_setUntoldRules_1 : decode cX0_setUntoldRules 1 = .ok (.bipush 13, 2) := by decide +kernel
theorem dX0_setUntoldRules_3 : decode cX0_setUntoldRules 3 = .ok (.imul, 1) := by decide +kernel
theorem dX0_setUntoldRules_4 : decode cX0_setUntoldRules 4 = .ok (.istore_n 2, 1) := by decide +kernel
theorem dX0_setUntoldRules_5 : decode cX0_setUntoldRules 5 = .ok (.iconst 0, 1) := by decide +kernel
theorem dX0_setUntoldRules_6 : decode cX0_setUntoldRules 6 = .ok (.istore_n 3, 1) := by decide +kernel
theorem dX0_setUntoldRules_7 : decode cX0_setUntoldRules 7 = .ok (.iload_n 3, 1) := by decide +kernel
theorem dX0_setUntoldRules_8 : decode cX0_setUntoldRules 8 = .ok (.bipush 13, 2) := by decide +kernel
theorem dX0_setUntoldRules_10 : decode cX0_setUntoldRules 10 = .ok (.if_icmp .ge 18, 3) := by decide +kernel
theorem dX0_setUntoldRules_13 : decode cX0_setUntoldRules 13 = .ok (.aload_n 0, 1) := by decide +kernel
theorem dX0_setUntoldRules_14 : decode cX0_setUntoldRules 14 = .ok (.getfield 26, 3) := by decide +kernel
theorem dX0_setUntoldRules_17 : decode cX0_setUntoldRules 17 = .ok (.iload_n 2, 1) := by decide +kernel
theorem dX0_setUntoldRules_18 : decode cX0_setUntoldRules 18 = .ok (.iload_n 3, 1) := by decide +kernel
theorem dX0_setUntoldRules_19 : decode cX0_setUntoldRules 19 = .ok (.iadd, 1) := by decide +kernel
theorem dX0_setUntoldRules_20 : decode cX0_setUntoldRules 20 = .ok (.iconst 0, 1) := by decide +kernel
theorem dX0_setUntoldRules_21 : decode cX0_setUntoldRules 21 = .ok (.iastore, 1) := by decide +kernel
theorem dX0_setUntoldRules_22 : decode cX0_setUntoldRules 22 = .ok (.iinc 3 1, 3) := by decide +kernel
theorem dX0_setUntoldRules_25 : decode cX0_setUntoldRules 25 = .ok (.goto (-18), 3) := by decide +kernel
theorem dX0_setUntoldRules_28 : decode cX0_setUntoldRules 28 = .ok (.aload_n 0, 1) := by decide +kernel
theorem dX0_setUntoldRules_29 : decode cX0_setUntoldRules 29 = .ok (.getfield 26, 3) := by decide +kernel
theorem dX0_setUntoldRules_32 : decode cX0_setUntoldRules 32 = .ok (.iload_n 2, 1) := by decide +kernel
theorem dX0_setUntoldRules_33 : decode cX0_setUntoldRules 33 = .ok (.iconst 0, 1) := by decide +kernel
theorem dX0_setUntoldRules_34 : decode cX0_setUntoldRules 34 = .ok (.iadd, 1) := by decide +kernel
theorem dX0_setUntoldRules_35 : decode cX0_setUntoldRules 35 = .ok (.iconst 2, 1) := by decide +kernel
theorem dX0_setUntoldRules_36 : decode cX0_setUntoldRules 36 = .ok (.iastore, 1) := by decide +kernel
theorem dX0_setUntoldRules_37 : decode cX0_setUntoldRules 37 = .ok (.aload_n 0, 1) := by decide +kernel
theorem dX0_setUntoldRules_38 : decode cX0_setUntoldRules 38 = .ok (.getfield 26, 3) := by decide +kernel
theorem dX0_setUntoldRules_41 : decode cX0_setUntoldRules 41 = .ok (.iload_n 2, 1) := by decide +kernel
theorem dX0_setUntoldRules_42 : decode cX0_setUntoldRules 42 = .ok (.bipush 9, 2) := by decide +kernel
theorem dX0_setUntoldRules_44 : decode cX0_setUntoldRules 44 = .ok (.iadd, 1) := by decide +kernel
theorem dX0_setUntoldRules_45 : decode cX0_setUntoldRules 45 = .ok (.bipush 50, 2) := by decide +kernel
theorem dX0_setUntoldRules_47 : decode cX0_setUntoldRules 47 = .ok (.iastore, 1) := by decide +kernel
theorem dX0_setUntoldRules_48 : decode cX0_setUntoldRules 48 = .ok (.return_, 1) := by decide +kernel
def X0_setUntoldRules_b7 (k7 : Int32 → Int32 → Wd → Option (Wd)) (y2 : Int32) (y3 : Int32) (w : Wd) : Option (Wd) :=
  if 13 ≤ y3 then
  (if inb (y2 + 0) 52 = true then
  (lt (wI w 51 (Int32.toNatClampNeg (y2 + 0)) 2) fun w2 =>
  if inb (y2 + 9) 52 = true then
  (lt (wI w2 51 (Int32.toNatClampNeg (y2 + 9)) 50) fun w3 =>
  some w3)
  else none)
  else none)
  else
  if inb (y2 + y3) 52 = true then
  (lt (wI w 51 (Int32.toNatClampNeg (y2 + y3)) 0) fun w4 =>
  k7 y2 (y3 + 1) w4)
  else none
set_option maxRecDepth 100000 in
set_option maxHeartbeats 4000000 in
theorem t_X0_setUntoldRules_b7 {Z : Cz (Wd)} (hZ : OKZ Z SC cX0_setUntoldRules RX0 4 none 1) (hE : EndV Z) (k7 : Int32 → Int32 → Wd → Option (Wd)) (hk7 : ∀ (y2 : Int32) (y3 : Int32)  (w : Wd), BW Z 4 7 [(0, .ref (ph (zY Z) 44)), (2, .int y2), (3, .int y3)] [] w (k7 y2 y3 w)) (y2 : Int32) (y3 : Int32)  (w : Wd) : BW Z 4 7 [(0, .ref (ph (zY Z) 44)), (2, .int y2), (3, .int y3)] [] w (X0_setUntoldRules_b7 k7 y2 y3 w) :=
  bw_iload_n hZ 2 rfl dX0_setUntoldRules_7 <|
  bw_bipush hZ 13 (by decide) dX0_setUntoldRules_8 <|
  bw_icmp_ge hZ (tgt := 28) (by decide) dX0_setUntoldRules_10 (fun _ =>
  bw_aload_n hZ 0 rfl dX0_setUntoldRules_28 <|
  bw_getR hZ fl_RX0_26 obC_44 rfl dX0_setUntoldRules_29 <|
  bw_iload_n hZ 1 rfl dX0_setUntoldRules_32 <|
  bw_iconst hZ 0 (by decide) dX0_setUntoldRules_33 <|
  bw_iadd hZ dX0_setUntoldRules_34 <|
  bw_iconst hZ 2 (by decide) dX0_setUntoldRules_35 <|
  bw_iast hZ (arC_51 _) dX0_setUntoldRules_36 fun w2 =>
  bw_aload_n hZ 0 rfl dX0_setUntoldRules_37 <|
  bw_getR hZ fl_RX0_26 obC_44 rfl dX0_setUntoldRules_38 <|
  bw_iload_n hZ 1 rfl dX0_setUntoldRules_41 <|
  bw_bipush hZ 9 (by decide) dX0_setUntoldRules_42 <|
  bw_iadd hZ dX0_setUntoldRules_44 <|
  bw_bipush hZ 50 (by decide) dX0_setUntoldRules_45 <|
  bw_iast hZ (arC_51 _) dX0_setUntoldRules_47 fun w3 =>
  bw_vret hZ hE dX0_setUntoldRules_48) (fun _ =>
  bw_aload_n hZ 0 rfl dX0_setUntoldRules_13 <|
  bw_getR hZ fl_RX0_26 obC_44 rfl dX0_setUntoldRules_14 <|
  bw_iload_n hZ 1 rfl dX0_setUntoldRules_17 <|
  bw_iload_n hZ 2 rfl dX0_setUntoldRules_18 <|
  bw_iadd hZ dX0_setUntoldRules_19 <|
  bw_iconst hZ 0 (by decide) dX0_setUntoldRules_20 <|
  bw_iast hZ (arC_51 _) dX0_setUntoldRules_21 fun w4 =>
  bw_iinc hZ 1 2 rfl (by decide) (by decide) rfl dX0_setUntoldRules_22 <|
  bw_goto hZ (tgt := 7) (by decide) dX0_setUntoldRules_25 <|
  bw_sub [1, 2, 0] rfl (hk7 y2 (y3 + 1) w4))
def X0_setUntoldRules_b7_L  : Int32 → Int32 → Wd → Option (Wd) :=
  lp fu (fun _ _ _ => none) (fun k7 => X0_setUntoldRules_b7 k7)
theorem t_X0_setUntoldRules_b7_L {Z : Cz (Wd)} (hZ : OKZ Z SC cX0_setUntoldRules RX0 4 none 1) (hE : EndV Z)  : ∀ (y2 : Int32) (y3 : Int32)  (w : Wd), BW Z 4 7 [(0, .ref (ph (zY Z) 44)), (2, .int y2), (3, .int y3)] [] w (X0_setUntoldRules_b7_L y2 y3 w) :=
  lp_bw (fun k7 => ∀ (y2 : Int32) (y3 : Int32)  (w : Wd), BW Z 4 7 [(0, .ref (ph (zY Z) 44)), (2, .int y2), (3, .int y3)] [] w (k7 y2 y3 w)) (fun _ _ _ => bw_none) (fun k7 hk7 y2 y3 w => t_X0_setUntoldRules_b7 hZ hE k7 hk7 y2 y3 w) fu
def f_X0_setUntoldRules (x1 : Int32) (w : Wd) : Option (Wd) :=
  lt (x1 * 13) fun v1 =>
  X0_setUntoldRules_b7_L v1 0 w
set_option maxRecDepth 100000 in
set_option maxHeartbeats 4000000 in
theorem t_X0_setUntoldRules {Z : Cz (Wd)} (hZ : OKZ Z SC cX0_setUntoldRules RX0 4 none 1) (hE : EndV Z) (x1 : Int32)  (w : Wd) : BW Z 4 0 [(0, .ref (ph (zY Z) 44)), (1, .int x1)] [] w (f_X0_setUntoldRules x1 w) :=
  bw_iload_n hZ 1 rfl dX0_setUntoldRules_0 <|
  bw_bipush hZ 13 (by decide) dX0_setUntoldRules_1 <|
  bw_imul hZ dX0_setUntoldRules_3 <|
  bw_nm fun v1 =>
  bw_istore_n hZ rfl (by decide) rfl dX0_setUntoldRules_4 <|
  bw_iconst hZ 0 (by decide) dX0_setUntoldRules_5 <|
  bw_istore_n hZ rfl (by decide) rfl dX0_setUntoldRules_6 <|
  bw_sub [2, 1, 0] rfl (t_X0_setUntoldRules_b7_L hZ hE v1 0 w)
theorem c_X0_setUntoldRules (l : Launch) (Y : Ev) (hY : Y.1 = SC) (x1 : Int32)  (w : Wd) : CV l Y yX0_setUntoldRules cX0_setUntoldRules 4 1 [.ref (ph Y 44), .int x1] w (f_X0_setUntoldRules x1 w) := by
  refine CV_of (S := SC) (by decide) (Nat.le_of_ble_eq_true rfl) hY ?_
  intro Z hl hY2 hZ hE
  subst hY2
  exact t_X0_setUntoldRules hZ hE x1 w
-- WhichWill$Names.add
theorem dX4_add_0 : decode cX4_add 0 = .ok (.aload_n 0, 1) := by decide +kernel
theorem dX4_add_1 : decode cX4_add 1 = .ok (.getfield 15, 3) := by decide +kernel
theorem dX4_add_4 : decode cX4_add 4 = .ok (.aload_n 0, 1) := by decide +kernel
theorem dX4_add_5 : decode cX4_add 5 = .ok (.getfield 9, 3) := by decide +kernel
theorem dX4_add_8 : decode cX4_add 8 = .ok (.arraylength, 1) := by decide +kernel
theorem dX4_add_9 : decode cX4_add 9 = .ok (.if_icmp .ge 23, 3) := by decide +kernel
theorem dX4_add_12 : decode cX4_add 12 = .ok (.aload_n 0, 1) := by decide +kernel
theorem dX4_add_13 : decode cX4_add 13 = .ok (.getfield 9, 3) := by decide +kernel
theorem dX4_add_16 : decode cX4_add 16 = .ok (.aload_n 0, 1) := by decide +kernel
theorem dX4_add_17 : decode cX4_add 17 = .ok (.getfield 15, 3) := by decide +kernel
theorem dX4_add_20 : decode cX4_add 20 = .ok (.lload_n 1, 1) := by decide +kernel
theorem dX4_add_21 : decode cX4_add 21 = .ok (.lastore, 1) := by decide +kernel
theorem dX4_add_22 : decode cX4_add 22 = .ok (.aload_n 0, 1) := by decide +kernel
theorem dX4_add_23 : decode cX4_add 23 = .ok (.dup, 1) := by decide +kernel
theorem dX4_add_24 : decode cX4_add 24 = .ok (.getfield 15, 3) := by decide +kernel
theorem dX4_add_27 : decode cX4_add 27 = .ok (.iconst 1, 1) := by decide +kernel
theorem dX4_add_28 : decode cX4_add 28 = .ok (.iadd, 1) := by decide +kernel
theorem dX4_add_29 : decode cX4_add 29 = .ok (.putfield 15, 3) := by decide +kernel
theorem dX4_add_32 : decode cX4_add 32 = .ok (.return_, 1) := by decide +kernel
def f_X4_add (o0 : Nat) (n0 : Nat) (x1 : Int64) (w : Wd) : Option (Wd) :=
  if (Int32.ofNat n0) ≤ (w.1 o0 1) then
  (some w)
  else
  if inb (w.1 o0 1) n0 = true then
  (lt (wG w (o0 + 1) (Int32.toNatClampNeg (w.1 o0 1)) x1) fun w1 =>
  lt (wI w1 o0 1 ((w1.1 o0 1) + 1)) fun w2 =>
  some w2)
  else none
set_option maxRecDepth 100000 in
set_option maxHeartbeats 4000000 in
theorem t_X4_add {Z : Cz (Wd)} (hZ : OKZ Z SC cX4_add RX4 3 none 1) (hE : EndV Z) (o0 : Nat) (n0 : Nat) (x1 : Int64) (ho0 : IsN o0 n0) (w : Wd) : BW Z 3 0 [(0, .ref (ph (zY Z) o0)), (1, .long x1)] [] w (f_X4_add o0 n0 x1 w) :=
  bw_aload_n hZ 0 rfl dX4_add_0 <|
  bw_getI hZ fl_RX4_15 (by decide) (obN ho0) dX4_add_1 <|
  bw_aload_n hZ 0 rfl dX4_add_4 <|
  bw_getR hZ fl_RX4_9 (obN ho0) (rfN ho0) dX4_add_5 <|
  bw_alenL hZ (arN ho0 _) rfl dX4_add_8 <|
  bw_icmp_ge hZ (tgt := 32) (by decide) dX4_add_9 (fun _ =>
  bw_vret hZ hE dX4_add_32) (fun _ =>
  bw_aload_n hZ 0 rfl dX4_add_12 <|
  bw_getR hZ fl_RX4_9 (obN ho0) (rfN ho0) dX4_add_13 <|
  bw_aload_n hZ 0 rfl dX4_add_16 <|
  bw_getI hZ fl_RX4_15 (by decide) (obN ho0) dX4_add_17 <|
  bw_lload_n hZ 1 rfl dX4_add_20 <|
  bw_last hZ (arN ho0 _) dX4_add_21 fun w1 =>
  bw_aload_n hZ 0 rfl dX4_add_22 <|
  bw_dup hZ rfl dX4_add_23 <|
  bw_getI hZ fl_RX4_15 (by decide) (obN ho0) dX4_add_24 <|
  bw_iconst hZ 1 (by decide) dX4_add_27 <|
  bw_iadd hZ dX4_add_28 <|
  bw_putI hZ fl_RX4_15 rfl rfl (by decide) (obN ho0) dX4_add_29 fun w2 =>
  bw_vret hZ hE dX4_add_32)
theorem c_X4_add (l : Launch) (Y : Ev) (hY : Y.1 = SC) (o0 : Nat) (n0 : Nat) (x1 : Int64) (ho0 : IsN o0 n0) (w : Wd) : CV l Y yX4_add cX4_add 3 1 [.ref (ph Y o0), .long x1] w (f_X4_add o0 n0 x1 w) := by
  refine CV_of (S := SC) (by decide) (Nat.le_of_ble_eq_true rfl) hY ?_
  intro Z hl hY2 hZ hE
  subst hY2
  exact t_X4_add hZ hE o0 n0 x1 ho0 w
-- WhichWill$Names.find
theorem dX4_find_0 : decode cX4_find 0 = .ok (.iconst 0, 1) := by decide +kernel
theorem dX4_find_1 : decode cX4_find 1 = .ok (.istore_n 3, 1) := by decide +kernel
theorem dX4_find_2 : decode cX4_find 2 = .ok (.iload_n 3, 1) := by decide +kernel
theorem dX4_find_3 : decode cX4_find 3 = .ok (.aload_n 0, 1) := by decide +kernel
theorem dX4_find_4 : decode cX4_find 4 = .ok (.getfield 15, 3) := by decide +kernel
theorem dX4_find_7 : decode cX4_find 7 = .ok (.if_icmp .ge 22, 3) := by decide +kernel
theorem dX4_find_10 : decode cX4_find 10 = .ok (.aload_n 0, 1) := by decide +kernel
theorem dX4_find_11 : decode cX4_find 11 = .ok (.getfield 9, 3) := by decide +kernel
theorem dX4_find_14 : decode cX4_find 14 = .ok (.iload_n 3, 1) := by decide +kernel
theorem dX4_find_15 : decode cX4_find 15 = .ok (.laload, 1) := by decide +kernel
theorem dX4_find_16 : decode cX4_find 16 = .ok (.lload_n 1, 1) := by decide +kernel
theorem dX4_find_17 : decode cX4_find 17 = .ok (.lcmp, 1) := by decide +kernel
theorem dX4_find_18 : decode cX4_find 18 = .ok (.ifCond .ne 5, 3) := by decide +kernel
theorem dX4_find_21 : decode cX4_find 21 = .ok (.iload_n 3, 1) := by decide +kernel
theorem dX4_find_22 : decode cX4_find 22 = .ok (.ireturn, 1) := by decide +kernel
theorem dX4_find_23 : decode cX4_find 23 = .ok (.iinc 3 1, 3) := by decide +kernel
theorem dX4_find_26 : decode cX4_find 26 = .ok (.goto (-24), 3) := by decide +kernel
theorem dX4_find_29 : decode cX4_find 29 = .ok (.iconst (-1), 1) := by decide +kernel
theorem dX4_find_30 : decode cX4_find 30 = .ok (.ireturn, 1) := by decide +kernel
def X4_find_b2 (k2 : Nat → Nat → Int64 → Int32 → Wd → Option (Int32 × Wd)) (y0 : Nat) (ny0 : Nat) (y1 : Int64) (y3 : Int32) (w : Wd) : Option (Int32 × Wd) :=
  if (w.1 y0 1) ≤ y3 then
  (some ((-1), w))
  else
  if inb y3 ny0 = true then
  (if (lg_cmp (w.2 (y0 + 1) (Int32.toNatClampNeg y3)) y1) = 0 then
  (some (y3, w))
  else
  k2 y0 ny0 y1 (y3 + 1) w)
  else none
set_option maxRecDepth 100000 in
set_option maxHeartbeats 4000000 in
theorem t_X4_find_b2 {Z : Cz (Int32 × Wd)} (hZ : OKZ Z SC cX4_find RX4 4 (some .int) 1) (hE : EndI Z) (k2 : Nat → Nat → Int64 → Int32 → Wd → Option (Int32 × Wd)) (hk2 : ∀ (y0 : Nat) (ny0 : Nat) (y1 : Int64) (y3 : Int32) (hy0 : IsN y0 ny0) (w : Wd), BW Z 4 2 [(0, .ref (ph (zY Z) y0)), (1, .long y1), (3, .int y3)] [] w (k2 y0 ny0 y1 y3 w)) (y0 : Nat) (ny0 : Nat) (y1 : Int64) (y3 : Int32) (hy0 : IsN y0 ny0) (w : Wd) : BW Z 4 2 [(0, .ref (ph (zY Z) y0)), (1, .long y1), (3, .int y3)] [] w (X4_find_b2 k2 y0 ny0 y1 y3 w) :=
  bw_iload_n hZ 2 rfl dX4_find_2 <|
  bw_aload_n hZ 0 rfl dX4_find_3 <|
  bw_getI hZ fl_RX4_15 (by decide) (obN hy0) dX4_find_4 <|
  bw_icmp_ge hZ (tgt := 29) (by decide) dX4_find_7 (fun _ =>
  bw_iconst hZ (-1) (by decide) dX4_find_29 <|
  bw_iret hZ hE dX4_find_30) (fun _ =>
  bw_aload_n hZ 0 rfl dX4_find_10 <|
  bw_getR hZ fl_RX4_9 (obN hy0) (rfN hy0) dX4_find_11 <|
  bw_iload_n hZ 2 rfl dX4_find_14 <|
  bw_lald hZ (arN hy0 _) dX4_find_15 <|
  bw_lload_n hZ 1 rfl dX4_find_16 <|
  bw_lcmp hZ dX4_find_17 <|
  bw_if_ne hZ (tgt := 23) (by decide) dX4_find_18 (fun _ =>
  bw_iinc hZ 1 2 rfl (by decide) (by decide) rfl dX4_find_23 <|
  bw_goto hZ (tgt := 2) (by decide) dX4_find_26 <|
  bw_sub [1, 2, 0] rfl (hk2 y0 ny0 y1 (y3 + 1) hy0 w)) (fun _ =>
  bw_iload_n hZ 2 rfl dX4_find_21 <|
  bw_iret hZ hE dX4_find_22))
def X4_find_b2_L  : Nat → Nat → Int64 → Int32 → Wd → Option (Int32 × Wd) :=
  lp fu (fun _ _ _ _ _ => none) (fun k2 => X4_find_b2 k2)
theorem t_X4_find_b2_L {Z : Cz (Int32 × Wd)} (hZ : OKZ Z SC cX4_find RX4 4 (some .int) 1) (hE : EndI Z)  : ∀ (y0 : Nat) (ny0 : Nat) (y1 : Int64) (y3 : Int32) (hy0 : IsN y0 ny0) (w : Wd), BW Z 4 2 [(0, .ref (ph (zY Z) y0)), (1, .long y1), (3, .int y3)] [] w (X4_find_b2_L y0 ny0 y1 y3 w) :=
  lp_bw (fun k2 => ∀ (y0 : Nat) (ny0 : Nat) (y1 : Int64) (y3 : Int32) (hy0 : IsN y0 ny0) (w : Wd), BW Z 4 2 [(0, .ref (ph (zY Z) y0)), (1, .long y1), (3, .int y3)] [] w (k2 y0 ny0 y1 y3 w)) (fun _ _ _ _ _ _ => bw_none) (fun k2 hk2 y0 ny0 y1 y3 hy0 w => t_X4_find_b2 hZ hE k2 hk2 y0 ny0 y1 y3 hy0 w) fu
def f_X4_find (o0 : Nat) (n0 : Nat) (x1 : Int64) (w : Wd) : Option (Int32 × Wd) :=
  X4_find_b2_L o0 n0 x1 0 w
set_option maxRecDepth 100000 in
set_option maxHeartbeats 4000000 in
theorem t_X4_find {Z : Cz (Int32 × Wd)} (hZ : OKZ Z SC cX4_find RX4 4 (some .int) 1) (hE : EndI Z) (o0 : Nat) (n0 : Nat) (x1 : Int64) (ho0 : IsN o0 n0) (w : Wd) : BW Z 4 0 [(0, .ref (ph (zY Z) o0)), (1, .long x1)] [] w (f_X4_find o0 n0 x1 w) :=
  bw_iconst hZ 0 (by decide) dX4_find_0 <|
  bw_istore_n hZ rfl (by decide) rfl dX4_find_1 <|
  bw_sub [1, 2, 0] rfl (t_X4_find_b2_L hZ hE o0 n0 x1 0 ho0 w)
theorem c_X4_find (l : Launch) (Y : Ev) (hY : Y.1 = SC) (o0 : Nat) (n0 : Nat) (x1 : Int64) (ho0 : IsN o0 n0) (w : Wd) : CI l Y yX4_find cX4_find 4 1 [.ref (ph Y o0), .long x1] w .int (f_X4_find o0 n0 x1 w) := by
  refine CI_of (S := SC) (by decide) (Nat.le_of_ble_eq_true rfl) hY ?_
  intro Z hl hY2 hZ hE
  subst hY2
  exact t_X4_find hZ hE o0 n0 x1 ho0 w
-- WhichWill$Tape.hasFailed
theorem dX10_hasFailed_0 : decode cX10_hasFailed 0 = .ok (.aload_n 0, 1) := by decide +kernel
theorem dX10_hasFailed_1 : decode cX10_hasFailed 1 = .ok (.getfield 22, 3) := by decide +kernel
theorem dX10_hasFailed_4 : decode cX10_hasFailed 4 = .ok (.ifCond .eq 7, 3) := by decide +kernel
theorem dX10_hasFailed_7 : decode cX10_hasFailed 7 = .ok (.iconst 1, 1) := by decide +kernel
theorem dX10_hasFailed_8 : decode cX10_hasFailed 8 = .ok (.goto 4, 3) := by decide +kernel
theorem dX10_hasFailed_11 : decode cX10_hasFailed 11 = .ok (.iconst 0, 1) := by decide +kernel
theorem dX10_hasFailed_12 : decode cX10_hasFailed 12 = .ok (.ireturn, 1) := by decide +kernel
def f_X10_hasFailed (w : Wd) : Option (Int32 × Wd) :=
  if (w.1 1 4) = 0 then
  (some (0, w))
  else
  some (1, w)
set_option maxRecDepth 100000 in
set_option maxHeartbeats 4000000 in
theorem t_X10_hasFailed {Z : Cz (Int32 × Wd)} (hZ : OKZ Z SC cX10_hasFailed RX10 1 (some .boolean) 1) (hE : EndI Z)   (w : Wd) : BW Z 1 0 [(0, .ref (ph (zY Z) 1))] [] w (f_X10_hasFailed w) :=
  bw_aload_n hZ 0 rfl dX10_hasFailed_0 <|
  bw_getI hZ fl_RX10_22 (by decide) obC_1 dX10_hasFailed_1 <|
  bw_if_eq hZ (tgt := 11) (by decide) dX10_hasFailed_4 (fun _ =>
  bw_iconst hZ 0 (by decide) dX10_hasFailed_11 <|
  bw_zret hZ hE (by decide) dX10_hasFailed_12) (fun _ =>
  bw_iconst hZ 1 (by decide) dX10_hasFailed_7 <|
  bw_goto hZ (tgt := 12) (by decide) dX10_hasFailed_8 <|
  bw_zret hZ hE (by decide) dX10_hasFailed_12)
theorem c_X10_hasFailed (l : Launch) (Y : Ev) (hY : Y.1 = SC)   (w : Wd) : CI l Y yX10_hasFailed cX10_hasFailed 1 1 [.ref (ph Y 1)] w .boolean (f_X10_hasFailed w) := by
  refine CI_of (S := SC) (by decide) (Nat.le_of_ble_eq_true rfl) hY ?_
  intro Z hl hY2 hZ hE
  subst hY2
  exact t_X10_hasFailed hZ hE w
-- WhichWill$Tape.hasNewName
theorem dX10_hasNewName_0 : decode cX10_hasNewName 0 = .ok (.aload_n 0, 1) := by decide +kernel
theorem dX10_hasNewName_1 : decode cX10_hasNewName 1 = .ok (.getfield 31, 3) := by decide +kernel
theorem dX10_hasNewName_4 : decode cX10_hasNewName 4 = .ok (.iconst 1, 1) := by decide +kernel
theorem dX10_hasNewName_5 : decode cX10_hasNewName 5 = .ok (.if_icmp .eq 11, 3) := by decide +kernel
theorem dX10_hasNewName_8 : decode cX10_hasNewName 8 = .ok (.aload_n 0, 1) := by decide +kernel
theorem dX10_hasNewName_9 : decode cX10_hasNewName 9 = .ok (.iconst 1, 1) := by decide +kernel
theorem dX10_hasNewName_10 : decode cX10_hasNewName 10 = .ok (.invokevirtual 57, 3) := by decide +kernel
theorem dX10_hasNewName_13 : decode cX10_hasNewName 13 = .ok (.goto 20, 3) := by decide +kernel
theorem dX10_hasNewName_16 : decode cX10_hasNewName 16 = .ok (.aload_n 1, 1) := by decide +kernel
theorem dX10_hasNewName_17 : decode cX10_hasNewName 17 = .ok (.aload_n 0, 1) := by decide +kernel
theorem dX10_hasNewName_18 : decode cX10_hasNewName 18 = .ok (.getfield 37, 3) := by decide +kernel
theorem dX10_hasNewName_21 : decode cX10_hasNewName 21 = .ok (.invokevirtual 69, 3) := by decide +kernel
theorem dX10_hasNewName_24 : decode cX10_hasNewName 24 = .ok (.iconst (-1), 1) := by decide +kernel
theorem dX10_hasNewName_25 : decode cX10_hasNewName 25 = .ok (.if_icmp .eq 8, 3) := by decide +kernel
theorem dX10_hasNewName_28 : decode cX10_hasNewName 28 = .ok (.aload_n 0, 1) := by decide +kernel
theorem dX10_hasNewName_29 : decode cX10_hasNewName 29 = .ok (.iconst 3, 1) := by decide +kernel
theorem dX10_hasNewName_30 : decode cX10_hasNewName 30 = .ok (.invokevirtual 57, 3) := by decide +kernel
theorem dX10_hasNewName_33 : decode cX10_hasNewName 33 = .ok (.aload_n 0, 1) := by decide +kernel
theorem dX10_hasNewName_34 : decode cX10_hasNewName 34 = .ok (.invokevirtual 65, 3) := by decide +kernel
theorem dX10_hasNewName_37 : decode cX10_hasNewName 37 = .ok (.ifCond .ne 7, 3) := by decide +kernel
theorem dX10_hasNewName_40 : decode cX10_hasNewName 40 = .ok (.iconst 1, 1) := by decide +kernel
theorem dX10_hasNewName_41 : decode cX10_hasNewName 41 = .ok (.goto 4, 3) := by decide +kernel
theorem dX10_hasNewName_44 : decode cX10_hasNewName 44 = .ok (.iconst 0, 1) := by decide +kernel
theorem dX10_hasNewName_45 : decode cX10_hasNewName 45 = .ok (.ireturn, 1) := by decide +kernel
def X10_hasNewName_b33 (w : Wd) : Option (Int32 × Wd) :=
  cl (f_X10_hasFailed w) fun r4 w3 =>
  if r4 = 0 then
  (some (1, w3))
  else
  some (0, w3)
set_option maxRecDepth 100000 in
set_option maxHeartbeats 4000000 in
theorem t_X10_hasNewName_b33 {Z : Cz (Int32 × Wd)} (hZ : OKZ Z SC cX10_hasNewName RX10 2 (some .boolean) 2) (hE : EndI Z)    (w : Wd) : BW Z 2 33 [(0, .ref (ph (zY Z) 1))] [] w (X10_hasNewName_b33 w) :=
  bw_aload_n hZ 0 rfl dX10_hasNewName_33 <|
  bw_callVI (As := []) hZ ml_RX10_65 rc_10 obC_1 (by decide) (c_X10_hasFailed (zl Z) (zY Z) (hZ_S hZ) w) rfl rfl (Nat.le_of_ble_eq_true rfl) dX10_hasNewName_34 fun r4 w3 =>
  bw_if_ne hZ (tgt := 44) (by decide) dX10_hasNewName_37 (fun _ =>
  bw_iconst hZ 0 (by decide) dX10_hasNewName_44 <|
  bw_zret hZ hE (by decide) dX10_hasNewName_45) (fun _ =>
  bw_iconst hZ 1 (by decide) dX10_hasNewName_40 <|
  bw_goto hZ (tgt := 45) (by decide) dX10_hasNewName_41 <|
  bw_zret hZ hE (by decide) dX10_hasNewName_45)
def f_X10_hasNewName (o1 : Nat) (n1 : Nat) (w : Wd) : Option (Int32 × Wd) :=
  if (w.1 1 2) = 1 then
  (cl (f_X4_find o1 n1 (w.2 1 3) w) fun r2 w1 =>
  if r2 = ((-1)) then
  (X10_hasNewName_b33 w1)
  else
  cv (f_X10_fail 3 w1) fun w5 =>
  X10_hasNewName_b33 w5)
  else
  cv (f_X10_fail 1 w) fun w6 =>
  X10_hasNewName_b33 w6
set_option maxRecDepth 100000 in
set_option maxHeartbeats 4000000 in
theorem t_X10_hasNewName {Z : Cz (Int32 × Wd)} (hZ : OKZ Z SC cX10_hasNewName RX10 2 (some .boolean) 2) (hE : EndI Z) (o1 : Nat) (n1 : Nat) (ho1 : IsN o1 n1) (w : Wd) : BW Z 2 0 [(0, .ref (ph (zY Z) 1)), (1, .ref (ph (zY Z) o1))] [] w (f_X10_hasNewName o1 n1 w) :=
  bw_aload_n hZ 0 rfl dX10_hasNewName_0 <|
  bw_getI hZ fl_RX10_31 (by decide) obC_1 dX10_hasNewName_1 <|
  bw_iconst hZ 1 (by decide) dX10_hasNewName_4 <|
  bw_icmp_eq hZ (tgt := 16) (by decide) dX10_hasNewName_5 (fun _ =>
  bw_aload_n hZ 1 rfl dX10_hasNewName_16 <|
  bw_aload_n hZ 0 rfl dX10_hasNewName_17 <|
  bw_getG hZ fl_RX10_37 obC_1 dX10_hasNewName_18 <|
  bw_callVI (As := [.long (w.2 1 3)]) hZ ml_RX10_69 rc_4 (obN ho1) (by decide) (c_X4_find (zl Z) (zY Z) (hZ_S hZ) o1 n1 (w.2 1 3) ho1 w) rfl rfl (Nat.le_of_ble_eq_true rfl) dX10_hasNewName_21 fun r2 w1 =>
  bw_iconst hZ (-1) (by decide) dX10_hasNewName_24 <|
  bw_icmp_eq hZ (tgt := 33) (by decide) dX10_hasNewName_25 (fun _ =>
  bw_sub [0] rfl (t_X10_hasNewName_b33 hZ hE w1)) (fun _ =>
  bw_aload_n hZ 0 rfl dX10_hasNewName_28 <|
  bw_iconst hZ 3 (by decide) dX10_hasNewName_29 <|
  bw_callVV (As := [.int 3]) hZ ml_RX10_57 rc_10 obC_1 (by decide) (c_X10_fail (zl Z) (zY Z) (hZ_S hZ) 3 w1) rfl rfl (Nat.le_of_ble_eq_true rfl) dX10_hasNewName_30 fun w5 =>
  bw_sub [0] rfl (t_X10_hasNewName_b33 hZ hE w5))) (fun _ =>
  bw_aload_n hZ 0 rfl dX10_hasNewName_8 <|
  bw_iconst hZ 1 (by decide) dX10_hasNewName_9 <|
  bw_callVV (As := [.int 1]) hZ ml_RX10_57 rc_10 obC_1 (by decide) (c_X10_fail (zl Z) (zY Z) (hZ_S hZ) 1 w) rfl rfl (Nat.le_of_ble_eq_true rfl) dX10_hasNewName_10 fun w6 =>
  bw_goto hZ (tgt := 33) (by decide) dX10_hasNewName_13 <|
  bw_sub [0] rfl (t_X10_hasNewName_b33 hZ hE w6))
theorem c_X10_hasNewName (l : Launch) (Y : Ev) (hY : Y.1 = SC) (o1 : Nat) (n1 : Nat) (ho1 : IsN o1 n1) (w : Wd) : CI l Y yX10_hasNewName cX10_hasNewName 2 2 [.ref (ph Y 1), .ref (ph Y o1)] w .boolean (f_X10_hasNewName o1 n1 w) := by
  refine CI_of (S := SC) (by decide) (Nat.le_of_ble_eq_true rfl) hY ?_
  intro Z hl hY2 hZ hE
  subst hY2
  exact t_X10_hasNewName hZ hE o1 n1 ho1 w
-- WhichWill$Estate.readLand
theorem dX0_readLand_0 : decode cX0_readLand 0 = .ok (.aload_n 1, 1) := by decide +kernel
theorem dX0_readLand_1 : decode cX0_readLand 1 = .ok (.aload_n 0, 1) := by decide +kernel
theorem dX0_readLand_2 : decode cX0_readLand 2 = .ok (.getfield 14, 3) := by decide +kernel
theorem dX0_readLand_5 : decode cX0_readLand 5 = .ok (.invokestatic 160, 3) := by decide +kernel
theorem dX0_readLand_8 : decode cX0_readLand 8 = .ok (.aload_n 1, 1) := by decide +kernel
theorem dX0_readLand_9 : decode cX0_readLand 9 = .ok (.aload_n 0, 1) := by decide +kernel
theorem dX0_readLand_10 : decode cX0_readLand 10 = .ok (.getfield 14, 3) := by decide +kernel
theorem dX0_readLand_13 : decode cX0_readLand 13 = .ok (.invokevirtual 164, 3) := by decide +kernel
theorem dX0_readLand_16 : decode cX0_readLand 16 = .ok (.ifCond .ne 4, 3) := by decide +kernel
theorem dX0_readLand_19 : decode cX0_readLand 19 = .ok (.return_, 1) := by decide +kernel
theorem dX0_readLand_20 : decode cX0_readLand 20 = .ok (.aload_n 0, 1) := by decide +kernel
theorem dX0_readLand_21 : decode cX0_readLand 21 = .ok (.getfield 14, 3) := by decide +kernel
theorem dX0_readLand_24 : decode cX0_readLand 24 = .ok (.getfield 58, 3) := by decide +kernel
theorem dX0_readLand_27 : decode cX0_readLand 27 = .ok (.istore_n 2, 1) := by decide +kernel
theorem dX0_readLand_28 : decode cX0_readLand 28 = .ok (.aload_n 0, 1) := by decide +kernel
theorem dX0_readLand_29 : decode cX0_readLand 29 = .ok (.getfield 14, 3) := by decide +kernel
theorem dX0_readLand_32 : decode cX0_readLand 32 = .ok (.aload_n 1, 1) := by decide +kernel
theorem dX0_readLand_33 : decode cX0_readLand 33 = .ok (.getfield 168, 3) := by decide +kernel
theorem dX0_readLand_36 : decode cX0_readLand 36 = .ok (.invokevirtual 172, 3) := by decide +kernel
theorem dX0_readLand_39 : decode cX0_readLand 39 = .ok (.aload_n 1, 1) := by decide +kernel
theorem dX0_readLand_40 : decode cX0_readLand 40 = .ok (.invokevirtual 141, 3) := by decide +kernel
theorem dX0_readLand_43 : decode cX0_readLand 43 = .ok (.aload_n 0, 1) := by decide +kernel
theorem dX0_readLand_44 : decode cX0_readLand 44 = .ok (.iload_n 2, 1) := by decide +kernel
theorem dX0_readLand_45 : decode cX0_readLand 45 = .ok (.invokevirtual 176, 3) := by decide +kernel
theorem dX0_readLand_48 : decode cX0_readLand 48 = .ok (.iconst 0, 1) := by decide +kernel
theorem dX0_readLand_49 : decode cX0_readLand 49 = .ok (.istore_n 3, 1) := by decide +kernel
theorem dX0_readLand_50 : decode cX0_readLand 50 = .ok (.iconst 0, 1) := by decide +kernel
theorem dX0_readLand_51 : decode cX0_readLand 51 = .ok (.istore 4, 2) := by decide +kernel
theorem dX0_readLand_53 : decode cX0_readLand 53 = .ok (.iload 4, 2) := by decide +kernel
theorem dX0_readLand_55 : decode cX0_readLand 55 = .ok (.bipush 13, 2) := by decide +kernel
theorem dX0_readLand_57 : decode cX0_readLand 57 = .ok (.if_icmp .gt 83, 3) := by decide +kernel
theorem dX0_readLand_60 : decode cX0_readLand 60 = .ok (.aload_n 1, 1) := by decide +kernel
theorem dX0_readLand_61 : decode cX0_readLand 61 = .ok (.getfield 179, 3) := by decide +kernel
theorem dX0_readLand_64 : decode cX0_readLand 64 = .ok (.iconst 1, 1) := by decide +kernel
theorem dX0_readLand_65 : decode cX0_readLand 65 = .ok (.if_icmp .ne 75, 3) := by decide +kernel
theorem dX0_readLand_68 : decode cX0_readLand 68 = .ok (.aload_n 1, 1) := by decide +kernel
theorem dX0_readLand_69 : decode cX0_readLand 69 = .ok (.invokestatic 182, 3) := by decide +kernel
theorem dX0_readLand_72 : decode cX0_readLand 72 = .ok (.istore 5, 2) := by decide +kernel
theorem dX0_readLand_74 : decode cX0_readLand 74 = .ok (.iload 5, 2) := by decide +kernel
theorem dX0_readLand_76 : decode cX0_readLand 76 = .ok (.iconst (-1), 1) := by decide +kernel
theorem dX0_readLand_77 : decode cX0_readLand 77 = .ok (.if_icmp .ne 11, 3) := by decide +kernel
theorem dX0_readLand_80 : decode cX0_readLand 80 = .ok (.aload_n 1, 1) := by decide +kernel
theorem dX0_readLand_81 : decode cX0_readLand 81 = .ok (.iconst 1, 1) := by decide +kernel
theorem dX0_readLand_82 : decode cX0_readLand 82 = .ok (.invokevirtual 138, 3) := by decide +kernel
theorem dX0_readLand_85 : decode cX0_readLand 85 = .ok (.goto 49, 3) := by decide +kernel
theorem dX0_readLand_88 : decode cX0_readLand 88 = .ok (.iload_n 3, 1) := by decide +kernel
theorem dX0_readLand_89 : decode cX0_readLand 89 = .ok (.iload 5, 2) := by decide +kernel
theorem dX0_readLand_91 : decode cX0_readLand 91 = .ok (.ishr, 1) := by decide +kernel
theorem dX0_readLand_92 : decode cX0_readLand 92 = .ok (.iconst 1, 1) := by decide +kernel
theorem dX0_readLand_93 : decode cX0_readLand 93 = .ok (.iand, 1) := by decide +kernel
theorem dX0_readLand_94 : decode cX0_readLand 94 = .ok (.ifCond .eq 11, 3) := by decide +kernel
theorem dX0_readLand_97 : decode cX0_readLand 97 = .ok (.aload_n 1, 1) := by decide +kernel
theorem dX0_readLand_98 : decode cX0_readLand 98 = .ok (.iconst 3, 1) := by decide +kernel
theorem dX0_readLand_99 : decode cX0_readLand 99 = .ok (.invokevirtual 138, 3) := by decide +kernel
theorem dX0_readLand_102 : decode cX0_readLand 102 = .ok (.goto 32, 3) := by decide +kernel
theorem dX0_readLand_105 : decode cX0_readLand 105 = .ok (.iload_n 3, 1) := by decide +kernel
theorem dX0_readLand_106 : decode cX0_readLand 106 = .ok (.iconst 1, 1) := by decide +kernel
theorem dX0_readLand_107 : decode cX0_readLand 107 = .ok (.iload 5, 2) := by decide +kernel
theorem dX0_readLand_109 : decode cX0_readLand 109 = .ok (.ishl, 1) := by decide +kernel
theorem dX0_readLand_110 : decode cX0_readLand 110 = .ok (.ior, 1) := by decide +kernel
theorem dX0_readLand_111 : decode cX0_readLand 111 = .ok (.istore_n 3, 1) := by decide +kernel
theorem dX0_readLand_112 : decode cX0_readLand 112 = .ok (.aload_n 1, 1) := by decide +kernel
theorem dX0_readLand_113 : decode cX0_readLand 113 = .ok (.invokevirtual 141, 3) := by decide +kernel
theorem dX0_readLand_116 : decode cX0_readLand 116 = .ok (.aload_n 0, 1) := by decide +kernel
theorem dX0_readLand_117 : decode cX0_readLand 117 = .ok (.getfield 26, 3) := by decide +kernel
theorem dX0_readLand_120 : decode cX0_readLand 120 = .ok (.iload_n 2, 1) := by decide +kernel
theorem dX0_readLand_121 : decode cX0_readLand 121 = .ok (.bipush 13, 2) := by decide +kernel
theorem dX0_readLand_123 : decode cX0_readLand 123 = .ok (.imul, 1) := by decide +kernel
theorem dX0_readLand_124 : decode cX0_readLand 124 = .ok (.iload 5, 2) := by decide +kernel
theorem dX0_readLand_126 : decode cX0_readLand 126 = .ok (.iadd, 1) := by decide +kernel
theorem dX0_readLand_127 : decode cX0_readLand 127 = .ok (.aload_n 1, 1) := by decide +kernel
theorem dX0_readLand_128 : decode cX0_readLand 128 = .ok (.iload 5, 2) := by decide +kernel
theorem dX0_readLand_130 : decode cX0_readLand 130 = .ok (.invokestatic 186, 3) := by decide +kernel
theorem dX0_readLand_133 : decode cX0_readLand 133 = .ok (.iastore, 1) := by decide +kernel
theorem dX0_readLand_134 : decode cX0_readLand 134 = .ok (.iinc 4 1, 3) := by decide +kernel
theorem dX0_readLand_137 : decode cX0_readLand 137 = .ok (.goto (-84), 3) := by decide +kernel
theorem dX0_readLand_140 : decode cX0_readLand 140 = .ok (.return_, 1) := by decide +kernel
def X0_readLand_b53 (k53 : Int32 → Int32 → Int32 → Wd → Option (Wd)) (y2 : Int32) (y3 : Int32) (y4 : Int32) (w : Wd) : Option (Wd) :=
  if 13 < y4 then
  (some w)
  else
  if (w.1 1 2) = 1 then
  (cl (f_X0_ruleNamed w) fun r9 w8 =>
  if r9 = ((-1)) then
  (cv (f_X10_fail 1 w8) fun w16 =>
  k53 y2 y3 (y4 + 1) w16)
  else
  if ((y3 >>> (r9 &&& 31)) &&& 1) = 0 then
  (lt (y3 ||| (1 <<< (r9 &&& 31))) fun v10 =>
  cv (f_X10_step w8) fun w11 =>
  cl (f_X0_readRule r9 w11) fun r13 w12 =>
  if inb ((y2 * 13) + r9) 52 = true then
  (lt (wI w12 51 (Int32.toNatClampNeg ((y2 * 13) + r9)) r13) fun w14 =>
  k53 y2 v10 (y4 + 1) w14)
  else none)
  else
  cv (f_X10_fail 3 w8) fun w15 =>
  k53 y2 y3 (y4 + 1) w15)
  else
  some w
set_option maxRecDepth 100000 in
set_option maxHeartbeats 4000000 in
theorem t_X0_readLand_b53 {Z : Cz (Wd)} (hZ : OKZ Z SC cX0_readLand RX0 6 none 8) (hE : EndV Z) (k53 : Int32 → Int32 → Int32 → Wd → Option (Wd)) (hk53 : ∀ (y2 : Int32) (y3 : Int32) (y4 : Int32)  (w : Wd), BW Z 6 53 [(0, .ref (ph (zY Z) 44)), (1, .ref (ph (zY Z) 1)), (2, .int y2), (3, .int y3), (4, .int y4)] [] w (k53 y2 y3 y4 w)) (y2 : Int32) (y3 : Int32) (y4 : Int32)  (w : Wd) : BW Z 6 53 [(0, .ref (ph (zY Z) 44)), (1, .ref (ph (zY Z) 1)), (2, .int y2), (3, .int y3), (4, .int y4)] [] w (X0_readLand_b53 k53 y2 y3 y4 w) :=
  bw_iload hZ 4 rfl dX0_readLand_53 <|
  bw_bipush hZ 13 (by decide) dX0_readLand_55 <|
  bw_icmp_gt hZ (tgt := 140) (by decide) dX0_readLand_57 (fun _ =>
  bw_vret hZ hE dX0_readLand_140) (fun _ =>
  bw_aload_n hZ 1 rfl dX0_readLand_60 <|
  bw_getI hZ fl_RX0_179 (by decide) obC_1 dX0_readLand_61 <|
  bw_iconst hZ 1 (by decide) dX0_readLand_64 <|
  bw_icmp_ne hZ (tgt := 140) (by decide) dX0_readLand_65 (fun _ =>
  bw_vret hZ hE dX0_readLand_140) (fun _ =>
  bw_aload_n hZ 1 rfl dX0_readLand_68 <|
  bw_callSI (As := [.ref (ph (zY Z) 1)]) hZ ms_RX0_182 (by decide) (c_X0_ruleNamed (zl Z) (zY Z) (hZ_S hZ) w) rfl rfl (Nat.le_of_ble_eq_true rfl) dX0_readLand_69 fun r9 w8 =>
  bw_istore hZ (by decide) rfl dX0_readLand_72 <|
  bw_iload hZ 0 rfl dX0_readLand_74 <|
  bw_iconst hZ (-1) (by decide) dX0_readLand_76 <|
  bw_icmp_ne hZ (tgt := 88) (by decide) dX0_readLand_77 (fun _ =>
  bw_iload_n hZ 4 rfl dX0_readLand_88 <|
  bw_iload hZ 0 rfl dX0_readLand_89 <|
  bw_ishr hZ dX0_readLand_91 <|
  bw_iconst hZ 1 (by decide) dX0_readLand_92 <|
  bw_iand hZ dX0_readLand_93 <|
  bw_if_eq hZ (tgt := 105) (by decide) dX0_readLand_94 (fun _ =>
  bw_iload_n hZ 4 rfl dX0_readLand_105 <|
  bw_iconst hZ 1 (by decide) dX0_readLand_106 <|
  bw_iload hZ 0 rfl dX0_readLand_107 <|
  bw_ishl hZ dX0_readLand_109 <|
  bw_ior hZ dX0_readLand_110 <|
  bw_nm fun v10 =>
  bw_istore_n hZ rfl (by decide) rfl dX0_readLand_111 <|
  bw_aload_n hZ 3 rfl dX0_readLand_112 <|
  bw_callVV (As := []) hZ ml_RX0_141 rc_10 obC_1 (by decide) (c_X10_step (zl Z) (zY Z) (hZ_S hZ) w8) rfl rfl (Nat.le_of_ble_eq_true rfl) dX0_readLand_113 fun w11 =>
  bw_aload_n hZ 2 rfl dX0_readLand_116 <|
  bw_getR hZ fl_RX0_26 obC_44 rfl dX0_readLand_117 <|
  bw_iload_n hZ 4 rfl dX0_readLand_120 <|
  bw_bipush hZ 13 (by decide) dX0_readLand_121 <|
  bw_imul hZ dX0_readLand_123 <|
  bw_iload hZ 1 rfl dX0_readLand_124 <|
  bw_iadd hZ dX0_readLand_126 <|
  bw_aload_n hZ 3 rfl dX0_readLand_127 <|
  bw_iload hZ 1 rfl dX0_readLand_128 <|
  bw_callSI (As := [.ref (ph (zY Z) 1), .int r9]) hZ ms_RX0_186 (by decide) (c_X0_readRule (zl Z) (zY Z) (hZ_S hZ) r9 w11) rfl rfl (Nat.le_of_ble_eq_true rfl) dX0_readLand_130 fun r13 w12 =>
  bw_iast hZ (arC_51 _) dX0_readLand_133 fun w14 =>
  bw_iinc hZ 1 5 rfl (by decide) (by decide) rfl dX0_readLand_134 <|
  bw_goto hZ (tgt := 53) (by decide) dX0_readLand_137 <|
  bw_sub [3, 4, 5, 1, 0] rfl (hk53 y2 v10 (y4 + 1) w14)) (fun _ =>
  bw_aload_n hZ 2 rfl dX0_readLand_97 <|
  bw_iconst hZ 3 (by decide) dX0_readLand_98 <|
  bw_callVV (As := [.int 3]) hZ ml_RX0_138 rc_10 obC_1 (by decide) (c_X10_fail (zl Z) (zY Z) (hZ_S hZ) 3 w8) rfl rfl (Nat.le_of_ble_eq_true rfl) dX0_readLand_99 fun w15 =>
  bw_goto hZ (tgt := 134) (by decide) dX0_readLand_102 <|
  bw_iinc hZ 1 5 rfl (by decide) (by decide) rfl dX0_readLand_134 <|
  bw_goto hZ (tgt := 53) (by decide) dX0_readLand_137 <|
  bw_sub [2, 3, 4, 5, 0] rfl (hk53 y2 y3 (y4 + 1) w15))) (fun _ =>
  bw_aload_n hZ 2 rfl dX0_readLand_80 <|
  bw_iconst hZ 1 (by decide) dX0_readLand_81 <|
  bw_callVV (As := [.int 1]) hZ ml_RX0_138 rc_10 obC_1 (by decide) (c_X10_fail (zl Z) (zY Z) (hZ_S hZ) 1 w8) rfl rfl (Nat.le_of_ble_eq_true rfl) dX0_readLand_82 fun w16 =>
  bw_goto hZ (tgt := 134) (by decide) dX0_readLand_85 <|
  bw_iinc hZ 1 5 rfl (by decide) (by decide) rfl dX0_readLand_134 <|
  bw_goto hZ (tgt := 53) (by decide) dX0_readLand_137 <|
  bw_sub [2, 3, 4, 5, 0] rfl (hk53 y2 y3 (y4 + 1) w16))))
def X0_readLand_b53_L  : Int32 → Int32 → Int32 → Wd → Option (Wd) :=
  lp fu (fun _ _ _ _ => none) (fun k53 => X0_readLand_b53 k53)
theorem t_X0_readLand_b53_L {Z : Cz (Wd)} (hZ : OKZ Z SC cX0_readLand RX0 6 none 8) (hE : EndV Z)  : ∀ (y2 : Int32) (y3 : Int32) (y4 : Int32)  (w : Wd), BW Z 6 53 [(0, .ref (ph (zY Z) 44)), (1, .ref (ph (zY Z) 1)), (2, .int y2), (3, .int y3), (4, .int y4)] [] w (X0_readLand_b53_L y2 y3 y4 w) :=
  lp_bw (fun k53 => ∀ (y2 : Int32) (y3 : Int32) (y4 : Int32)  (w : Wd), BW Z 6 53 [(0, .ref (ph (zY Z) 44)), (1, .ref (ph (zY Z) 1)), (2, .int y2), (3, .int y3), (4, .int y4)] [] w (k53 y2 y3 y4 w)) (fun _ _ _ _ => bw_none) (fun k53 hk53 y2 y3 y4 w => t_X0_readLand_b53 hZ hE k53 hk53 y2 y3 y4 w) fu
def f_X0_readLand (w : Wd) : Option (Wd) :=
  cv (f_X0_passUnlessFull 45 4 w) fun w1 =>
  cl (f_X10_hasNewName 45 4 w1) fun r3 w2 =>
  if r3 = 0 then
  (some w2)
  else
  lt (w2.1 45 1) fun v4 =>
  cv (f_X4_add 45 4 (w2.2 1 3) w2) fun w5 =>
  cv (f_X10_step w5) fun w6 =>
  cv (f_X0_setUntoldRules v4 w6) fun w7 =>
  X0_readLand_b53_L v4 0 0 w7
set_option maxRecDepth 100000 in
set_option maxHeartbeats 4000000 in
theorem t_X0_readLand {Z : Cz (Wd)} (hZ : OKZ Z SC cX0_readLand RX0 6 none 8) (hE : EndV Z)   (w : Wd) : BW Z 6 0 [(0, .ref (ph (zY Z) 44)), (1, .ref (ph (zY Z) 1))] [] w (f_X0_readLand w) :=
  bw_aload_n hZ 1 rfl dX0_readLand_0 <|
  bw_aload_n hZ 0 rfl dX0_readLand_1 <|
  bw_getR hZ fl_RX0_14 obC_44 rfl dX0_readLand_2 <|
  bw_callSV (As := [.ref (ph (zY Z) 1), .ref (ph (zY Z) 45)]) hZ ms_RX0_160 (by decide) (c_X0_passUnlessFull (zl Z) (zY Z) (hZ_S hZ) 45 4 isN45 w) rfl rfl (Nat.le_of_ble_eq_true rfl) dX0_readLand_5 fun w1 =>
  bw_aload_n hZ 1 rfl dX0_readLand_8 <|
  bw_aload_n hZ 0 rfl dX0_readLand_9 <|
  bw_getR hZ fl_RX0_14 obC_44 rfl dX0_readLand_10 <|
  bw_callVI (As := [.ref (ph (zY Z) 45)]) hZ ml_RX0_164 rc_10 obC_1 (by decide) (c_X10_hasNewName (zl Z) (zY Z) (hZ_S hZ) 45 4 isN45 w1) rfl rfl (Nat.le_of_ble_eq_true rfl) dX0_readLand_13 fun r3 w2 =>
  bw_if_ne hZ (tgt := 20) (by decide) dX0_readLand_16 (fun _ =>
  bw_aload_n hZ 0 rfl dX0_readLand_20 <|
  bw_getR hZ fl_RX0_14 obC_44 rfl dX0_readLand_21 <|
  bw_getI hZ fl_RX0_58 (by decide) obC_45 dX0_readLand_24 <|
  bw_nm fun v4 =>
  bw_istore_n hZ rfl (by decide) rfl dX0_readLand_27 <|
  bw_aload_n hZ 1 rfl dX0_readLand_28 <|
  bw_getR hZ fl_RX0_14 obC_44 rfl dX0_readLand_29 <|
  bw_aload_n hZ 2 rfl dX0_readLand_32 <|
  bw_getG hZ fl_RX0_168 obC_1 dX0_readLand_33 <|
  bw_callVV (As := [.long (w2.2 1 3)]) hZ ml_RX0_172 rc_4 obC_45 (by decide) (c_X4_add (zl Z) (zY Z) (hZ_S hZ) 45 4 (w2.2 1 3) isN45 w2) rfl rfl (Nat.le_of_ble_eq_true rfl) dX0_readLand_36 fun w5 =>
  bw_aload_n hZ 2 rfl dX0_readLand_39 <|
  bw_callVV (As := []) hZ ml_RX0_141 rc_10 obC_1 (by decide) (c_X10_step (zl Z) (zY Z) (hZ_S hZ) w5) rfl rfl (Nat.le_of_ble_eq_true rfl) dX0_readLand_40 fun w6 =>
  bw_aload_n hZ 1 rfl dX0_readLand_43 <|
  bw_iload_n hZ 0 rfl dX0_readLand_44 <|
  bw_callVV (As := [.int v4]) hZ ml_RX0_176 rc_0 obC_44 (by decide) (c_X0_setUntoldRules (zl Z) (zY Z) (hZ_S hZ) v4 w6) rfl rfl (Nat.le_of_ble_eq_true rfl) dX0_readLand_45 fun w7 =>
  bw_iconst hZ 0 (by decide) dX0_readLand_48 <|
  bw_istore_n hZ rfl (by decide) rfl dX0_readLand_49 <|
  bw_iconst hZ 0 (by decide) dX0_readLand_50 <|
  bw_istore hZ (by decide) rfl dX0_readLand_51 <|
  bw_sub [3, 4, 2, 1, 0] rfl (t_X0_readLand_b53_L hZ hE v4 0 0 w7)) (fun _ =>
  bw_vret hZ hE dX0_readLand_19)
theorem c_X0_readLand (l : Launch) (Y : Ev) (hY : Y.1 = SC)   (w : Wd) : CV l Y yX0_readLand cX0_readLand 6 8 [.ref (ph Y 44), .ref (ph Y 1)] w (f_X0_readLand w) := by
  refine CV_of (S := SC) (by decide) (Nat.le_of_ble_eq_true rfl) hY ?_
  intro Z hl hY2 hZ hE
  subst hY2
  exact t_X0_readLand hZ hE w
-- WhichWill$Tape.known
theorem dX10_known_0 : decode cX10_known 0 = .ok (.aload_n 0, 1) := by decide +kernel
theorem dX10_known_1 : decode cX10_known 1 = .ok (.getfield 31, 3) := by decide +kernel
theorem dX10_known_4 : decode cX10_known 4 = .ok (.iconst 1, 1) := by decide +kernel
theorem dX10_known_5 : decode cX10_known 5 = .ok (.if_icmp .eq 10, 3) := by decide +kernel
theorem dX10_known_8 : decode cX10_known 8 = .ok (.aload_n 0, 1) := by decide +kernel
theorem dX10_known_9 : decode cX10_known 9 = .ok (.iconst 1, 1) := by decide +kernel
theorem dX10_known_10 : decode cX10_known 10 = .ok (.invokevirtual 57, 3) := by decide +kernel
theorem dX10_known_13 : decode cX10_known 13 = .ok (.iconst (-1), 1) := by decide +kernel
theorem dX10_known_14 : decode cX10_known 14 = .ok (.ireturn, 1) := by decide +kernel
theorem dX10_known_15 : decode cX10_known 15 = .ok (.aload_n 1, 1) := by decide +kernel
theorem dX10_known_16 : decode cX10_known 16 = .ok (.aload_n 0, 1) := by decide +kernel
theorem dX10_known_17 : decode cX10_known 17 = .ok (.getfield 37, 3) := by decide +kernel
theorem dX10_known_20 : decode cX10_known 20 = .ok (.invokevirtual 69, 3) := by decide +kernel
theorem dX10_known_23 : decode cX10_known 23 = .ok (.istore_n 3, 1) := by decide +kernel
theorem dX10_known_24 : decode cX10_known 24 = .ok (.iload_n 3, 1) := by decide +kernel
theorem dX10_known_25 : decode cX10_known 25 = .ok (.iconst (-1), 1) := by decide +kernel
theorem dX10_known_26 : decode cX10_known 26 = .ok (.if_icmp .ne 10, 3) := by decide +kernel
theorem dX10_known_29 : decode cX10_known 29 = .ok (.aload_n 0, 1) := by decide +kernel
theorem dX10_known_30 : decode cX10_known 30 = .ok (.iconst 5, 1) := by decide +kernel
theorem dX10_known_31 : decode cX10_known 31 = .ok (.invokevirtual 57, 3) := by decide +kernel
theorem dX10_known_34 : decode cX10_known 34 = .ok (.iconst (-1), 1) := by decide +kernel
theorem dX10_known_35 : decode cX10_known 35 = .ok (.ireturn, 1) := by decide +kernel
theorem dX10_known_36 : decode cX10_known 36 = .ok (.iload_n 2, 1) := by decide +kernel
theorem dX10_known_37 : decode cX10_known 37 = .ok (.iload_n 3, 1) := by decide +kernel
theorem dX10_known_38 : decode cX10_known 38 = .ok (.ishr, 1) := by decide +kernel
theorem dX10_known_39 : decode cX10_known 39 = .ok (.iconst 1, 1) := by decide +kernel
theorem dX10_known_40 : decode cX10_known 40 = .ok (.iand, 1) := by decide +kernel
theorem dX10_known_41 : decode cX10_known 41 = .ok (.ifCond .eq 10, 3) := by decide +kernel
theorem dX10_known_44 : decode cX10_known 44 = .ok (.aload_n 0, 1) := by decide +kernel
theorem dX10_known_45 : decode cX10_known 45 = .ok (.iconst 3, 1) := by decide +kernel
theorem dX10_known_46 : decode cX10_known 46 = .ok (.invokevirtual 57, 3) := by decide +kernel
theorem dX10_known_49 : decode cX10_known 49 = .ok (.iconst (-1), 1) := by decide +kernel
theorem dX10_known_50 : decode cX10_known 50 = .ok (.ireturn, 1) := by decide +kernel
theorem dX10_known_51 : decode cX10_known 51 = .ok (.aload_n 0, 1) := by decide +kernel
theorem dX10_known_52 : decode cX10_known 52 = .ok (.invokevirtual 28, 3) := by decide +kernel
theorem dX10_known_55 : decode cX10_known 55 = .ok (.iload_n 3, 1) := by decide +kernel
theorem dX10_known_56 : decode cX10_known 56 = .ok (.ireturn, 1) := by decide +kernel
def f_X10_known (o1 : Nat) (n1 : Nat) (x2 : Int32) (w : Wd) : Option (Int32 × Wd) :=
  if (w.1 1 2) = 1 then
  (cl (f_X4_find o1 n1 (w.2 1 3) w) fun r2 w1 =>
  if r2 = ((-1)) then
  (cv (f_X10_fail 5 w1) fun w5 =>
  some ((-1), w5))
  else
  if ((x2 >>> (r2 &&& 31)) &&& 1) = 0 then
  (cv (f_X10_step w1) fun w3 =>
  some (r2, w3))
  else
  cv (f_X10_fail 3 w1) fun w4 =>
  some ((-1), w4))
  else
  cv (f_X10_fail 1 w) fun w6 =>
  some ((-1), w6)
set_option maxRecDepth 100000 in
set_option maxHeartbeats 4000000 in
theorem t_X10_known {Z : Cz (Int32 × Wd)} (hZ : OKZ Z SC cX10_known RX10 4 (some .int) 2) (hE : EndI Z) (o1 : Nat) (n1 : Nat) (x2 : Int32) (ho1 : IsN o1 n1) (w : Wd) : BW Z 4 0 [(0, .ref (ph (zY Z) 1)), (1, .ref (ph (zY Z) o1)), (2, .int x2)] [] w (f_X10_known o1 n1 x2 w) :=
  bw_aload_n hZ 0 rfl dX10_known_0 <|
  bw_getI hZ fl_RX10_31 (by decide) obC_1 dX10_known_1 <|
  bw_iconst hZ 1 (by decide) dX10_known_4 <|
  bw_icmp_eq hZ (tgt := 15) (by decide) dX10_known_5 (fun _ =>
  bw_aload_n hZ 1 rfl dX10_known_15 <|
  bw_aload_n hZ 0 rfl dX10_known_16 <|
  bw_getG hZ fl_RX10_37 obC_1 dX10_known_17 <|
  bw_callVI (As := [.long (w.2 1 3)]) hZ ml_RX10_69 rc_4 (obN ho1) (by decide) (c_X4_find (zl Z) (zY Z) (hZ_S hZ) o1 n1 (w.2 1 3) ho1 w) rfl rfl (Nat.le_of_ble_eq_true rfl) dX10_known_20 fun r2 w1 =>
  bw_istore_n hZ rfl (by decide) rfl dX10_known_23 <|
  bw_iload_n hZ 0 rfl dX10_known_24 <|
  bw_iconst hZ (-1) (by decide) dX10_known_25 <|
  bw_icmp_ne hZ (tgt := 36) (by decide) dX10_known_26 (fun _ =>
  bw_iload_n hZ 3 rfl dX10_known_36 <|
  bw_iload_n hZ 0 rfl dX10_known_37 <|
  bw_ishr hZ dX10_known_38 <|
  bw_iconst hZ 1 (by decide) dX10_known_39 <|
  bw_iand hZ dX10_known_40 <|
  bw_if_eq hZ (tgt := 51) (by decide) dX10_known_41 (fun _ =>
  bw_aload_n hZ 1 rfl dX10_known_51 <|
  bw_callVV (As := []) hZ ml_RX10_28 rc_10 obC_1 (by decide) (c_X10_step (zl Z) (zY Z) (hZ_S hZ) w1) rfl rfl (Nat.le_of_ble_eq_true rfl) dX10_known_52 fun w3 =>
  bw_iload_n hZ 0 rfl dX10_known_55 <|
  bw_iret hZ hE dX10_known_56) (fun _ =>
  bw_aload_n hZ 1 rfl dX10_known_44 <|
  bw_iconst hZ 3 (by decide) dX10_known_45 <|
  bw_callVV (As := [.int 3]) hZ ml_RX10_57 rc_10 obC_1 (by decide) (c_X10_fail (zl Z) (zY Z) (hZ_S hZ) 3 w1) rfl rfl (Nat.le_of_ble_eq_true rfl) dX10_known_46 fun w4 =>
  bw_iconst hZ (-1) (by decide) dX10_known_49 <|
  bw_iret hZ hE dX10_known_50)) (fun _ =>
  bw_aload_n hZ 1 rfl dX10_known_29 <|
  bw_iconst hZ 5 (by decide) dX10_known_30 <|
  bw_callVV (As := [.int 5]) hZ ml_RX10_57 rc_10 obC_1 (by decide) (c_X10_fail (zl Z) (zY Z) (hZ_S hZ) 5 w1) rfl rfl (Nat.le_of_ble_eq_true rfl) dX10_known_31 fun w5 =>
  bw_iconst hZ (-1) (by decide) dX10_known_34 <|
  bw_iret hZ hE dX10_known_35)) (fun _ =>
  bw_aload_n hZ 0 rfl dX10_known_8 <|
  bw_iconst hZ 1 (by decide) dX10_known_9 <|
  bw_callVV (As := [.int 1]) hZ ml_RX10_57 rc_10 obC_1 (by decide) (c_X10_fail (zl Z) (zY Z) (hZ_S hZ) 1 w) rfl rfl (Nat.le_of_ble_eq_true rfl) dX10_known_10 fun w6 =>
  bw_iconst hZ (-1) (by decide) dX10_known_13 <|
  bw_iret hZ hE dX10_known_14)
theorem c_X10_known (l : Launch) (Y : Ev) (hY : Y.1 = SC) (o1 : Nat) (n1 : Nat) (x2 : Int32) (ho1 : IsN o1 n1) (w : Wd) : CI l Y yX10_known cX10_known 4 2 [.ref (ph Y 1), .ref (ph Y o1), .int x2] w .int (f_X10_known o1 n1 x2 w) := by
  refine CI_of (S := SC) (by decide) (Nat.le_of_ble_eq_true rfl) hY ?_
  intro Z hl hY2 hZ hE
  subst hY2
  exact t_X10_known hZ hE o1 n1 x2 ho1 w
-- WhichWill$Estate.readRole
theorem dX0_readRole_0 : decode cX0_readRole 0 = .ok (.aload_n 1, 1) := by decide +kernel
theorem dX0_readRole_1 : decode cX0_readRole 1 = .ok (.ldc 207, 2) := by decide +kernel
theorem dX0_readRole_3 : decode cX0_readRole 3 = .ok (.invokevirtual 109, 3) := by decide +kernel
theorem dX0_readRole_6 : decode cX0_readRole 6 = .ok (.ifCond .eq 21, 3) := by decide +kernel
theorem dX0_readRole_9 : decode cX0_readRole 9 = .ok (.aload_n 0, 1) := by decide +kernel
theorem dX0_readRole_10 : decode cX0_readRole 10 = .ok (.getfield 45, 3) := by decide +kernel
theorem dX0_readRole_13 : decode cX0_readRole 13 = .ok (.iconst (-1), 1) := by decide +kernel
theorem dX0_readRole_14 : decode cX0_readRole 14 = .ok (.if_icmp .eq 8, 3) := by decide +kernel
theorem dX0_readRole_17 : decode cX0_readRole 17 = .ok (.aload_n 1, 1) := by decide +kernel
theorem dX0_readRole_18 : decode cX0_readRole 18 = .ok (.iconst 3, 1) := by decide +kernel
theorem dX0_readRole_19 : decode cX0_readRole 19 = .ok (.invokevirtual 138, 3) := by decide +kernel
theorem dX0_readRole_22 : decode cX0_readRole 22 = .ok (.aload_n 0, 1) := by decide +kernel
theorem dX0_readRole_23 : decode cX0_readRole 23 = .ok (.iload_n 2, 1) := by decide +kernel
theorem dX0_readRole_24 : decode cX0_readRole 24 = .ok (.putfield 45, 3) := by decide +kernel
theorem dX0_readRole_27 : decode cX0_readRole 27 = .ok (.aload_n 1, 1) := by decide +kernel
theorem dX0_readRole_28 : decode cX0_readRole 28 = .ok (.ldc 207, 2) := by decide +kernel
theorem dX0_readRole_30 : decode cX0_readRole 30 = .ok (.ldc 235, 2) := by decide +kernel
theorem dX0_readRole_32 : decode cX0_readRole 32 = .ok (.ldc 237, 2) := by decide +kernel
theorem dX0_readRole_34 : decode cX0_readRole 34 = .ok (.ldc 239, 2) := by decide +kernel
theorem dX0_readRole_36 : decode cX0_readRole 36 = .ok (.invokevirtual 220, 3) := by decide +kernel
theorem dX0_readRole_39 : decode cX0_readRole 39 = .ok (.istore_n 3, 1) := by decide +kernel
theorem dX0_readRole_40 : decode cX0_readRole 40 = .ok (.iload_n 3, 1) := by decide +kernel
theorem dX0_readRole_41 : decode cX0_readRole 41 = .ok (.iconst 2, 1) := by decide +kernel
theorem dX0_readRole_42 : decode cX0_readRole 42 = .ok (.if_icmp .ne 18, 3) := by decide +kernel
theorem dX0_readRole_45 : decode cX0_readRole 45 = .ok (.aload_n 0, 1) := by decide +kernel
theorem dX0_readRole_46 : decode cX0_readRole 46 = .ok (.getfield 33, 3) := by decide +kernel
theorem dX0_readRole_49 : decode cX0_readRole 49 = .ok (.iload_n 2, 1) := by decide +kernel
theorem dX0_readRole_50 : decode cX0_readRole 50 = .ok (.aload_n 1, 1) := by decide +kernel
theorem dX0_readRole_51 : decode cX0_readRole 51 = .ok (.aload_n 0, 1) := by decide +kernel
theorem dX0_readRole_52 : decode cX0_readRole 52 = .ok (.getfield 20, 3) := by decide +kernel
theorem dX0_readRole_55 : decode cX0_readRole 55 = .ok (.iconst 0, 1) := by decide +kernel
theorem dX0_readRole_56 : decode cX0_readRole 56 = .ok (.invokevirtual 148, 3) := by decide +kernel
theorem dX0_readRole_59 : decode cX0_readRole 59 = .ok (.iastore, 1) := by decide +kernel
theorem dX0_readRole_60 : decode cX0_readRole 60 = .ok (.iload_n 3, 1) := by decide +kernel
theorem dX0_readRole_61 : decode cX0_readRole 61 = .ok (.ireturn, 1) := by decide +kernel
def X0_readRole_b27 (y2 : Int32) (w : Wd) : Option (Int32 × Wd) :=
  cl (f_X10_chosen 10 23 24 25 w) fun r4 w3 =>
  if r4 = 2 then
  (cl (f_X10_known 47 8 0 w3) fun r6 w5 =>
  if inb y2 8 = true then
  (lt (wI w5 53 (Int32.toNatClampNeg y2) r6) fun w7 =>
  some (r4, w7))
  else none)
  else
  some (r4, w3)
set_option maxRecDepth 100000 in
set_option maxHeartbeats 4000000 in
theorem t_X0_readRole_b27 {Z : Cz (Int32 × Wd)} (hZ : OKZ Z SC cX0_readRole RX0 4 (some .int) 7) (hE : EndI Z)  (y2 : Int32)  (w : Wd) : BW Z 4 27 [(0, .ref (ph (zY Z) 44)), (1, .ref (ph (zY Z) 1)), (2, .int y2)] [] w (X0_readRole_b27 y2 w) :=
  bw_aload_n hZ 1 rfl dX0_readRole_27 <|
  bw_ldcS hZ 10 rfl dX0_readRole_28 <|
  bw_ldcS hZ 23 rfl dX0_readRole_30 <|
  bw_ldcS hZ 24 rfl dX0_readRole_32 <|
  bw_ldcS hZ 25 rfl dX0_readRole_34 <|
  bw_callVI (As := [.ref (sK (zY Z) 10), .ref (sK (zY Z) 23), .ref (sK (zY Z) 24), .ref (sK (zY Z) 25)]) hZ ml_RX0_220 rc_10 obC_1 (by decide) (c_X10_chosen (zl Z) (zY Z) (hZ_S hZ) 10 23 24 25 (by decide) (by decide) (by decide) (by decide) w) rfl rfl (Nat.le_of_ble_eq_true rfl) dX0_readRole_36 fun r4 w3 =>
  bw_istore_n hZ rfl (by decide) rfl dX0_readRole_39 <|
  bw_iload_n hZ 0 rfl dX0_readRole_40 <|
  bw_iconst hZ 2 (by decide) dX0_readRole_41 <|
  bw_icmp_ne hZ (tgt := 60) (by decide) dX0_readRole_42 (fun _ =>
  bw_iload_n hZ 0 rfl dX0_readRole_60 <|
  bw_iret hZ hE dX0_readRole_61) (fun _ =>
  bw_aload_n hZ 1 rfl dX0_readRole_45 <|
  bw_getR hZ fl_RX0_33 obC_44 rfl dX0_readRole_46 <|
  bw_iload_n hZ 3 rfl dX0_readRole_49 <|
  bw_aload_n hZ 2 rfl dX0_readRole_50 <|
  bw_aload_n hZ 1 rfl dX0_readRole_51 <|
  bw_getR hZ fl_RX0_20 obC_44 rfl dX0_readRole_52 <|
  bw_iconst hZ 0 (by decide) dX0_readRole_55 <|
  bw_callVI (As := [.ref (ph (zY Z) 47), .int 0]) hZ ml_RX0_148 rc_10 obC_1 (by decide) (c_X10_known (zl Z) (zY Z) (hZ_S hZ) 47 8 0 isN47 w3) rfl rfl (Nat.le_of_ble_eq_true rfl) dX0_readRole_56 fun r6 w5 =>
  bw_iast hZ (arC_53 _) dX0_readRole_59 fun w7 =>
  bw_iload_n hZ 0 rfl dX0_readRole_60 <|
  bw_iret hZ hE dX0_readRole_61)
def f_X0_readRole (x2 : Int32) (w : Wd) : Option (Int32 × Wd) :=
  cl (f_X10_is 10 w) fun r2 w1 =>
  if r2 = 0 then
  (X0_readRole_b27 x2 w1)
  else
  if (w1.1 44 11) = ((-1)) then
  (lt (wI w1 44 11 x2) fun w8 =>
  X0_readRole_b27 x2 w8)
  else
  cv (f_X10_fail 3 w1) fun w9 =>
  lt (wI w9 44 11 x2) fun w10 =>
  X0_readRole_b27 x2 w10
set_option maxRecDepth 100000 in
set_option maxHeartbeats 4000000 in
theorem t_X0_readRole {Z : Cz (Int32 × Wd)} (hZ : OKZ Z SC cX0_readRole RX0 4 (some .int) 7) (hE : EndI Z) (x2 : Int32)  (w : Wd) : BW Z 4 0 [(0, .ref (ph (zY Z) 44)), (1, .ref (ph (zY Z) 1)), (2, .int x2)] [] w (f_X0_readRole x2 w) :=
  bw_aload_n hZ 1 rfl dX0_readRole_0 <|
  bw_ldcS hZ 10 rfl dX0_readRole_1 <|
  bw_callVI (As := [.ref (sK (zY Z) 10)]) hZ ml_RX0_109 rc_10 obC_1 (by decide) (c_X10_is (zl Z) (zY Z) (hZ_S hZ) 10 (by decide) w) rfl rfl (Nat.le_of_ble_eq_true rfl) dX0_readRole_3 fun r2 w1 =>
  bw_if_eq hZ (tgt := 27) (by decide) dX0_readRole_6 (fun _ =>
  bw_sub [0, 1, 2] rfl (t_X0_readRole_b27 hZ hE x2 w1)) (fun _ =>
  bw_aload_n hZ 0 rfl dX0_readRole_9 <|
  bw_getI hZ fl_RX0_45 (by decide) obC_44 dX0_readRole_10 <|
  bw_iconst hZ (-1) (by decide) dX0_readRole_13 <|
  bw_icmp_eq hZ (tgt := 22) (by decide) dX0_readRole_14 (fun _ =>
  bw_aload_n hZ 0 rfl dX0_readRole_22 <|
  bw_iload_n hZ 2 rfl dX0_readRole_23 <|
  bw_putI hZ fl_RX0_45 rfl rfl (by decide) obC_44 dX0_readRole_24 fun w8 =>
  bw_sub [0, 1, 2] rfl (t_X0_readRole_b27 hZ hE x2 w8)) (fun _ =>
  bw_aload_n hZ 1 rfl dX0_readRole_17 <|
  bw_iconst hZ 3 (by decide) dX0_readRole_18 <|
  bw_callVV (As := [.int 3]) hZ ml_RX0_138 rc_10 obC_1 (by decide) (c_X10_fail (zl Z) (zY Z) (hZ_S hZ) 3 w1) rfl rfl (Nat.le_of_ble_eq_true rfl) dX0_readRole_19 fun w9 =>
  bw_aload_n hZ 0 rfl dX0_readRole_22 <|
  bw_iload_n hZ 2 rfl dX0_readRole_23 <|
  bw_putI hZ fl_RX0_45 rfl rfl (by decide) obC_44 dX0_readRole_24 fun w10 =>
  bw_sub [0, 1, 2] rfl (t_X0_readRole_b27 hZ hE x2 w10)))
theorem c_X0_readRole (l : Launch) (Y : Ev) (hY : Y.1 = SC) (x2 : Int32)  (w : Wd) : CI l Y yX0_readRole cX0_readRole 4 7 [.ref (ph Y 44), .ref (ph Y 1), .int x2] w .int (f_X0_readRole x2 w) := by
  refine CI_of (S := SC) (by decide) (Nat.le_of_ble_eq_true rfl) hY ?_
  intro Z hl hY2 hZ hE
  subst hY2
  exact t_X0_readRole hZ hE x2 w
-- WhichWill$Tape.passes
theorem dX10_passes_0 : decode cX10_passes 0 = .ok (.aload_n 0, 1) := by decide +kernel
theorem dX10_passes_1 : decode cX10_passes 1 = .ok (.aload_n 1, 1) := by decide +kernel
theorem dX10_passes_2 : decode cX10_passes 2 = .ok (.invokevirtual 53, 3) := by decide +kernel
theorem dX10_passes_5 : decode cX10_passes 5 = .ok (.ifCond .ne 5, 3) := by decide +kernel
theorem dX10_passes_8 : decode cX10_passes 8 = .ok (.iconst 0, 1) := by decide +kernel
theorem dX10_passes_9 : decode cX10_passes 9 = .ok (.ireturn, 1) := by decide +kernel
theorem dX10_passes_10 : decode cX10_passes 10 = .ok (.aload_n 0, 1) := by decide +kernel
theorem dX10_passes_11 : decode cX10_passes 11 = .ok (.invokevirtual 28, 3) := by decide +kernel
theorem dX10_passes_14 : decode cX10_passes 14 = .ok (.iconst 1, 1) := by decide +kernel
theorem dX10_passes_15 : decode cX10_passes 15 = .ok (.ireturn, 1) := by decide +kernel
def f_X10_passes (s1 : Nat) (w : Wd) : Option (Int32 × Wd) :=
  cl (f_X10_is s1 w) fun r2 w1 =>
  if r2 = 0 then
  (some (0, w1))
  else
  cv (f_X10_step w1) fun w3 =>
  some (1, w3)
set_option maxRecDepth 100000 in
set_option maxHeartbeats 4000000 in
theorem t_X10_passes {Z : Cz (Int32 × Wd)} (hZ : OKZ Z SC cX10_passes RX10 2 (some .boolean) 6) (hE : EndI Z) (s1 : Nat) (hs1 : s1 < sNum) (w : Wd) : BW Z 2 0 [(0, .ref (ph (zY Z) 1)), (1, .ref (sK (zY Z) s1))] [] w (f_X10_passes s1 w) :=
  bw_aload_n hZ 0 rfl dX10_passes_0 <|
  bw_aload_n hZ 1 rfl dX10_passes_1 <|
  bw_callVI (As := [.ref (sK (zY Z) s1)]) hZ ml_RX10_53 rc_10 obC_1 (by decide) (c_X10_is (zl Z) (zY Z) (hZ_S hZ) s1 hs1 w) rfl rfl (Nat.le_of_ble_eq_true rfl) dX10_passes_2 fun r2 w1 =>
  bw_if_ne hZ (tgt := 10) (by decide) dX10_passes_5 (fun _ =>
  bw_aload_n hZ 0 rfl dX10_passes_10 <|
  bw_callVV (As := []) hZ ml_RX10_28 rc_10 obC_1 (by decide) (c_X10_step (zl Z) (zY Z) (hZ_S hZ) w1) rfl rfl (Nat.le_of_ble_eq_true rfl) dX10_passes_11 fun w3 =>
  bw_iconst hZ 1 (by decide) dX10_passes_14 <|
  bw_zret hZ hE (by decide) dX10_passes_15) (fun _ =>
  bw_iconst hZ 0 (by decide) dX10_passes_8 <|
  bw_zret hZ hE (by decide) dX10_passes_9)
theorem c_X10_passes (l : Launch) (Y : Ev) (hY : Y.1 = SC) (s1 : Nat) (hs1 : s1 < sNum) (w : Wd) : CI l Y yX10_passes cX10_passes 2 6 [.ref (ph Y 1), .ref (sK Y s1)] w .boolean (f_X10_passes s1 w) := by
  refine CI_of (S := SC) (by decide) (Nat.le_of_ble_eq_true rfl) hY ?_
  intro Z hl hY2 hZ hE
  subst hY2
  exact t_X10_passes hZ hE s1 hs1 w
-- WhichWill$Estate.readPerson
theorem dX0_readPerson_0 : decode cX0_readPerson 0 = .ok (.aload_n 1, 1) := by decide +kernel
theorem dX0_readPerson_1 : decode cX0_readPerson 1 = .ok (.aload_n 0, 1) := by decide +kernel
theorem dX0_readPerson_2 : decode cX0_readPerson 2 = .ok (.getfield 20, 3) := by decide +kernel
theorem dX0_readPerson_5 : decode cX0_readPerson 5 = .ok (.invokestatic 160, 3) := by decide +kernel
theorem dX0_readPerson_8 : decode cX0_readPerson 8 = .ok (.aload_n 1, 1) := by decide +kernel
theorem dX0_readPerson_9 : decode cX0_readPerson 9 = .ok (.aload_n 0, 1) := by decide +kernel
theorem dX0_readPerson_10 : decode cX0_readPerson 10 = .ok (.getfield 20, 3) := by decide +kernel
theorem dX0_readPerson_13 : decode cX0_readPerson 13 = .ok (.invokevirtual 164, 3) := by decide +kernel
theorem dX0_readPerson_16 : decode cX0_readPerson 16 = .ok (.ifCond .ne 4, 3) := by decide +kernel
theorem dX0_readPerson_19 : decode cX0_readPerson 19 = .ok (.return_, 1) := by decide +kernel
theorem dX0_readPerson_20 : decode cX0_readPerson 20 = .ok (.aload_n 0, 1) := by decide +kernel
theorem dX0_readPerson_21 : decode cX0_readPerson 21 = .ok (.getfield 20, 3) := by decide +kernel
theorem dX0_readPerson_24 : decode cX0_readPerson 24 = .ok (.getfield 58, 3) := by decide +kernel
theorem dX0_readPerson_27 : decode cX0_readPerson 27 = .ok (.istore_n 2, 1) := by decide +kernel
theorem dX0_readPerson_28 : decode cX0_readPerson 28 = .ok (.aload_n 1, 1) := by decide +kernel
theorem dX0_readPerson_29 : decode cX0_readPerson 29 = .ok (.getfield 168, 3) := by decide +kernel
theorem dX0_readPerson_32 : decode cX0_readPerson 32 = .ok (.lstore_n 3, 1) := by decide +kernel
theorem dX0_readPerson_33 : decode cX0_readPerson 33 = .ok (.aload_n 1, 1) := by decide +kernel
theorem dX0_readPerson_34 : decode cX0_readPerson 34 = .ok (.invokevirtual 141, 3) := by decide +kernel
theorem dX0_readPerson_37 : decode cX0_readPerson 37 = .ok (.aload_n 0, 1) := by decide +kernel
theorem dX0_readPerson_38 : decode cX0_readPerson 38 = .ok (.getfield 42, 3) := by decide +kernel
theorem dX0_readPerson_41 : decode cX0_readPerson 41 = .ok (.iload_n 2, 1) := by decide +kernel
theorem dX0_readPerson_42 : decode cX0_readPerson 42 = .ok (.iconst 0, 1) := by decide +kernel
theorem dX0_readPerson_43 : decode cX0_readPerson 43 = .ok (.iastore, 1) := by decide +kernel
theorem dX0_readPerson_44 : decode cX0_readPerson 44 = .ok (.aload_n 0, 1) := by decide +kernel
theorem dX0_readPerson_45 : decode cX0_readPerson 45 = .ok (.getfield 33, 3) := by decide +kernel
theorem dX0_readPerson_48 : decode cX0_readPerson 48 = .ok (.iload_n 2, 1) := by decide +kernel
theorem dX0_readPerson_49 : decode cX0_readPerson 49 = .ok (.iconst (-1), 1) := by decide +kernel
theorem dX0_readPerson_50 : decode cX0_readPerson 50 = .ok (.iastore, 1) := by decide +kernel
theorem dX0_readPerson_51 : decode cX0_readPerson 51 = .ok (.aload_n 0, 1) := by decide +kernel
theorem dX0_readPerson_52 : decode cX0_readPerson 52 = .ok (.getfield 30, 3) := by decide +kernel
theorem dX0_readPerson_55 : decode cX0_readPerson 55 = .ok (.iload_n 2, 1) := by decide +kernel
theorem dX0_readPerson_56 : decode cX0_readPerson 56 = .ok (.aload_n 0, 1) := by decide +kernel
theorem dX0_readPerson_57 : decode cX0_readPerson 57 = .ok (.aload_n 1, 1) := by decide +kernel
theorem dX0_readPerson_58 : decode cX0_readPerson 58 = .ok (.iload_n 2, 1) := by decide +kernel
theorem dX0_readPerson_59 : decode cX0_readPerson 59 = .ok (.invokevirtual 228, 3) := by decide +kernel
theorem dX0_readPerson_62 : decode cX0_readPerson 62 = .ok (.iastore, 1) := by decide +kernel
theorem dX0_readPerson_63 : decode cX0_readPerson 63 = .ok (.aload_n 1, 1) := by decide +kernel
theorem dX0_readPerson_64 : decode cX0_readPerson 64 = .ok (.ldc 231, 2) := by decide +kernel
theorem dX0_readPerson_66 : decode cX0_readPerson 66 = .ok (.invokevirtual 232, 3) := by decide +kernel
theorem dX0_readPerson_69 : decode cX0_readPerson 69 = .ok (.ifCond .eq 15, 3) := by decide +kernel
theorem dX0_readPerson_72 : decode cX0_readPerson 72 = .ok (.aload_n 0, 1) := by decide +kernel
theorem dX0_readPerson_73 : decode cX0_readPerson 73 = .ok (.dup, 1) := by decide +kernel
theorem dX0_readPerson_74 : decode cX0_readPerson 74 = .ok (.getfield 64, 3) := by decide +kernel
theorem dX0_readPerson_77 : decode cX0_readPerson 77 = .ok (.iconst 1, 1) := by decide +kernel
theorem dX0_readPerson_78 : decode cX0_readPerson 78 = .ok (.iload_n 2, 1) := by decide +kernel
theorem dX0_readPerson_79 : decode cX0_readPerson 79 = .ok (.ishl, 1) := by decide +kernel
theorem dX0_readPerson_80 : decode cX0_readPerson 80 = .ok (.ior, 1) := by decide +kernel
theorem dX0_readPerson_81 : decode cX0_readPerson 81 = .ok (.putfield 64, 3) := by decide +kernel
theorem dX0_readPerson_84 : decode cX0_readPerson 84 = .ok (.aload_n 0, 1) := by decide +kernel
theorem dX0_readPerson_85 : decode cX0_readPerson 85 = .ok (.getfield 20, 3) := by decide +kernel
theorem dX0_readPerson_88 : decode cX0_readPerson 88 = .ok (.lload_n 3, 1) := by decide +kernel
theorem dX0_readPerson_89 : decode cX0_readPerson 89 = .ok (.invokevirtual 172, 3) := by decide +kernel
theorem dX0_readPerson_92 : decode cX0_readPerson 92 = .ok (.return_, 1) := by decide +kernel
def X0_readPerson_b84 (y3 : Int64) (w : Wd) : Option (Wd) :=
  cv (f_X4_add 47 8 y3 w) fun w14 =>
  some w14
set_option maxRecDepth 100000 in
set_option maxHeartbeats 4000000 in
theorem t_X0_readPerson_b84 {Z : Cz (Wd)} (hZ : OKZ Z SC cX0_readPerson RX0 5 none 8) (hE : EndV Z)  (y3 : Int64)  (w : Wd) : BW Z 5 84 [(0, .ref (ph (zY Z) 44)), (3, .long y3)] [] w (X0_readPerson_b84 y3 w) :=
  bw_aload_n hZ 0 rfl dX0_readPerson_84 <|
  bw_getR hZ fl_RX0_20 obC_44 rfl dX0_readPerson_85 <|
  bw_lload_n hZ 1 rfl dX0_readPerson_88 <|
  bw_callVV (As := [.long y3]) hZ ml_RX0_172 rc_4 obC_47 (by decide) (c_X4_add (zl Z) (zY Z) (hZ_S hZ) 47 8 y3 isN47 w) rfl rfl (Nat.le_of_ble_eq_true rfl) dX0_readPerson_89 fun w14 =>
  bw_vret hZ hE dX0_readPerson_92
def f_X0_readPerson (w : Wd) : Option (Wd) :=
  cv (f_X0_passUnlessFull 47 8 w) fun w1 =>
  cl (f_X10_hasNewName 47 8 w1) fun r3 w2 =>
  if r3 = 0 then
  (some w2)
  else
  lt (w2.1 47 1) fun v4 =>
  lt (w2.2 1 3) fun v5 =>
  cv (f_X10_step w2) fun w6 =>
  if inb v4 8 = true then
  (lt (wI w6 56 (Int32.toNatClampNeg v4) 0) fun w7 =>
  if inb v4 8 = true then
  (lt (wI w7 53 (Int32.toNatClampNeg v4) ((-1))) fun w8 =>
  cl (f_X0_readRole v4 w8) fun r10 w9 =>
  if inb v4 8 = true then
  (lt (wI w9 52 (Int32.toNatClampNeg v4) r10) fun w11 =>
  cl (f_X10_passes 26 w11) fun r13 w12 =>
  if r13 = 0 then
  (X0_readPerson_b84 v5 w12)
  else
  lt (wI w12 44 10 ((w12.1 44 10) ||| (1 <<< (v4 &&& 31)))) fun w15 =>
  X0_readPerson_b84 v5 w15)
  else none)
  else none)
  else none
set_option maxRecDepth 100000 in
set_option maxHeartbeats 4000000 in
theorem t_X0_readPerson {Z : Cz (Wd)} (hZ : OKZ Z SC cX0_readPerson RX0 5 none 8) (hE : EndV Z)   (w : Wd) : BW Z 5 0 [(0, .ref (ph (zY Z) 44)), (1, .ref (ph (zY Z) 1))] [] w (f_X0_readPerson w) :=
  bw_aload_n hZ 1 rfl dX0_readPerson_0 <|
  bw_aload_n hZ 0 rfl dX0_readPerson_1 <|
  bw_getR hZ fl_RX0_20 obC_44 rfl dX0_readPerson_2 <|
  bw_callSV (As := [.ref (ph (zY Z) 1), .ref (ph (zY Z) 47)]) hZ ms_RX0_160 (by decide) (c_X0_passUnlessFull (zl Z) (zY Z) (hZ_S hZ) 47 8 isN47 w) rfl rfl (Nat.le_of_ble_eq_true rfl) dX0_readPerson_5 fun w1 =>
  bw_aload_n hZ 1 rfl dX0_readPerson_8 <|
  bw_aload_n hZ 0 rfl dX0_readPerson_9 <|
  bw_getR hZ fl_RX0_20 obC_44 rfl dX0_readPerson_10 <|
  bw_callVI (As := [.ref (ph (zY Z) 47)]) hZ ml_RX0_164 rc_10 obC_1 (by decide) (c_X10_hasNewName (zl Z) (zY Z) (hZ_S hZ) 47 8 isN47 w1) rfl rfl (Nat.le_of_ble_eq_true rfl) dX0_readPerson_13 fun r3 w2 =>
  bw_if_ne hZ (tgt := 20) (by decide) dX0_readPerson_16 (fun _ =>
  bw_aload_n hZ 0 rfl dX0_readPerson_20 <|
  bw_getR hZ fl_RX0_20 obC_44 rfl dX0_readPerson_21 <|
  bw_getI hZ fl_RX0_58 (by decide) obC_47 dX0_readPerson_24 <|
  bw_nm fun v4 =>
  bw_istore_n hZ rfl (by decide) rfl dX0_readPerson_27 <|
  bw_aload_n hZ 2 rfl dX0_readPerson_28 <|
  bw_getG hZ fl_RX0_168 obC_1 dX0_readPerson_29 <|
  bw_nmL fun v5 =>
  bw_lstore_n hZ rfl (by decide) rfl dX0_readPerson_32 <|
  bw_aload_n hZ 3 rfl dX0_readPerson_33 <|
  bw_callVV (As := []) hZ ml_RX0_141 rc_10 obC_1 (by decide) (c_X10_step (zl Z) (zY Z) (hZ_S hZ) w2) rfl rfl (Nat.le_of_ble_eq_true rfl) dX0_readPerson_34 fun w6 =>
  bw_aload_n hZ 2 rfl dX0_readPerson_37 <|
  bw_getR hZ fl_RX0_42 obC_44 rfl dX0_readPerson_38 <|
  bw_iload_n hZ 1 rfl dX0_readPerson_41 <|
  bw_iconst hZ 0 (by decide) dX0_readPerson_42 <|
  bw_iast hZ (arC_56 _) dX0_readPerson_43 fun w7 =>
  bw_aload_n hZ 2 rfl dX0_readPerson_44 <|
  bw_getR hZ fl_RX0_33 obC_44 rfl dX0_readPerson_45 <|
  bw_iload_n hZ 1 rfl dX0_readPerson_48 <|
  bw_iconst hZ (-1) (by decide) dX0_readPerson_49 <|
  bw_iast hZ (arC_53 _) dX0_readPerson_50 fun w8 =>
  bw_aload_n hZ 2 rfl dX0_readPerson_51 <|
  bw_getR hZ fl_RX0_30 obC_44 rfl dX0_readPerson_52 <|
  bw_iload_n hZ 1 rfl dX0_readPerson_55 <|
  bw_aload_n hZ 2 rfl dX0_readPerson_56 <|
  bw_aload_n hZ 3 rfl dX0_readPerson_57 <|
  bw_iload_n hZ 1 rfl dX0_readPerson_58 <|
  bw_callVI (As := [.ref (ph (zY Z) 1), .int v4]) hZ ml_RX0_228 rc_0 obC_44 (by decide) (c_X0_readRole (zl Z) (zY Z) (hZ_S hZ) v4 w8) rfl rfl (Nat.le_of_ble_eq_true rfl) dX0_readPerson_59 fun r10 w9 =>
  bw_iast hZ (arC_52 _) dX0_readPerson_62 fun w11 =>
  bw_aload_n hZ 3 rfl dX0_readPerson_63 <|
  bw_ldcS hZ 26 rfl dX0_readPerson_64 <|
  bw_callVI (As := [.ref (sK (zY Z) 26)]) hZ ml_RX0_232 rc_10 obC_1 (by decide) (c_X10_passes (zl Z) (zY Z) (hZ_S hZ) 26 (by decide) w11) rfl rfl (Nat.le_of_ble_eq_true rfl) dX0_readPerson_66 fun r13 w12 =>
  bw_if_eq hZ (tgt := 84) (by decide) dX0_readPerson_69 (fun _ =>
  bw_sub [2, 0] rfl (t_X0_readPerson_b84 hZ hE v5 w12)) (fun _ =>
  bw_aload_n hZ 2 rfl dX0_readPerson_72 <|
  bw_dup hZ rfl dX0_readPerson_73 <|
  bw_getI hZ fl_RX0_64 (by decide) obC_44 dX0_readPerson_74 <|
  bw_iconst hZ 1 (by decide) dX0_readPerson_77 <|
  bw_iload_n hZ 1 rfl dX0_readPerson_78 <|
  bw_ishl hZ dX0_readPerson_79 <|
  bw_ior hZ dX0_readPerson_80 <|
  bw_putI hZ fl_RX0_64 rfl rfl (by decide) obC_44 dX0_readPerson_81 fun w15 =>
  bw_sub [2, 0] rfl (t_X0_readPerson_b84 hZ hE v5 w15))) (fun _ =>
  bw_vret hZ hE dX0_readPerson_19)
theorem c_X0_readPerson (l : Launch) (Y : Ev) (hY : Y.1 = SC)   (w : Wd) : CV l Y yX0_readPerson cX0_readPerson 5 8 [.ref (ph Y 44), .ref (ph Y 1)] w (f_X0_readPerson w) := by
  refine CV_of (S := SC) (by decide) (Nat.le_of_ble_eq_true rfl) hY ?_
  intro Z hl hY2 hZ hE
  subst hY2
  exact t_X0_readPerson hZ hE w
