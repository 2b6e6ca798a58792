-- WhichWillModel.paid
theorem dX12_paid_0 : decode cX12_paid 0 = .ok (.aload_n 0, 1) := by decide +kernel
theorem dX12_paid_1 : decode cX12_paid 1 = .ok (.iload_n 1, 1) := by decide +kernel
theorem dX12_paid_2 : decode cX12_paid 2 = .ok (.invokevirtual 682, 3) := by decide +kernel
theorem dX12_paid_5 : decode cX12_paid 5 = .ok (.ifCond .eq 11, 3) := by decide +kernel
theorem dX12_paid_8 : decode cX12_paid 8 = .ok (.aload_n 0, 1) := by decide +kernel
theorem dX12_paid_9 : decode cX12_paid 9 = .ok (.iload_n 2, 1) := by decide +kernel
theorem dX12_paid_10 : decode cX12_paid 10 = .ok (.invokevirtual 625, 3) := by decide +kernel
theorem dX12_paid_13 : decode cX12_paid 13 = .ok (.ifCond .ne 6, 3) := by decide +kernel
theorem dX12_paid_16 : decode cX12_paid 16 = .ok (.bipush (-2), 2) := by decide +kernel
theorem dX12_paid_18 : decode cX12_paid 18 = .ok (.ireturn, 1) := by decide +kernel
theorem dX12_paid_19 : decode cX12_paid 19 = .ok (.aload_n 0, 1) := by decide +kernel
theorem dX12_paid_20 : decode cX12_paid 20 = .ok (.iload_n 2, 1) := by decide +kernel
theorem dX12_paid_21 : decode cX12_paid 21 = .ok (.invokevirtual 673, 3) := by decide +kernel
theorem dX12_paid_24 : decode cX12_paid 24 = .ok (.aload_n 0, 1) := by decide +kernel
theorem dX12_paid_25 : decode cX12_paid 25 = .ok (.invokevirtual 685, 3) := by decide +kernel
theorem dX12_paid_28 : decode cX12_paid 28 = .ok (.aload_n 0, 1) := by decide +kernel
theorem dX12_paid_29 : decode cX12_paid 29 = .ok (.getfield 359, 3) := by decide +kernel
theorem dX12_paid_32 : decode cX12_paid 32 = .ok (.iload_n 1, 1) := by decide +kernel
theorem dX12_paid_33 : decode cX12_paid 33 = .ok (.iaload, 1) := by decide +kernel
theorem dX12_paid_34 : decode cX12_paid 34 = .ok (.ireturn, 1) := by decide +kernel
def f_X12_paid (x1 : Int32) (x2 : Int32) (w : Wd) : Option (Int32 × Wd) :=
  cl (f_X12_isPerson x1 w) fun r2 w1 =>
  if r2 = 0 then
  (some ((-2), w1))
  else
  cl (f_X12_isWay x2 w1) fun r4 w3 =>
  if r4 = 0 then
  (some ((-2), w3))
  else
  cv (f_X12_goWay x2 w3) fun w5 =>
  cv (f_X12_goMoney w5) fun w6 =>
  if inb x1 8 = true then
  (some (w6.1 49 (Int32.toNatClampNeg x1), w6))
  else none
set_option maxRecDepth 100000 in
set_option maxHeartbeats 4000000 in
theorem t_X12_paid {Z : Cz (Int32 × Wd)} (hZ : OKZ Z SM cX12_paid RX12 3 (some .int) 25) (hE : EndI Z) (x1 : Int32) (x2 : Int32)  (w : Wd) : BW Z 3 0 [(0, .ref (ph (zY Z) 0)), (1, .int x1), (2, .int x2)] [] w (f_X12_paid x1 x2 w) :=
  bw_aload_n hZ 0 rfl dX12_paid_0 <|
  bw_iload_n hZ 1 rfl dX12_paid_1 <|
  bw_callVI (As := [.int x1]) hZ ml_RX12_682 rc_12 obM_0 (by decide) (c_X12_isPerson (zl Z) (zY Z) (hZ_S hZ) x1 w) rfl rfl (Nat.le_of_ble_eq_true rfl) dX12_paid_2 fun r2 w1 =>
  bw_if_eq hZ (tgt := 16) (by decide) dX12_paid_5 (fun _ =>
  bw_bipush hZ (-2) (by decide) dX12_paid_16 <|
  bw_iret hZ hE dX12_paid_18) (fun _ =>
  bw_aload_n hZ 0 rfl dX12_paid_8 <|
  bw_iload_n hZ 2 rfl dX12_paid_9 <|
  bw_callVI (As := [.int x2]) hZ ml_RX12_625 rc_12 obM_0 (by decide) (c_X12_isWay (zl Z) (zY Z) (hZ_S hZ) x2 w1) rfl rfl (Nat.le_of_ble_eq_true rfl) dX12_paid_10 fun r4 w3 =>
  bw_if_ne hZ (tgt := 19) (by decide) dX12_paid_13 (fun _ =>
  bw_aload_n hZ 0 rfl dX12_paid_19 <|
  bw_iload_n hZ 2 rfl dX12_paid_20 <|
  bw_callVV (As := [.int x2]) hZ ml_RX12_673 rc_12 obM_0 (by decide) (c_X12_goWay (zl Z) (zY Z) (hZ_S hZ) x2 w3) rfl rfl (Nat.le_of_ble_eq_true rfl) dX12_paid_21 fun w5 =>
  bw_aload_n hZ 0 rfl dX12_paid_24 <|
  bw_callVV (As := []) hZ ml_RX12_685 rc_12 obM_0 (by decide) (c_X12_goMoney (zl Z) (zY Z) (hZ_S hZ) w5) rfl rfl (Nat.le_of_ble_eq_true rfl) dX12_paid_25 fun w6 =>
  bw_aload_n hZ 0 rfl dX12_paid_28 <|
  bw_getR hZ fl_RX12_359 obM_0 rfl dX12_paid_29 <|
  bw_iload_n hZ 1 rfl dX12_paid_32 <|
  bw_iald hZ (arM_49 _) dX12_paid_33 <|
  bw_iret hZ hE dX12_paid_34) (fun _ =>
  bw_bipush hZ (-2) (by decide) dX12_paid_16 <|
  bw_iret hZ hE dX12_paid_18))
theorem c_X12_paid (l : Launch) (Y : Ev) (hY : Y.1 = SM) (x1 : Int32) (x2 : Int32)  (w : Wd) : CI l Y yX12_paid cX12_paid 3 25 [.ref (ph Y 0), .int x1, .int x2] w .int (f_X12_paid x1 x2 w) := by
  refine CI_of (S := SM) (by decide) (Nat.le_of_ble_eq_true rfl) hY ?_
  intro Z hl hY2 hZ hE
  subst hY2
  exact t_X12_paid hZ hE x1 x2 w
-- WhichWillModel.sumWay
theorem dX12_sumWay_0 : decode cX12_sumWay 0 = .ok (.aload_n 0, 1) := by decide +kernel
theorem dX12_sumWay_1 : decode cX12_sumWay 1 = .ok (.iload_n 1, 1) := by decide +kernel
theorem dX12_sumWay_2 : decode cX12_sumWay 2 = .ok (.invokevirtual 673, 3) := by decide +kernel
theorem dX12_sumWay_5 : decode cX12_sumWay 5 = .ok (.aload_n 0, 1) := by decide +kernel
theorem dX12_sumWay_6 : decode cX12_sumWay 6 = .ok (.invokevirtual 685, 3) := by decide +kernel
theorem dX12_sumWay_9 : decode cX12_sumWay 9 = .ok (.iconst 0, 1) := by decide +kernel
theorem dX12_sumWay_10 : decode cX12_sumWay 10 = .ok (.istore_n 2, 1) := by decide +kernel
theorem dX12_sumWay_11 : decode cX12_sumWay 11 = .ok (.iload_n 2, 1) := by decide +kernel
theorem dX12_sumWay_12 : decode cX12_sumWay 12 = .ok (.bipush 8, 2) := by decide +kernel
theorem dX12_sumWay_14 : decode cX12_sumWay 14 = .ok (.if_icmp .ge 26, 3) := by decide +kernel
theorem dX12_sumWay_17 : decode cX12_sumWay 17 = .ok (.aload_n 0, 1) := by decide +kernel
theorem dX12_sumWay_18 : decode cX12_sumWay 18 = .ok (.getfield 366, 3) := by decide +kernel
theorem dX12_sumWay_21 : decode cX12_sumWay 21 = .ok (.bipush 8, 2) := by decide +kernel
theorem dX12_sumWay_23 : decode cX12_sumWay 23 = .ok (.iload_n 1, 1) := by decide +kernel
theorem dX12_sumWay_24 : decode cX12_sumWay 24 = .ok (.imul, 1) := by decide +kernel
theorem dX12_sumWay_25 : decode cX12_sumWay 25 = .ok (.iload_n 2, 1) := by decide +kernel
theorem dX12_sumWay_26 : decode cX12_sumWay 26 = .ok (.iadd, 1) := by decide +kernel
theorem dX12_sumWay_27 : decode cX12_sumWay 27 = .ok (.aload_n 0, 1) := by decide +kernel
theorem dX12_sumWay_28 : decode cX12_sumWay 28 = .ok (.getfield 357, 3) := by decide +kernel
theorem dX12_sumWay_31 : decode cX12_sumWay 31 = .ok (.iload_n 2, 1) := by decide +kernel
theorem dX12_sumWay_32 : decode cX12_sumWay 32 = .ok (.iaload, 1) := by decide +kernel
theorem dX12_sumWay_33 : decode cX12_sumWay 33 = .ok (.iastore, 1) := by decide +kernel
theorem dX12_sumWay_34 : decode cX12_sumWay 34 = .ok (.iinc 2 1, 3) := by decide +kernel
theorem dX12_sumWay_37 : decode cX12_sumWay 37 = .ok (.goto (-26), 3) := by decide +kernel
theorem dX12_sumWay_40 : decode cX12_sumWay 40 = .ok (.iconst 0, 1) := by decide +kernel
theorem dX12_sumWay_41 : decode cX12_sumWay 41 = .ok (.istore_n 2, 1) := by decide +kernel
theorem dX12_sumWay_42 : decode cX12_sumWay 42 = .ok (.iload_n 2, 1) := by decide +kernel
theorem dX12_sumWay_43 : decode cX12_sumWay 43 = .ok (.aload_n 0, 1) := by decide +kernel
theorem dX12_sumWay_44 : decode cX12_sumWay 44 = .ok (.getfield 415, 3) := by decide +kernel
theorem dX12_sumWay_47 : decode cX12_sumWay 47 = .ok (.if_icmp .ge 51, 3) := by decide +kernel
theorem dX12_sumWay_50 : decode cX12_sumWay 50 = .ok (.aload_n 0, 1) := by decide +kernel
theorem dX12_sumWay_51 : decode cX12_sumWay 51 = .ok (.iload_n 2, 1) := by decide +kernel
theorem dX12_sumWay_52 : decode cX12_sumWay 52 = .ok (.invokevirtual 676, 3) := by decide +kernel
theorem dX12_sumWay_55 : decode cX12_sumWay 55 = .ok (.pop, 1) := by decide +kernel
theorem dX12_sumWay_56 : decode cX12_sumWay 56 = .ok (.iconst 0, 1) := by decide +kernel
theorem dX12_sumWay_57 : decode cX12_sumWay 57 = .ok (.istore_n 3, 1) := by decide +kernel
theorem dX12_sumWay_58 : decode cX12_sumWay 58 = .ok (.iload_n 3, 1) := by decide +kernel
theorem dX12_sumWay_59 : decode cX12_sumWay 59 = .ok (.aload_n 0, 1) := by decide +kernel
theorem dX12_sumWay_60 : decode cX12_sumWay 60 = .ok (.getfield 412, 3) := by decide +kernel
theorem dX12_sumWay_63 : decode cX12_sumWay 63 = .ok (.if_icmp .ge 29, 3) := by decide +kernel
theorem dX12_sumWay_66 : decode cX12_sumWay 66 = .ok (.aload_n 0, 1) := by decide +kernel
theorem dX12_sumWay_67 : decode cX12_sumWay 67 = .ok (.getfield 366, 3) := by decide +kernel
theorem dX12_sumWay_70 : decode cX12_sumWay 70 = .ok (.bipush 8, 2) := by decide +kernel
theorem dX12_sumWay_72 : decode cX12_sumWay 72 = .ok (.iload_n 1, 1) := by decide +kernel
theorem dX12_sumWay_73 : decode cX12_sumWay 73 = .ok (.imul, 1) := by decide +kernel
theorem dX12_sumWay_74 : decode cX12_sumWay 74 = .ok (.iload_n 3, 1) := by decide +kernel
theorem dX12_sumWay_75 : decode cX12_sumWay 75 = .ok (.iadd, 1) := by decide +kernel
theorem dX12_sumWay_76 : decode cX12_sumWay 76 = .ok (.dup2, 1) := by decide +kernel
theorem dX12_sumWay_77 : decode cX12_sumWay 77 = .ok (.iaload, 1) := by decide +kernel
theorem dX12_sumWay_78 : decode cX12_sumWay 78 = .ok (.aload_n 0, 1) := by decide +kernel
theorem dX12_sumWay_79 : decode cX12_sumWay 79 = .ok (.getfield 357, 3) := by decide +kernel
theorem dX12_sumWay_82 : decode cX12_sumWay 82 = .ok (.iload_n 3, 1) := by decide +kernel
theorem dX12_sumWay_83 : decode cX12_sumWay 83 = .ok (.iaload, 1) := by decide +kernel
theorem dX12_sumWay_84 : decode cX12_sumWay 84 = .ok (.iadd, 1) := by decide +kernel
theorem dX12_sumWay_85 : decode cX12_sumWay 85 = .ok (.iastore, 1) := by decide +kernel
theorem dX12_sumWay_86 : decode cX12_sumWay 86 = .ok (.iinc 3 1, 3) := by decide +kernel
theorem dX12_sumWay_89 : decode cX12_sumWay 89 = .ok (.goto (-31), 3) := by decide +kernel
theorem dX12_sumWay_92 : decode cX12_sumWay 92 = .ok (.iinc 2 1, 3) := by decide +kernel
theorem dX12_sumWay_95 : decode cX12_sumWay 95 = .ok (.goto (-53), 3) := by decide +kernel
theorem dX12_sumWay_98 : decode cX12_sumWay 98 = .ok (.return_, 1) := by decide +kernel
def X12_sumWay_b58 (k42 : Int32 → Int32 → Wd → Option (Wd)) (k58 : Int32 → Int32 → Int32 → Wd → Option (Wd)) (y1 : Int32) (y2 : Int32) (y3 : Int32) (w : Wd) : Option (Wd) :=
  if (w.1 0 11) ≤ y3 then
  (k42 y1 (y2 + 1) w)
  else
  if inb ((8 * y1) + y3) 46080 = true then
  (if inb y3 8 = true then
  (if inb ((8 * y1) + y3) 46080 = true then
  (lt (wI w 51 (Int32.toNatClampNeg ((8 * y1) + y3)) ((w.1 51 (Int32.toNatClampNeg ((8 * y1) + y3))) + (w.1 48 (Int32.toNatClampNeg y3)))) fun w5 =>
  k58 y1 y2 (y3 + 1) w5)
  else none)
  else none)
  else none
set_option maxRecDepth 100000 in
set_option maxHeartbeats 4000000 in
theorem t_X12_sumWay_b58 {Z : Cz (Wd)} (hZ : OKZ Z SM cX12_sumWay RX12 4 none 25) (hE : EndV Z) (k42 : Int32 → Int32 → Wd → Option (Wd)) (hk42 : ∀ (y1 : Int32) (y2 : Int32)  (w : Wd), BW Z 4 42 [(0, .ref (ph (zY Z) 0)), (1, .int y1), (2, .int y2)] [] w (k42 y1 y2 w)) (k58 : Int32 → Int32 → Int32 → Wd → Option (Wd)) (hk58 : ∀ (y1 : Int32) (y2 : Int32) (y3 : Int32)  (w : Wd), BW Z 4 58 [(0, .ref (ph (zY Z) 0)), (1, .int y1), (2, .int y2), (3, .int y3)] [] w (k58 y1 y2 y3 w)) (y1 : Int32) (y2 : Int32) (y3 : Int32)  (w : Wd) : BW Z 4 58 [(0, .ref (ph (zY Z) 0)), (1, .int y1), (2, .int y2), (3, .int y3)] [] w (X12_sumWay_b58 k42 k58 y1 y2 y3 w) :=
  bw_iload_n hZ 3 rfl dX12_sumWay_58 <|
  bw_aload_n hZ 0 rfl dX12_sumWay_59 <|
  bw_getI hZ fl_RX12_412 (by decide) obM_0 dX12_sumWay_60 <|
  bw_icmp_ge hZ (tgt := 92) (by decide) dX12_sumWay_63 (fun _ =>
  bw_iinc hZ 1 2 rfl (by decide) (by decide) rfl dX12_sumWay_92 <|
  bw_goto hZ (tgt := 42) (by decide) dX12_sumWay_95 <|
  bw_sub [1, 2, 0] rfl (hk42 y1 (y2 + 1) w)) (fun _ =>
  bw_aload_n hZ 0 rfl dX12_sumWay_66 <|
  bw_getR hZ fl_RX12_366 obM_0 rfl dX12_sumWay_67 <|
  bw_bipush hZ 8 (by decide) dX12_sumWay_70 <|
  bw_iload_n hZ 1 rfl dX12_sumWay_72 <|
  bw_imul hZ dX12_sumWay_73 <|
  bw_iload_n hZ 3 rfl dX12_sumWay_74 <|
  bw_iadd hZ dX12_sumWay_75 <|
  bw_dup2 hZ rfl rfl dX12_sumWay_76 <|
  bw_iald hZ (arM_51 _) dX12_sumWay_77 <|
  bw_aload_n hZ 0 rfl dX12_sumWay_78 <|
  bw_getR hZ fl_RX12_357 obM_0 rfl dX12_sumWay_79 <|
  bw_iload_n hZ 3 rfl dX12_sumWay_82 <|
  bw_iald hZ (arM_48 _) dX12_sumWay_83 <|
  bw_iadd hZ dX12_sumWay_84 <|
  bw_iast hZ (arM_51 _) dX12_sumWay_85 fun w5 =>
  bw_iinc hZ 1 3 rfl (by decide) (by decide) rfl dX12_sumWay_86 <|
  bw_goto hZ (tgt := 58) (by decide) dX12_sumWay_89 <|
  bw_sub [1, 2, 3, 0] rfl (hk58 y1 y2 (y3 + 1) w5))
def X12_sumWay_b58_L (k42 : Int32 → Int32 → Wd → Option (Wd)) : Int32 → Int32 → Int32 → Wd → Option (Wd) :=
  lp fu (fun _ _ _ _ => none) (fun k58 => X12_sumWay_b58 k42 k58)
theorem t_X12_sumWay_b58_L {Z : Cz (Wd)} (hZ : OKZ Z SM cX12_sumWay RX12 4 none 25) (hE : EndV Z) (k42 : Int32 → Int32 → Wd → Option (Wd)) (hk42 : ∀ (y1 : Int32) (y2 : Int32)  (w : Wd), BW Z 4 42 [(0, .ref (ph (zY Z) 0)), (1, .int y1), (2, .int y2)] [] w (k42 y1 y2 w)) : ∀ (y1 : Int32) (y2 : Int32) (y3 : Int32)  (w : Wd), BW Z 4 58 [(0, .ref (ph (zY Z) 0)), (1, .int y1), (2, .int y2), (3, .int y3)] [] w (X12_sumWay_b58_L k42 y1 y2 y3 w) :=
  lp_bw (fun k58 => ∀ (y1 : Int32) (y2 : Int32) (y3 : Int32)  (w : Wd), BW Z 4 58 [(0, .ref (ph (zY Z) 0)), (1, .int y1), (2, .int y2), (3, .int y3)] [] w (k58 y1 y2 y3 w)) (fun _ _ _ _ => bw_none) (fun k58 hk58 y1 y2 y3 w => t_X12_sumWay_b58 hZ hE k42 hk42 k58 hk58 y1 y2 y3 w) fu
def X12_sumWay_b42 (k42 : Int32 → Int32 → Wd → Option (Wd)) (y1 : Int32) (y2 : Int32) (w : Wd) : Option (Wd) :=
  if (w.1 0 12) ≤ y2 then
  (some w)
  else
  cl (f_X12_goThing y2 w) fun r4 w3 =>
  X12_sumWay_b58_L k42 y1 y2 0 w3
set_option maxRecDepth 100000 in
set_option maxHeartbeats 4000000 in
theorem t_X12_sumWay_b42 {Z : Cz (Wd)} (hZ : OKZ Z SM cX12_sumWay RX12 4 none 25) (hE : EndV Z) (k42 : Int32 → Int32 → Wd → Option (Wd)) (hk42 : ∀ (y1 : Int32) (y2 : Int32)  (w : Wd), BW Z 4 42 [(0, .ref (ph (zY Z) 0)), (1, .int y1), (2, .int y2)] [] w (k42 y1 y2 w)) (y1 : Int32) (y2 : Int32)  (w : Wd) : BW Z 4 42 [(0, .ref (ph (zY Z) 0)), (1, .int y1), (2, .int y2)] [] w (X12_sumWay_b42 k42 y1 y2 w) :=
  bw_iload_n hZ 2 rfl dX12_sumWay_42 <|
  bw_aload_n hZ 0 rfl dX12_sumWay_43 <|
  bw_getI hZ fl_RX12_415 (by decide) obM_0 dX12_sumWay_44 <|
  bw_icmp_ge hZ (tgt := 98) (by decide) dX12_sumWay_47 (fun _ =>
  bw_vret hZ hE dX12_sumWay_98) (fun _ =>
  bw_aload_n hZ 0 rfl dX12_sumWay_50 <|
  bw_iload_n hZ 2 rfl dX12_sumWay_51 <|
  bw_callVI (As := [.int y2]) hZ ml_RX12_676 rc_12 obM_0 (by decide) (c_X12_goThing (zl Z) (zY Z) (hZ_S hZ) y2 w) rfl rfl (Nat.le_of_ble_eq_true rfl) dX12_sumWay_52 fun r4 w3 =>
  bw_pop hZ rfl dX12_sumWay_55 <|
  bw_iconst hZ 0 (by decide) dX12_sumWay_56 <|
  bw_istore_n hZ rfl (by decide) rfl dX12_sumWay_57 <|
  bw_sub [1, 2, 3, 0] rfl (t_X12_sumWay_b58_L hZ hE k42 hk42 y1 y2 0 w3))
def X12_sumWay_b42_L  : Int32 → Int32 → Wd → Option (Wd) :=
  lp fu (fun _ _ _ => none) (fun k42 => X12_sumWay_b42 k42)
theorem t_X12_sumWay_b42_L {Z : Cz (Wd)} (hZ : OKZ Z SM cX12_sumWay RX12 4 none 25) (hE : EndV Z)  : ∀ (y1 : Int32) (y2 : Int32)  (w : Wd), BW Z 4 42 [(0, .ref (ph (zY Z) 0)), (1, .int y1), (2, .int y2)] [] w (X12_sumWay_b42_L y1 y2 w) :=
  lp_bw (fun k42 => ∀ (y1 : Int32) (y2 : Int32)  (w : Wd), BW Z 4 42 [(0, .ref (ph (zY Z) 0)), (1, .int y1), (2, .int y2)] [] w (k42 y1 y2 w)) (fun _ _ _ => bw_none) (fun k42 hk42 y1 y2 w => t_X12_sumWay_b42 hZ hE k42 hk42 y1 y2 w) fu
def X12_sumWay_b11 (k11 : Int32 → Int32 → Wd → Option (Wd)) (y1 : Int32) (y2 : Int32) (w : Wd) : Option (Wd) :=
  if 8 ≤ y2 then
  (X12_sumWay_b42_L y1 0 w)
  else
  if inb y2 8 = true then
  (if inb ((8 * y1) + y2) 46080 = true then
  (lt (wI w 51 (Int32.toNatClampNeg ((8 * y1) + y2)) (w.1 48 (Int32.toNatClampNeg y2))) fun w6 =>
  k11 y1 (y2 + 1) w6)
  else none)
  else none
set_option maxRecDepth 100000 in
set_option maxHeartbeats 4000000 in
theorem t_X12_sumWay_b11 {Z : Cz (Wd)} (hZ : OKZ Z SM cX12_sumWay RX12 4 none 25) (hE : EndV Z) (k11 : Int32 → Int32 → Wd → Option (Wd)) (hk11 : ∀ (y1 : Int32) (y2 : Int32)  (w : Wd), BW Z 4 11 [(0, .ref (ph (zY Z) 0)), (1, .int y1), (2, .int y2)] [] w (k11 y1 y2 w)) (y1 : Int32) (y2 : Int32)  (w : Wd) : BW Z 4 11 [(0, .ref (ph (zY Z) 0)), (1, .int y1), (2, .int y2)] [] w (X12_sumWay_b11 k11 y1 y2 w) :=
  bw_iload_n hZ 2 rfl dX12_sumWay_11 <|
  bw_bipush hZ 8 (by decide) dX12_sumWay_12 <|
  bw_icmp_ge hZ (tgt := 40) (by decide) dX12_sumWay_14 (fun _ =>
  bw_iconst hZ 0 (by decide) dX12_sumWay_40 <|
  bw_istore_n hZ rfl (by decide) rfl dX12_sumWay_41 <|
  bw_sub [1, 2, 0] rfl (t_X12_sumWay_b42_L hZ hE y1 0 w)) (fun _ =>
  bw_aload_n hZ 0 rfl dX12_sumWay_17 <|
  bw_getR hZ fl_RX12_366 obM_0 rfl dX12_sumWay_18 <|
  bw_bipush hZ 8 (by decide) dX12_sumWay_21 <|
  bw_iload_n hZ 1 rfl dX12_sumWay_23 <|
  bw_imul hZ dX12_sumWay_24 <|
  bw_iload_n hZ 2 rfl dX12_sumWay_25 <|
  bw_iadd hZ dX12_sumWay_26 <|
  bw_aload_n hZ 0 rfl dX12_sumWay_27 <|
  bw_getR hZ fl_RX12_357 obM_0 rfl dX12_sumWay_28 <|
  bw_iload_n hZ 2 rfl dX12_sumWay_31 <|
  bw_iald hZ (arM_48 _) dX12_sumWay_32 <|
  bw_iast hZ (arM_51 _) dX12_sumWay_33 fun w6 =>
  bw_iinc hZ 1 2 rfl (by decide) (by decide) rfl dX12_sumWay_34 <|
  bw_goto hZ (tgt := 11) (by decide) dX12_sumWay_37 <|
  bw_sub [1, 2, 0] rfl (hk11 y1 (y2 + 1) w6))
def X12_sumWay_b11_L  : Int32 → Int32 → Wd → Option (Wd) :=
  lp fu (fun _ _ _ => none) (fun k11 => X12_sumWay_b11 k11)
theorem t_X12_sumWay_b11_L {Z : Cz (Wd)} (hZ : OKZ Z SM cX12_sumWay RX12 4 none 25) (hE : EndV Z)  : ∀ (y1 : Int32) (y2 : Int32)  (w : Wd), BW Z 4 11 [(0, .ref (ph (zY Z) 0)), (1, .int y1), (2, .int y2)] [] w (X12_sumWay_b11_L y1 y2 w) :=
  lp_bw (fun k11 => ∀ (y1 : Int32) (y2 : Int32)  (w : Wd), BW Z 4 11 [(0, .ref (ph (zY Z) 0)), (1, .int y1), (2, .int y2)] [] w (k11 y1 y2 w)) (fun _ _ _ => bw_none) (fun k11 hk11 y1 y2 w => t_X12_sumWay_b11 hZ hE k11 hk11 y1 y2 w) fu
def f_X12_sumWay (x1 : Int32) (w : Wd) : Option (Wd) :=
  cv (f_X12_goWay x1 w) fun w1 =>
  cv (f_X12_goMoney w1) fun w2 =>
  X12_sumWay_b11_L x1 0 w2
set_option maxRecDepth 100000 in
set_option maxHeartbeats 4000000 in
theorem t_X12_sumWay {Z : Cz (Wd)} (hZ : OKZ Z SM cX12_sumWay RX12 4 none 25) (hE : EndV Z) (x1 : Int32)  (w : Wd) : BW Z 4 0 [(0, .ref (ph (zY Z) 0)), (1, .int x1)] [] w (f_X12_sumWay x1 w) :=
  bw_aload_n hZ 0 rfl dX12_sumWay_0 <|
  bw_iload_n hZ 1 rfl dX12_sumWay_1 <|
  bw_callVV (As := [.int x1]) hZ ml_RX12_673 rc_12 obM_0 (by decide) (c_X12_goWay (zl Z) (zY Z) (hZ_S hZ) x1 w) rfl rfl (Nat.le_of_ble_eq_true rfl) dX12_sumWay_2 fun w1 =>
  bw_aload_n hZ 0 rfl dX12_sumWay_5 <|
  bw_callVV (As := []) hZ ml_RX12_685 rc_12 obM_0 (by decide) (c_X12_goMoney (zl Z) (zY Z) (hZ_S hZ) w1) rfl rfl (Nat.le_of_ble_eq_true rfl) dX12_sumWay_6 fun w2 =>
  bw_iconst hZ 0 (by decide) dX12_sumWay_9 <|
  bw_istore_n hZ rfl (by decide) rfl dX12_sumWay_10 <|
  bw_sub [1, 2, 0] rfl (t_X12_sumWay_b11_L hZ hE x1 0 w2)
theorem c_X12_sumWay (l : Launch) (Y : Ev) (hY : Y.1 = SM) (x1 : Int32)  (w : Wd) : CV l Y yX12_sumWay cX12_sumWay 4 25 [.ref (ph Y 0), .int x1] w (f_X12_sumWay x1 w) := by
  refine CV_of (S := SM) (by decide) (Nat.le_of_ble_eq_true rfl) hY ?_
  intro Z hl hY2 hZ hE
  subst hY2
  exact t_X12_sumWay hZ hE x1 w
-- WhichWillModel.isLike
theorem dX12_isLike_0 : decode cX12_isLike 0 = .ok (.iconst 0, 1) := by decide +kernel
theorem dX12_isLike_1 : decode cX12_isLike 1 = .ok (.istore_n 3, 1) := by decide +kernel
theorem dX12_isLike_2 : decode cX12_isLike 2 = .ok (.iload_n 3, 1) := by decide +kernel
theorem dX12_isLike_3 : decode cX12_isLike 3 = .ok (.aload_n 0, 1) := by decide +kernel
theorem dX12_isLike_4 : decode cX12_isLike 4 = .ok (.getfield 412, 3) := by decide +kernel
theorem dX12_isLike_7 : decode cX12_isLike 7 = .ok (.if_icmp .ge 36, 3) := by decide +kernel
theorem dX12_isLike_10 : decode cX12_isLike 10 = .ok (.aload_n 0, 1) := by decide +kernel
theorem dX12_isLike_11 : decode cX12_isLike 11 = .ok (.getfield 366, 3) := by decide +kernel
theorem dX12_isLike_14 : decode cX12_isLike 14 = .ok (.bipush 8, 2) := by decide +kernel
theorem dX12_isLike_16 : decode cX12_isLike 16 = .ok (.iload_n 1, 1) := by decide +kernel
theorem dX12_isLike_17 : decode cX12_isLike 17 = .ok (.imul, 1) := by decide +kernel
theorem dX12_isLike_18 : decode cX12_isLike 18 = .ok (.iload_n 3, 1) := by decide +kernel
theorem dX12_isLike_19 : decode cX12_isLike 19 = .ok (.iadd, 1) := by decide +kernel
theorem dX12_isLike_20 : decode cX12_isLike 20 = .ok (.iaload, 1) := by decide +kernel
theorem dX12_isLike_21 : decode cX12_isLike 21 = .ok (.aload_n 0, 1) := by decide +kernel
theorem dX12_isLike_22 : decode cX12_isLike 22 = .ok (.getfield 366, 3) := by decide +kernel
theorem dX12_isLike_25 : decode cX12_isLike 25 = .ok (.bipush 8, 2) := by decide +kernel
theorem dX12_isLike_27 : decode cX12_isLike 27 = .ok (.iload_n 2, 1) := by decide +kernel
theorem dX12_isLike_28 : decode cX12_isLike 28 = .ok (.imul, 1) := by decide +kernel
theorem dX12_isLike_29 : decode cX12_isLike 29 = .ok (.iload_n 3, 1) := by decide +kernel
theorem dX12_isLike_30 : decode cX12_isLike 30 = .ok (.iadd, 1) := by decide +kernel
theorem dX12_isLike_31 : decode cX12_isLike 31 = .ok (.iaload, 1) := by decide +kernel
theorem dX12_isLike_32 : decode cX12_isLike 32 = .ok (.if_icmp .eq 5, 3) := by decide +kernel
theorem dX12_isLike_35 : decode cX12_isLike 35 = .ok (.iconst 0, 1) := by decide +kernel
theorem dX12_isLike_36 : decode cX12_isLike 36 = .ok (.ireturn, 1) := by decide +kernel
theorem dX12_isLike_37 : decode cX12_isLike 37 = .ok (.iinc 3 1, 3) := by decide +kernel
theorem dX12_isLike_40 : decode cX12_isLike 40 = .ok (.goto (-38), 3) := by decide +kernel
theorem dX12_isLike_43 : decode cX12_isLike 43 = .ok (.iconst 1, 1) := by decide +kernel
theorem dX12_isLike_44 : decode cX12_isLike 44 = .ok (.ireturn, 1) := by decide +kernel
def X12_isLike_b2 (k2 : Int32 → Int32 → Int32 → Wd → Option (Int32 × Wd)) (y1 : Int32) (y2 : Int32) (y3 : Int32) (w : Wd) : Option (Int32 × Wd) :=
  if (w.1 0 11) ≤ y3 then
  (some (1, w))
  else
  if inb ((8 * y1) + y3) 46080 = true then
  (if inb ((8 * y2) + y3) 46080 = true then
  (if (w.1 51 (Int32.toNatClampNeg ((8 * y1) + y3))) = (w.1 51 (Int32.toNatClampNeg ((8 * y2) + y3))) then
  (k2 y1 y2 (y3 + 1) w)
  else
  some (0, w))
  else none)
  else none
set_option maxRecDepth 100000 in
set_option maxHeartbeats 4000000 in
theorem t_X12_isLike_b2 {Z : Cz (Int32 × Wd)} (hZ : OKZ Z SM cX12_isLike RX12 4 (some .boolean) 1) (hE : EndI Z) (k2 : Int32 → Int32 → Int32 → Wd → Option (Int32 × Wd)) (hk2 : ∀ (y1 : Int32) (y2 : Int32) (y3 : Int32)  (w : Wd), BW Z 4 2 [(0, .ref (ph (zY Z) 0)), (1, .int y1), (2, .int y2), (3, .int y3)] [] w (k2 y1 y2 y3 w)) (y1 : Int32) (y2 : Int32) (y3 : Int32)  (w : Wd) : BW Z 4 2 [(0, .ref (ph (zY Z) 0)), (1, .int y1), (2, .int y2), (3, .int y3)] [] w (X12_isLike_b2 k2 y1 y2 y3 w) :=
  bw_iload_n hZ 3 rfl dX12_isLike_2 <|
  bw_aload_n hZ 0 rfl dX12_isLike_3 <|
  bw_getI hZ fl_RX12_412 (by decide) obM_0 dX12_isLike_4 <|
  bw_icmp_ge hZ (tgt := 43) (by decide) dX12_isLike_7 (fun _ =>
  bw_iconst hZ 1 (by decide) dX12_isLike_43 <|
  bw_zret hZ hE (by decide) dX12_isLike_44) (fun _ =>
  bw_aload_n hZ 0 rfl dX12_isLike_10 <|
  bw_getR hZ fl_RX12_366 obM_0 rfl dX12_isLike_11 <|
  bw_bipush hZ 8 (by decide) dX12_isLike_14 <|
  bw_iload_n hZ 1 rfl dX12_isLike_16 <|
  bw_imul hZ dX12_isLike_17 <|
  bw_iload_n hZ 3 rfl dX12_isLike_18 <|
  bw_iadd hZ dX12_isLike_19 <|
  bw_iald hZ (arM_51 _) dX12_isLike_20 <|
  bw_aload_n hZ 0 rfl dX12_isLike_21 <|
  bw_getR hZ fl_RX12_366 obM_0 rfl dX12_isLike_22 <|
  bw_bipush hZ 8 (by decide) dX12_isLike_25 <|
  bw_iload_n hZ 2 rfl dX12_isLike_27 <|
  bw_imul hZ dX12_isLike_28 <|
  bw_iload_n hZ 3 rfl dX12_isLike_29 <|
  bw_iadd hZ dX12_isLike_30 <|
  bw_iald hZ (arM_51 _) dX12_isLike_31 <|
  bw_icmp_eq hZ (tgt := 37) (by decide) dX12_isLike_32 (fun _ =>
  bw_iinc hZ 1 3 rfl (by decide) (by decide) rfl dX12_isLike_37 <|
  bw_goto hZ (tgt := 2) (by decide) dX12_isLike_40 <|
  bw_sub [1, 2, 3, 0] rfl (hk2 y1 y2 (y3 + 1) w)) (fun _ =>
  bw_iconst hZ 0 (by decide) dX12_isLike_35 <|
  bw_zret hZ hE (by decide) dX12_isLike_36))
def X12_isLike_b2_L  : Int32 → Int32 → Int32 → Wd → Option (Int32 × Wd) :=
  lp fu (fun _ _ _ _ => none) (fun k2 => X12_isLike_b2 k2)
theorem t_X12_isLike_b2_L {Z : Cz (Int32 × Wd)} (hZ : OKZ Z SM cX12_isLike RX12 4 (some .boolean) 1) (hE : EndI Z)  : ∀ (y1 : Int32) (y2 : Int32) (y3 : Int32)  (w : Wd), BW Z 4 2 [(0, .ref (ph (zY Z) 0)), (1, .int y1), (2, .int y2), (3, .int y3)] [] w (X12_isLike_b2_L y1 y2 y3 w) :=
  lp_bw (fun k2 => ∀ (y1 : Int32) (y2 : Int32) (y3 : Int32)  (w : Wd), BW Z 4 2 [(0, .ref (ph (zY Z) 0)), (1, .int y1), (2, .int y2), (3, .int y3)] [] w (k2 y1 y2 y3 w)) (fun _ _ _ _ => bw_none) (fun k2 hk2 y1 y2 y3 w => t_X12_isLike_b2 hZ hE k2 hk2 y1 y2 y3 w) fu
def f_X12_isLike (x1 : Int32) (x2 : Int32) (w : Wd) : Option (Int32 × Wd) :=
  X12_isLike_b2_L x1 x2 0 w
set_option maxRecDepth 100000 in
set_option maxHeartbeats 4000000 in
theorem t_X12_isLike {Z : Cz (Int32 × Wd)} (hZ : OKZ Z SM cX12_isLike RX12 4 (some .boolean) 1) (hE : EndI Z) (x1 : Int32) (x2 : Int32)  (w : Wd) : BW Z 4 0 [(0, .ref (ph (zY Z) 0)), (1, .int x1), (2, .int x2)] [] w (f_X12_isLike x1 x2 w) :=
  bw_iconst hZ 0 (by decide) dX12_isLike_0 <|
  bw_istore_n hZ rfl (by decide) rfl dX12_isLike_1 <|
  bw_sub [1, 2, 3, 0] rfl (t_X12_isLike_b2_L hZ hE x1 x2 0 w)
theorem c_X12_isLike (l : Launch) (Y : Ev) (hY : Y.1 = SM) (x1 : Int32) (x2 : Int32)  (w : Wd) : CI l Y yX12_isLike cX12_isLike 4 1 [.ref (ph Y 0), .int x1, .int x2] w .boolean (f_X12_isLike x1 x2 w) := by
  refine CI_of (S := SM) (by decide) (Nat.le_of_ble_eq_true rfl) hY ?_
  intro Z hl hY2 hZ hE
  subst hY2
  exact t_X12_isLike hZ hE x1 x2 w
-- WhichWillModel.nameOutcome
theorem dX12_nameOutcome_0 : decode cX12_nameOutcome 0 = .ok (.bipush 17, 2) := by decide +kernel
theorem dX12_nameOutcome_2 : decode cX12_nameOutcome 2 = .ok (.istore_n 2, 1) := by decide +kernel
theorem dX12_nameOutcome_3 : decode cX12_nameOutcome 3 = .ok (.iconst 0, 1) := by decide +kernel
theorem dX12_nameOutcome_4 : decode cX12_nameOutcome 4 = .ok (.istore_n 3, 1) := by decide +kernel
theorem dX12_nameOutcome_5 : decode cX12_nameOutcome 5 = .ok (.iload_n 3, 1) := by decide +kernel
theorem dX12_nameOutcome_6 : decode cX12_nameOutcome 6 = .ok (.aload_n 0, 1) := by decide +kernel
theorem dX12_nameOutcome_7 : decode cX12_nameOutcome 7 = .ok (.getfield 412, 3) := by decide +kernel
theorem dX12_nameOutcome_10 : decode cX12_nameOutcome 10 = .ok (.if_icmp .ge 26, 3) := by decide +kernel
theorem dX12_nameOutcome_13 : decode cX12_nameOutcome 13 = .ok (.bipush 31, 2) := by decide +kernel
theorem dX12_nameOutcome_15 : decode cX12_nameOutcome 15 = .ok (.iload_n 2, 1) := by decide +kernel
theorem dX12_nameOutcome_16 : decode cX12_nameOutcome 16 = .ok (.imul, 1) := by decide +kernel
theorem dX12_nameOutcome_17 : decode cX12_nameOutcome 17 = .ok (.aload_n 0, 1) := by decide +kernel
theorem dX12_nameOutcome_18 : decode cX12_nameOutcome 18 = .ok (.getfield 366, 3) := by decide +kernel
theorem dX12_nameOutcome_21 : decode cX12_nameOutcome 21 = .ok (.bipush 8, 2) := by decide +kernel
theorem dX12_nameOutcome_23 : decode cX12_nameOutcome 23 = .ok (.iload_n 1, 1) := by decide +kernel
theorem dX12_nameOutcome_24 : decode cX12_nameOutcome 24 = .ok (.imul, 1) := by decide +kernel
theorem dX12_nameOutcome_25 : decode cX12_nameOutcome 25 = .ok (.iload_n 3, 1) := by decide +kernel
theorem dX12_nameOutcome_26 : decode cX12_nameOutcome 26 = .ok (.iadd, 1) := by decide +kernel
theorem dX12_nameOutcome_27 : decode cX12_nameOutcome 27 = .ok (.iaload, 1) := by decide +kernel
theorem dX12_nameOutcome_28 : decode cX12_nameOutcome 28 = .ok (.iadd, 1) := by decide +kernel
theorem dX12_nameOutcome_29 : decode cX12_nameOutcome 29 = .ok (.istore_n 2, 1) := by decide +kernel
theorem dX12_nameOutcome_30 : decode cX12_nameOutcome 30 = .ok (.iinc 3 1, 3) := by decide +kernel
theorem dX12_nameOutcome_33 : decode cX12_nameOutcome 33 = .ok (.goto (-28), 3) := by decide +kernel
theorem dX12_nameOutcome_36 : decode cX12_nameOutcome 36 = .ok (.iload_n 2, 1) := by decide +kernel
theorem dX12_nameOutcome_37 : decode cX12_nameOutcome 37 = .ok (.iload_n 2, 1) := by decide +kernel
theorem dX12_nameOutcome_38 : decode cX12_nameOutcome 38 = .ok (.bipush 15, 2) := by decide +kernel
theorem dX12_nameOutcome_40 : decode cX12_nameOutcome 40 = .ok (.iushr, 1) := by decide +kernel
theorem dX12_nameOutcome_41 : decode cX12_nameOutcome 41 = .ok (.ixor, 1) := by decide +kernel
theorem dX12_nameOutcome_42 : decode cX12_nameOutcome 42 = .ok (.sipush 16383, 3) := by decide +kernel
theorem dX12_nameOutcome_45 : decode cX12_nameOutcome 45 = .ok (.iand, 1) := by decide +kernel
theorem dX12_nameOutcome_46 : decode cX12_nameOutcome 46 = .ok (.istore_n 3, 1) := by decide +kernel
theorem dX12_nameOutcome_47 : decode cX12_nameOutcome 47 = .ok (.aload_n 0, 1) := by decide +kernel
theorem dX12_nameOutcome_48 : decode cX12_nameOutcome 48 = .ok (.getfield 375, 3) := by decide +kernel
theorem dX12_nameOutcome_51 : decode cX12_nameOutcome 51 = .ok (.iload_n 3, 1) := by decide +kernel
theorem dX12_nameOutcome_52 : decode cX12_nameOutcome 52 = .ok (.iaload, 1) := by decide +kernel
theorem dX12_nameOutcome_53 : decode cX12_nameOutcome 53 = .ok (.iconst (-1), 1) := by decide +kernel
theorem dX12_nameOutcome_54 : decode cX12_nameOutcome 54 = .ok (.if_icmp .eq 28, 3) := by decide +kernel
theorem dX12_nameOutcome_57 : decode cX12_nameOutcome 57 = .ok (.aload_n 0, 1) := by decide +kernel
theorem dX12_nameOutcome_58 : decode cX12_nameOutcome 58 = .ok (.aload_n 0, 1) := by decide +kernel
theorem dX12_nameOutcome_59 : decode cX12_nameOutcome 59 = .ok (.getfield 375, 3) := by decide +kernel
theorem dX12_nameOutcome_62 : decode cX12_nameOutcome 62 = .ok (.iload_n 3, 1) := by decide +kernel
theorem dX12_nameOutcome_63 : decode cX12_nameOutcome 63 = .ok (.iaload, 1) := by decide +kernel
theorem dX12_nameOutcome_64 : decode cX12_nameOutcome 64 = .ok (.iload_n 1, 1) := by decide +kernel
theorem dX12_nameOutcome_65 : decode cX12_nameOutcome 65 = .ok (.invokevirtual 688, 3) := by decide +kernel
theorem dX12_nameOutcome_68 : decode cX12_nameOutcome 68 = .ok (.ifCond .ne 14, 3) := by decide +kernel
theorem dX12_nameOutcome_71 : decode cX12_nameOutcome 71 = .ok (.iload_n 3, 1) := by decide +kernel
theorem dX12_nameOutcome_72 : decode cX12_nameOutcome 72 = .ok (.iconst 1, 1) := by decide +kernel
theorem dX12_nameOutcome_73 : decode cX12_nameOutcome 73 = .ok (.iadd, 1) := by decide +kernel
theorem dX12_nameOutcome_74 : decode cX12_nameOutcome 74 = .ok (.sipush 16383, 3) := by decide +kernel
theorem dX12_nameOutcome_77 : decode cX12_nameOutcome 77 = .ok (.iand, 1) := by decide +kernel
theorem dX12_nameOutcome_78 : decode cX12_nameOutcome 78 = .ok (.istore_n 3, 1) := by decide +kernel
theorem dX12_nameOutcome_79 : decode cX12_nameOutcome 79 = .ok (.goto (-32), 3) := by decide +kernel
theorem dX12_nameOutcome_82 : decode cX12_nameOutcome 82 = .ok (.aload_n 0, 1) := by decide +kernel
theorem dX12_nameOutcome_83 : decode cX12_nameOutcome 83 = .ok (.getfield 375, 3) := by decide +kernel
theorem dX12_nameOutcome_86 : decode cX12_nameOutcome 86 = .ok (.iload_n 3, 1) := by decide +kernel
theorem dX12_nameOutcome_87 : decode cX12_nameOutcome 87 = .ok (.iaload, 1) := by decide +kernel
theorem dX12_nameOutcome_88 : decode cX12_nameOutcome 88 = .ok (.iconst (-1), 1) := by decide +kernel
theorem dX12_nameOutcome_89 : decode cX12_nameOutcome 89 = .ok (.if_icmp .ne 33, 3) := by decide +kernel
theorem dX12_nameOutcome_92 : decode cX12_nameOutcome 92 = .ok (.aload_n 0, 1) := by decide +kernel
theorem dX12_nameOutcome_93 : decode cX12_nameOutcome 93 = .ok (.getfield 375, 3) := by decide +kernel
theorem dX12_nameOutcome_96 : decode cX12_nameOutcome 96 = .ok (.iload_n 3, 1) := by decide +kernel
theorem dX12_nameOutcome_97 : decode cX12_nameOutcome 97 = .ok (.iload_n 1, 1) := by decide +kernel
theorem dX12_nameOutcome_98 : decode cX12_nameOutcome 98 = .ok (.iastore, 1) := by decide +kernel
theorem dX12_nameOutcome_99 : decode cX12_nameOutcome 99 = .ok (.aload_n 0, 1) := by decide +kernel
theorem dX12_nameOutcome_100 : decode cX12_nameOutcome 100 = .ok (.getfield 369, 3) := by decide +kernel
theorem dX12_nameOutcome_103 : decode cX12_nameOutcome 103 = .ok (.iload_n 1, 1) := by decide +kernel
theorem dX12_nameOutcome_104 : decode cX12_nameOutcome 104 = .ok (.aload_n 0, 1) := by decide +kernel
theorem dX12_nameOutcome_105 : decode cX12_nameOutcome 105 = .ok (.getfield 691, 3) := by decide +kernel
theorem dX12_nameOutcome_108 : decode cX12_nameOutcome 108 = .ok (.iastore, 1) := by decide +kernel
theorem dX12_nameOutcome_109 : decode cX12_nameOutcome 109 = .ok (.aload_n 0, 1) := by decide +kernel
theorem dX12_nameOutcome_110 : decode cX12_nameOutcome 110 = .ok (.dup, 1) := by decide +kernel
theorem dX12_nameOutcome_111 : decode cX12_nameOutcome 111 = .ok (.getfield 691, 3) := by decide +kernel
theorem dX12_nameOutcome_114 : decode cX12_nameOutcome 114 = .ok (.iconst 1, 1) := by decide +kernel
theorem dX12_nameOutcome_115 : decode cX12_nameOutcome 115 = .ok (.iadd, 1) := by decide +kernel
theorem dX12_nameOutcome_116 : decode cX12_nameOutcome 116 = .ok (.putfield 691, 3) := by decide +kernel
theorem dX12_nameOutcome_119 : decode cX12_nameOutcome 119 = .ok (.goto 20, 3) := by decide +kernel
theorem dX12_nameOutcome_122 : decode cX12_nameOutcome 122 = .ok (.aload_n 0, 1) := by decide +kernel
theorem dX12_nameOutcome_123 : decode cX12_nameOutcome 123 = .ok (.getfield 369, 3) := by decide +kernel
theorem dX12_nameOutcome_126 : decode cX12_nameOutcome 126 = .ok (.iload_n 1, 1) := by decide +kernel
theorem dX12_nameOutcome_127 : decode cX12_nameOutcome 127 = .ok (.aload_n 0, 1) := by decide +kernel
theorem dX12_nameOutcome_128 : decode cX12_nameOutcome 128 = .ok (.getfield 369, 3) := by decide +kernel
theorem dX12_nameOutcome_131 : decode cX12_nameOutcome 131 = .ok (.aload_n 0, 1) := by decide +kernel
theorem dX12_nameOutcome_132 : decode cX12_nameOutcome 132 = .ok (.getfield 375, 3) := by decide +kernel
theorem dX12_nameOutcome_135 : decode cX12_nameOutcome 135 = .ok (.iload_n 3, 1) := by decide +kernel
theorem dX12_nameOutcome_136 : decode cX12_nameOutcome 136 = .ok (.iaload, 1) := by decide +kernel
theorem dX12_nameOutcome_137 : decode cX12_nameOutcome 137 = .ok (.iaload, 1) := by decide +kernel
theorem dX12_nameOutcome_138 : decode cX12_nameOutcome 138 = .ok (.iastore, 1) := by decide +kernel
theorem dX12_nameOutcome_139 : decode cX12_nameOutcome 139 = .ok (.return_, 1) := by decide +kernel
def X12_nameOutcome_b82 (y1 : Int32) (y3 : Int32) (w : Wd) : Option (Wd) :=
  if inb y3 16384 = true then
  (if (w.1 54 (Int32.toNatClampNeg y3)) = ((-1)) then
  (if inb y3 16384 = true then
  (lt (wI w 54 (Int32.toNatClampNeg y3) y1) fun w3 =>
  if inb y1 5760 = true then
  (lt (wI w3 52 (Int32.toNatClampNeg y1) (w3.1 0 97)) fun w4 =>
  lt (wI w4 0 97 ((w4.1 0 97) + 1)) fun w5 =>
  some w5)
  else none)
  else none)
  else
  if inb y3 16384 = true then
  (if inb (w.1 54 (Int32.toNatClampNeg y3)) 5760 = true then
  (if inb y1 5760 = true then
  (lt (wI w 52 (Int32.toNatClampNeg y1) (w.1 52 (Int32.toNatClampNeg (w.1 54 (Int32.toNatClampNeg y3))))) fun w2 =>
  some w2)
  else none)
  else none)
  else none)
  else none
set_option maxRecDepth 100000 in
set_option maxHeartbeats 4000000 in
theorem t_X12_nameOutcome_b82 {Z : Cz (Wd)} (hZ : OKZ Z SM cX12_nameOutcome RX12 4 none 2) (hE : EndV Z)  (y1 : Int32) (y3 : Int32)  (w : Wd) : BW Z 4 82 [(0, .ref (ph (zY Z) 0)), (1, .int y1), (3, .int y3)] [] w (X12_nameOutcome_b82 y1 y3 w) :=
  bw_aload_n hZ 0 rfl dX12_nameOutcome_82 <|
  bw_getR hZ fl_RX12_375 obM_0 rfl dX12_nameOutcome_83 <|
  bw_iload_n hZ 2 rfl dX12_nameOutcome_86 <|
  bw_iald hZ (arM_54 _) dX12_nameOutcome_87 <|
  bw_iconst hZ (-1) (by decide) dX12_nameOutcome_88 <|
  bw_icmp_ne hZ (tgt := 122) (by decide) dX12_nameOutcome_89 (fun _ =>
  bw_aload_n hZ 0 rfl dX12_nameOutcome_122 <|
  bw_getR hZ fl_RX12_369 obM_0 rfl dX12_nameOutcome_123 <|
  bw_iload_n hZ 1 rfl dX12_nameOutcome_126 <|
  bw_aload_n hZ 0 rfl dX12_nameOutcome_127 <|
  bw_getR hZ fl_RX12_369 obM_0 rfl dX12_nameOutcome_128 <|
  bw_aload_n hZ 0 rfl dX12_nameOutcome_131 <|
  bw_getR hZ fl_RX12_375 obM_0 rfl dX12_nameOutcome_132 <|
  bw_iload_n hZ 2 rfl dX12_nameOutcome_135 <|
  bw_iald hZ (arM_54 _) dX12_nameOutcome_136 <|
  bw_iald hZ (arM_52 _) dX12_nameOutcome_137 <|
  bw_iast hZ (arM_52 _) dX12_nameOutcome_138 fun w2 =>
  bw_vret hZ hE dX12_nameOutcome_139) (fun _ =>
  bw_aload_n hZ 0 rfl dX12_nameOutcome_92 <|
  bw_getR hZ fl_RX12_375 obM_0 rfl dX12_nameOutcome_93 <|
  bw_iload_n hZ 2 rfl dX12_nameOutcome_96 <|
  bw_iload_n hZ 1 rfl dX12_nameOutcome_97 <|
  bw_iast hZ (arM_54 _) dX12_nameOutcome_98 fun w3 =>
  bw_aload_n hZ 0 rfl dX12_nameOutcome_99 <|
  bw_getR hZ fl_RX12_369 obM_0 rfl dX12_nameOutcome_100 <|
  bw_iload_n hZ 1 rfl dX12_nameOutcome_103 <|
  bw_aload_n hZ 0 rfl dX12_nameOutcome_104 <|
  bw_getI hZ fl_RX12_691 (by decide) obM_0 dX12_nameOutcome_105 <|
  bw_iast hZ (arM_52 _) dX12_nameOutcome_108 fun w4 =>
  bw_aload_n hZ 0 rfl dX12_nameOutcome_109 <|
  bw_dup hZ rfl dX12_nameOutcome_110 <|
  bw_getI hZ fl_RX12_691 (by decide) obM_0 dX12_nameOutcome_111 <|
  bw_iconst hZ 1 (by decide) dX12_nameOutcome_114 <|
  bw_iadd hZ dX12_nameOutcome_115 <|
  bw_putI hZ fl_RX12_691 rfl rfl (by decide) obM_0 dX12_nameOutcome_116 fun w5 =>
  bw_goto hZ (tgt := 139) (by decide) dX12_nameOutcome_119 <|
  bw_vret hZ hE dX12_nameOutcome_139)
def X12_nameOutcome_b47 (k47 : Int32 → Int32 → Wd → Option (Wd)) (y1 : Int32) (y3 : Int32) (w : Wd) : Option (Wd) :=
  if inb y3 16384 = true then
  (if (w.1 54 (Int32.toNatClampNeg y3)) = ((-1)) then
  (X12_nameOutcome_b82 y1 y3 w)
  else
  if inb y3 16384 = true then
  (cl (f_X12_isLike (w.1 54 (Int32.toNatClampNeg y3)) y1 w) fun r7 w6 =>
  if r7 = 0 then
  (lt ((y3 + 1) &&& 16383) fun v8 =>
  k47 y1 v8 w6)
  else
  X12_nameOutcome_b82 y1 y3 w6)
  else none)
  else none
set_option maxRecDepth 100000 in
set_option maxHeartbeats 4000000 in
theorem t_X12_nameOutcome_b47 {Z : Cz (Wd)} (hZ : OKZ Z SM cX12_nameOutcome RX12 4 none 2) (hE : EndV Z) (k47 : Int32 → Int32 → Wd → Option (Wd)) (hk47 : ∀ (y1 : Int32) (y3 : Int32)  (w : Wd), BW Z 4 47 [(0, .ref (ph (zY Z) 0)), (1, .int y1), (3, .int y3)] [] w (k47 y1 y3 w)) (y1 : Int32) (y3 : Int32)  (w : Wd) : BW Z 4 47 [(0, .ref (ph (zY Z) 0)), (1, .int y1), (3, .int y3)] [] w (X12_nameOutcome_b47 k47 y1 y3 w) :=
  bw_aload_n hZ 0 rfl dX12_nameOutcome_47 <|
  bw_getR hZ fl_RX12_375 obM_0 rfl dX12_nameOutcome_48 <|
  bw_iload_n hZ 2 rfl dX12_nameOutcome_51 <|
  bw_iald hZ (arM_54 _) dX12_nameOutcome_52 <|
  bw_iconst hZ (-1) (by decide) dX12_nameOutcome_53 <|
  bw_icmp_eq hZ (tgt := 82) (by decide) dX12_nameOutcome_54 (fun _ =>
  bw_sub [0, 1, 2] rfl (t_X12_nameOutcome_b82 hZ hE y1 y3 w)) (fun _ =>
  bw_aload_n hZ 0 rfl dX12_nameOutcome_57 <|
  bw_aload_n hZ 0 rfl dX12_nameOutcome_58 <|
  bw_getR hZ fl_RX12_375 obM_0 rfl dX12_nameOutcome_59 <|
  bw_iload_n hZ 2 rfl dX12_nameOutcome_62 <|
  bw_iald hZ (arM_54 _) dX12_nameOutcome_63 <|
  bw_iload_n hZ 1 rfl dX12_nameOutcome_64 <|
  bw_callVI (As := [.int (w.1 54 (Int32.toNatClampNeg y3)), .int y1]) hZ ml_RX12_688 rc_12 obM_0 (by decide) (c_X12_isLike (zl Z) (zY Z) (hZ_S hZ) (w.1 54 (Int32.toNatClampNeg y3)) y1 w) rfl rfl (Nat.le_of_ble_eq_true rfl) dX12_nameOutcome_65 fun r7 w6 =>
  bw_if_ne hZ (tgt := 82) (by decide) dX12_nameOutcome_68 (fun _ =>
  bw_sub [0, 1, 2] rfl (t_X12_nameOutcome_b82 hZ hE y1 y3 w6)) (fun _ =>
  bw_iload_n hZ 2 rfl dX12_nameOutcome_71 <|
  bw_iconst hZ 1 (by decide) dX12_nameOutcome_72 <|
  bw_iadd hZ dX12_nameOutcome_73 <|
  bw_sipush hZ 16383 (by decide) dX12_nameOutcome_74 <|
  bw_iand hZ dX12_nameOutcome_77 <|
  bw_nm fun v8 =>
  bw_istore_n hZ rfl (by decide) rfl dX12_nameOutcome_78 <|
  bw_goto hZ (tgt := 47) (by decide) dX12_nameOutcome_79 <|
  bw_sub [1, 2, 0] rfl (hk47 y1 v8 w6)))
def X12_nameOutcome_b47_L  : Int32 → Int32 → Wd → Option (Wd) :=
  lp fu (fun _ _ _ => none) (fun k47 => X12_nameOutcome_b47 k47)
theorem t_X12_nameOutcome_b47_L {Z : Cz (Wd)} (hZ : OKZ Z SM cX12_nameOutcome RX12 4 none 2) (hE : EndV Z)  : ∀ (y1 : Int32) (y3 : Int32)  (w : Wd), BW Z 4 47 [(0, .ref (ph (zY Z) 0)), (1, .int y1), (3, .int y3)] [] w (X12_nameOutcome_b47_L y1 y3 w) :=
  lp_bw (fun k47 => ∀ (y1 : Int32) (y3 : Int32)  (w : Wd), BW Z 4 47 [(0, .ref (ph (zY Z) 0)), (1, .int y1), (3, .int y3)] [] w (k47 y1 y3 w)) (fun _ _ _ => bw_none) (fun k47 hk47 y1 y3 w => t_X12_nameOutcome_b47 hZ hE k47 hk47 y1 y3 w) fu
def X12_nameOutcome_b5 (k5 : Int32 → Int32 → Int32 → Wd → Option (Wd)) (y1 : Int32) (y2 : Int32) (y3 : Int32) (w : Wd) : Option (Wd) :=
  if (w.1 0 11) ≤ y3 then
  (lt ((y2 ^^^ ((y2.toUInt32 >>> (Int32.toUInt32 15 &&& Int32.toUInt32 31)).toInt32)) &&& 16383) fun v1 =>
  X12_nameOutcome_b47_L y1 v1 w)
  else
  if inb ((8 * y1) + y3) 46080 = true then
  (lt ((31 * y2) + (w.1 51 (Int32.toNatClampNeg ((8 * y1) + y3)))) fun v9 =>
  k5 y1 v9 (y3 + 1) w)
  else none
set_option maxRecDepth 100000 in
set_option maxHeartbeats 4000000 in
theorem t_X12_nameOutcome_b5 {Z : Cz (Wd)} (hZ : OKZ Z SM cX12_nameOutcome RX12 4 none 2) (hE : EndV Z) (k5 : Int32 → Int32 → Int32 → Wd → Option (Wd)) (hk5 : ∀ (y1 : Int32) (y2 : Int32) (y3 : Int32)  (w : Wd), BW Z 4 5 [(0, .ref (ph (zY Z) 0)), (1, .int y1), (2, .int y2), (3, .int y3)] [] w (k5 y1 y2 y3 w)) (y1 : Int32) (y2 : Int32) (y3 : Int32)  (w : Wd) : BW Z 4 5 [(0, .ref (ph (zY Z) 0)), (1, .int y1), (2, .int y2), (3, .int y3)] [] w (X12_nameOutcome_b5 k5 y1 y2 y3 w) :=
  bw_iload_n hZ 3 rfl dX12_nameOutcome_5 <|
  bw_aload_n hZ 0 rfl dX12_nameOutcome_6 <|
  bw_getI hZ fl_RX12_412 (by decide) obM_0 dX12_nameOutcome_7 <|
  bw_icmp_ge hZ (tgt := 36) (by decide) dX12_nameOutcome_10 (fun _ =>
  bw_iload_n hZ 2 rfl dX12_nameOutcome_36 <|
  bw_iload_n hZ 2 rfl dX12_nameOutcome_37 <|
  bw_bipush hZ 15 (by decide) dX12_nameOutcome_38 <|
  bw_iushr hZ dX12_nameOutcome_40 <|
  bw_ixor hZ dX12_nameOutcome_41 <|
  bw_sipush hZ 16383 (by decide) dX12_nameOutcome_42 <|
  bw_iand hZ dX12_nameOutcome_45 <|
  bw_nm fun v1 =>
  bw_istore_n hZ rfl (by decide) rfl dX12_nameOutcome_46 <|
  bw_sub [1, 2, 0] rfl (t_X12_nameOutcome_b47_L hZ hE y1 v1 w)) (fun _ =>
  bw_bipush hZ 31 (by decide) dX12_nameOutcome_13 <|
  bw_iload_n hZ 2 rfl dX12_nameOutcome_15 <|
  bw_imul hZ dX12_nameOutcome_16 <|
  bw_aload_n hZ 0 rfl dX12_nameOutcome_17 <|
  bw_getR hZ fl_RX12_366 obM_0 rfl dX12_nameOutcome_18 <|
  bw_bipush hZ 8 (by decide) dX12_nameOutcome_21 <|
  bw_iload_n hZ 1 rfl dX12_nameOutcome_23 <|
  bw_imul hZ dX12_nameOutcome_24 <|
  bw_iload_n hZ 3 rfl dX12_nameOutcome_25 <|
  bw_iadd hZ dX12_nameOutcome_26 <|
  bw_iald hZ (arM_51 _) dX12_nameOutcome_27 <|
  bw_iadd hZ dX12_nameOutcome_28 <|
  bw_nm fun v9 =>
  bw_istore_n hZ rfl (by decide) rfl dX12_nameOutcome_29 <|
  bw_iinc hZ 1 3 rfl (by decide) (by decide) rfl dX12_nameOutcome_30 <|
  bw_goto hZ (tgt := 5) (by decide) dX12_nameOutcome_33 <|
  bw_sub [2, 3, 1, 0] rfl (hk5 y1 v9 (y3 + 1) w))
def X12_nameOutcome_b5_L  : Int32 → Int32 → Int32 → Wd → Option (Wd) :=
  lp fu (fun _ _ _ _ => none) (fun k5 => X12_nameOutcome_b5 k5)
theorem t_X12_nameOutcome_b5_L {Z : Cz (Wd)} (hZ : OKZ Z SM cX12_nameOutcome RX12 4 none 2) (hE : EndV Z)  : ∀ (y1 : Int32) (y2 : Int32) (y3 : Int32)  (w : Wd), BW Z 4 5 [(0, .ref (ph (zY Z) 0)), (1, .int y1), (2, .int y2), (3, .int y3)] [] w (X12_nameOutcome_b5_L y1 y2 y3 w) :=
  lp_bw (fun k5 => ∀ (y1 : Int32) (y2 : Int32) (y3 : Int32)  (w : Wd), BW Z 4 5 [(0, .ref (ph (zY Z) 0)), (1, .int y1), (2, .int y2), (3, .int y3)] [] w (k5 y1 y2 y3 w)) (fun _ _ _ _ => bw_none) (fun k5 hk5 y1 y2 y3 w => t_X12_nameOutcome_b5 hZ hE k5 hk5 y1 y2 y3 w) fu
def f_X12_nameOutcome (x1 : Int32) (w : Wd) : Option (Wd) :=
  X12_nameOutcome_b5_L x1 17 0 w
set_option maxRecDepth 100000 in
set_option maxHeartbeats 4000000 in
theorem t_X12_nameOutcome {Z : Cz (Wd)} (hZ : OKZ Z SM cX12_nameOutcome RX12 4 none 2) (hE : EndV Z) (x1 : Int32)  (w : Wd) : BW Z 4 0 [(0, .ref (ph (zY Z) 0)), (1, .int x1)] [] w (f_X12_nameOutcome x1 w) :=
  bw_bipush hZ 17 (by decide) dX12_nameOutcome_0 <|
  bw_istore_n hZ rfl (by decide) rfl dX12_nameOutcome_2 <|
  bw_iconst hZ 0 (by decide) dX12_nameOutcome_3 <|
  bw_istore_n hZ rfl (by decide) rfl dX12_nameOutcome_4 <|
  bw_sub [2, 3, 1, 0] rfl (t_X12_nameOutcome_b5_L hZ hE x1 17 0 w)
theorem c_X12_nameOutcome (l : Launch) (Y : Ev) (hY : Y.1 = SM) (x1 : Int32)  (w : Wd) : CV l Y yX12_nameOutcome cX12_nameOutcome 4 2 [.ref (ph Y 0), .int x1] w (f_X12_nameOutcome x1 w) := by
  refine CV_of (S := SM) (by decide) (Nat.le_of_ble_eq_true rfl) hY ?_
  intro Z hl hY2 hZ hE
  subst hY2
  exact t_X12_nameOutcome hZ hE x1 w
-- WhichWillModel.reckon
theorem dX12_reckon_0 : decode cX12_reckon 0 = .ok (.aload_n 0, 1) := by decide +kernel
theorem dX12_reckon_1 : decode cX12_reckon 1 = .ok (.getfield 544, 3) := by decide +kernel
theorem dX12_reckon_4 : decode cX12_reckon 4 = .ok (.ifCond .eq 4, 3) := by decide +kernel
theorem dX12_reckon_7 : decode cX12_reckon 7 = .ok (.return_, 1) := by decide +kernel
theorem dX12_reckon_8 : decode cX12_reckon 8 = .ok (.aload_n 0, 1) := by decide +kernel
theorem dX12_reckon_9 : decode cX12_reckon 9 = .ok (.iconst 1, 1) := by decide +kernel
theorem dX12_reckon_10 : decode cX12_reckon 10 = .ok (.putfield 544, 3) := by decide +kernel
theorem dX12_reckon_13 : decode cX12_reckon 13 = .ok (.aload_n 0, 1) := by decide +kernel
theorem dX12_reckon_14 : decode cX12_reckon 14 = .ok (.iconst 0, 1) := by decide +kernel
theorem dX12_reckon_15 : decode cX12_reckon 15 = .ok (.putfield 691, 3) := by decide +kernel
theorem dX12_reckon_18 : decode cX12_reckon 18 = .ok (.iconst 0, 1) := by decide +kernel
theorem dX12_reckon_19 : decode cX12_reckon 19 = .ok (.istore_n 1, 1) := by decide +kernel
theorem dX12_reckon_20 : decode cX12_reckon 20 = .ok (.iload_n 1, 1) := by decide +kernel
theorem dX12_reckon_21 : decode cX12_reckon 21 = .ok (.sipush 16384, 3) := by decide +kernel
theorem dX12_reckon_24 : decode cX12_reckon 24 = .ok (.if_icmp .ge 16, 3) := by decide +kernel
theorem dX12_reckon_27 : decode cX12_reckon 27 = .ok (.aload_n 0, 1) := by decide +kernel
theorem dX12_reckon_28 : decode cX12_reckon 28 = .ok (.getfield 375, 3) := by decide +kernel
theorem dX12_reckon_31 : decode cX12_reckon 31 = .ok (.iload_n 1, 1) := by decide +kernel
theorem dX12_reckon_32 : decode cX12_reckon 32 = .ok (.iconst (-1), 1) := by decide +kernel
theorem dX12_reckon_33 : decode cX12_reckon 33 = .ok (.iastore, 1) := by decide +kernel
theorem dX12_reckon_34 : decode cX12_reckon 34 = .ok (.iinc 1 1, 3) := by decide +kernel
theorem dX12_reckon_37 : decode cX12_reckon 37 = .ok (.goto (-17), 3) := by decide +kernel
theorem dX12_reckon_40 : decode cX12_reckon 40 = .ok (.iconst 0, 1) := by decide +kernel
theorem dX12_reckon_41 : decode cX12_reckon 41 = .ok (.istore_n 1, 1) := by decide +kernel
theorem dX12_reckon_42 : decode cX12_reckon 42 = .ok (.iload_n 1, 1) := by decide +kernel
theorem dX12_reckon_43 : decode cX12_reckon 43 = .ok (.aload_n 0, 1) := by decide +kernel
theorem dX12_reckon_44 : decode cX12_reckon 44 = .ok (.invokevirtual 622, 3) := by decide +kernel
theorem dX12_reckon_47 : decode cX12_reckon 47 = .ok (.if_icmp .ge 19, 3) := by decide +kernel
theorem dX12_reckon_50 : decode cX12_reckon 50 = .ok (.aload_n 0, 1) := by decide +kernel
theorem dX12_reckon_51 : decode cX12_reckon 51 = .ok (.iload_n 1, 1) := by decide +kernel
theorem dX12_reckon_52 : decode cX12_reckon 52 = .ok (.invokevirtual 694, 3) := by decide +kernel
theorem dX12_reckon_55 : decode cX12_reckon 55 = .ok (.aload_n 0, 1) := by decide +kernel
theorem dX12_reckon_56 : decode cX12_reckon 56 = .ok (.iload_n 1, 1) := by decide +kernel
theorem dX12_reckon_57 : decode cX12_reckon 57 = .ok (.invokevirtual 697, 3) := by decide +kernel
theorem dX12_reckon_60 : decode cX12_reckon 60 = .ok (.iinc 1 1, 3) := by decide +kernel
theorem dX12_reckon_63 : decode cX12_reckon 63 = .ok (.goto (-21), 3) := by decide +kernel
theorem dX12_reckon_66 : decode cX12_reckon 66 = .ok (.return_, 1) := by decide +kernel
def X12_reckon_b42 (k42 : Int32 → Wd → Option (Wd)) (y1 : Int32) (w : Wd) : Option (Wd) :=
  cl (f_X12_allWays w) fun r4 w3 =>
  if r4 ≤ y1 then
  (some w3)
  else
  cv (f_X12_sumWay y1 w3) fun w5 =>
  cv (f_X12_nameOutcome y1 w5) fun w6 =>
  k42 (y1 + 1) w6
set_option maxRecDepth 100000 in
set_option maxHeartbeats 4000000 in
theorem t_X12_reckon_b42 {Z : Cz (Wd)} (hZ : OKZ Z SM cX12_reckon RX12 2 none 26) (hE : EndV Z) (k42 : Int32 → Wd → Option (Wd)) (hk42 : ∀ (y1 : Int32)  (w : Wd), BW Z 2 42 [(0, .ref (ph (zY Z) 0)), (1, .int y1)] [] w (k42 y1 w)) (y1 : Int32)  (w : Wd) : BW Z 2 42 [(0, .ref (ph (zY Z) 0)), (1, .int y1)] [] w (X12_reckon_b42 k42 y1 w) :=
  bw_iload_n hZ 1 rfl dX12_reckon_42 <|
  bw_aload_n hZ 0 rfl dX12_reckon_43 <|
  bw_callVI (As := []) hZ ml_RX12_622 rc_12 obM_0 (by decide) (c_X12_allWays (zl Z) (zY Z) (hZ_S hZ) w) rfl rfl (Nat.le_of_ble_eq_true rfl) dX12_reckon_44 fun r4 w3 =>
  bw_icmp_ge hZ (tgt := 66) (by decide) dX12_reckon_47 (fun _ =>
  bw_vret hZ hE dX12_reckon_66) (fun _ =>
  bw_aload_n hZ 0 rfl dX12_reckon_50 <|
  bw_iload_n hZ 1 rfl dX12_reckon_51 <|
  bw_callVV (As := [.int y1]) hZ ml_RX12_694 rc_12 obM_0 (by decide) (c_X12_sumWay (zl Z) (zY Z) (hZ_S hZ) y1 w3) rfl rfl (Nat.le_of_ble_eq_true rfl) dX12_reckon_52 fun w5 =>
  bw_aload_n hZ 0 rfl dX12_reckon_55 <|
  bw_iload_n hZ 1 rfl dX12_reckon_56 <|
  bw_callVV (As := [.int y1]) hZ ml_RX12_697 rc_12 obM_0 (by decide) (c_X12_nameOutcome (zl Z) (zY Z) (hZ_S hZ) y1 w5) rfl rfl (Nat.le_of_ble_eq_true rfl) dX12_reckon_57 fun w6 =>
  bw_iinc hZ 1 1 rfl (by decide) (by decide) rfl dX12_reckon_60 <|
  bw_goto hZ (tgt := 42) (by decide) dX12_reckon_63 <|
  bw_sub [1, 0] rfl (hk42 (y1 + 1) w6))
def X12_reckon_b42_L  : Int32 → Wd → Option (Wd) :=
  lp fu (fun _ _ => none) (fun k42 => X12_reckon_b42 k42)
theorem t_X12_reckon_b42_L {Z : Cz (Wd)} (hZ : OKZ Z SM cX12_reckon RX12 2 none 26) (hE : EndV Z)  : ∀ (y1 : Int32)  (w : Wd), BW Z 2 42 [(0, .ref (ph (zY Z) 0)), (1, .int y1)] [] w (X12_reckon_b42_L y1 w) :=
  lp_bw (fun k42 => ∀ (y1 : Int32)  (w : Wd), BW Z 2 42 [(0, .ref (ph (zY Z) 0)), (1, .int y1)] [] w (k42 y1 w)) (fun _ _ => bw_none) (fun k42 hk42 y1 w => t_X12_reckon_b42 hZ hE k42 hk42 y1 w) fu
def X12_reckon_b20 (k20 : Int32 → Wd → Option (Wd)) (y1 : Int32) (w : Wd) : Option (Wd) :=
  if 16384 ≤ y1 then
  (X12_reckon_b42_L 0 w)
  else
  if inb y1 16384 = true then
  (lt (wI w 54 (Int32.toNatClampNeg y1) ((-1))) fun w7 =>
  k20 (y1 + 1) w7)
  else none
set_option maxRecDepth 100000 in
set_option maxHeartbeats 4000000 in
theorem t_X12_reckon_b20 {Z : Cz (Wd)} (hZ : OKZ Z SM cX12_reckon RX12 2 none 26) (hE : EndV Z) (k20 : Int32 → Wd → Option (Wd)) (hk20 : ∀ (y1 : Int32)  (w : Wd), BW Z 2 20 [(0, .ref (ph (zY Z) 0)), (1, .int y1)] [] w (k20 y1 w)) (y1 : Int32)  (w : Wd) : BW Z 2 20 [(0, .ref (ph (zY Z) 0)), (1, .int y1)] [] w (X12_reckon_b20 k20 y1 w) :=
  bw_iload_n hZ 1 rfl dX12_reckon_20 <|
  bw_sipush hZ 16384 (by decide) dX12_reckon_21 <|
  bw_icmp_ge hZ (tgt := 40) (by decide) dX12_reckon_24 (fun _ =>
  bw_iconst hZ 0 (by decide) dX12_reckon_40 <|
  bw_istore_n hZ rfl (by decide) rfl dX12_reckon_41 <|
  bw_sub [1, 0] rfl (t_X12_reckon_b42_L hZ hE 0 w)) (fun _ =>
  bw_aload_n hZ 0 rfl dX12_reckon_27 <|
  bw_getR hZ fl_RX12_375 obM_0 rfl dX12_reckon_28 <|
  bw_iload_n hZ 1 rfl dX12_reckon_31 <|
  bw_iconst hZ (-1) (by decide) dX12_reckon_32 <|
  bw_iast hZ (arM_54 _) dX12_reckon_33 fun w7 =>
  bw_iinc hZ 1 1 rfl (by decide) (by decide) rfl dX12_reckon_34 <|
  bw_goto hZ (tgt := 20) (by decide) dX12_reckon_37 <|
  bw_sub [1, 0] rfl (hk20 (y1 + 1) w7))
def X12_reckon_b20_L  : Int32 → Wd → Option (Wd) :=
  lp fu (fun _ _ => none) (fun k20 => X12_reckon_b20 k20)
theorem t_X12_reckon_b20_L {Z : Cz (Wd)} (hZ : OKZ Z SM cX12_reckon RX12 2 none 26) (hE : EndV Z)  : ∀ (y1 : Int32)  (w : Wd), BW Z 2 20 [(0, .ref (ph (zY Z) 0)), (1, .int y1)] [] w (X12_reckon_b20_L y1 w) :=
  lp_bw (fun k20 => ∀ (y1 : Int32)  (w : Wd), BW Z 2 20 [(0, .ref (ph (zY Z) 0)), (1, .int y1)] [] w (k20 y1 w)) (fun _ _ => bw_none) (fun k20 hk20 y1 w => t_X12_reckon_b20 hZ hE k20 hk20 y1 w) fu
def f_X12_reckon (w : Wd) : Option (Wd) :=
  if (w.1 0 78) = 0 then
  (lt (wI w 0 78 1) fun w1 =>
  lt (wI w1 0 97 0) fun w2 =>
  X12_reckon_b20_L 0 w2)
  else
  some w
set_option maxRecDepth 100000 in
set_option maxHeartbeats 4000000 in
theorem t_X12_reckon {Z : Cz (Wd)} (hZ : OKZ Z SM cX12_reckon RX12 2 none 26) (hE : EndV Z)   (w : Wd) : BW Z 2 0 [(0, .ref (ph (zY Z) 0))] [] w (f_X12_reckon w) :=
  bw_aload_n hZ 0 rfl dX12_reckon_0 <|
  bw_getI hZ fl_RX12_544 (by decide) obM_0 dX12_reckon_1 <|
  bw_if_eq hZ (tgt := 8) (by decide) dX12_reckon_4 (fun _ =>
  bw_aload_n hZ 0 rfl dX12_reckon_8 <|
  bw_iconst hZ 1 (by decide) dX12_reckon_9 <|
  bw_putI hZ fl_RX12_544 rfl rfl (by decide) obM_0 dX12_reckon_10 fun w1 =>
  bw_aload_n hZ 0 rfl dX12_reckon_13 <|
  bw_iconst hZ 0 (by decide) dX12_reckon_14 <|
  bw_putI hZ fl_RX12_691 rfl rfl (by decide) obM_0 dX12_reckon_15 fun w2 =>
  bw_iconst hZ 0 (by decide) dX12_reckon_18 <|
  bw_istore_n hZ rfl (by decide) rfl dX12_reckon_19 <|
  bw_sub [1, 0] rfl (t_X12_reckon_b20_L hZ hE 0 w2)) (fun _ =>
  bw_vret hZ hE dX12_reckon_7)
theorem c_X12_reckon (l : Launch) (Y : Ev) (hY : Y.1 = SM)   (w : Wd) : CV l Y yX12_reckon cX12_reckon 2 26 [.ref (ph Y 0)] w (f_X12_reckon w) := by
  refine CV_of (S := SM) (by decide) (Nat.le_of_ble_eq_true rfl) hY ?_
  intro Z hl hY2 hZ hE
  subst hY2
  exact t_X12_reckon hZ hE w
-- WhichWillModel.sumOf
theorem dX12_sumOf_0 : decode cX12_sumOf 0 = .ok (.iconst 0, 1) := by decide +kernel
theorem dX12_sumOf_1 : decode cX12_sumOf 1 = .ok (.istore_n 3, 1) := by decide +kernel
theorem dX12_sumOf_2 : decode cX12_sumOf 2 = .ok (.iconst 0, 1) := by decide +kernel
theorem dX12_sumOf_3 : decode cX12_sumOf 3 = .ok (.istore 4, 2) := by decide +kernel
theorem dX12_sumOf_5 : decode cX12_sumOf 5 = .ok (.iload 4, 2) := by decide +kernel
theorem dX12_sumOf_7 : decode cX12_sumOf 7 = .ok (.aload_n 0, 1) := by decide +kernel
theorem dX12_sumOf_8 : decode cX12_sumOf 8 = .ok (.getfield 412, 3) := by decide +kernel
theorem dX12_sumOf_11 : decode cX12_sumOf 11 = .ok (.if_icmp .ge 38, 3) := by decide +kernel
theorem dX12_sumOf_14 : decode cX12_sumOf 14 = .ok (.iload_n 3, 1) := by decide +kernel
theorem dX12_sumOf_15 : decode cX12_sumOf 15 = .ok (.iload_n 1, 1) := by decide +kernel
theorem dX12_sumOf_16 : decode cX12_sumOf 16 = .ok (.iload 4, 2) := by decide +kernel
theorem dX12_sumOf_18 : decode cX12_sumOf 18 = .ok (.ishr, 1) := by decide +kernel
theorem dX12_sumOf_19 : decode cX12_sumOf 19 = .ok (.iconst 1, 1) := by decide +kernel
theorem dX12_sumOf_20 : decode cX12_sumOf 20 = .ok (.iand, 1) := by decide +kernel
theorem dX12_sumOf_21 : decode cX12_sumOf 21 = .ok (.iconst 1, 1) := by decide +kernel
theorem dX12_sumOf_22 : decode cX12_sumOf 22 = .ok (.if_icmp .ne 18, 3) := by decide +kernel
theorem dX12_sumOf_25 : decode cX12_sumOf 25 = .ok (.aload_n 0, 1) := by decide +kernel
theorem dX12_sumOf_26 : decode cX12_sumOf 26 = .ok (.getfield 366, 3) := by decide +kernel
theorem dX12_sumOf_29 : decode cX12_sumOf 29 = .ok (.bipush 8, 2) := by decide +kernel
theorem dX12_sumOf_31 : decode cX12_sumOf 31 = .ok (.iload_n 2, 1) := by decide +kernel
theorem dX12_sumOf_32 : decode cX12_sumOf 32 = .ok (.imul, 1) := by decide +kernel
theorem dX12_sumOf_33 : decode cX12_sumOf 33 = .ok (.iload 4, 2) := by decide +kernel
theorem dX12_sumOf_35 : decode cX12_sumOf 35 = .ok (.iadd, 1) := by decide +kernel
theorem dX12_sumOf_36 : decode cX12_sumOf 36 = .ok (.iaload, 1) := by decide +kernel
theorem dX12_sumOf_37 : decode cX12_sumOf 37 = .ok (.goto 4, 3) := by decide +kernel
theorem dX12_sumOf_40 : decode cX12_sumOf 40 = .ok (.iconst 0, 1) := by decide +kernel
theorem dX12_sumOf_41 : decode cX12_sumOf 41 = .ok (.iadd, 1) := by decide +kernel
theorem dX12_sumOf_42 : decode cX12_sumOf 42 = .ok (.istore_n 3, 1) := by decide +kernel
theorem dX12_sumOf_43 : decode cX12_sumOf 43 = .ok (.iinc 4 1, 3) := by decide +kernel
theorem dX12_sumOf_46 : decode cX12_sumOf 46 = .ok (.goto (-41), 3) := by decide +kernel
theorem dX12_sumOf_49 : decode cX12_sumOf 49 = .ok (.iload_n 3, 1) := by decide +kernel
theorem dX12_sumOf_50 : decode cX12_sumOf 50 = .ok (.ireturn, 1) := by decide +kernel
def X12_sumOf_b5 (k5 : Int32 → Int32 → Int32 → Int32 → Wd → Option (Int32 × Wd)) (y1 : Int32) (y2 : Int32) (y3 : Int32) (y4 : Int32) (w : Wd) : Option (Int32 × Wd) :=
  if (w.1 0 11) ≤ y4 then
  (some (y3, w))
  else
  if ((y1 >>> (y4 &&& 31)) &&& 1) = 1 then
  (if inb ((8 * y2) + y4) 46080 = true then
  (lt (y3 + (w.1 51 (Int32.toNatClampNeg ((8 * y2) + y4)))) fun v2 =>
  k5 y1 y2 v2 (y4 + 1) w)
  else none)
  else
  lt (y3 + 0) fun v1 =>
  k5 y1 y2 v1 (y4 + 1) w
set_option maxRecDepth 100000 in
set_option maxHeartbeats 4000000 in
theorem t_X12_sumOf_b5 {Z : Cz (Int32 × Wd)} (hZ : OKZ Z SM cX12_sumOf RX12 5 (some .int) 1) (hE : EndI Z) (k5 : Int32 → Int32 → Int32 → Int32 → Wd → Option (Int32 × Wd)) (hk5 : ∀ (y1 : Int32) (y2 : Int32) (y3 : Int32) (y4 : Int32)  (w : Wd), BW Z 5 5 [(0, .ref (ph (zY Z) 0)), (1, .int y1), (2, .int y2), (3, .int y3), (4, .int y4)] [] w (k5 y1 y2 y3 y4 w)) (y1 : Int32) (y2 : Int32) (y3 : Int32) (y4 : Int32)  (w : Wd) : BW Z 5 5 [(0, .ref (ph (zY Z) 0)), (1, .int y1), (2, .int y2), (3, .int y3), (4, .int y4)] [] w (X12_sumOf_b5 k5 y1 y2 y3 y4 w) :=
  bw_iload hZ 4 rfl dX12_sumOf_5 <|
  bw_aload_n hZ 0 rfl dX12_sumOf_7 <|
  bw_getI hZ fl_RX12_412 (by decide) obM_0 dX12_sumOf_8 <|
  bw_icmp_ge hZ (tgt := 49) (by decide) dX12_sumOf_11 (fun _ =>
  bw_iload_n hZ 3 rfl dX12_sumOf_49 <|
  bw_iret hZ hE dX12_sumOf_50) (fun _ =>
  bw_iload_n hZ 3 rfl dX12_sumOf_14 <|
  bw_iload_n hZ 1 rfl dX12_sumOf_15 <|
  bw_iload hZ 4 rfl dX12_sumOf_16 <|
  bw_ishr hZ dX12_sumOf_18 <|
  bw_iconst hZ 1 (by decide) dX12_sumOf_19 <|
  bw_iand hZ dX12_sumOf_20 <|
  bw_iconst hZ 1 (by decide) dX12_sumOf_21 <|
  bw_icmp_ne hZ (tgt := 40) (by decide) dX12_sumOf_22 (fun _ =>
  bw_iconst hZ 0 (by decide) dX12_sumOf_40 <|
  bw_iadd hZ dX12_sumOf_41 <|
  bw_nm fun v1 =>
  bw_istore_n hZ rfl (by decide) rfl dX12_sumOf_42 <|
  bw_iinc hZ 1 4 rfl (by decide) (by decide) rfl dX12_sumOf_43 <|
  bw_goto hZ (tgt := 5) (by decide) dX12_sumOf_46 <|
  bw_sub [2, 3, 4, 1, 0] rfl (hk5 y1 y2 v1 (y4 + 1) w)) (fun _ =>
  bw_aload_n hZ 0 rfl dX12_sumOf_25 <|
  bw_getR hZ fl_RX12_366 obM_0 rfl dX12_sumOf_26 <|
  bw_bipush hZ 8 (by decide) dX12_sumOf_29 <|
  bw_iload_n hZ 2 rfl dX12_sumOf_31 <|
  bw_imul hZ dX12_sumOf_32 <|
  bw_iload hZ 4 rfl dX12_sumOf_33 <|
  bw_iadd hZ dX12_sumOf_35 <|
  bw_iald hZ (arM_51 _) dX12_sumOf_36 <|
  bw_goto hZ (tgt := 41) (by decide) dX12_sumOf_37 <|
  bw_iadd hZ dX12_sumOf_41 <|
  bw_nm fun v2 =>
  bw_istore_n hZ rfl (by decide) rfl dX12_sumOf_42 <|
  bw_iinc hZ 1 4 rfl (by decide) (by decide) rfl dX12_sumOf_43 <|
  bw_goto hZ (tgt := 5) (by decide) dX12_sumOf_46 <|
  bw_sub [2, 3, 4, 1, 0] rfl (hk5 y1 y2 v2 (y4 + 1) w)))
def X12_sumOf_b5_L  : Int32 → Int32 → Int32 → Int32 → Wd → Option (Int32 × Wd) :=
  lp fu (fun _ _ _ _ _ => none) (fun k5 => X12_sumOf_b5 k5)
theorem t_X12_sumOf_b5_L {Z : Cz (Int32 × Wd)} (hZ : OKZ Z SM cX12_sumOf RX12 5 (some .int) 1) (hE : EndI Z)  : ∀ (y1 : Int32) (y2 : Int32) (y3 : Int32) (y4 : Int32)  (w : Wd), BW Z 5 5 [(0, .ref (ph (zY Z) 0)), (1, .int y1), (2, .int y2), (3, .int y3), (4, .int y4)] [] w (X12_sumOf_b5_L y1 y2 y3 y4 w) :=
  lp_bw (fun k5 => ∀ (y1 : Int32) (y2 : Int32) (y3 : Int32) (y4 : Int32)  (w : Wd), BW Z 5 5 [(0, .ref (ph (zY Z) 0)), (1, .int y1), (2, .int y2), (3, .int y3), (4, .int y4)] [] w (k5 y1 y2 y3 y4 w)) (fun _ _ _ _ _ => bw_none) (fun k5 hk5 y1 y2 y3 y4 w => t_X12_sumOf_b5 hZ hE k5 hk5 y1 y2 y3 y4 w) fu
def f_X12_sumOf (x1 : Int32) (x2 : Int32) (w : Wd) : Option (Int32 × Wd) :=
  X12_sumOf_b5_L x1 x2 0 0 w
set_option maxRecDepth 100000 in
set_option maxHeartbeats 4000000 in
theorem t_X12_sumOf {Z : Cz (Int32 × Wd)} (hZ : OKZ Z SM cX12_sumOf RX12 5 (some .int) 1) (hE : EndI Z) (x1 : Int32) (x2 : Int32)  (w : Wd) : BW Z 5 0 [(0, .ref (ph (zY Z) 0)), (1, .int x1), (2, .int x2)] [] w (f_X12_sumOf x1 x2 w) :=
  bw_iconst hZ 0 (by decide) dX12_sumOf_0 <|
  bw_istore_n hZ rfl (by decide) rfl dX12_sumOf_1 <|
  bw_iconst hZ 0 (by decide) dX12_sumOf_2 <|
  bw_istore hZ (by decide) rfl dX12_sumOf_3 <|
  bw_sub [2, 3, 4, 1, 0] rfl (t_X12_sumOf_b5_L hZ hE x1 x2 0 0 w)
theorem c_X12_sumOf (l : Launch) (Y : Ev) (hY : Y.1 = SM) (x1 : Int32) (x2 : Int32)  (w : Wd) : CI l Y yX12_sumOf cX12_sumOf 5 1 [.ref (ph Y 0), .int x1, .int x2] w .int (f_X12_sumOf x1 x2 w) := by
  refine CI_of (S := SM) (by decide) (Nat.le_of_ble_eq_true rfl) hY ?_
  intro Z hl hY2 hZ hE
  subst hY2
  exact t_X12_sumOf hZ hE x1 x2 w
-- WhichWillModel.sum
theorem dX12_sum_0 : decode cX12_sum 0 = .ok (.aload_n 0, 1) := by decide +kernel
theorem dX12_sum_1 : decode cX12_sum 1 = .ok (.iload_n 1, 1) := by decide +kernel
theorem dX12_sum_2 : decode cX12_sum 2 = .ok (.invokevirtual 682, 3) := by decide +kernel
theorem dX12_sum_5 : decode cX12_sum 5 = .ok (.ifCond .eq 11, 3) := by decide +kernel
theorem dX12_sum_8 : decode cX12_sum 8 = .ok (.aload_n 0, 1) := by decide +kernel
theorem dX12_sum_9 : decode cX12_sum 9 = .ok (.iload_n 2, 1) := by decide +kernel
theorem dX12_sum_10 : decode cX12_sum 10 = .ok (.invokevirtual 625, 3) := by decide +kernel
theorem dX12_sum_13 : decode cX12_sum 13 = .ok (.ifCond .ne 6, 3) := by decide +kernel
theorem dX12_sum_16 : decode cX12_sum 16 = .ok (.bipush (-2), 2) := by decide +kernel
theorem dX12_sum_18 : decode cX12_sum 18 = .ok (.ireturn, 1) := by decide +kernel
theorem dX12_sum_19 : decode cX12_sum 19 = .ok (.aload_n 0, 1) := by decide +kernel
theorem dX12_sum_20 : decode cX12_sum 20 = .ok (.invokevirtual 700, 3) := by decide +kernel
theorem dX12_sum_23 : decode cX12_sum 23 = .ok (.aload_n 0, 1) := by decide +kernel
theorem dX12_sum_24 : decode cX12_sum 24 = .ok (.getfield 366, 3) := by decide +kernel
theorem dX12_sum_27 : decode cX12_sum 27 = .ok (.bipush 8, 2) := by decide +kernel
theorem dX12_sum_29 : decode cX12_sum 29 = .ok (.iload_n 2, 1) := by decide +kernel
theorem dX12_sum_30 : decode cX12_sum 30 = .ok (.imul, 1) := by decide +kernel
theorem dX12_sum_31 : decode cX12_sum 31 = .ok (.iload_n 1, 1) := by decide +kernel
theorem dX12_sum_32 : decode cX12_sum 32 = .ok (.iadd, 1) := by decide +kernel
theorem dX12_sum_33 : decode cX12_sum 33 = .ok (.iaload, 1) := by decide +kernel
theorem dX12_sum_34 : decode cX12_sum 34 = .ok (.ireturn, 1) := by decide +kernel
def f_X12_sum (x1 : Int32) (x2 : Int32) (w : Wd) : Option (Int32 × Wd) :=
  cl (f_X12_isPerson x1 w) fun r2 w1 =>
  if r2 = 0 then
  (some ((-2), w1))
  else
  cl (f_X12_isWay x2 w1) fun r4 w3 =>
  if r4 = 0 then
  (some ((-2), w3))
  else
  cv (f_X12_reckon w3) fun w5 =>
  if inb ((8 * x2) + x1) 46080 = true then
  (some (w5.1 51 (Int32.toNatClampNeg ((8 * x2) + x1)), w5))
  else none
set_option maxRecDepth 100000 in
set_option maxHeartbeats 4000000 in
theorem t_X12_sum {Z : Cz (Int32 × Wd)} (hZ : OKZ Z SM cX12_sum RX12 3 (some .int) 27) (hE : EndI Z) (x1 : Int32) (x2 : Int32)  (w : Wd) : BW Z 3 0 [(0, .ref (ph (zY Z) 0)), (1, .int x1), (2, .int x2)] [] w (f_X12_sum x1 x2 w) :=
  bw_aload_n hZ 0 rfl dX12_sum_0 <|
  bw_iload_n hZ 1 rfl dX12_sum_1 <|
  bw_callVI (As := [.int x1]) hZ ml_RX12_682 rc_12 obM_0 (by decide) (c_X12_isPerson (zl Z) (zY Z) (hZ_S hZ) x1 w) rfl rfl (Nat.le_of_ble_eq_true rfl) dX12_sum_2 fun r2 w1 =>
  bw_if_eq hZ (tgt := 16) (by decide) dX12_sum_5 (fun _ =>
  bw_bipush hZ (-2) (by decide) dX12_sum_16 <|
  bw_iret hZ hE dX12_sum_18) (fun _ =>
  bw_aload_n hZ 0 rfl dX12_sum_8 <|
  bw_iload_n hZ 2 rfl dX12_sum_9 <|
  bw_callVI (As := [.int x2]) hZ ml_RX12_625 rc_12 obM_0 (by decide) (c_X12_isWay (zl Z) (zY Z) (hZ_S hZ) x2 w1) rfl rfl (Nat.le_of_ble_eq_true rfl) dX12_sum_10 fun r4 w3 =>
  bw_if_ne hZ (tgt := 19) (by decide) dX12_sum_13 (fun _ =>
  bw_aload_n hZ 0 rfl dX12_sum_19 <|
  bw_callVV (As := []) hZ ml_RX12_700 rc_12 obM_0 (by decide) (c_X12_reckon (zl Z) (zY Z) (hZ_S hZ) w3) rfl rfl (Nat.le_of_ble_eq_true rfl) dX12_sum_20 fun w5 =>
  bw_aload_n hZ 0 rfl dX12_sum_23 <|
  bw_getR hZ fl_RX12_366 obM_0 rfl dX12_sum_24 <|
  bw_bipush hZ 8 (by decide) dX12_sum_27 <|
  bw_iload_n hZ 2 rfl dX12_sum_29 <|
  bw_imul hZ dX12_sum_30 <|
  bw_iload_n hZ 1 rfl dX12_sum_31 <|
  bw_iadd hZ dX12_sum_32 <|
  bw_iald hZ (arM_51 _) dX12_sum_33 <|
  bw_iret hZ hE dX12_sum_34) (fun _ =>
  bw_bipush hZ (-2) (by decide) dX12_sum_16 <|
  bw_iret hZ hE dX12_sum_18))
theorem c_X12_sum (l : Launch) (Y : Ev) (hY : Y.1 = SM) (x1 : Int32) (x2 : Int32)  (w : Wd) : CI l Y yX12_sum cX12_sum 3 27 [.ref (ph Y 0), .int x1, .int x2] w .int (f_X12_sum x1 x2 w) := by
  refine CI_of (S := SM) (by decide) (Nat.le_of_ble_eq_true rfl) hY ?_
  intro Z hl hY2 hZ hE
  subst hY2
  exact t_X12_sum hZ hE x1 x2 w
-- WhichWillModel.lack
theorem dX12_lack_0 : decode cX12_lack 0 = .ok (.aload_n 0, 1) := by decide +kernel
theorem dX12_lack_1 : decode cX12_lack 1 = .ok (.iload_n 1, 1) := by decide +kernel
theorem dX12_lack_2 : decode cX12_lack 2 = .ok (.invokevirtual 625, 3) := by decide +kernel
theorem dX12_lack_5 : decode cX12_lack 5 = .ok (.ifCond .ne 6, 3) := by decide +kernel
theorem dX12_lack_8 : decode cX12_lack 8 = .ok (.bipush (-2), 2) := by decide +kernel
theorem dX12_lack_10 : decode cX12_lack 10 = .ok (.ireturn, 1) := by decide +kernel
theorem dX12_lack_11 : decode cX12_lack 11 = .ok (.aload_n 0, 1) := by decide +kernel
theorem dX12_lack_12 : decode cX12_lack 12 = .ok (.invokevirtual 700, 3) := by decide +kernel
theorem dX12_lack_15 : decode cX12_lack 15 = .ok (.aload_n 0, 1) := by decide +kernel
theorem dX12_lack_16 : decode cX12_lack 16 = .ok (.invokevirtual 670, 3) := by decide +kernel
theorem dX12_lack_19 : decode cX12_lack 19 = .ok (.istore_n 2, 1) := by decide +kernel
theorem dX12_lack_20 : decode cX12_lack 20 = .ok (.iconst 0, 1) := by decide +kernel
theorem dX12_lack_21 : decode cX12_lack 21 = .ok (.istore_n 3, 1) := by decide +kernel
theorem dX12_lack_22 : decode cX12_lack 22 = .ok (.iload_n 3, 1) := by decide +kernel
theorem dX12_lack_23 : decode cX12_lack 23 = .ok (.aload_n 0, 1) := by decide +kernel
theorem dX12_lack_24 : decode cX12_lack 24 = .ok (.getfield 415, 3) := by decide +kernel
theorem dX12_lack_27 : decode cX12_lack 27 = .ok (.if_icmp .ge 18, 3) := by decide +kernel
theorem dX12_lack_30 : decode cX12_lack 30 = .ok (.iload_n 2, 1) := by decide +kernel
theorem dX12_lack_31 : decode cX12_lack 31 = .ok (.aload_n 0, 1) := by decide +kernel
theorem dX12_lack_32 : decode cX12_lack 32 = .ok (.getfield 252, 3) := by decide +kernel
theorem dX12_lack_35 : decode cX12_lack 35 = .ok (.iload_n 3, 1) := by decide +kernel
theorem dX12_lack_36 : decode cX12_lack 36 = .ok (.iaload, 1) := by decide +kernel
theorem dX12_lack_37 : decode cX12_lack 37 = .ok (.iadd, 1) := by decide +kernel
theorem dX12_lack_38 : decode cX12_lack 38 = .ok (.istore_n 2, 1) := by decide +kernel
theorem dX12_lack_39 : decode cX12_lack 39 = .ok (.iinc 3 1, 3) := by decide +kernel
theorem dX12_lack_42 : decode cX12_lack 42 = .ok (.goto (-20), 3) := by decide +kernel
theorem dX12_lack_45 : decode cX12_lack 45 = .ok (.iconst 0, 1) := by decide +kernel
theorem dX12_lack_46 : decode cX12_lack 46 = .ok (.istore_n 3, 1) := by decide +kernel
theorem dX12_lack_47 : decode cX12_lack 47 = .ok (.iconst 0, 1) := by decide +kernel
theorem dX12_lack_48 : decode cX12_lack 48 = .ok (.istore 4, 2) := by decide +kernel
theorem dX12_lack_50 : decode cX12_lack 50 = .ok (.iload 4, 2) := by decide +kernel
theorem dX12_lack_52 : decode cX12_lack 52 = .ok (.aload_n 0, 1) := by decide +kernel
theorem dX12_lack_53 : decode cX12_lack 53 = .ok (.getfield 412, 3) := by decide +kernel
theorem dX12_lack_56 : decode cX12_lack 56 = .ok (.if_icmp .ge 50, 3) := by decide +kernel
theorem dX12_lack_59 : decode cX12_lack 59 = .ok (.iload_n 3, 1) := by decide +kernel
theorem dX12_lack_60 : decode cX12_lack 60 = .ok (.aload_n 0, 1) := by decide +kernel
theorem dX12_lack_61 : decode cX12_lack 61 = .ok (.getfield 246, 3) := by decide +kernel
theorem dX12_lack_64 : decode cX12_lack 64 = .ok (.iload 4, 2) := by decide +kernel
theorem dX12_lack_66 : decode cX12_lack 66 = .ok (.iaload, 1) := by decide +kernel
theorem dX12_lack_67 : decode cX12_lack 67 = .ok (.iconst 1, 1) := by decide +kernel
theorem dX12_lack_68 : decode cX12_lack 68 = .ok (.if_icmp .eq 14, 3) := by decide +kernel
theorem dX12_lack_71 : decode cX12_lack 71 = .ok (.aload_n 0, 1) := by decide +kernel
theorem dX12_lack_72 : decode cX12_lack 72 = .ok (.getfield 246, 3) := by decide +kernel
theorem dX12_lack_75 : decode cX12_lack 75 = .ok (.iload 4, 2) := by decide +kernel
theorem dX12_lack_77 : decode cX12_lack 77 = .ok (.iaload, 1) := by decide +kernel
theorem dX12_lack_78 : decode cX12_lack 78 = .ok (.iconst 2, 1) := by decide +kernel
theorem dX12_lack_79 : decode cX12_lack 79 = .ok (.if_icmp .ne 18, 3) := by decide +kernel
theorem dX12_lack_82 : decode cX12_lack 82 = .ok (.aload_n 0, 1) := by decide +kernel
theorem dX12_lack_83 : decode cX12_lack 83 = .ok (.getfield 366, 3) := by decide +kernel
theorem dX12_lack_86 : decode cX12_lack 86 = .ok (.bipush 8, 2) := by decide +kernel
theorem dX12_lack_88 : decode cX12_lack 88 = .ok (.iload_n 1, 1) := by decide +kernel
theorem dX12_lack_89 : decode cX12_lack 89 = .ok (.imul, 1) := by decide +kernel
theorem dX12_lack_90 : decode cX12_lack 90 = .ok (.iload 4, 2) := by decide +kernel
theorem dX12_lack_92 : decode cX12_lack 92 = .ok (.iadd, 1) := by decide +kernel
theorem dX12_lack_93 : decode cX12_lack 93 = .ok (.iaload, 1) := by decide +kernel
theorem dX12_lack_94 : decode cX12_lack 94 = .ok (.goto 4, 3) := by decide +kernel
theorem dX12_lack_97 : decode cX12_lack 97 = .ok (.iconst 0, 1) := by decide +kernel
theorem dX12_lack_98 : decode cX12_lack 98 = .ok (.iadd, 1) := by decide +kernel
theorem dX12_lack_99 : decode cX12_lack 99 = .ok (.istore_n 3, 1) := by decide +kernel
theorem dX12_lack_100 : decode cX12_lack 100 = .ok (.iinc 4 1, 3) := by decide +kernel
theorem dX12_lack_103 : decode cX12_lack 103 = .ok (.goto (-53), 3) := by decide +kernel
theorem dX12_lack_106 : decode cX12_lack 106 = .ok (.iconst 0, 1) := by decide +kernel
theorem dX12_lack_107 : decode cX12_lack 107 = .ok (.iload_n 2, 1) := by decide +kernel
theorem dX12_lack_108 : decode cX12_lack 108 = .ok (.aload_n 0, 1) := by decide +kernel
theorem dX12_lack_109 : decode cX12_lack 109 = .ok (.getfield 243, 3) := by decide +kernel
theorem dX12_lack_112 : decode cX12_lack 112 = .ok (.bipush 13, 2) := by decide +kernel
theorem dX12_lack_114 : decode cX12_lack 114 = .ok (.aload_n 0, 1) := by decide +kernel
theorem dX12_lack_115 : decode cX12_lack 115 = .ok (.iconst (-1), 1) := by decide +kernel
theorem dX12_lack_116 : decode cX12_lack 116 = .ok (.invokevirtual 586, 3) := by decide +kernel
theorem dX12_lack_119 : decode cX12_lack 119 = .ok (.imul, 1) := by decide +kernel
theorem dX12_lack_120 : decode cX12_lack 120 = .ok (.bipush 10, 2) := by decide +kernel
theorem dX12_lack_122 : decode cX12_lack 122 = .ok (.iadd, 1) := by decide +kernel
theorem dX12_lack_123 : decode cX12_lack 123 = .ok (.iaload, 1) := by decide +kernel
theorem dX12_lack_124 : decode cX12_lack 124 = .ok (.imul, 1) := by decide +kernel
theorem dX12_lack_125 : decode cX12_lack 125 = .ok (.bipush 100, 2) := by decide +kernel
theorem dX12_lack_127 : decode cX12_lack 127 = .ok (.idiv, 1) := by decide +kernel
theorem dX12_lack_128 : decode cX12_lack 128 = .ok (.iload_n 3, 1) := by decide +kernel
theorem dX12_lack_129 : decode cX12_lack 129 = .ok (.isub, 1) := by decide +kernel
theorem dX12_lack_130 : decode cX12_lack 130 = .ok (.invokestatic 558, 3) := by decide +kernel
theorem dX12_lack_133 : decode cX12_lack 133 = .ok (.ireturn, 1) := by decide +kernel
def X12_lack_b82 (k50 : Int32 → Int32 → Int32 → Int32 → Wd → Option (Int32 × Wd)) (y1 : Int32) (y2 : Int32) (y4 : Int32) (t0 : Int32) (w : Wd) : Option (Int32 × Wd) :=
  if inb ((8 * y1) + y4) 46080 = true then
  (lt (t0 + (w.1 51 (Int32.toNatClampNeg ((8 * y1) + y4)))) fun v8 =>
  k50 y1 y2 v8 (y4 + 1) w)
  else none
set_option maxRecDepth 100000 in
set_option maxHeartbeats 4000000 in
theorem t_X12_lack_b82 {Z : Cz (Int32 × Wd)} (hZ : OKZ Z SM cX12_lack RX12 5 (some .int) 27) (hE : EndI Z) (k50 : Int32 → Int32 → Int32 → Int32 → Wd → Option (Int32 × Wd)) (hk50 : ∀ (y1 : Int32) (y2 : Int32) (y3 : Int32) (y4 : Int32)  (w : Wd), BW Z 5 50 [(0, .ref (ph (zY Z) 0)), (1, .int y1), (2, .int y2), (3, .int y3), (4, .int y4)] [] w (k50 y1 y2 y3 y4 w)) (y1 : Int32) (y2 : Int32) (y4 : Int32) (t0 : Int32)  (w : Wd) : BW Z 5 82 [(0, .ref (ph (zY Z) 0)), (1, .int y1), (2, .int y2), (4, .int y4)] [.int t0] w (X12_lack_b82 k50 y1 y2 y4 t0 w) :=
  bw_aload_n hZ 0 rfl dX12_lack_82 <|
  bw_getR hZ fl_RX12_366 obM_0 rfl dX12_lack_83 <|
  bw_bipush hZ 8 (by decide) dX12_lack_86 <|
  bw_iload_n hZ 1 rfl dX12_lack_88 <|
  bw_imul hZ dX12_lack_89 <|
  bw_iload hZ 3 rfl dX12_lack_90 <|
  bw_iadd hZ dX12_lack_92 <|
  bw_iald hZ (arM_51 _) dX12_lack_93 <|
  bw_goto hZ (tgt := 98) (by decide) dX12_lack_94 <|
  bw_iadd hZ dX12_lack_98 <|
  bw_nm fun v8 =>
  bw_istore_n hZ rfl (by decide) rfl dX12_lack_99 <|
  bw_iinc hZ 1 4 rfl (by decide) (by decide) rfl dX12_lack_100 <|
  bw_goto hZ (tgt := 50) (by decide) dX12_lack_103 <|
  bw_sub [2, 3, 4, 1, 0] rfl (hk50 y1 y2 v8 (y4 + 1) w)
def X12_lack_b50 (k50 : Int32 → Int32 → Int32 → Int32 → Wd → Option (Int32 × Wd)) (y1 : Int32) (y2 : Int32) (y3 : Int32) (y4 : Int32) (w : Wd) : Option (Int32 × Wd) :=
  if (w.1 0 11) ≤ y4 then
  (cl (f_X12_lawFor ((-1)) w) fun r7 w6 =>
  if inb ((13 * r7) + 10) 52 = true then
  (some (if (0 : Int32) < (((y2 * (w6.1 2 (Int32.toNatClampNeg ((13 * r7) + 10)))) / 100) - y3) then ((y2 * (w6.1 2 (Int32.toNatClampNeg ((13 * r7) + 10)))) / 100) - y3 else 0, w6))
  else none)
  else
  if inb y4 8 = true then
  (if (w.1 3 (Int32.toNatClampNeg y4)) = 1 then
  (X12_lack_b82 k50 y1 y2 y4 y3 w)
  else
  if inb y4 8 = true then
  (if (w.1 3 (Int32.toNatClampNeg y4)) = 2 then
  (X12_lack_b82 k50 y1 y2 y4 y3 w)
  else
  lt (y3 + 0) fun v9 =>
  k50 y1 y2 v9 (y4 + 1) w)
  else none)
  else none
set_option maxRecDepth 100000 in
set_option maxHeartbeats 4000000 in
theorem t_X12_lack_b50 {Z : Cz (Int32 × Wd)} (hZ : OKZ Z SM cX12_lack RX12 5 (some .int) 27) (hE : EndI Z) (k50 : Int32 → Int32 → Int32 → Int32 → Wd → Option (Int32 × Wd)) (hk50 : ∀ (y1 : Int32) (y2 : Int32) (y3 : Int32) (y4 : Int32)  (w : Wd), BW Z 5 50 [(0, .ref (ph (zY Z) 0)), (1, .int y1), (2, .int y2), (3, .int y3), (4, .int y4)] [] w (k50 y1 y2 y3 y4 w)) (y1 : Int32) (y2 : Int32) (y3 : Int32) (y4 : Int32)  (w : Wd) : BW Z 5 50 [(0, .ref (ph (zY Z) 0)), (1, .int y1), (2, .int y2), (3, .int y3), (4, .int y4)] [] w (X12_lack_b50 k50 y1 y2 y3 y4 w) :=
  bw_iload hZ 4 rfl dX12_lack_50 <|
  bw_aload_n hZ 0 rfl dX12_lack_52 <|
  bw_getI hZ fl_RX12_412 (by decide) obM_0 dX12_lack_53 <|
  bw_icmp_ge hZ (tgt := 106) (by decide) dX12_lack_56 (fun _ =>
  bw_iconst hZ 0 (by decide) dX12_lack_106 <|
  bw_iload_n hZ 2 rfl dX12_lack_107 <|
  bw_aload_n hZ 0 rfl dX12_lack_108 <|
  bw_getR hZ fl_RX12_243 obM_0 rfl dX12_lack_109 <|
  bw_bipush hZ 13 (by decide) dX12_lack_112 <|
  bw_aload_n hZ 0 rfl dX12_lack_114 <|
  bw_iconst hZ (-1) (by decide) dX12_lack_115 <|
  bw_callVI (As := [.int ((-1))]) hZ ml_RX12_586 rc_12 obM_0 (by decide) (c_X12_lawFor (zl Z) (zY Z) (hZ_S hZ) ((-1)) w) rfl rfl (Nat.le_of_ble_eq_true rfl) dX12_lack_116 fun r7 w6 =>
  bw_imul hZ dX12_lack_119 <|
  bw_bipush hZ 10 (by decide) dX12_lack_120 <|
  bw_iadd hZ dX12_lack_122 <|
  bw_iald hZ (arM_2 _) dX12_lack_123 <|
  bw_imul hZ dX12_lack_124 <|
  bw_bipush hZ 100 (by decide) dX12_lack_125 <|
  bw_idivN hZ (by decide) dX12_lack_127 <|
  bw_iload_n hZ 3 rfl dX12_lack_128 <|
  bw_isub hZ dX12_lack_129 <|
  bw_mmax hZ kl_RX12_558 km_max (by decide) (Nat.le_of_ble_eq_true rfl) dX12_lack_130 <|
  bw_iret hZ hE dX12_lack_133) (fun _ =>
  bw_iload_n hZ 3 rfl dX12_lack_59 <|
  bw_aload_n hZ 0 rfl dX12_lack_60 <|
  bw_getR hZ fl_RX12_246 obM_0 rfl dX12_lack_61 <|
  bw_iload hZ 4 rfl dX12_lack_64 <|
  bw_iald hZ (arM_3 _) dX12_lack_66 <|
  bw_iconst hZ 1 (by decide) dX12_lack_67 <|
  bw_icmp_eq hZ (tgt := 82) (by decide) dX12_lack_68 (fun _ =>
  bw_sub [0, 1, 2, 4] rfl (t_X12_lack_b82 hZ hE k50 hk50 y1 y2 y4 y3 w)) (fun _ =>
  bw_aload_n hZ 0 rfl dX12_lack_71 <|
  bw_getR hZ fl_RX12_246 obM_0 rfl dX12_lack_72 <|
  bw_iload hZ 4 rfl dX12_lack_75 <|
  bw_iald hZ (arM_3 _) dX12_lack_77 <|
  bw_iconst hZ 2 (by decide) dX12_lack_78 <|
  bw_icmp_ne hZ (tgt := 97) (by decide) dX12_lack_79 (fun _ =>
  bw_iconst hZ 0 (by decide) dX12_lack_97 <|
  bw_iadd hZ dX12_lack_98 <|
  bw_nm fun v9 =>
  bw_istore_n hZ rfl (by decide) rfl dX12_lack_99 <|
  bw_iinc hZ 1 4 rfl (by decide) (by decide) rfl dX12_lack_100 <|
  bw_goto hZ (tgt := 50) (by decide) dX12_lack_103 <|
  bw_sub [2, 3, 4, 1, 0] rfl (hk50 y1 y2 v9 (y4 + 1) w)) (fun _ =>
  bw_sub [0, 1, 2, 4] rfl (t_X12_lack_b82 hZ hE k50 hk50 y1 y2 y4 y3 w))))
def X12_lack_b50_L  : Int32 → Int32 → Int32 → Int32 → Wd → Option (Int32 × Wd) :=
  lp fu (fun _ _ _ _ _ => none) (fun k50 => X12_lack_b50 k50)
theorem t_X12_lack_b50_L {Z : Cz (Int32 × Wd)} (hZ : OKZ Z SM cX12_lack RX12 5 (some .int) 27) (hE : EndI Z)  : ∀ (y1 : Int32) (y2 : Int32) (y3 : Int32) (y4 : Int32)  (w : Wd), BW Z 5 50 [(0, .ref (ph (zY Z) 0)), (1, .int y1), (2, .int y2), (3, .int y3), (4, .int y4)] [] w (X12_lack_b50_L y1 y2 y3 y4 w) :=
  lp_bw (fun k50 => ∀ (y1 : Int32) (y2 : Int32) (y3 : Int32) (y4 : Int32)  (w : Wd), BW Z 5 50 [(0, .ref (ph (zY Z) 0)), (1, .int y1), (2, .int y2), (3, .int y3), (4, .int y4)] [] w (k50 y1 y2 y3 y4 w)) (fun _ _ _ _ _ => bw_none) (fun k50 hk50 y1 y2 y3 y4 w => t_X12_lack_b50 hZ hE k50 hk50 y1 y2 y3 y4 w) fu
def X12_lack_b22 (k22 : Int32 → Int32 → Int32 → Wd → Option (Int32 × Wd)) (y1 : Int32) (y2 : Int32) (y3 : Int32) (w : Wd) : Option (Int32 × Wd) :=
  if (w.1 0 12) ≤ y3 then
  (X12_lack_b50_L y1 y2 0 0 w)
  else
  if inb y3 8 = true then
  (lt (y2 + (w.1 5 (Int32.toNatClampNeg y3))) fun v10 =>
  k22 y1 v10 (y3 + 1) w)
  else none
set_option maxRecDepth 100000 in
set_option maxHeartbeats 4000000 in
theorem t_X12_lack_b22 {Z : Cz (Int32 × Wd)} (hZ : OKZ Z SM cX12_lack RX12 5 (some .int) 27) (hE : EndI Z) (k22 : Int32 → Int32 → Int32 → Wd → Option (Int32 × Wd)) (hk22 : ∀ (y1 : Int32) (y2 : Int32) (y3 : Int32)  (w : Wd), BW Z 5 22 [(0, .ref (ph (zY Z) 0)), (1, .int y1), (2, .int y2), (3, .int y3)] [] w (k22 y1 y2 y3 w)) (y1 : Int32) (y2 : Int32) (y3 : Int32)  (w : Wd) : BW Z 5 22 [(0, .ref (ph (zY Z) 0)), (1, .int y1), (2, .int y2), (3, .int y3)] [] w (X12_lack_b22 k22 y1 y2 y3 w) :=
  bw_iload_n hZ 3 rfl dX12_lack_22 <|
  bw_aload_n hZ 0 rfl dX12_lack_23 <|
  bw_getI hZ fl_RX12_415 (by decide) obM_0 dX12_lack_24 <|
  bw_icmp_ge hZ (tgt := 45) (by decide) dX12_lack_27 (fun _ =>
  bw_iconst hZ 0 (by decide) dX12_lack_45 <|
  bw_istore_n hZ rfl (by decide) rfl dX12_lack_46 <|
  bw_iconst hZ 0 (by decide) dX12_lack_47 <|
  bw_istore hZ (by decide) rfl dX12_lack_48 <|
  bw_sub [2, 3, 4, 1, 0] rfl (t_X12_lack_b50_L hZ hE y1 y2 0 0 w)) (fun _ =>
  bw_iload_n hZ 2 rfl dX12_lack_30 <|
  bw_aload_n hZ 0 rfl dX12_lack_31 <|
  bw_getR hZ fl_RX12_252 obM_0 rfl dX12_lack_32 <|
  bw_iload_n hZ 3 rfl dX12_lack_35 <|
  bw_iald hZ (arM_5 _) dX12_lack_36 <|
  bw_iadd hZ dX12_lack_37 <|
  bw_nm fun v10 =>
  bw_istore_n hZ rfl (by decide) rfl dX12_lack_38 <|
  bw_iinc hZ 1 3 rfl (by decide) (by decide) rfl dX12_lack_39 <|
  bw_goto hZ (tgt := 22) (by decide) dX12_lack_42 <|
  bw_sub [2, 3, 1, 0] rfl (hk22 y1 v10 (y3 + 1) w))
def X12_lack_b22_L  : Int32 → Int32 → Int32 → Wd → Option (Int32 × Wd) :=
  lp fu (fun _ _ _ _ => none) (fun k22 => X12_lack_b22 k22)
theorem t_X12_lack_b22_L {Z : Cz (Int32 × Wd)} (hZ : OKZ Z SM cX12_lack RX12 5 (some .int) 27) (hE : EndI Z)  : ∀ (y1 : Int32) (y2 : Int32) (y3 : Int32)  (w : Wd), BW Z 5 22 [(0, .ref (ph (zY Z) 0)), (1, .int y1), (2, .int y2), (3, .int y3)] [] w (X12_lack_b22_L y1 y2 y3 w) :=
  lp_bw (fun k22 => ∀ (y1 : Int32) (y2 : Int32) (y3 : Int32)  (w : Wd), BW Z 5 22 [(0, .ref (ph (zY Z) 0)), (1, .int y1), (2, .int y2), (3, .int y3)] [] w (k22 y1 y2 y3 w)) (fun _ _ _ _ => bw_none) (fun k22 hk22 y1 y2 y3 w => t_X12_lack_b22 hZ hE k22 hk22 y1 y2 y3 w) fu
def f_X12_lack (x1 : Int32) (w : Wd) : Option (Int32 × Wd) :=
  cl (f_X12_isWay x1 w) fun r2 w1 =>
  if r2 = 0 then
  (some ((-2), w1))
  else
  cv (f_X12_reckon w1) fun w3 =>
  cl (f_X12_moneyThere w3) fun r5 w4 =>
  X12_lack_b22_L x1 r5 0 w4
set_option maxRecDepth 100000 in
set_option maxHeartbeats 4000000 in
theorem t_X12_lack {Z : Cz (Int32 × Wd)} (hZ : OKZ Z SM cX12_lack RX12 5 (some .int) 27) (hE : EndI Z) (x1 : Int32)  (w : Wd) : BW Z 5 0 [(0, .ref (ph (zY Z) 0)), (1, .int x1)] [] w (f_X12_lack x1 w) :=
  bw_aload_n hZ 0 rfl dX12_lack_0 <|
  bw_iload_n hZ 1 rfl dX12_lack_1 <|
  bw_callVI (As := [.int x1]) hZ ml_RX12_625 rc_12 obM_0 (by decide) (c_X12_isWay (zl Z) (zY Z) (hZ_S hZ) x1 w) rfl rfl (Nat.le_of_ble_eq_true rfl) dX12_lack_2 fun r2 w1 =>
  bw_if_ne hZ (tgt := 11) (by decide) dX12_lack_5 (fun _ =>
  bw_aload_n hZ 0 rfl dX12_lack_11 <|
  bw_callVV (As := []) hZ ml_RX12_700 rc_12 obM_0 (by decide) (c_X12_reckon (zl Z) (zY Z) (hZ_S hZ) w1) rfl rfl (Nat.le_of_ble_eq_true rfl) dX12_lack_12 fun w3 =>
  bw_aload_n hZ 0 rfl dX12_lack_15 <|
  bw_callVI (As := []) hZ ml_RX12_670 rc_12 obM_0 (by decide) (c_X12_moneyThere (zl Z) (zY Z) (hZ_S hZ) w3) rfl rfl (Nat.le_of_ble_eq_true rfl) dX12_lack_16 fun r5 w4 =>
  bw_istore_n hZ rfl (by decide) rfl dX12_lack_19 <|
  bw_iconst hZ 0 (by decide) dX12_lack_20 <|
  bw_istore_n hZ rfl (by decide) rfl dX12_lack_21 <|
  bw_sub [2, 3, 1, 0] rfl (t_X12_lack_b22_L hZ hE x1 r5 0 w4)) (fun _ =>
  bw_bipush hZ (-2) (by decide) dX12_lack_8 <|
  bw_iret hZ hE dX12_lack_10)
theorem c_X12_lack (l : Launch) (Y : Ev) (hY : Y.1 = SM) (x1 : Int32)  (w : Wd) : CI l Y yX12_lack cX12_lack 5 27 [.ref (ph Y 0), .int x1] w .int (f_X12_lack x1 w) := by
  refine CI_of (S := SM) (by decide) (Nat.le_of_ble_eq_true rfl) hY ?_
  intro Z hl hY2 hZ hE
  subst hY2
  exact t_X12_lack hZ hE x1 w
-- WhichWillModel.sure
theorem dX12_sure_0 : decode cX12_sure 0 = .ok (.aload_n 0, 1) := by decide +kernel
theorem dX12_sure_1 : decode cX12_sure 1 = .ok (.iload_n 1, 1) := by decide +kernel
theorem dX12_sure_2 : decode cX12_sure 2 = .ok (.invokevirtual 682, 3) := by decide +kernel
theorem dX12_sure_5 : decode cX12_sure 5 = .ok (.ifCond .ne 6, 3) := by decide +kernel
theorem dX12_sure_8 : decode cX12_sure 8 = .ok (.bipush (-2), 2) := by decide +kernel
theorem dX12_sure_10 : decode cX12_sure 10 = .ok (.ireturn, 1) := by decide +kernel
theorem dX12_sure_11 : decode cX12_sure 11 = .ok (.aload_n 0, 1) := by decide +kernel
theorem dX12_sure_12 : decode cX12_sure 12 = .ok (.invokevirtual 700, 3) := by decide +kernel
theorem dX12_sure_15 : decode cX12_sure 15 = .ok (.iconst (-1), 1) := by decide +kernel
theorem dX12_sure_16 : decode cX12_sure 16 = .ok (.istore_n 3, 1) := by decide +kernel
theorem dX12_sure_17 : decode cX12_sure 17 = .ok (.iconst 0, 1) := by decide +kernel
theorem dX12_sure_18 : decode cX12_sure 18 = .ok (.istore 4, 2) := by decide +kernel
theorem dX12_sure_20 : decode cX12_sure 20 = .ok (.iload 4, 2) := by decide +kernel
theorem dX12_sure_22 : decode cX12_sure 22 = .ok (.aload_n 0, 1) := by decide +kernel
theorem dX12_sure_23 : decode cX12_sure 23 = .ok (.invokevirtual 622, 3) := by decide +kernel
theorem dX12_sure_26 : decode cX12_sure 26 = .ok (.if_icmp .ge 50, 3) := by decide +kernel
theorem dX12_sure_29 : decode cX12_sure 29 = .ok (.aload_n 0, 1) := by decide +kernel
theorem dX12_sure_30 : decode cX12_sure 30 = .ok (.getfield 366, 3) := by decide +kernel
theorem dX12_sure_33 : decode cX12_sure 33 = .ok (.bipush 8, 2) := by decide +kernel
theorem dX12_sure_35 : decode cX12_sure 35 = .ok (.iload 4, 2) := by decide +kernel
theorem dX12_sure_37 : decode cX12_sure 37 = .ok (.imul, 1) := by decide +kernel
theorem dX12_sure_38 : decode cX12_sure 38 = .ok (.iload_n 1, 1) := by decide +kernel
theorem dX12_sure_39 : decode cX12_sure 39 = .ok (.iadd, 1) := by decide +kernel
theorem dX12_sure_40 : decode cX12_sure 40 = .ok (.iaload, 1) := by decide +kernel
theorem dX12_sure_41 : decode cX12_sure 41 = .ok (.istore 5, 2) := by decide +kernel
theorem dX12_sure_43 : decode cX12_sure 43 = .ok (.iload_n 3, 1) := by decide +kernel
theorem dX12_sure_44 : decode cX12_sure 44 = .ok (.iconst (-1), 1) := by decide +kernel
theorem dX12_sure_45 : decode cX12_sure 45 = .ok (.if_icmp .eq 22, 3) := by decide +kernel
theorem dX12_sure_48 : decode cX12_sure 48 = .ok (.iload_n 2, 1) := by decide +kernel
theorem dX12_sure_49 : decode cX12_sure 49 = .ok (.ifCond .eq 12, 3) := by decide +kernel
theorem dX12_sure_52 : decode cX12_sure 52 = .ok (.iload 5, 2) := by decide +kernel
theorem dX12_sure_54 : decode cX12_sure 54 = .ok (.iload_n 3, 1) := by decide +kernel
theorem dX12_sure_55 : decode cX12_sure 55 = .ok (.if_icmp .le 15, 3) := by decide +kernel
theorem dX12_sure_58 : decode cX12_sure 58 = .ok (.goto 9, 3) := by decide +kernel
theorem dX12_sure_61 : decode cX12_sure 61 = .ok (.iload 5, 2) := by decide +kernel
theorem dX12_sure_63 : decode cX12_sure 63 = .ok (.iload_n 3, 1) := by decide +kernel
theorem dX12_sure_64 : decode cX12_sure 64 = .ok (.if_icmp .ge 6, 3) := by decide +kernel
theorem dX12_sure_67 : decode cX12_sure 67 = .ok (.iload 5, 2) := by decide +kernel
theorem dX12_sure_69 : decode cX12_sure 69 = .ok (.istore_n 3, 1) := by decide +kernel
theorem dX12_sure_70 : decode cX12_sure 70 = .ok (.iinc 4 1, 3) := by decide +kernel
theorem dX12_sure_73 : decode cX12_sure 73 = .ok (.goto (-53), 3) := by decide +kernel
theorem dX12_sure_76 : decode cX12_sure 76 = .ok (.iload_n 3, 1) := by decide +kernel
theorem dX12_sure_77 : decode cX12_sure 77 = .ok (.ireturn, 1) := by decide +kernel
def X12_sure_b20 (k20 : Int32 → Int32 → Int32 → Int32 → Wd → Option (Int32 × Wd)) (y1 : Int32) (y2 : Int32) (y3 : Int32) (y4 : Int32) (w : Wd) : Option (Int32 × Wd) :=
  cl (f_X12_allWays w) fun r5 w4 =>
  if r5 ≤ y4 then
  (some (y3, w4))
  else
  if inb ((8 * y4) + y1) 46080 = true then
  (lt (w4.1 51 (Int32.toNatClampNeg ((8 * y4) + y1))) fun v6 =>
  if y3 = ((-1)) then
  (k20 y1 y2 v6 (y4 + 1) w4)
  else
  if y2 = 0 then
  (if y3 ≤ v6 then
  (k20 y1 y2 y3 (y4 + 1) w4)
  else
  k20 y1 y2 v6 (y4 + 1) w4)
  else
  if v6 ≤ y3 then
  (k20 y1 y2 y3 (y4 + 1) w4)
  else
  k20 y1 y2 v6 (y4 + 1) w4)
  else none
set_option maxRecDepth 100000 in
set_option maxHeartbeats 4000000 in
theorem t_X12_sure_b20 {Z : Cz (Int32 × Wd)} (hZ : OKZ Z SM cX12_sure RX12 6 (some .int) 27) (hE : EndI Z) (k20 : Int32 → Int32 → Int32 → Int32 → Wd → Option (Int32 × Wd)) (hk20 : ∀ (y1 : Int32) (y2 : Int32) (y3 : Int32) (y4 : Int32)  (w : Wd), BW Z 6 20 [(0, .ref (ph (zY Z) 0)), (1, .int y1), (2, .int y2), (3, .int y3), (4, .int y4)] [] w (k20 y1 y2 y3 y4 w)) (y1 : Int32) (y2 : Int32) (y3 : Int32) (y4 : Int32)  (w : Wd) : BW Z 6 20 [(0, .ref (ph (zY Z) 0)), (1, .int y1), (2, .int y2), (3, .int y3), (4, .int y4)] [] w (X12_sure_b20 k20 y1 y2 y3 y4 w) :=
  bw_iload hZ 4 rfl dX12_sure_20 <|
  bw_aload_n hZ 0 rfl dX12_sure_22 <|
  bw_callVI (As := []) hZ ml_RX12_622 rc_12 obM_0 (by decide) (c_X12_allWays (zl Z) (zY Z) (hZ_S hZ) w) rfl rfl (Nat.le_of_ble_eq_true rfl) dX12_sure_23 fun r5 w4 =>
  bw_icmp_ge hZ (tgt := 76) (by decide) dX12_sure_26 (fun _ =>
  bw_iload_n hZ 3 rfl dX12_sure_76 <|
  bw_iret hZ hE dX12_sure_77) (fun _ =>
  bw_aload_n hZ 0 rfl dX12_sure_29 <|
  bw_getR hZ fl_RX12_366 obM_0 rfl dX12_sure_30 <|
  bw_bipush hZ 8 (by decide) dX12_sure_33 <|
  bw_iload hZ 4 rfl dX12_sure_35 <|
  bw_imul hZ dX12_sure_37 <|
  bw_iload_n hZ 1 rfl dX12_sure_38 <|
  bw_iadd hZ dX12_sure_39 <|
  bw_iald hZ (arM_51 _) dX12_sure_40 <|
  bw_nm fun v6 =>
  bw_istore hZ (by decide) rfl dX12_sure_41 <|
  bw_iload_n hZ 4 rfl dX12_sure_43 <|
  bw_iconst hZ (-1) (by decide) dX12_sure_44 <|
  bw_icmp_eq hZ (tgt := 67) (by decide) dX12_sure_45 (fun _ =>
  bw_iload hZ 0 rfl dX12_sure_67 <|
  bw_istore_n hZ rfl (by decide) rfl dX12_sure_69 <|
  bw_iinc hZ 1 5 rfl (by decide) (by decide) rfl dX12_sure_70 <|
  bw_goto hZ (tgt := 20) (by decide) dX12_sure_73 <|
  bw_sub [3, 4, 5, 1, 0] rfl (hk20 y1 y2 v6 (y4 + 1) w4)) (fun _ =>
  bw_iload_n hZ 3 rfl dX12_sure_48 <|
  bw_if_eq hZ (tgt := 61) (by decide) dX12_sure_49 (fun _ =>
  bw_iload hZ 0 rfl dX12_sure_61 <|
  bw_iload_n hZ 4 rfl dX12_sure_63 <|
  bw_icmp_ge hZ (tgt := 70) (by decide) dX12_sure_64 (fun _ =>
  bw_iinc hZ 1 5 rfl (by decide) (by decide) rfl dX12_sure_70 <|
  bw_goto hZ (tgt := 20) (by decide) dX12_sure_73 <|
  bw_sub [2, 3, 4, 5, 0] rfl (hk20 y1 y2 y3 (y4 + 1) w4)) (fun _ =>
  bw_iload hZ 0 rfl dX12_sure_67 <|
  bw_istore_n hZ rfl (by decide) rfl dX12_sure_69 <|
  bw_iinc hZ 1 5 rfl (by decide) (by decide) rfl dX12_sure_70 <|
  bw_goto hZ (tgt := 20) (by decide) dX12_sure_73 <|
  bw_sub [3, 4, 5, 1, 0] rfl (hk20 y1 y2 v6 (y4 + 1) w4))) (fun _ =>
  bw_iload hZ 0 rfl dX12_sure_52 <|
  bw_iload_n hZ 4 rfl dX12_sure_54 <|
  bw_icmp_le hZ (tgt := 70) (by decide) dX12_sure_55 (fun _ =>
  bw_iinc hZ 1 5 rfl (by decide) (by decide) rfl dX12_sure_70 <|
  bw_goto hZ (tgt := 20) (by decide) dX12_sure_73 <|
  bw_sub [2, 3, 4, 5, 0] rfl (hk20 y1 y2 y3 (y4 + 1) w4)) (fun _ =>
  bw_goto hZ (tgt := 67) (by decide) dX12_sure_58 <|
  bw_iload hZ 0 rfl dX12_sure_67 <|
  bw_istore_n hZ rfl (by decide) rfl dX12_sure_69 <|
  bw_iinc hZ 1 5 rfl (by decide) (by decide) rfl dX12_sure_70 <|
  bw_goto hZ (tgt := 20) (by decide) dX12_sure_73 <|
  bw_sub [3, 4, 5, 1, 0] rfl (hk20 y1 y2 v6 (y4 + 1) w4)))))
def X12_sure_b20_L  : Int32 → Int32 → Int32 → Int32 → Wd → Option (Int32 × Wd) :=
  lp fu (fun _ _ _ _ _ => none) (fun k20 => X12_sure_b20 k20)
theorem t_X12_sure_b20_L {Z : Cz (Int32 × Wd)} (hZ : OKZ Z SM cX12_sure RX12 6 (some .int) 27) (hE : EndI Z)  : ∀ (y1 : Int32) (y2 : Int32) (y3 : Int32) (y4 : Int32)  (w : Wd), BW Z 6 20 [(0, .ref (ph (zY Z) 0)), (1, .int y1), (2, .int y2), (3, .int y3), (4, .int y4)] [] w (X12_sure_b20_L y1 y2 y3 y4 w) :=
  lp_bw (fun k20 => ∀ (y1 : Int32) (y2 : Int32) (y3 : Int32) (y4 : Int32)  (w : Wd), BW Z 6 20 [(0, .ref (ph (zY Z) 0)), (1, .int y1), (2, .int y2), (3, .int y3), (4, .int y4)] [] w (k20 y1 y2 y3 y4 w)) (fun _ _ _ _ _ => bw_none) (fun k20 hk20 y1 y2 y3 y4 w => t_X12_sure_b20 hZ hE k20 hk20 y1 y2 y3 y4 w) fu
def f_X12_sure (x1 : Int32) (x2 : Int32) (w : Wd) : Option (Int32 × Wd) :=
  cl (f_X12_isPerson x1 w) fun r2 w1 =>
  if r2 = 0 then
  (some ((-2), w1))
  else
  cv (f_X12_reckon w1) fun w3 =>
  X12_sure_b20_L x1 x2 ((-1)) 0 w3
set_option maxRecDepth 100000 in
set_option maxHeartbeats 4000000 in
theorem t_X12_sure {Z : Cz (Int32 × Wd)} (hZ : OKZ Z SM cX12_sure RX12 6 (some .int) 27) (hE : EndI Z) (x1 : Int32) (x2 : Int32)  (w : Wd) : BW Z 6 0 [(0, .ref (ph (zY Z) 0)), (1, .int x1), (2, .int x2)] [] w (f_X12_sure x1 x2 w) :=
  bw_aload_n hZ 0 rfl dX12_sure_0 <|
  bw_iload_n hZ 1 rfl dX12_sure_1 <|
  bw_callVI (As := [.int x1]) hZ ml_RX12_682 rc_12 obM_0 (by decide) (c_X12_isPerson (zl Z) (zY Z) (hZ_S hZ) x1 w) rfl rfl (Nat.le_of_ble_eq_true rfl) dX12_sure_2 fun r2 w1 =>
  bw_if_ne hZ (tgt := 11) (by decide) dX12_sure_5 (fun _ =>
  bw_aload_n hZ 0 rfl dX12_sure_11 <|
  bw_callVV (As := []) hZ ml_RX12_700 rc_12 obM_0 (by decide) (c_X12_reckon (zl Z) (zY Z) (hZ_S hZ) w1) rfl rfl (Nat.le_of_ble_eq_true rfl) dX12_sure_12 fun w3 =>
  bw_iconst hZ (-1) (by decide) dX12_sure_15 <|
  bw_istore_n hZ rfl (by decide) rfl dX12_sure_16 <|
  bw_iconst hZ 0 (by decide) dX12_sure_17 <|
  bw_istore hZ (by decide) rfl dX12_sure_18 <|
  bw_sub [2, 3, 4, 1, 0] rfl (t_X12_sure_b20_L hZ hE x1 x2 ((-1)) 0 w3)) (fun _ =>
  bw_bipush hZ (-2) (by decide) dX12_sure_8 <|
  bw_iret hZ hE dX12_sure_10)
theorem c_X12_sure (l : Launch) (Y : Ev) (hY : Y.1 = SM) (x1 : Int32) (x2 : Int32)  (w : Wd) : CI l Y yX12_sure cX12_sure 6 27 [.ref (ph Y 0), .int x1, .int x2] w .int (f_X12_sure x1 x2 w) := by
  refine CI_of (S := SM) (by decide) (Nat.le_of_ble_eq_true rfl) hY ?_
  intro Z hl hY2 hZ hE
  subst hY2
  exact t_X12_sure hZ hE x1 x2 w
-- WhichWillModel.surely
theorem dX12_surely_0 : decode cX12_surely 0 = .ok (.aload_n 0, 1) := by decide +kernel
theorem dX12_surely_1 : decode cX12_surely 1 = .ok (.iload_n 1, 1) := by decide +kernel
theorem dX12_surely_2 : decode cX12_surely 2 = .ok (.invokevirtual 583, 3) := by decide +kernel
theorem dX12_surely_5 : decode cX12_surely 5 = .ok (.ifCond .ne 6, 3) := by decide +kernel
theorem dX12_surely_8 : decode cX12_surely 8 = .ok (.bipush (-2), 2) := by decide +kernel
theorem dX12_surely_10 : decode cX12_surely 10 = .ok (.ireturn, 1) := by decide +kernel
theorem dX12_surely_11 : decode cX12_surely 11 = .ok (.iconst (-1), 1) := by decide +kernel
theorem dX12_surely_12 : decode cX12_surely 12 = .ok (.istore_n 2, 1) := by decide +kernel
theorem dX12_surely_13 : decode cX12_surely 13 = .ok (.iconst 0, 1) := by decide +kernel
theorem dX12_surely_14 : decode cX12_surely 14 = .ok (.istore_n 3, 1) := by decide +kernel
theorem dX12_surely_15 : decode cX12_surely 15 = .ok (.iload_n 3, 1) := by decide +kernel
theorem dX12_surely_16 : decode cX12_surely 16 = .ok (.aload_n 0, 1) := by decide +kernel
theorem dX12_surely_17 : decode cX12_surely 17 = .ok (.invokevirtual 622, 3) := by decide +kernel
theorem dX12_surely_20 : decode cX12_surely 20 = .ok (.if_icmp .ge 39, 3) := by decide +kernel
theorem dX12_surely_23 : decode cX12_surely 23 = .ok (.aload_n 0, 1) := by decide +kernel
theorem dX12_surely_24 : decode cX12_surely 24 = .ok (.iload_n 3, 1) := by decide +kernel
theorem dX12_surely_25 : decode cX12_surely 25 = .ok (.invokevirtual 673, 3) := by decide +kernel
theorem dX12_surely_28 : decode cX12_surely 28 = .ok (.aload_n 0, 1) := by decide +kernel
theorem dX12_surely_29 : decode cX12_surely 29 = .ok (.iload_n 1, 1) := by decide +kernel
theorem dX12_surely_30 : decode cX12_surely 30 = .ok (.invokevirtual 676, 3) := by decide +kernel
theorem dX12_surely_33 : decode cX12_surely 33 = .ok (.pop, 1) := by decide +kernel
theorem dX12_surely_34 : decode cX12_surely 34 = .ok (.iload_n 3, 1) := by decide +kernel
theorem dX12_surely_35 : decode cX12_surely 35 = .ok (.ifCond .le 13, 3) := by decide +kernel
theorem dX12_surely_38 : decode cX12_surely 38 = .ok (.aload_n 0, 1) := by decide +kernel
theorem dX12_surely_39 : decode cX12_surely 39 = .ok (.invokevirtual 679, 3) := by decide +kernel
theorem dX12_surely_42 : decode cX12_surely 42 = .ok (.iload_n 2, 1) := by decide +kernel
theorem dX12_surely_43 : decode cX12_surely 43 = .ok (.if_icmp .eq 5, 3) := by decide +kernel
theorem dX12_surely_46 : decode cX12_surely 46 = .ok (.iconst (-1), 1) := by decide +kernel
theorem dX12_surely_47 : decode cX12_surely 47 = .ok (.ireturn, 1) := by decide +kernel
theorem dX12_surely_48 : decode cX12_surely 48 = .ok (.aload_n 0, 1) := by decide +kernel
theorem dX12_surely_49 : decode cX12_surely 49 = .ok (.invokevirtual 679, 3) := by decide +kernel
theorem dX12_surely_52 : decode cX12_surely 52 = .ok (.istore_n 2, 1) := by decide +kernel
theorem dX12_surely_53 : decode cX12_surely 53 = .ok (.iinc 3 1, 3) := by decide +kernel
theorem dX12_surely_56 : decode cX12_surely 56 = .ok (.goto (-41), 3) := by decide +kernel
theorem dX12_surely_59 : decode cX12_surely 59 = .ok (.iload_n 2, 1) := by decide +kernel
theorem dX12_surely_60 : decode cX12_surely 60 = .ok (.ireturn, 1) := by decide +kernel
def X12_surely_b48 (k15 : Int32 → Int32 → Int32 → Wd → Option (Int32 × Wd)) (y1 : Int32) (y3 : Int32) (w : Wd) : Option (Int32 × Wd) :=
  cl (f_X12_whoGets w) fun r9 w8 =>
  k15 y1 r9 (y3 + 1) w8
set_option maxRecDepth 100000 in
set_option maxHeartbeats 4000000 in
theorem t_X12_surely_b48 {Z : Cz (Int32 × Wd)} (hZ : OKZ Z SM cX12_surely RX12 4 (some .int) 25) (hE : EndI Z) (k15 : Int32 → Int32 → Int32 → Wd → Option (Int32 × Wd)) (hk15 : ∀ (y1 : Int32) (y2 : Int32) (y3 : Int32)  (w : Wd), BW Z 4 15 [(0, .ref (ph (zY Z) 0)), (1, .int y1), (2, .int y2), (3, .int y3)] [] w (k15 y1 y2 y3 w)) (y1 : Int32) (y3 : Int32)  (w : Wd) : BW Z 4 48 [(0, .ref (ph (zY Z) 0)), (1, .int y1), (3, .int y3)] [] w (X12_surely_b48 k15 y1 y3 w) :=
  bw_aload_n hZ 0 rfl dX12_surely_48 <|
  bw_callVI (As := []) hZ ml_RX12_679 rc_12 obM_0 (by decide) (c_X12_whoGets (zl Z) (zY Z) (hZ_S hZ) w) rfl rfl (Nat.le_of_ble_eq_true rfl) dX12_surely_49 fun r9 w8 =>
  bw_istore_n hZ rfl (by decide) rfl dX12_surely_52 <|
  bw_iinc hZ 1 3 rfl (by decide) (by decide) rfl dX12_surely_53 <|
  bw_goto hZ (tgt := 15) (by decide) dX12_surely_56 <|
  bw_sub [2, 3, 1, 0] rfl (hk15 y1 r9 (y3 + 1) w8)
def X12_surely_b15 (k15 : Int32 → Int32 → Int32 → Wd → Option (Int32 × Wd)) (y1 : Int32) (y2 : Int32) (y3 : Int32) (w : Wd) : Option (Int32 × Wd) :=
  cl (f_X12_allWays w) fun r4 w3 =>
  if r4 ≤ y3 then
  (some (y2, w3))
  else
  cv (f_X12_goWay y3 w3) fun w5 =>
  cl (f_X12_goThing y1 w5) fun r7 w6 =>
  if y3 ≤ 0 then
  (X12_surely_b48 k15 y1 y3 w6)
  else
  cl (f_X12_whoGets w6) fun r11 w10 =>
  if r11 = y2 then
  (X12_surely_b48 k15 y1 y3 w10)
  else
  some ((-1), w10)
set_option maxRecDepth 100000 in
set_option maxHeartbeats 4000000 in
theorem t_X12_surely_b15 {Z : Cz (Int32 × Wd)} (hZ : OKZ Z SM cX12_surely RX12 4 (some .int) 25) (hE : EndI Z) (k15 : Int32 → Int32 → Int32 → Wd → Option (Int32 × Wd)) (hk15 : ∀ (y1 : Int32) (y2 : Int32) (y3 : Int32)  (w : Wd), BW Z 4 15 [(0, .ref (ph (zY Z) 0)), (1, .int y1), (2, .int y2), (3, .int y3)] [] w (k15 y1 y2 y3 w)) (y1 : Int32) (y2 : Int32) (y3 : Int32)  (w : Wd) : BW Z 4 15 [(0, .ref (ph (zY Z) 0)), (1, .int y1), (2, .int y2), (3, .int y3)] [] w (X12_surely_b15 k15 y1 y2 y3 w) :=
  bw_iload_n hZ 3 rfl dX12_surely_15 <|
  bw_aload_n hZ 0 rfl dX12_surely_16 <|
  bw_callVI (As := []) hZ ml_RX12_622 rc_12 obM_0 (by decide) (c_X12_allWays (zl Z) (zY Z) (hZ_S hZ) w) rfl rfl (Nat.le_of_ble_eq_true rfl) dX12_surely_17 fun r4 w3 =>
  bw_icmp_ge hZ (tgt := 59) (by decide) dX12_surely_20 (fun _ =>
  bw_iload_n hZ 2 rfl dX12_surely_59 <|
  bw_iret hZ hE dX12_surely_60) (fun _ =>
  bw_aload_n hZ 0 rfl dX12_surely_23 <|
  bw_iload_n hZ 3 rfl dX12_surely_24 <|
  bw_callVV (As := [.int y3]) hZ ml_RX12_673 rc_12 obM_0 (by decide) (c_X12_goWay (zl Z) (zY Z) (hZ_S hZ) y3 w3) rfl rfl (Nat.le_of_ble_eq_true rfl) dX12_surely_25 fun w5 =>
  bw_aload_n hZ 0 rfl dX12_surely_28 <|
  bw_iload_n hZ 1 rfl dX12_surely_29 <|
  bw_callVI (As := [.int y1]) hZ ml_RX12_676 rc_12 obM_0 (by decide) (c_X12_goThing (zl Z) (zY Z) (hZ_S hZ) y1 w5) rfl rfl (Nat.le_of_ble_eq_true rfl) dX12_surely_30 fun r7 w6 =>
  bw_pop hZ rfl dX12_surely_33 <|
  bw_iload_n hZ 3 rfl dX12_surely_34 <|
  bw_if_le hZ (tgt := 48) (by decide) dX12_surely_35 (fun _ =>
  bw_sub [0, 1, 3] rfl (t_X12_surely_b48 hZ hE k15 hk15 y1 y3 w6)) (fun _ =>
  bw_aload_n hZ 0 rfl dX12_surely_38 <|
  bw_callVI (As := []) hZ ml_RX12_679 rc_12 obM_0 (by decide) (c_X12_whoGets (zl Z) (zY Z) (hZ_S hZ) w6) rfl rfl (Nat.le_of_ble_eq_true rfl) dX12_surely_39 fun r11 w10 =>
  bw_iload_n hZ 2 rfl dX12_surely_42 <|
  bw_icmp_eq hZ (tgt := 48) (by decide) dX12_surely_43 (fun _ =>
  bw_sub [0, 1, 3] rfl (t_X12_surely_b48 hZ hE k15 hk15 y1 y3 w10)) (fun _ =>
  bw_iconst hZ (-1) (by decide) dX12_surely_46 <|
  bw_iret hZ hE dX12_surely_47)))
def X12_surely_b15_L  : Int32 → Int32 → Int32 → Wd → Option (Int32 × Wd) :=
  lp fu (fun _ _ _ _ => none) (fun k15 => X12_surely_b15 k15)
theorem t_X12_surely_b15_L {Z : Cz (Int32 × Wd)} (hZ : OKZ Z SM cX12_surely RX12 4 (some .int) 25) (hE : EndI Z)  : ∀ (y1 : Int32) (y2 : Int32) (y3 : Int32)  (w : Wd), BW Z 4 15 [(0, .ref (ph (zY Z) 0)), (1, .int y1), (2, .int y2), (3, .int y3)] [] w (X12_surely_b15_L y1 y2 y3 w) :=
  lp_bw (fun k15 => ∀ (y1 : Int32) (y2 : Int32) (y3 : Int32)  (w : Wd), BW Z 4 15 [(0, .ref (ph (zY Z) 0)), (1, .int y1), (2, .int y2), (3, .int y3)] [] w (k15 y1 y2 y3 w)) (fun _ _ _ _ => bw_none) (fun k15 hk15 y1 y2 y3 w => t_X12_surely_b15 hZ hE k15 hk15 y1 y2 y3 w) fu
def f_X12_surely (x1 : Int32) (w : Wd) : Option (Int32 × Wd) :=
  cl (f_X12_isThing x1 w) fun r2 w1 =>
  if r2 = 0 then
  (some ((-2), w1))
  else
  X12_surely_b15_L x1 ((-1)) 0 w1
set_option maxRecDepth 100000 in
set_option maxHeartbeats 4000000 in
theorem t_X12_surely {Z : Cz (Int32 × Wd)} (hZ : OKZ Z SM cX12_surely RX12 4 (some .int) 25) (hE : EndI Z) (x1 : Int32)  (w : Wd) : BW Z 4 0 [(0, .ref (ph (zY Z) 0)), (1, .int x1)] [] w (f_X12_surely x1 w) :=
  bw_aload_n hZ 0 rfl dX12_surely_0 <|
  bw_iload_n hZ 1 rfl dX12_surely_1 <|
  bw_callVI (As := [.int x1]) hZ ml_RX12_583 rc_12 obM_0 (by decide) (c_X12_isThing (zl Z) (zY Z) (hZ_S hZ) x1 w) rfl rfl (Nat.le_of_ble_eq_true rfl) dX12_surely_2 fun r2 w1 =>
  bw_if_ne hZ (tgt := 11) (by decide) dX12_surely_5 (fun _ =>
  bw_iconst hZ (-1) (by decide) dX12_surely_11 <|
  bw_istore_n hZ rfl (by decide) rfl dX12_surely_12 <|
  bw_iconst hZ 0 (by decide) dX12_surely_13 <|
  bw_istore_n hZ rfl (by decide) rfl dX12_surely_14 <|
  bw_sub [2, 3, 1, 0] rfl (t_X12_surely_b15_L hZ hE x1 ((-1)) 0 w1)) (fun _ =>
  bw_bipush hZ (-2) (by decide) dX12_surely_8 <|
  bw_iret hZ hE dX12_surely_10)
theorem c_X12_surely (l : Launch) (Y : Ev) (hY : Y.1 = SM) (x1 : Int32)  (w : Wd) : CI l Y yX12_surely cX12_surely 4 25 [.ref (ph Y 0), .int x1] w .int (f_X12_surely x1 w) := by
  refine CI_of (S := SM) (by decide) (Nat.le_of_ble_eq_true rfl) hY ?_
  intro Z hl hY2 hZ hE
  subst hY2
  exact t_X12_surely hZ hE x1 w
-- WhichWillModel.hangs
theorem dX12_hangs_0 : decode cX12_hangs 0 = .ok (.iload_n 1, 1) := by decide +kernel
theorem dX12_hangs_1 : decode cX12_hangs 1 = .ok (.i2l, 1) := by decide +kernel
theorem dX12_hangs_2 : decode cX12_hangs 2 = .ok (.lconst 0, 1) := by decide +kernel
theorem dX12_hangs_3 : decode cX12_hangs 3 = .ok (.ldc2_w 539, 3) := by decide +kernel
theorem dX12_hangs_6 : decode cX12_hangs 6 = .ok (.invokestatic 60, 3) := by decide +kernel
theorem dX12_hangs_9 : decode cX12_hangs 9 = .ok (.ifCond .ne 6, 3) := by decide +kernel
theorem dX12_hangs_12 : decode cX12_hangs 12 = .ok (.bipush (-2), 2) := by decide +kernel
theorem dX12_hangs_14 : decode cX12_hangs 14 = .ok (.ireturn, 1) := by decide +kernel
theorem dX12_hangs_15 : decode cX12_hangs 15 = .ok (.aload_n 0, 1) := by decide +kernel
theorem dX12_hangs_16 : decode cX12_hangs 16 = .ok (.invokevirtual 622, 3) := by decide +kernel
theorem dX12_hangs_19 : decode cX12_hangs 19 = .ok (.ifCond .ne 5, 3) := by decide +kernel
theorem dX12_hangs_22 : decode cX12_hangs 22 = .ok (.iconst (-1), 1) := by decide +kernel
theorem dX12_hangs_23 : decode cX12_hangs 23 = .ok (.ireturn, 1) := by decide +kernel
theorem dX12_hangs_24 : decode cX12_hangs 24 = .ok (.aload_n 0, 1) := by decide +kernel
theorem dX12_hangs_25 : decode cX12_hangs 25 = .ok (.invokevirtual 700, 3) := by decide +kernel
theorem dX12_hangs_28 : decode cX12_hangs 28 = .ok (.iconst 0, 1) := by decide +kernel
theorem dX12_hangs_29 : decode cX12_hangs 29 = .ok (.istore_n 2, 1) := by decide +kernel
theorem dX12_hangs_30 : decode cX12_hangs 30 = .ok (.iload_n 2, 1) := by decide +kernel
theorem dX12_hangs_31 : decode cX12_hangs 31 = .ok (.aload_n 0, 1) := by decide +kernel
theorem dX12_hangs_32 : decode cX12_hangs 32 = .ok (.invokevirtual 622, 3) := by decide +kernel
theorem dX12_hangs_35 : decode cX12_hangs 35 = .ok (.if_icmp .ge 30, 3) := by decide +kernel
theorem dX12_hangs_38 : decode cX12_hangs 38 = .ok (.aload_n 0, 1) := by decide +kernel
theorem dX12_hangs_39 : decode cX12_hangs 39 = .ok (.getfield 369, 3) := by decide +kernel
theorem dX12_hangs_42 : decode cX12_hangs 42 = .ok (.iload_n 2, 1) := by decide +kernel
theorem dX12_hangs_43 : decode cX12_hangs 43 = .ok (.iaload, 1) := by decide +kernel
theorem dX12_hangs_44 : decode cX12_hangs 44 = .ok (.aload_n 0, 1) := by decide +kernel
theorem dX12_hangs_45 : decode cX12_hangs 45 = .ok (.getfield 369, 3) := by decide +kernel
theorem dX12_hangs_48 : decode cX12_hangs 48 = .ok (.iload_n 2, 1) := by decide +kernel
theorem dX12_hangs_49 : decode cX12_hangs 49 = .ok (.iconst 1, 1) := by decide +kernel
theorem dX12_hangs_50 : decode cX12_hangs 50 = .ok (.iload_n 1, 1) := by decide +kernel
theorem dX12_hangs_51 : decode cX12_hangs 51 = .ok (.ishl, 1) := by decide +kernel
theorem dX12_hangs_52 : decode cX12_hangs 52 = .ok (.ixor, 1) := by decide +kernel
theorem dX12_hangs_53 : decode cX12_hangs 53 = .ok (.iaload, 1) := by decide +kernel
theorem dX12_hangs_54 : decode cX12_hangs 54 = .ok (.if_icmp .eq 5, 3) := by decide +kernel
theorem dX12_hangs_57 : decode cX12_hangs 57 = .ok (.iconst 1, 1) := by decide +kernel
theorem dX12_hangs_58 : decode cX12_hangs 58 = .ok (.ireturn, 1) := by decide +kernel
theorem dX12_hangs_59 : decode cX12_hangs 59 = .ok (.iinc 2 1, 3) := by decide +kernel
theorem dX12_hangs_62 : decode cX12_hangs 62 = .ok (.goto (-32), 3) := by decide +kernel
theorem dX12_hangs_65 : decode cX12_hangs 65 = .ok (.iconst 0, 1) := by decide +kernel
theorem dX12_hangs_66 : decode cX12_hangs 66 = .ok (.ireturn, 1) := by decide +kernel
def X12_hangs_b30 (k30 : Int32 → Int32 → Wd → Option (Int32 × Wd)) (y1 : Int32) (y2 : Int32) (w : Wd) : Option (Int32 × Wd) :=
  cl (f_X12_allWays w) fun r7 w6 =>
  if r7 ≤ y2 then
  (some (0, w6))
  else
  if inb y2 5760 = true then
  (if inb (y2 ^^^ (1 <<< (y1 &&& 31))) 5760 = true then
  (if (w6.1 52 (Int32.toNatClampNeg y2)) = (w6.1 52 (Int32.toNatClampNeg (y2 ^^^ (1 <<< (y1 &&& 31))))) then
  (k30 y1 (y2 + 1) w6)
  else
  some (1, w6))
  else none)
  else none
set_option maxRecDepth 100000 in
set_option maxHeartbeats 4000000 in
theorem t_X12_hangs_b30 {Z : Cz (Int32 × Wd)} (hZ : OKZ Z SM cX12_hangs RX12 3 (some .int) 27) (hE : EndI Z) (k30 : Int32 → Int32 → Wd → Option (Int32 × Wd)) (hk30 : ∀ (y1 : Int32) (y2 : Int32)  (w : Wd), BW Z 3 30 [(0, .ref (ph (zY Z) 0)), (1, .int y1), (2, .int y2)] [] w (k30 y1 y2 w)) (y1 : Int32) (y2 : Int32)  (w : Wd) : BW Z 3 30 [(0, .ref (ph (zY Z) 0)), (1, .int y1), (2, .int y2)] [] w (X12_hangs_b30 k30 y1 y2 w) :=
  bw_iload_n hZ 2 rfl dX12_hangs_30 <|
  bw_aload_n hZ 0 rfl dX12_hangs_31 <|
  bw_callVI (As := []) hZ ml_RX12_622 rc_12 obM_0 (by decide) (c_X12_allWays (zl Z) (zY Z) (hZ_S hZ) w) rfl rfl (Nat.le_of_ble_eq_true rfl) dX12_hangs_32 fun r7 w6 =>
  bw_icmp_ge hZ (tgt := 65) (by decide) dX12_hangs_35 (fun _ =>
  bw_iconst hZ 0 (by decide) dX12_hangs_65 <|
  bw_iret hZ hE dX12_hangs_66) (fun _ =>
  bw_aload_n hZ 0 rfl dX12_hangs_38 <|
  bw_getR hZ fl_RX12_369 obM_0 rfl dX12_hangs_39 <|
  bw_iload_n hZ 2 rfl dX12_hangs_42 <|
  bw_iald hZ (arM_52 _) dX12_hangs_43 <|
  bw_aload_n hZ 0 rfl dX12_hangs_44 <|
  bw_getR hZ fl_RX12_369 obM_0 rfl dX12_hangs_45 <|
  bw_iload_n hZ 2 rfl dX12_hangs_48 <|
  bw_iconst hZ 1 (by decide) dX12_hangs_49 <|
  bw_iload_n hZ 1 rfl dX12_hangs_50 <|
  bw_ishl hZ dX12_hangs_51 <|
  bw_ixor hZ dX12_hangs_52 <|
  bw_iald hZ (arM_52 _) dX12_hangs_53 <|
  bw_icmp_eq hZ (tgt := 59) (by decide) dX12_hangs_54 (fun _ =>
  bw_iinc hZ 1 2 rfl (by decide) (by decide) rfl dX12_hangs_59 <|
  bw_goto hZ (tgt := 30) (by decide) dX12_hangs_62 <|
  bw_sub [1, 2, 0] rfl (hk30 y1 (y2 + 1) w6)) (fun _ =>
  bw_iconst hZ 1 (by decide) dX12_hangs_57 <|
  bw_iret hZ hE dX12_hangs_58))
def X12_hangs_b30_L  : Int32 → Int32 → Wd → Option (Int32 × Wd) :=
  lp fu (fun _ _ _ => none) (fun k30 => X12_hangs_b30 k30)
theorem t_X12_hangs_b30_L {Z : Cz (Int32 × Wd)} (hZ : OKZ Z SM cX12_hangs RX12 3 (some .int) 27) (hE : EndI Z)  : ∀ (y1 : Int32) (y2 : Int32)  (w : Wd), BW Z 3 30 [(0, .ref (ph (zY Z) 0)), (1, .int y1), (2, .int y2)] [] w (X12_hangs_b30_L y1 y2 w) :=
  lp_bw (fun k30 => ∀ (y1 : Int32) (y2 : Int32)  (w : Wd), BW Z 3 30 [(0, .ref (ph (zY Z) 0)), (1, .int y1), (2, .int y2)] [] w (k30 y1 y2 w)) (fun _ _ _ => bw_none) (fun k30 hk30 y1 y2 w => t_X12_hangs_b30 hZ hE k30 hk30 y1 y2 w) fu
def f_X12_hangs (x1 : Int32) (w : Wd) : Option (Int32 × Wd) :=
  cl (f_X12_in (Int32.toInt64 x1) 0 2 w) fun r2 w1 =>
  if r2 = 0 then
  (some ((-2), w1))
  else
  cl (f_X12_allWays w1) fun r4 w3 =>
  if r4 = 0 then
  (some ((-1), w3))
  else
  cv (f_X12_reckon w3) fun w5 =>
  X12_hangs_b30_L x1 0 w5
set_option maxRecDepth 100000 in
set_option maxHeartbeats 4000000 in
theorem t_X12_hangs {Z : Cz (Int32 × Wd)} (hZ : OKZ Z SM cX12_hangs RX12 3 (some .int) 27) (hE : EndI Z) (x1 : Int32)  (w : Wd) : BW Z 3 0 [(0, .ref (ph (zY Z) 0)), (1, .int x1)] [] w (f_X12_hangs x1 w) :=
  bw_iload_n hZ 1 rfl dX12_hangs_0 <|
  bw_i2l hZ dX12_hangs_1 <|
  bw_lconst hZ 0 (by decide) dX12_hangs_2 <|
  bw_ldc2 hZ kk_RX12_539 dX12_hangs_3 <|
  bw_callSI (As := [.long (Int32.toInt64 x1), .long 0, .long 2]) hZ ms_RX12_60 (by decide) (c_X12_in (zl Z) (zY Z) (hZ_S hZ) (Int32.toInt64 x1) 0 2 w) rfl rfl (Nat.le_of_ble_eq_true rfl) dX12_hangs_6 fun r2 w1 =>
  bw_if_ne hZ (tgt := 15) (by decide) dX12_hangs_9 (fun _ =>
  bw_aload_n hZ 0 rfl dX12_hangs_15 <|
  bw_callVI (As := []) hZ ml_RX12_622 rc_12 obM_0 (by decide) (c_X12_allWays (zl Z) (zY Z) (hZ_S hZ) w1) rfl rfl (Nat.le_of_ble_eq_true rfl) dX12_hangs_16 fun r4 w3 =>
  bw_if_ne hZ (tgt := 24) (by decide) dX12_hangs_19 (fun _ =>
  bw_aload_n hZ 0 rfl dX12_hangs_24 <|
  bw_callVV (As := []) hZ ml_RX12_700 rc_12 obM_0 (by decide) (c_X12_reckon (zl Z) (zY Z) (hZ_S hZ) w3) rfl rfl (Nat.le_of_ble_eq_true rfl) dX12_hangs_25 fun w5 =>
  bw_iconst hZ 0 (by decide) dX12_hangs_28 <|
  bw_istore_n hZ rfl (by decide) rfl dX12_hangs_29 <|
  bw_sub [1, 2, 0] rfl (t_X12_hangs_b30_L hZ hE x1 0 w5)) (fun _ =>
  bw_iconst hZ (-1) (by decide) dX12_hangs_22 <|
  bw_iret hZ hE dX12_hangs_23)) (fun _ =>
  bw_bipush hZ (-2) (by decide) dX12_hangs_12 <|
  bw_iret hZ hE dX12_hangs_14)
theorem c_X12_hangs (l : Launch) (Y : Ev) (hY : Y.1 = SM) (x1 : Int32)  (w : Wd) : CI l Y yX12_hangs cX12_hangs 3 27 [.ref (ph Y 0), .int x1] w .int (f_X12_hangs x1 w) := by
  refine CI_of (S := SM) (by decide) (Nat.le_of_ble_eq_true rfl) hY ?_
  intro Z hl hY2 hZ hE
  subst hY2
  exact t_X12_hangs hZ hE x1 w
-- WhichWillModel.outcomes
theorem dX12_outcomes_0 : decode cX12_outcomes 0 = .ok (.aload_n 0, 1) := by decide +kernel
theorem dX12_outcomes_1 : decode cX12_outcomes 1 = .ok (.invokevirtual 700, 3) := by decide +kernel
theorem dX12_outcomes_4 : decode cX12_outcomes 4 = .ok (.aload_n 0, 1) := by decide +kernel
theorem dX12_outcomes_5 : decode cX12_outcomes 5 = .ok (.getfield 691, 3) := by decide +kernel
theorem dX12_outcomes_8 : decode cX12_outcomes 8 = .ok (.ireturn, 1) := by decide +kernel
def f_X12_outcomes (w : Wd) : Option (Int32 × Wd) :=
  cv (f_X12_reckon w) fun w1 =>
  some (w1.1 0 97, w1)
set_option maxRecDepth 100000 in
set_option maxHeartbeats 4000000 in
theorem t_X12_outcomes {Z : Cz (Int32 × Wd)} (hZ : OKZ Z SM cX12_outcomes RX12 1 (some .int) 27) (hE : EndI Z)   (w : Wd) : BW Z 1 0 [(0, .ref (ph (zY Z) 0))] [] w (f_X12_outcomes w) :=
  bw_aload_n hZ 0 rfl dX12_outcomes_0 <|
  bw_callVV (As := []) hZ ml_RX12_700 rc_12 obM_0 (by decide) (c_X12_reckon (zl Z) (zY Z) (hZ_S hZ) w) rfl rfl (Nat.le_of_ble_eq_true rfl) dX12_outcomes_1 fun w1 =>
  bw_aload_n hZ 0 rfl dX12_outcomes_4 <|
  bw_getI hZ fl_RX12_691 (by decide) obM_0 dX12_outcomes_5 <|
  bw_iret hZ hE dX12_outcomes_8
theorem c_X12_outcomes (l : Launch) (Y : Ev) (hY : Y.1 = SM)   (w : Wd) : CI l Y yX12_outcomes cX12_outcomes 1 27 [.ref (ph Y 0)] w .int (f_X12_outcomes w) := by
  refine CI_of (S := SM) (by decide) (Nat.le_of_ble_eq_true rfl) hY ?_
  intro Z hl hY2 hZ hE
  subst hY2
  exact t_X12_outcomes hZ hE w
-- WhichWillModel.unlike
theorem dX12_unlike_0 : decode cX12_unlike 0 = .ok (.aload_n 0, 1) := by decide +kernel
theorem dX12_unlike_1 : decode cX12_unlike 1 = .ok (.dup, 1) := by decide +kernel
theorem dX12_unlike_2 : decode cX12_unlike 2 = .ok (.getfield 703, 3) := by decide +kernel
theorem dX12_unlike_5 : decode cX12_unlike 5 = .ok (.iconst 1, 1) := by decide +kernel
theorem dX12_unlike_6 : decode cX12_unlike 6 = .ok (.iadd, 1) := by decide +kernel
theorem dX12_unlike_7 : decode cX12_unlike 7 = .ok (.putfield 703, 3) := by decide +kernel
theorem dX12_unlike_10 : decode cX12_unlike 10 = .ok (.iconst 0, 1) := by decide +kernel
theorem dX12_unlike_11 : decode cX12_unlike 11 = .ok (.istore 5, 2) := by decide +kernel
theorem dX12_unlike_13 : decode cX12_unlike 13 = .ok (.iconst 0, 1) := by decide +kernel
theorem dX12_unlike_14 : decode cX12_unlike 14 = .ok (.istore 6, 2) := by decide +kernel
theorem dX12_unlike_16 : decode cX12_unlike 16 = .ok (.iload 6, 2) := by decide +kernel
theorem dX12_unlike_18 : decode cX12_unlike 18 = .ok (.aload_n 0, 1) := by decide +kernel
theorem dX12_unlike_19 : decode cX12_unlike 19 = .ok (.invokevirtual 622, 3) := by decide +kernel
theorem dX12_unlike_22 : decode cX12_unlike 22 = .ok (.if_icmp .ge 93, 3) := by decide +kernel
theorem dX12_unlike_25 : decode cX12_unlike 25 = .ok (.iload_n 1, 1) := by decide +kernel
theorem dX12_unlike_26 : decode cX12_unlike 26 = .ok (.iconst (-1), 1) := by decide +kernel
theorem dX12_unlike_27 : decode cX12_unlike 27 = .ok (.if_icmp .eq 21, 3) := by decide +kernel
theorem dX12_unlike_30 : decode cX12_unlike 30 = .ok (.iload 6, 2) := by decide +kernel
theorem dX12_unlike_32 : decode cX12_unlike 32 = .ok (.iload_n 1, 1) := by decide +kernel
theorem dX12_unlike_33 : decode cX12_unlike 33 = .ok (.ishr, 1) := by decide +kernel
theorem dX12_unlike_34 : decode cX12_unlike 34 = .ok (.iconst 1, 1) := by decide +kernel
theorem dX12_unlike_35 : decode cX12_unlike 35 = .ok (.iand, 1) := by decide +kernel
theorem dX12_unlike_36 : decode cX12_unlike 36 = .ok (.iconst 1, 1) := by decide +kernel
theorem dX12_unlike_37 : decode cX12_unlike 37 = .ok (.if_icmp .ne 7, 3) := by decide +kernel
theorem dX12_unlike_40 : decode cX12_unlike 40 = .ok (.iconst 1, 1) := by decide +kernel
theorem dX12_unlike_41 : decode cX12_unlike 41 = .ok (.goto 18, 3) := by decide +kernel
theorem dX12_unlike_44 : decode cX12_unlike 44 = .ok (.iconst 0, 1) := by decide +kernel
theorem dX12_unlike_45 : decode cX12_unlike 45 = .ok (.goto 14, 3) := by decide +kernel
theorem dX12_unlike_48 : decode cX12_unlike 48 = .ok (.aload_n 0, 1) := by decide +kernel
theorem dX12_unlike_49 : decode cX12_unlike 49 = .ok (.iload 6, 2) := by decide +kernel
theorem dX12_unlike_51 : decode cX12_unlike 51 = .ok (.bipush 8, 2) := by decide +kernel
theorem dX12_unlike_53 : decode cX12_unlike 53 = .ok (.idiv, 1) := by decide +kernel
theorem dX12_unlike_54 : decode cX12_unlike 54 = .ok (.iload_n 2, 1) := by decide +kernel
theorem dX12_unlike_55 : decode cX12_unlike 55 = .ok (.iload_n 3, 1) := by decide +kernel
theorem dX12_unlike_56 : decode cX12_unlike 56 = .ok (.invokevirtual 573, 3) := by decide +kernel
theorem dX12_unlike_59 : decode cX12_unlike 59 = .ok (.istore 7, 2) := by decide +kernel
theorem dX12_unlike_61 : decode cX12_unlike 61 = .ok (.iload 7, 2) := by decide +kernel
theorem dX12_unlike_63 : decode cX12_unlike 63 = .ok (.iload 4, 2) := by decide +kernel
theorem dX12_unlike_65 : decode cX12_unlike 65 = .ok (.if_icmp .ne 44, 3) := by decide +kernel
theorem dX12_unlike_68 : decode cX12_unlike 68 = .ok (.aload_n 0, 1) := by decide +kernel
theorem dX12_unlike_69 : decode cX12_unlike 69 = .ok (.getfield 372, 3) := by decide +kernel
theorem dX12_unlike_72 : decode cX12_unlike 72 = .ok (.aload_n 0, 1) := by decide +kernel
theorem dX12_unlike_73 : decode cX12_unlike 73 = .ok (.getfield 369, 3) := by decide +kernel
theorem dX12_unlike_76 : decode cX12_unlike 76 = .ok (.iload 6, 2) := by decide +kernel
theorem dX12_unlike_78 : decode cX12_unlike 78 = .ok (.iaload, 1) := by decide +kernel
theorem dX12_unlike_79 : decode cX12_unlike 79 = .ok (.iaload, 1) := by decide +kernel
theorem dX12_unlike_80 : decode cX12_unlike 80 = .ok (.aload_n 0, 1) := by decide +kernel
theorem dX12_unlike_81 : decode cX12_unlike 81 = .ok (.getfield 703, 3) := by decide +kernel
theorem dX12_unlike_84 : decode cX12_unlike 84 = .ok (.if_icmp .ne 6, 3) := by decide +kernel
theorem dX12_unlike_87 : decode cX12_unlike 87 = .ok (.goto 22, 3) := by decide +kernel
theorem dX12_unlike_90 : decode cX12_unlike 90 = .ok (.aload_n 0, 1) := by decide +kernel
theorem dX12_unlike_91 : decode cX12_unlike 91 = .ok (.getfield 372, 3) := by decide +kernel
theorem dX12_unlike_94 : decode cX12_unlike 94 = .ok (.aload_n 0, 1) := by decide +kernel
theorem dX12_unlike_95 : decode cX12_unlike 95 = .ok (.getfield 369, 3) := by decide +kernel
theorem dX12_unlike_98 : decode cX12_unlike 98 = .ok (.iload 6, 2) := by decide +kernel
theorem dX12_unlike_100 : decode cX12_unlike 100 = .ok (.iaload, 1) := by decide +kernel
theorem dX12_unlike_101 : decode cX12_unlike 101 = .ok (.aload_n 0, 1) := by decide +kernel
theorem dX12_unlike_102 : decode cX12_unlike 102 = .ok (.getfield 703, 3) := by decide +kernel
theorem dX12_unlike_105 : decode cX12_unlike 105 = .ok (.iastore, 1) := by decide +kernel
theorem dX12_unlike_106 : decode cX12_unlike 106 = .ok (.iinc 5 1, 3) := by decide +kernel
theorem dX12_unlike_109 : decode cX12_unlike 109 = .ok (.iinc 6 1, 3) := by decide +kernel
theorem dX12_unlike_112 : decode cX12_unlike 112 = .ok (.goto (-96), 3) := by decide +kernel
theorem dX12_unlike_115 : decode cX12_unlike 115 = .ok (.iload 5, 2) := by decide +kernel
theorem dX12_unlike_117 : decode cX12_unlike 117 = .ok (.ireturn, 1) := by decide +kernel
def X12_unlike_b59 (k16 : Int32 → Int32 → Int32 → Int32 → Int32 → Int32 → Wd → Option (Int32 × Wd)) (y1 : Int32) (y2 : Int32) (y3 : Int32) (y4 : Int32) (y5 : Int32) (y6 : Int32) (t0 : Int32) (w : Wd) : Option (Int32 × Wd) :=
  if t0 = y4 then
  (if inb y6 5760 = true then
  (if inb (w.1 52 (Int32.toNatClampNeg y6)) 5760 = true then
  (if (w.1 53 (Int32.toNatClampNeg (w.1 52 (Int32.toNatClampNeg y6)))) = (w.1 0 98) then
  (k16 y1 y2 y3 y4 y5 (y6 + 1) w)
  else
  if inb y6 5760 = true then
  (if inb (w.1 52 (Int32.toNatClampNeg y6)) 5760 = true then
  (lt (wI w 53 (Int32.toNatClampNeg (w.1 52 (Int32.toNatClampNeg y6))) (w.1 0 98)) fun w6 =>
  k16 y1 y2 y3 y4 (y5 + 1) (y6 + 1) w6)
  else none)
  else none)
  else none)
  else none)
  else
  k16 y1 y2 y3 y4 y5 (y6 + 1) w
set_option maxRecDepth 100000 in
set_option maxHeartbeats 4000000 in
theorem t_X12_unlike_b59 {Z : Cz (Int32 × Wd)} (hZ : OKZ Z SM cX12_unlike RX12 8 (some .int) 3) (hE : EndI Z) (k16 : Int32 → Int32 → Int32 → Int32 → Int32 → Int32 → Wd → Option (Int32 × Wd)) (hk16 : ∀ (y1 : Int32) (y2 : Int32) (y3 : Int32) (y4 : Int32) (y5 : Int32) (y6 : Int32)  (w : Wd), BW Z 8 16 [(0, .ref (ph (zY Z) 0)), (1, .int y1), (2, .int y2), (3, .int y3), (4, .int y4), (5, .int y5), (6, .int y6)] [] w (k16 y1 y2 y3 y4 y5 y6 w)) (y1 : Int32) (y2 : Int32) (y3 : Int32) (y4 : Int32) (y5 : Int32) (y6 : Int32) (t0 : Int32)  (w : Wd) : BW Z 8 59 [(0, .ref (ph (zY Z) 0)), (1, .int y1), (2, .int y2), (3, .int y3), (4, .int y4), (5, .int y5), (6, .int y6)] [.int t0] w (X12_unlike_b59 k16 y1 y2 y3 y4 y5 y6 t0 w) :=
  bw_istore hZ (by decide) rfl dX12_unlike_59 <|
  bw_iload hZ 0 rfl dX12_unlike_61 <|
  bw_iload hZ 5 rfl dX12_unlike_63 <|
  bw_icmp_ne hZ (tgt := 109) (by decide) dX12_unlike_65 (fun _ =>
  bw_iinc hZ 1 7 rfl (by decide) (by decide) rfl dX12_unlike_109 <|
  bw_goto hZ (tgt := 16) (by decide) dX12_unlike_112 <|
  bw_sub [2, 3, 4, 5, 6, 7, 0] rfl (hk16 y1 y2 y3 y4 y5 (y6 + 1) w)) (fun _ =>
  bw_aload_n hZ 1 rfl dX12_unlike_68 <|
  bw_getR hZ fl_RX12_372 obM_0 rfl dX12_unlike_69 <|
  bw_aload_n hZ 1 rfl dX12_unlike_72 <|
  bw_getR hZ fl_RX12_369 obM_0 rfl dX12_unlike_73 <|
  bw_iload hZ 7 rfl dX12_unlike_76 <|
  bw_iald hZ (arM_52 _) dX12_unlike_78 <|
  bw_iald hZ (arM_53 _) dX12_unlike_79 <|
  bw_aload_n hZ 1 rfl dX12_unlike_80 <|
  bw_getI hZ fl_RX12_703 (by decide) obM_0 dX12_unlike_81 <|
  bw_icmp_ne hZ (tgt := 90) (by decide) dX12_unlike_84 (fun _ =>
  bw_aload_n hZ 1 rfl dX12_unlike_90 <|
  bw_getR hZ fl_RX12_372 obM_0 rfl dX12_unlike_91 <|
  bw_aload_n hZ 1 rfl dX12_unlike_94 <|
  bw_getR hZ fl_RX12_369 obM_0 rfl dX12_unlike_95 <|
  bw_iload hZ 7 rfl dX12_unlike_98 <|
  bw_iald hZ (arM_52 _) dX12_unlike_100 <|
  bw_aload_n hZ 1 rfl dX12_unlike_101 <|
  bw_getI hZ fl_RX12_703 (by decide) obM_0 dX12_unlike_102 <|
  bw_iast hZ (arM_53 _) dX12_unlike_105 fun w6 =>
  bw_iinc hZ 1 6 rfl (by decide) (by decide) rfl dX12_unlike_106 <|
  bw_iinc hZ 1 7 rfl (by decide) (by decide) rfl dX12_unlike_109 <|
  bw_goto hZ (tgt := 16) (by decide) dX12_unlike_112 <|
  bw_sub [3, 4, 5, 6, 7, 1, 0] rfl (hk16 y1 y2 y3 y4 (y5 + 1) (y6 + 1) w6)) (fun _ =>
  bw_goto hZ (tgt := 109) (by decide) dX12_unlike_87 <|
  bw_iinc hZ 1 7 rfl (by decide) (by decide) rfl dX12_unlike_109 <|
  bw_goto hZ (tgt := 16) (by decide) dX12_unlike_112 <|
  bw_sub [2, 3, 4, 5, 6, 7, 0] rfl (hk16 y1 y2 y3 y4 y5 (y6 + 1) w)))
def X12_unlike_b16 (k16 : Int32 → Int32 → Int32 → Int32 → Int32 → Int32 → Wd → Option (Int32 × Wd)) (y1 : Int32) (y2 : Int32) (y3 : Int32) (y4 : Int32) (y5 : Int32) (y6 : Int32) (w : Wd) : Option (Int32 × Wd) :=
  cl (f_X12_allWays w) fun r3 w2 =>
  if r3 ≤ y6 then
  (some (y5, w2))
  else
  if y1 = ((-1)) then
  (cl (f_X12_isAhead (y6 / 8) y2 y3 w2) fun r5 w4 =>
  X12_unlike_b59 k16 y1 y2 y3 y4 y5 y6 r5 w4)
  else
  if ((y6 >>> (y1 &&& 31)) &&& 1) = 1 then
  (X12_unlike_b59 k16 y1 y2 y3 y4 y5 y6 1 w2)
  else
  X12_unlike_b59 k16 y1 y2 y3 y4 y5 y6 0 w2
set_option maxRecDepth 100000 in
set_option maxHeartbeats 4000000 in
theorem t_X12_unlike_b16 {Z : Cz (Int32 × Wd)} (hZ : OKZ Z SM cX12_unlike RX12 8 (some .int) 3) (hE : EndI Z) (k16 : Int32 → Int32 → Int32 → Int32 → Int32 → Int32 → Wd → Option (Int32 × Wd)) (hk16 : ∀ (y1 : Int32) (y2 : Int32) (y3 : Int32) (y4 : Int32) (y5 : Int32) (y6 : Int32)  (w : Wd), BW Z 8 16 [(0, .ref (ph (zY Z) 0)), (1, .int y1), (2, .int y2), (3, .int y3), (4, .int y4), (5, .int y5), (6, .int y6)] [] w (k16 y1 y2 y3 y4 y5 y6 w)) (y1 : Int32) (y2 : Int32) (y3 : Int32) (y4 : Int32) (y5 : Int32) (y6 : Int32)  (w : Wd) : BW Z 8 16 [(0, .ref (ph (zY Z) 0)), (1, .int y1), (2, .int y2), (3, .int y3), (4, .int y4), (5, .int y5), (6, .int y6)] [] w (X12_unlike_b16 k16 y1 y2 y3 y4 y5 y6 w) :=
  bw_iload hZ 6 rfl dX12_unlike_16 <|
  bw_aload_n hZ 0 rfl dX12_unlike_18 <|
  bw_callVI (As := []) hZ ml_RX12_622 rc_12 obM_0 (by decide) (c_X12_allWays (zl Z) (zY Z) (hZ_S hZ) w) rfl rfl (Nat.le_of_ble_eq_true rfl) dX12_unlike_19 fun r3 w2 =>
  bw_icmp_ge hZ (tgt := 115) (by decide) dX12_unlike_22 (fun _ =>
  bw_iload hZ 5 rfl dX12_unlike_115 <|
  bw_iret hZ hE dX12_unlike_117) (fun _ =>
  bw_iload_n hZ 1 rfl dX12_unlike_25 <|
  bw_iconst hZ (-1) (by decide) dX12_unlike_26 <|
  bw_icmp_eq hZ (tgt := 48) (by decide) dX12_unlike_27 (fun _ =>
  bw_aload_n hZ 0 rfl dX12_unlike_48 <|
  bw_iload hZ 6 rfl dX12_unlike_49 <|
  bw_bipush hZ 8 (by decide) dX12_unlike_51 <|
  bw_idivN hZ (by decide) dX12_unlike_53 <|
  bw_iload_n hZ 2 rfl dX12_unlike_54 <|
  bw_iload_n hZ 3 rfl dX12_unlike_55 <|
  bw_callVI (As := [.int (y6 / 8), .int y2, .int y3]) hZ ml_RX12_573 rc_12 obM_0 (by decide) (c_X12_isAhead (zl Z) (zY Z) (hZ_S hZ) (y6 / 8) y2 y3 w2) rfl rfl (Nat.le_of_ble_eq_true rfl) dX12_unlike_56 fun r5 w4 =>
  bw_sub [0, 1, 2, 3, 4, 5, 6] rfl (t_X12_unlike_b59 hZ hE k16 hk16 y1 y2 y3 y4 y5 y6 r5 w4)) (fun _ =>
  bw_iload hZ 6 rfl dX12_unlike_30 <|
  bw_iload_n hZ 1 rfl dX12_unlike_32 <|
  bw_ishr hZ dX12_unlike_33 <|
  bw_iconst hZ 1 (by decide) dX12_unlike_34 <|
  bw_iand hZ dX12_unlike_35 <|
  bw_iconst hZ 1 (by decide) dX12_unlike_36 <|
  bw_icmp_ne hZ (tgt := 44) (by decide) dX12_unlike_37 (fun _ =>
  bw_iconst hZ 0 (by decide) dX12_unlike_44 <|
  bw_goto hZ (tgt := 59) (by decide) dX12_unlike_45 <|
  bw_sub [0, 1, 2, 3, 4, 5, 6] rfl (t_X12_unlike_b59 hZ hE k16 hk16 y1 y2 y3 y4 y5 y6 0 w2)) (fun _ =>
  bw_iconst hZ 1 (by decide) dX12_unlike_40 <|
  bw_goto hZ (tgt := 59) (by decide) dX12_unlike_41 <|
  bw_sub [0, 1, 2, 3, 4, 5, 6] rfl (t_X12_unlike_b59 hZ hE k16 hk16 y1 y2 y3 y4 y5 y6 1 w2))))
def X12_unlike_b16_L  : Int32 → Int32 → Int32 → Int32 → Int32 → Int32 → Wd → Option (Int32 × Wd) :=
  lp fu (fun _ _ _ _ _ _ _ => none) (fun k16 => X12_unlike_b16 k16)
theorem t_X12_unlike_b16_L {Z : Cz (Int32 × Wd)} (hZ : OKZ Z SM cX12_unlike RX12 8 (some .int) 3) (hE : EndI Z)  : ∀ (y1 : Int32) (y2 : Int32) (y3 : Int32) (y4 : Int32) (y5 : Int32) (y6 : Int32)  (w : Wd), BW Z 8 16 [(0, .ref (ph (zY Z) 0)), (1, .int y1), (2, .int y2), (3, .int y3), (4, .int y4), (5, .int y5), (6, .int y6)] [] w (X12_unlike_b16_L y1 y2 y3 y4 y5 y6 w) :=
  lp_bw (fun k16 => ∀ (y1 : Int32) (y2 : Int32) (y3 : Int32) (y4 : Int32) (y5 : Int32) (y6 : Int32)  (w : Wd), BW Z 8 16 [(0, .ref (ph (zY Z) 0)), (1, .int y1), (2, .int y2), (3, .int y3), (4, .int y4), (5, .int y5), (6, .int y6)] [] w (k16 y1 y2 y3 y4 y5 y6 w)) (fun _ _ _ _ _ _ _ => bw_none) (fun k16 hk16 y1 y2 y3 y4 y5 y6 w => t_X12_unlike_b16 hZ hE k16 hk16 y1 y2 y3 y4 y5 y6 w) fu
def f_X12_unlike (x1 : Int32) (x2 : Int32) (x3 : Int32) (x4 : Int32) (w : Wd) : Option (Int32 × Wd) :=
  lt (wI w 0 98 ((w.1 0 98) + 1)) fun w1 =>
  X12_unlike_b16_L x1 x2 x3 x4 0 0 w1
set_option maxRecDepth 100000 in
set_option maxHeartbeats 4000000 in
theorem t_X12_unlike {Z : Cz (Int32 × Wd)} (hZ : OKZ Z SM cX12_unlike RX12 8 (some .int) 3) (hE : EndI Z) (x1 : Int32) (x2 : Int32) (x3 : Int32) (x4 : Int32)  (w : Wd) : BW Z 8 0 [(0, .ref (ph (zY Z) 0)), (1, .int x1), (2, .int x2), (3, .int x3), (4, .int x4)] [] w (f_X12_unlike x1 x2 x3 x4 w) :=
  bw_aload_n hZ 0 rfl dX12_unlike_0 <|
  bw_dup hZ rfl dX12_unlike_1 <|
  bw_getI hZ fl_RX12_703 (by decide) obM_0 dX12_unlike_2 <|
  bw_iconst hZ 1 (by decide) dX12_unlike_5 <|
  bw_iadd hZ dX12_unlike_6 <|
  bw_putI hZ fl_RX12_703 rfl rfl (by decide) obM_0 dX12_unlike_7 fun w1 =>
  bw_iconst hZ 0 (by decide) dX12_unlike_10 <|
  bw_istore hZ (by decide) rfl dX12_unlike_11 <|
  bw_iconst hZ 0 (by decide) dX12_unlike_13 <|
  bw_istore hZ (by decide) rfl dX12_unlike_14 <|
  bw_sub [2, 3, 4, 5, 6, 1, 0] rfl (t_X12_unlike_b16_L hZ hE x1 x2 x3 x4 0 0 w1)
theorem c_X12_unlike (l : Launch) (Y : Ev) (hY : Y.1 = SM) (x1 : Int32) (x2 : Int32) (x3 : Int32) (x4 : Int32)  (w : Wd) : CI l Y yX12_unlike cX12_unlike 8 3 [.ref (ph Y 0), .int x1, .int x2, .int x3, .int x4] w .int (f_X12_unlike x1 x2 x3 x4 w) := by
  refine CI_of (S := SM) (by decide) (Nat.le_of_ble_eq_true rfl) hY ?_
  intro Z hl hY2 hZ hE
  subst hY2
  exact t_X12_unlike hZ hE x1 x2 x3 x4 w
-- WhichWillModel.greater
theorem dX12_greater_0 : decode cX12_greater 0 = .ok (.aload_n 0, 1) := by decide +kernel
theorem dX12_greater_1 : decode cX12_greater 1 = .ok (.iload_n 1, 1) := by decide +kernel
theorem dX12_greater_2 : decode cX12_greater 2 = .ok (.iload_n 2, 1) := by decide +kernel
theorem dX12_greater_3 : decode cX12_greater 3 = .ok (.iload_n 3, 1) := by decide +kernel
theorem dX12_greater_4 : decode cX12_greater 4 = .ok (.iconst 1, 1) := by decide +kernel
theorem dX12_greater_5 : decode cX12_greater 5 = .ok (.invokevirtual 706, 3) := by decide +kernel
theorem dX12_greater_8 : decode cX12_greater 8 = .ok (.aload_n 0, 1) := by decide +kernel
theorem dX12_greater_9 : decode cX12_greater 9 = .ok (.iload_n 1, 1) := by decide +kernel
theorem dX12_greater_10 : decode cX12_greater 10 = .ok (.iload_n 2, 1) := by decide +kernel
theorem dX12_greater_11 : decode cX12_greater 11 = .ok (.iload_n 3, 1) := by decide +kernel
theorem dX12_greater_12 : decode cX12_greater 12 = .ok (.iconst 0, 1) := by decide +kernel
theorem dX12_greater_13 : decode cX12_greater 13 = .ok (.invokevirtual 706, 3) := by decide +kernel
theorem dX12_greater_16 : decode cX12_greater 16 = .ok (.invokestatic 558, 3) := by decide +kernel
theorem dX12_greater_19 : decode cX12_greater 19 = .ok (.ireturn, 1) := by decide +kernel
def f_X12_greater (x1 : Int32) (x2 : Int32) (x3 : Int32) (w : Wd) : Option (Int32 × Wd) :=
  cl (f_X12_unlike x1 x2 x3 1 w) fun r2 w1 =>
  cl (f_X12_unlike x1 x2 x3 0 w1) fun r4 w3 =>
  some (if r2 < r4 then r4 else r2, w3)
set_option maxRecDepth 100000 in
set_option maxHeartbeats 4000000 in
theorem t_X12_greater {Z : Cz (Int32 × Wd)} (hZ : OKZ Z SM cX12_greater RX12 4 (some .int) 4) (hE : EndI Z) (x1 : Int32) (x2 : Int32) (x3 : Int32)  (w : Wd) : BW Z 4 0 [(0, .ref (ph (zY Z) 0)), (1, .int x1), (2, .int x2), (3, .int x3)] [] w (f_X12_greater x1 x2 x3 w) :=
  bw_aload_n hZ 0 rfl dX12_greater_0 <|
  bw_iload_n hZ 1 rfl dX12_greater_1 <|
  bw_iload_n hZ 2 rfl dX12_greater_2 <|
  bw_iload_n hZ 3 rfl dX12_greater_3 <|
  bw_iconst hZ 1 (by decide) dX12_greater_4 <|
  bw_callVI (As := [.int x1, .int x2, .int x3, .int 1]) hZ ml_RX12_706 rc_12 obM_0 (by decide) (c_X12_unlike (zl Z) (zY Z) (hZ_S hZ) x1 x2 x3 1 w) rfl rfl (Nat.le_of_ble_eq_true rfl) dX12_greater_5 fun r2 w1 =>
  bw_aload_n hZ 0 rfl dX12_greater_8 <|
  bw_iload_n hZ 1 rfl dX12_greater_9 <|
  bw_iload_n hZ 2 rfl dX12_greater_10 <|
  bw_iload_n hZ 3 rfl dX12_greater_11 <|
  bw_iconst hZ 0 (by decide) dX12_greater_12 <|
  bw_callVI (As := [.int x1, .int x2, .int x3, .int 0]) hZ ml_RX12_706 rc_12 obM_0 (by decide) (c_X12_unlike (zl Z) (zY Z) (hZ_S hZ) x1 x2 x3 0 w1) rfl rfl (Nat.le_of_ble_eq_true rfl) dX12_greater_13 fun r4 w3 =>
  bw_mmax hZ kl_RX12_558 km_max (by decide) (Nat.le_of_ble_eq_true rfl) dX12_greater_16 <|
  bw_iret hZ hE dX12_greater_19
theorem c_X12_greater (l : Launch) (Y : Ev) (hY : Y.1 = SM) (x1 : Int32) (x2 : Int32) (x3 : Int32)  (w : Wd) : CI l Y yX12_greater cX12_greater 4 4 [.ref (ph Y 0), .int x1, .int x2, .int x3] w .int (f_X12_greater x1 x2 x3 w) := by
  refine CI_of (S := SM) (by decide) (Nat.le_of_ble_eq_true rfl) hY ?_
  intro Z hl hY2 hZ hE
  subst hY2
  exact t_X12_greater hZ hE x1 x2 x3 w
-- WhichWillModel.ask
theorem dX12_ask_0 : decode cX12_ask 0 = .ok (.aload_n 0, 1) := by decide +kernel
theorem dX12_ask_1 : decode cX12_ask 1 = .ok (.invokevirtual 700, 3) := by decide +kernel
theorem dX12_ask_4 : decode cX12_ask 4 = .ok (.iconst (-1), 1) := by decide +kernel
theorem dX12_ask_5 : decode cX12_ask 5 = .ok (.istore_n 1, 1) := by decide +kernel
theorem dX12_ask_6 : decode cX12_ask 6 = .ok (.aload_n 0, 1) := by decide +kernel
theorem dX12_ask_7 : decode cX12_ask 7 = .ok (.getfield 691, 3) := by decide +kernel
theorem dX12_ask_10 : decode cX12_ask 10 = .ok (.istore_n 2, 1) := by decide +kernel
theorem dX12_ask_11 : decode cX12_ask 11 = .ok (.iconst 0, 1) := by decide +kernel
theorem dX12_ask_12 : decode cX12_ask 12 = .ok (.istore_n 3, 1) := by decide +kernel
theorem dX12_ask_13 : decode cX12_ask 13 = .ok (.iload_n 3, 1) := by decide +kernel
theorem dX12_ask_14 : decode cX12_ask 14 = .ok (.iconst 3, 1) := by decide +kernel
theorem dX12_ask_15 : decode cX12_ask 15 = .ok (.if_icmp .ge 32, 3) := by decide +kernel
theorem dX12_ask_18 : decode cX12_ask 18 = .ok (.aload_n 0, 1) := by decide +kernel
theorem dX12_ask_19 : decode cX12_ask 19 = .ok (.iload_n 3, 1) := by decide +kernel
theorem dX12_ask_20 : decode cX12_ask 20 = .ok (.iconst (-1), 1) := by decide +kernel
theorem dX12_ask_21 : decode cX12_ask 21 = .ok (.iconst (-1), 1) := by decide +kernel
theorem dX12_ask_22 : decode cX12_ask 22 = .ok (.invokevirtual 710, 3) := by decide +kernel
theorem dX12_ask_25 : decode cX12_ask 25 = .ok (.istore 4, 2) := by decide +kernel
theorem dX12_ask_27 : decode cX12_ask 27 = .ok (.iload 4, 2) := by decide +kernel
theorem dX12_ask_29 : decode cX12_ask 29 = .ok (.iload_n 2, 1) := by decide +kernel
theorem dX12_ask_30 : decode cX12_ask 30 = .ok (.if_icmp .lt 6, 3) := by decide +kernel
theorem dX12_ask_33 : decode cX12_ask 33 = .ok (.goto 8, 3) := by decide +kernel
theorem dX12_ask_36 : decode cX12_ask 36 = .ok (.iload 4, 2) := by decide +kernel
theorem dX12_ask_38 : decode cX12_ask 38 = .ok (.istore_n 2, 1) := by decide +kernel
theorem dX12_ask_39 : decode cX12_ask 39 = .ok (.iload_n 3, 1) := by decide +kernel
theorem dX12_ask_40 : decode cX12_ask 40 = .ok (.istore_n 1, 1) := by decide +kernel
theorem dX12_ask_41 : decode cX12_ask 41 = .ok (.iinc 3 1, 3) := by decide +kernel
theorem dX12_ask_44 : decode cX12_ask 44 = .ok (.goto (-31), 3) := by decide +kernel
theorem dX12_ask_47 : decode cX12_ask 47 = .ok (.iconst 0, 1) := by decide +kernel
theorem dX12_ask_48 : decode cX12_ask 48 = .ok (.istore_n 3, 1) := by decide +kernel
theorem dX12_ask_49 : decode cX12_ask 49 = .ok (.iload_n 3, 1) := by decide +kernel
theorem dX12_ask_50 : decode cX12_ask 50 = .ok (.aload_n 0, 1) := by decide +kernel
theorem dX12_ask_51 : decode cX12_ask 51 = .ok (.invokevirtual 552, 3) := by decide +kernel
theorem dX12_ask_54 : decode cX12_ask 54 = .ok (.if_icmp .ge 62, 3) := by decide +kernel
theorem dX12_ask_57 : decode cX12_ask 57 = .ok (.iload_n 3, 1) := by decide +kernel
theorem dX12_ask_58 : decode cX12_ask 58 = .ok (.iconst 1, 1) := by decide +kernel
theorem dX12_ask_59 : decode cX12_ask 59 = .ok (.iadd, 1) := by decide +kernel
theorem dX12_ask_60 : decode cX12_ask 60 = .ok (.istore 4, 2) := by decide +kernel
theorem dX12_ask_62 : decode cX12_ask 62 = .ok (.iload 4, 2) := by decide +kernel
theorem dX12_ask_64 : decode cX12_ask 64 = .ok (.aload_n 0, 1) := by decide +kernel
theorem dX12_ask_65 : decode cX12_ask 65 = .ok (.invokevirtual 552, 3) := by decide +kernel
theorem dX12_ask_68 : decode cX12_ask 68 = .ok (.if_icmp .ge 42, 3) := by decide +kernel
theorem dX12_ask_71 : decode cX12_ask 71 = .ok (.aload_n 0, 1) := by decide +kernel
theorem dX12_ask_72 : decode cX12_ask 72 = .ok (.iconst (-1), 1) := by decide +kernel
theorem dX12_ask_73 : decode cX12_ask 73 = .ok (.iload_n 3, 1) := by decide +kernel
theorem dX12_ask_74 : decode cX12_ask 74 = .ok (.iload 4, 2) := by decide +kernel
theorem dX12_ask_76 : decode cX12_ask 76 = .ok (.invokevirtual 710, 3) := by decide +kernel
theorem dX12_ask_79 : decode cX12_ask 79 = .ok (.istore 5, 2) := by decide +kernel
theorem dX12_ask_81 : decode cX12_ask 81 = .ok (.iload 5, 2) := by decide +kernel
theorem dX12_ask_83 : decode cX12_ask 83 = .ok (.iload_n 2, 1) := by decide +kernel
theorem dX12_ask_84 : decode cX12_ask 84 = .ok (.if_icmp .lt 6, 3) := by decide +kernel
theorem dX12_ask_87 : decode cX12_ask 87 = .ok (.goto 17, 3) := by decide +kernel
theorem dX12_ask_90 : decode cX12_ask 90 = .ok (.iload 5, 2) := by decide +kernel
theorem dX12_ask_92 : decode cX12_ask 92 = .ok (.istore_n 2, 1) := by decide +kernel
theorem dX12_ask_93 : decode cX12_ask 93 = .ok (.bipush 10, 2) := by decide +kernel
theorem dX12_ask_95 : decode cX12_ask 95 = .ok (.bipush 10, 2) := by decide +kernel
theorem dX12_ask_97 : decode cX12_ask 97 = .ok (.iload_n 3, 1) := by decide +kernel
theorem dX12_ask_98 : decode cX12_ask 98 = .ok (.imul, 1) := by decide +kernel
theorem dX12_ask_99 : decode cX12_ask 99 = .ok (.iadd, 1) := by decide +kernel
theorem dX12_ask_100 : decode cX12_ask 100 = .ok (.iload 4, 2) := by decide +kernel
theorem dX12_ask_102 : decode cX12_ask 102 = .ok (.iadd, 1) := by decide +kernel
theorem dX12_ask_103 : decode cX12_ask 103 = .ok (.istore_n 1, 1) := by decide +kernel
theorem dX12_ask_104 : decode cX12_ask 104 = .ok (.iinc 4 1, 3) := by decide +kernel
theorem dX12_ask_107 : decode cX12_ask 107 = .ok (.goto (-45), 3) := by decide +kernel
theorem dX12_ask_110 : decode cX12_ask 110 = .ok (.iinc 3 1, 3) := by decide +kernel
theorem dX12_ask_113 : decode cX12_ask 113 = .ok (.goto (-64), 3) := by decide +kernel
theorem dX12_ask_116 : decode cX12_ask 116 = .ok (.iload_n 1, 1) := by decide +kernel
theorem dX12_ask_117 : decode cX12_ask 117 = .ok (.ireturn, 1) := by decide +kernel
def X12_ask_b62 (k49 : Int32 → Int32 → Int32 → Wd → Option (Int32 × Wd)) (k62 : Int32 → Int32 → Int32 → Int32 → Wd → Option (Int32 × Wd)) (y1 : Int32) (y2 : Int32) (y3 : Int32) (y4 : Int32) (w : Wd) : Option (Int32 × Wd) :=
  cl (f_X12_items w) fun r7 w6 =>
  if r7 ≤ y4 then
  (k49 y1 y2 (y3 + 1) w6)
  else
  cl (f_X12_greater ((-1)) y3 y4 w6) fun r9 w8 =>
  if r9 < y2 then
  (lt ((10 + (10 * y3)) + y4) fun v10 =>
  k62 v10 r9 y3 (y4 + 1) w8)
  else
  k62 y1 y2 y3 (y4 + 1) w8
set_option maxRecDepth 100000 in
set_option maxHeartbeats 4000000 in
theorem t_X12_ask_b62 {Z : Cz (Int32 × Wd)} (hZ : OKZ Z SM cX12_ask RX12 6 (some .int) 27) (hE : EndI Z) (k49 : Int32 → Int32 → Int32 → Wd → Option (Int32 × Wd)) (hk49 : ∀ (y1 : Int32) (y2 : Int32) (y3 : Int32)  (w : Wd), BW Z 6 49 [(0, .ref (ph (zY Z) 0)), (1, .int y1), (2, .int y2), (3, .int y3)] [] w (k49 y1 y2 y3 w)) (k62 : Int32 → Int32 → Int32 → Int32 → Wd → Option (Int32 × Wd)) (hk62 : ∀ (y1 : Int32) (y2 : Int32) (y3 : Int32) (y4 : Int32)  (w : Wd), BW Z 6 62 [(0, .ref (ph (zY Z) 0)), (1, .int y1), (2, .int y2), (3, .int y3), (4, .int y4)] [] w (k62 y1 y2 y3 y4 w)) (y1 : Int32) (y2 : Int32) (y3 : Int32) (y4 : Int32)  (w : Wd) : BW Z 6 62 [(0, .ref (ph (zY Z) 0)), (1, .int y1), (2, .int y2), (3, .int y3), (4, .int y4)] [] w (X12_ask_b62 k49 k62 y1 y2 y3 y4 w) :=
  bw_iload hZ 4 rfl dX12_ask_62 <|
  bw_aload_n hZ 0 rfl dX12_ask_64 <|
  bw_callVI (As := []) hZ ml_RX12_552 rc_12 obM_0 (by decide) (c_X12_items (zl Z) (zY Z) (hZ_S hZ) w) rfl rfl (Nat.le_of_ble_eq_true rfl) dX12_ask_65 fun r7 w6 =>
  bw_icmp_ge hZ (tgt := 110) (by decide) dX12_ask_68 (fun _ =>
  bw_iinc hZ 1 3 rfl (by decide) (by decide) rfl dX12_ask_110 <|
  bw_goto hZ (tgt := 49) (by decide) dX12_ask_113 <|
  bw_sub [1, 2, 3, 0] rfl (hk49 y1 y2 (y3 + 1) w6)) (fun _ =>
  bw_aload_n hZ 0 rfl dX12_ask_71 <|
  bw_iconst hZ (-1) (by decide) dX12_ask_72 <|
  bw_iload_n hZ 3 rfl dX12_ask_73 <|
  bw_iload hZ 4 rfl dX12_ask_74 <|
  bw_callVI (As := [.int ((-1)), .int y3, .int y4]) hZ ml_RX12_710 rc_12 obM_0 (by decide) (c_X12_greater (zl Z) (zY Z) (hZ_S hZ) ((-1)) y3 y4 w6) rfl rfl (Nat.le_of_ble_eq_true rfl) dX12_ask_76 fun r9 w8 =>
  bw_istore hZ (by decide) rfl dX12_ask_79 <|
  bw_iload hZ 0 rfl dX12_ask_81 <|
  bw_iload_n hZ 3 rfl dX12_ask_83 <|
  bw_icmp_lt hZ (tgt := 90) (by decide) dX12_ask_84 (fun _ =>
  bw_iload hZ 0 rfl dX12_ask_90 <|
  bw_istore_n hZ rfl (by decide) rfl dX12_ask_92 <|
  bw_bipush hZ 10 (by decide) dX12_ask_93 <|
  bw_bipush hZ 10 (by decide) dX12_ask_95 <|
  bw_iload_n hZ 4 rfl dX12_ask_97 <|
  bw_imul hZ dX12_ask_98 <|
  bw_iadd hZ dX12_ask_99 <|
  bw_iload hZ 5 rfl dX12_ask_100 <|
  bw_iadd hZ dX12_ask_102 <|
  bw_nm fun v10 =>
  bw_istore_n hZ rfl (by decide) rfl dX12_ask_103 <|
  bw_iinc hZ 1 5 rfl (by decide) (by decide) rfl dX12_ask_104 <|
  bw_goto hZ (tgt := 62) (by decide) dX12_ask_107 <|
  bw_sub [4, 1, 2, 5, 0] rfl (hk62 v10 r9 y3 (y4 + 1) w8)) (fun _ =>
  bw_goto hZ (tgt := 104) (by decide) dX12_ask_87 <|
  bw_iinc hZ 1 5 rfl (by decide) (by decide) rfl dX12_ask_104 <|
  bw_goto hZ (tgt := 62) (by decide) dX12_ask_107 <|
  bw_sub [2, 3, 4, 5, 0] rfl (hk62 y1 y2 y3 (y4 + 1) w8)))
def X12_ask_b62_L (k49 : Int32 → Int32 → Int32 → Wd → Option (Int32 × Wd)) : Int32 → Int32 → Int32 → Int32 → Wd → Option (Int32 × Wd) :=
  lp fu (fun _ _ _ _ _ => none) (fun k62 => X12_ask_b62 k49 k62)
theorem t_X12_ask_b62_L {Z : Cz (Int32 × Wd)} (hZ : OKZ Z SM cX12_ask RX12 6 (some .int) 27) (hE : EndI Z) (k49 : Int32 → Int32 → Int32 → Wd → Option (Int32 × Wd)) (hk49 : ∀ (y1 : Int32) (y2 : Int32) (y3 : Int32)  (w : Wd), BW Z 6 49 [(0, .ref (ph (zY Z) 0)), (1, .int y1), (2, .int y2), (3, .int y3)] [] w (k49 y1 y2 y3 w)) : ∀ (y1 : Int32) (y2 : Int32) (y3 : Int32) (y4 : Int32)  (w : Wd), BW Z 6 62 [(0, .ref (ph (zY Z) 0)), (1, .int y1), (2, .int y2), (3, .int y3), (4, .int y4)] [] w (X12_ask_b62_L k49 y1 y2 y3 y4 w) :=
  lp_bw (fun k62 => ∀ (y1 : Int32) (y2 : Int32) (y3 : Int32) (y4 : Int32)  (w : Wd), BW Z 6 62 [(0, .ref (ph (zY Z) 0)), (1, .int y1), (2, .int y2), (3, .int y3), (4, .int y4)] [] w (k62 y1 y2 y3 y4 w)) (fun _ _ _ _ _ => bw_none) (fun k62 hk62 y1 y2 y3 y4 w => t_X12_ask_b62 hZ hE k49 hk49 k62 hk62 y1 y2 y3 y4 w) fu
def X12_ask_b49 (k49 : Int32 → Int32 → Int32 → Wd → Option (Int32 × Wd)) (y1 : Int32) (y2 : Int32) (y3 : Int32) (w : Wd) : Option (Int32 × Wd) :=
  cl (f_X12_items w) fun r4 w3 =>
  if r4 ≤ y3 then
  (some (y1, w3))
  else
  lt (y3 + 1) fun v5 =>
  X12_ask_b62_L k49 y1 y2 y3 v5 w3
set_option maxRecDepth 100000 in
set_option maxHeartbeats 4000000 in
theorem t_X12_ask_b49 {Z : Cz (Int32 × Wd)} (hZ : OKZ Z SM cX12_ask RX12 6 (some .int) 27) (hE : EndI Z) (k49 : Int32 → Int32 → Int32 → Wd → Option (Int32 × Wd)) (hk49 : ∀ (y1 : Int32) (y2 : Int32) (y3 : Int32)  (w : Wd), BW Z 6 49 [(0, .ref (ph (zY Z) 0)), (1, .int y1), (2, .int y2), (3, .int y3)] [] w (k49 y1 y2 y3 w)) (y1 : Int32) (y2 : Int32) (y3 : Int32)  (w : Wd) : BW Z 6 49 [(0, .ref (ph (zY Z) 0)), (1, .int y1), (2, .int y2), (3, .int y3)] [] w (X12_ask_b49 k49 y1 y2 y3 w) :=
  bw_iload_n hZ 3 rfl dX12_ask_49 <|
  bw_aload_n hZ 0 rfl dX12_ask_50 <|
  bw_callVI (As := []) hZ ml_RX12_552 rc_12 obM_0 (by decide) (c_X12_items (zl Z) (zY Z) (hZ_S hZ) w) rfl rfl (Nat.le_of_ble_eq_true rfl) dX12_ask_51 fun r4 w3 =>
  bw_icmp_ge hZ (tgt := 116) (by decide) dX12_ask_54 (fun _ =>
  bw_iload_n hZ 1 rfl dX12_ask_116 <|
  bw_iret hZ hE dX12_ask_117) (fun _ =>
  bw_iload_n hZ 3 rfl dX12_ask_57 <|
  bw_iconst hZ 1 (by decide) dX12_ask_58 <|
  bw_iadd hZ dX12_ask_59 <|
  bw_nm fun v5 =>
  bw_istore hZ (by decide) rfl dX12_ask_60 <|
  bw_sub [1, 2, 3, 4, 0] rfl (t_X12_ask_b62_L hZ hE k49 hk49 y1 y2 y3 v5 w3))
def X12_ask_b49_L  : Int32 → Int32 → Int32 → Wd → Option (Int32 × Wd) :=
  lp fu (fun _ _ _ _ => none) (fun k49 => X12_ask_b49 k49)
theorem t_X12_ask_b49_L {Z : Cz (Int32 × Wd)} (hZ : OKZ Z SM cX12_ask RX12 6 (some .int) 27) (hE : EndI Z)  : ∀ (y1 : Int32) (y2 : Int32) (y3 : Int32)  (w : Wd), BW Z 6 49 [(0, .ref (ph (zY Z) 0)), (1, .int y1), (2, .int y2), (3, .int y3)] [] w (X12_ask_b49_L y1 y2 y3 w) :=
  lp_bw (fun k49 => ∀ (y1 : Int32) (y2 : Int32) (y3 : Int32)  (w : Wd), BW Z 6 49 [(0, .ref (ph (zY Z) 0)), (1, .int y1), (2, .int y2), (3, .int y3)] [] w (k49 y1 y2 y3 w)) (fun _ _ _ _ => bw_none) (fun k49 hk49 y1 y2 y3 w => t_X12_ask_b49 hZ hE k49 hk49 y1 y2 y3 w) fu
def X12_ask_b13 (k13 : Int32 → Int32 → Int32 → Wd → Option (Int32 × Wd)) (y1 : Int32) (y2 : Int32) (y3 : Int32) (w : Wd) : Option (Int32 × Wd) :=
  if 3 ≤ y3 then
  (X12_ask_b49_L y1 y2 0 w)
  else
  cl (f_X12_greater y3 ((-1)) ((-1)) w) fun r12 w11 =>
  if r12 < y2 then
  (k13 y3 r12 (y3 + 1) w11)
  else
  k13 y1 y2 (y3 + 1) w11
set_option maxRecDepth 100000 in
set_option maxHeartbeats 4000000 in
theorem t_X12_ask_b13 {Z : Cz (Int32 × Wd)} (hZ : OKZ Z SM cX12_ask RX12 6 (some .int) 27) (hE : EndI Z) (k13 : Int32 → Int32 → Int32 → Wd → Option (Int32 × Wd)) (hk13 : ∀ (y1 : Int32) (y2 : Int32) (y3 : Int32)  (w : Wd), BW Z 6 13 [(0, .ref (ph (zY Z) 0)), (1, .int y1), (2, .int y2), (3, .int y3)] [] w (k13 y1 y2 y3 w)) (y1 : Int32) (y2 : Int32) (y3 : Int32)  (w : Wd) : BW Z 6 13 [(0, .ref (ph (zY Z) 0)), (1, .int y1), (2, .int y2), (3, .int y3)] [] w (X12_ask_b13 k13 y1 y2 y3 w) :=
  bw_iload_n hZ 3 rfl dX12_ask_13 <|
  bw_iconst hZ 3 (by decide) dX12_ask_14 <|
  bw_icmp_ge hZ (tgt := 47) (by decide) dX12_ask_15 (fun _ =>
  bw_iconst hZ 0 (by decide) dX12_ask_47 <|
  bw_istore_n hZ rfl (by decide) rfl dX12_ask_48 <|
  bw_sub [1, 2, 3, 0] rfl (t_X12_ask_b49_L hZ hE y1 y2 0 w)) (fun _ =>
  bw_aload_n hZ 0 rfl dX12_ask_18 <|
  bw_iload_n hZ 3 rfl dX12_ask_19 <|
  bw_iconst hZ (-1) (by decide) dX12_ask_20 <|
  bw_iconst hZ (-1) (by decide) dX12_ask_21 <|
  bw_callVI (As := [.int y3, .int ((-1)), .int ((-1))]) hZ ml_RX12_710 rc_12 obM_0 (by decide) (c_X12_greater (zl Z) (zY Z) (hZ_S hZ) y3 ((-1)) ((-1)) w) rfl rfl (Nat.le_of_ble_eq_true rfl) dX12_ask_22 fun r12 w11 =>
  bw_istore hZ (by decide) rfl dX12_ask_25 <|
  bw_iload hZ 0 rfl dX12_ask_27 <|
  bw_iload_n hZ 3 rfl dX12_ask_29 <|
  bw_icmp_lt hZ (tgt := 36) (by decide) dX12_ask_30 (fun _ =>
  bw_iload hZ 0 rfl dX12_ask_36 <|
  bw_istore_n hZ rfl (by decide) rfl dX12_ask_38 <|
  bw_iload_n hZ 4 rfl dX12_ask_39 <|
  bw_istore_n hZ rfl (by decide) rfl dX12_ask_40 <|
  bw_iinc hZ 1 4 rfl (by decide) (by decide) rfl dX12_ask_41 <|
  bw_goto hZ (tgt := 13) (by decide) dX12_ask_44 <|
  bw_sub [4, 1, 2, 0] rfl (hk13 y3 r12 (y3 + 1) w11)) (fun _ =>
  bw_goto hZ (tgt := 41) (by decide) dX12_ask_33 <|
  bw_iinc hZ 1 4 rfl (by decide) (by decide) rfl dX12_ask_41 <|
  bw_goto hZ (tgt := 13) (by decide) dX12_ask_44 <|
  bw_sub [2, 3, 4, 0] rfl (hk13 y1 y2 (y3 + 1) w11)))
def X12_ask_b13_L  : Int32 → Int32 → Int32 → Wd → Option (Int32 × Wd) :=
  lp fu (fun _ _ _ _ => none) (fun k13 => X12_ask_b13 k13)
theorem t_X12_ask_b13_L {Z : Cz (Int32 × Wd)} (hZ : OKZ Z SM cX12_ask RX12 6 (some .int) 27) (hE : EndI Z)  : ∀ (y1 : Int32) (y2 : Int32) (y3 : Int32)  (w : Wd), BW Z 6 13 [(0, .ref (ph (zY Z) 0)), (1, .int y1), (2, .int y2), (3, .int y3)] [] w (X12_ask_b13_L y1 y2 y3 w) :=
  lp_bw (fun k13 => ∀ (y1 : Int32) (y2 : Int32) (y3 : Int32)  (w : Wd), BW Z 6 13 [(0, .ref (ph (zY Z) 0)), (1, .int y1), (2, .int y2), (3, .int y3)] [] w (k13 y1 y2 y3 w)) (fun _ _ _ _ => bw_none) (fun k13 hk13 y1 y2 y3 w => t_X12_ask_b13 hZ hE k13 hk13 y1 y2 y3 w) fu
def f_X12_ask (w : Wd) : Option (Int32 × Wd) :=
  cv (f_X12_reckon w) fun w1 =>
  lt (w1.1 0 97) fun v2 =>
  X12_ask_b13_L ((-1)) v2 0 w1
set_option maxRecDepth 100000 in
set_option maxHeartbeats 4000000 in
theorem t_X12_ask {Z : Cz (Int32 × Wd)} (hZ : OKZ Z SM cX12_ask RX12 6 (some .int) 27) (hE : EndI Z)   (w : Wd) : BW Z 6 0 [(0, .ref (ph (zY Z) 0))] [] w (f_X12_ask w) :=
  bw_aload_n hZ 0 rfl dX12_ask_0 <|
  bw_callVV (As := []) hZ ml_RX12_700 rc_12 obM_0 (by decide) (c_X12_reckon (zl Z) (zY Z) (hZ_S hZ) w) rfl rfl (Nat.le_of_ble_eq_true rfl) dX12_ask_1 fun w1 =>
  bw_iconst hZ (-1) (by decide) dX12_ask_4 <|
  bw_istore_n hZ rfl (by decide) rfl dX12_ask_5 <|
  bw_aload_n hZ 1 rfl dX12_ask_6 <|
  bw_getI hZ fl_RX12_691 (by decide) obM_0 dX12_ask_7 <|
  bw_nm fun v2 =>
  bw_istore_n hZ rfl (by decide) rfl dX12_ask_10 <|
  bw_iconst hZ 0 (by decide) dX12_ask_11 <|
  bw_istore_n hZ rfl (by decide) rfl dX12_ask_12 <|
  bw_sub [3, 2, 1, 0] rfl (t_X12_ask_b13_L hZ hE ((-1)) v2 0 w1)
theorem c_X12_ask (l : Launch) (Y : Ev) (hY : Y.1 = SM)   (w : Wd) : CI l Y yX12_ask cX12_ask 6 27 [.ref (ph Y 0)] w .int (f_X12_ask w) := by
  refine CI_of (S := SM) (by decide) (Nat.le_of_ble_eq_true rfl) hY ?_
  intro Z hl hY2 hZ hE
  subst hY2
  exact t_X12_ask hZ hE w
-- WhichWillModel.says
theorem dX12_says_0 : decode cX12_says 0 = .ok (.aload_n 0, 1) := by decide +kernel
theorem dX12_says_1 : decode cX12_says 1 = .ok (.iload_n 1, 1) := by decide +kernel
theorem dX12_says_2 : decode cX12_says 2 = .ok (.invokevirtual 682, 3) := by decide +kernel
theorem dX12_says_5 : decode cX12_says 5 = .ok (.ifCond .eq 25, 3) := by decide +kernel
theorem dX12_says_8 : decode cX12_says 8 = .ok (.iload_n 2, 1) := by decide +kernel
theorem dX12_says_9 : decode cX12_says 9 = .ok (.i2l, 1) := by decide +kernel
theorem dX12_says_10 : decode cX12_says 10 = .ok (.lconst 0, 1) := by decide +kernel
theorem dX12_says_11 : decode cX12_says 11 = .ok (.ldc2_w 539, 3) := by decide +kernel
theorem dX12_says_14 : decode cX12_says 14 = .ok (.invokestatic 60, 3) := by decide +kernel
theorem dX12_says_17 : decode cX12_says 17 = .ok (.ifCond .eq 13, 3) := by decide +kernel
theorem dX12_says_20 : decode cX12_says 20 = .ok (.iload_n 3, 1) := by decide +kernel
theorem dX12_says_21 : decode cX12_says 21 = .ok (.i2l, 1) := by decide +kernel
theorem dX12_says_22 : decode cX12_says 22 = .ok (.lconst 0, 1) := by decide +kernel
theorem dX12_says_23 : decode cX12_says 23 = .ok (.lconst 1, 1) := by decide +kernel
theorem dX12_says_24 : decode cX12_says 24 = .ok (.invokestatic 60, 3) := by decide +kernel
theorem dX12_says_27 : decode cX12_says 27 = .ok (.ifCond .ne 6, 3) := by decide +kernel
theorem dX12_says_30 : decode cX12_says 30 = .ok (.bipush (-2), 2) := by decide +kernel
theorem dX12_says_32 : decode cX12_says 32 = .ok (.ireturn, 1) := by decide +kernel
theorem dX12_says_33 : decode cX12_says 33 = .ok (.aload_n 0, 1) := by decide +kernel
theorem dX12_says_34 : decode cX12_says 34 = .ok (.getfield 437, 3) := by decide +kernel
theorem dX12_says_37 : decode cX12_says 37 = .ok (.bipush 8, 2) := by decide +kernel
theorem dX12_says_39 : decode cX12_says 39 = .ok (.if_icmp .ne 6, 3) := by decide +kernel
theorem dX12_says_42 : decode cX12_says 42 = .ok (.bipush (-3), 2) := by decide +kernel
theorem dX12_says_44 : decode cX12_says 44 = .ok (.ireturn, 1) := by decide +kernel
theorem dX12_says_45 : decode cX12_says 45 = .ok (.aload_n 0, 1) := by decide +kernel
theorem dX12_says_46 : decode cX12_says 46 = .ok (.getfield 378, 3) := by decide +kernel
theorem dX12_says_49 : decode cX12_says 49 = .ok (.aload_n 0, 1) := by decide +kernel
theorem dX12_says_50 : decode cX12_says 50 = .ok (.getfield 437, 3) := by decide +kernel
theorem dX12_says_53 : decode cX12_says 53 = .ok (.iload_n 1, 1) := by decide +kernel
theorem dX12_says_54 : decode cX12_says 54 = .ok (.iastore, 1) := by decide +kernel
theorem dX12_says_55 : decode cX12_says 55 = .ok (.aload_n 0, 1) := by decide +kernel
theorem dX12_says_56 : decode cX12_says 56 = .ok (.getfield 381, 3) := by decide +kernel
theorem dX12_says_59 : decode cX12_says 59 = .ok (.aload_n 0, 1) := by decide +kernel
theorem dX12_says_60 : decode cX12_says 60 = .ok (.getfield 437, 3) := by decide +kernel
theorem dX12_says_63 : decode cX12_says 63 = .ok (.iload_n 2, 1) := by decide +kernel
theorem dX12_says_64 : decode cX12_says 64 = .ok (.iastore, 1) := by decide +kernel
theorem dX12_says_65 : decode cX12_says 65 = .ok (.aload_n 0, 1) := by decide +kernel
theorem dX12_says_66 : decode cX12_says 66 = .ok (.getfield 384, 3) := by decide +kernel
theorem dX12_says_69 : decode cX12_says 69 = .ok (.aload_n 0, 1) := by decide +kernel
theorem dX12_says_70 : decode cX12_says 70 = .ok (.getfield 437, 3) := by decide +kernel
theorem dX12_says_73 : decode cX12_says 73 = .ok (.iload_n 3, 1) := by decide +kernel
theorem dX12_says_74 : decode cX12_says 74 = .ok (.iastore, 1) := by decide +kernel
theorem dX12_says_75 : decode cX12_says 75 = .ok (.aload_n 0, 1) := by decide +kernel
theorem dX12_says_76 : decode cX12_says 76 = .ok (.dup, 1) := by decide +kernel
theorem dX12_says_77 : decode cX12_says 77 = .ok (.getfield 437, 3) := by decide +kernel
theorem dX12_says_80 : decode cX12_says 80 = .ok (.iconst 1, 1) := by decide +kernel
theorem dX12_says_81 : decode cX12_says 81 = .ok (.iadd, 1) := by decide +kernel
theorem dX12_says_82 : decode cX12_says 82 = .ok (.putfield 437, 3) := by decide +kernel
theorem dX12_says_85 : decode cX12_says 85 = .ok (.aload_n 0, 1) := by decide +kernel
theorem dX12_says_86 : decode cX12_says 86 = .ok (.getfield 437, 3) := by decide +kernel
theorem dX12_says_89 : decode cX12_says 89 = .ok (.iconst 1, 1) := by decide +kernel
theorem dX12_says_90 : decode cX12_says 90 = .ok (.isub, 1) := by decide +kernel
theorem dX12_says_91 : decode cX12_says 91 = .ok (.ireturn, 1) := by decide +kernel
def f_X12_says (x1 : Int32) (x2 : Int32) (x3 : Int32) (w : Wd) : Option (Int32 × Wd) :=
  cl (f_X12_isPerson x1 w) fun r2 w1 =>
  if r2 = 0 then
  (some ((-2), w1))
  else
  cl (f_X12_in (Int32.toInt64 x2) 0 2 w1) fun r4 w3 =>
  if r4 = 0 then
  (some ((-2), w3))
  else
  cl (f_X12_in (Int32.toInt64 x3) 0 1 w3) fun r6 w5 =>
  if r6 = 0 then
  (some ((-2), w5))
  else
  if (w5.1 0 99) = 8 then
  (some ((-3), w5))
  else
  if inb (w5.1 0 99) 8 = true then
  (lt (wI w5 55 (Int32.toNatClampNeg (w5.1 0 99)) x1) fun w7 =>
  if inb (w7.1 0 99) 8 = true then
  (lt (wI w7 56 (Int32.toNatClampNeg (w7.1 0 99)) x2) fun w8 =>
  if inb (w8.1 0 99) 8 = true then
  (lt (wI w8 57 (Int32.toNatClampNeg (w8.1 0 99)) x3) fun w9 =>
  lt (wI w9 0 99 ((w9.1 0 99) + 1)) fun w10 =>
  some ((w10.1 0 99) - 1, w10))
  else none)
  else none)
  else none
set_option maxRecDepth 100000 in
set_option maxHeartbeats 4000000 in
theorem t_X12_says {Z : Cz (Int32 × Wd)} (hZ : OKZ Z SM cX12_says RX12 4 (some .int) 3) (hE : EndI Z) (x1 : Int32) (x2 : Int32) (x3 : Int32)  (w : Wd) : BW Z 4 0 [(0, .ref (ph (zY Z) 0)), (1, .int x1), (2, .int x2), (3, .int x3)] [] w (f_X12_says x1 x2 x3 w) :=
  bw_aload_n hZ 0 rfl dX12_says_0 <|
  bw_iload_n hZ 1 rfl dX12_says_1 <|
  bw_callVI (As := [.int x1]) hZ ml_RX12_682 rc_12 obM_0 (by decide) (c_X12_isPerson (zl Z) (zY Z) (hZ_S hZ) x1 w) rfl rfl (Nat.le_of_ble_eq_true rfl) dX12_says_2 fun r2 w1 =>
  bw_if_eq hZ (tgt := 30) (by decide) dX12_says_5 (fun _ =>
  bw_bipush hZ (-2) (by decide) dX12_says_30 <|
  bw_iret hZ hE dX12_says_32) (fun _ =>
  bw_iload_n hZ 2 rfl dX12_says_8 <|
  bw_i2l hZ dX12_says_9 <|
  bw_lconst hZ 0 (by decide) dX12_says_10 <|
  bw_ldc2 hZ kk_RX12_539 dX12_says_11 <|
  bw_callSI (As := [.long (Int32.toInt64 x2), .long 0, .long 2]) hZ ms_RX12_60 (by decide) (c_X12_in (zl Z) (zY Z) (hZ_S hZ) (Int32.toInt64 x2) 0 2 w1) rfl rfl (Nat.le_of_ble_eq_true rfl) dX12_says_14 fun r4 w3 =>
  bw_if_eq hZ (tgt := 30) (by decide) dX12_says_17 (fun _ =>
  bw_bipush hZ (-2) (by decide) dX12_says_30 <|
  bw_iret hZ hE dX12_says_32) (fun _ =>
  bw_iload_n hZ 3 rfl dX12_says_20 <|
  bw_i2l hZ dX12_says_21 <|
  bw_lconst hZ 0 (by decide) dX12_says_22 <|
  bw_lconst hZ 1 (by decide) dX12_says_23 <|
  bw_callSI (As := [.long (Int32.toInt64 x3), .long 0, .long 1]) hZ ms_RX12_60 (by decide) (c_X12_in (zl Z) (zY Z) (hZ_S hZ) (Int32.toInt64 x3) 0 1 w3) rfl rfl (Nat.le_of_ble_eq_true rfl) dX12_says_24 fun r6 w5 =>
  bw_if_ne hZ (tgt := 33) (by decide) dX12_says_27 (fun _ =>
  bw_aload_n hZ 0 rfl dX12_says_33 <|
  bw_getI hZ fl_RX12_437 (by decide) obM_0 dX12_says_34 <|
  bw_bipush hZ 8 (by decide) dX12_says_37 <|
  bw_icmp_ne hZ (tgt := 45) (by decide) dX12_says_39 (fun _ =>
  bw_aload_n hZ 0 rfl dX12_says_45 <|
  bw_getR hZ fl_RX12_378 obM_0 rfl dX12_says_46 <|
  bw_aload_n hZ 0 rfl dX12_says_49 <|
  bw_getI hZ fl_RX12_437 (by decide) obM_0 dX12_says_50 <|
  bw_iload_n hZ 1 rfl dX12_says_53 <|
  bw_iast hZ (arM_55 _) dX12_says_54 fun w7 =>
  bw_aload_n hZ 0 rfl dX12_says_55 <|
  bw_getR hZ fl_RX12_381 obM_0 rfl dX12_says_56 <|
  bw_aload_n hZ 0 rfl dX12_says_59 <|
  bw_getI hZ fl_RX12_437 (by decide) obM_0 dX12_says_60 <|
  bw_iload_n hZ 2 rfl dX12_says_63 <|
  bw_iast hZ (arM_56 _) dX12_says_64 fun w8 =>
  bw_aload_n hZ 0 rfl dX12_says_65 <|
  bw_getR hZ fl_RX12_384 obM_0 rfl dX12_says_66 <|
  bw_aload_n hZ 0 rfl dX12_says_69 <|
  bw_getI hZ fl_RX12_437 (by decide) obM_0 dX12_says_70 <|
  bw_iload_n hZ 3 rfl dX12_says_73 <|
  bw_iast hZ (arM_57 _) dX12_says_74 fun w9 =>
  bw_aload_n hZ 0 rfl dX12_says_75 <|
  bw_dup hZ rfl dX12_says_76 <|
  bw_getI hZ fl_RX12_437 (by decide) obM_0 dX12_says_77 <|
  bw_iconst hZ 1 (by decide) dX12_says_80 <|
  bw_iadd hZ dX12_says_81 <|
  bw_putI hZ fl_RX12_437 rfl rfl (by decide) obM_0 dX12_says_82 fun w10 =>
  bw_aload_n hZ 0 rfl dX12_says_85 <|
  bw_getI hZ fl_RX12_437 (by decide) obM_0 dX12_says_86 <|
  bw_iconst hZ 1 (by decide) dX12_says_89 <|
  bw_isub hZ dX12_says_90 <|
  bw_iret hZ hE dX12_says_91) (fun _ =>
  bw_bipush hZ (-3) (by decide) dX12_says_42 <|
  bw_iret hZ hE dX12_says_44)) (fun _ =>
  bw_bipush hZ (-2) (by decide) dX12_says_30 <|
  bw_iret hZ hE dX12_says_32)))
theorem c_X12_says (l : Launch) (Y : Ev) (hY : Y.1 = SM) (x1 : Int32) (x2 : Int32) (x3 : Int32)  (w : Wd) : CI l Y yX12_says cX12_says 4 3 [.ref (ph Y 0), .int x1, .int x2, .int x3] w .int (f_X12_says x1 x2 x3 w) := by
  refine CI_of (S := SM) (by decide) (Nat.le_of_ble_eq_true rfl) hY ?_
  intro Z hl hY2 hZ hE
  subst hY2
  exact t_X12_says hZ hE x1 x2 x3 w
-- WhichWillModel.nameOf
theorem dX12_nameOf_0 : decode cX12_nameOf 0 = .ok (.iload_n 1, 1) := by decide +kernel
theorem dX12_nameOf_1 : decode cX12_nameOf 1 = .ok (.aload_n 0, 1) := by decide +kernel
theorem dX12_nameOf_2 : decode cX12_nameOf 2 = .ok (.getfield 431, 3) := by decide +kernel
theorem dX12_nameOf_5 : decode cX12_nameOf 5 = .ok (.if_icmp .ge 7, 3) := by decide +kernel
theorem dX12_nameOf_8 : decode cX12_nameOf 8 = .ok (.iload_n 1, 1) := by decide +kernel
theorem dX12_nameOf_9 : decode cX12_nameOf 9 = .ok (.goto 12, 3) := by decide +kernel
theorem dX12_nameOf_12 : decode cX12_nameOf 12 = .ok (.bipush 10, 2) := by decide +kernel
theorem dX12_nameOf_14 : decode cX12_nameOf 14 = .ok (.iload_n 1, 1) := by decide +kernel
theorem dX12_nameOf_15 : decode cX12_nameOf 15 = .ok (.iadd, 1) := by decide +kernel
theorem dX12_nameOf_16 : decode cX12_nameOf 16 = .ok (.aload_n 0, 1) := by decide +kernel
theorem dX12_nameOf_17 : decode cX12_nameOf 17 = .ok (.getfield 431, 3) := by decide +kernel
theorem dX12_nameOf_20 : decode cX12_nameOf 20 = .ok (.isub, 1) := by decide +kernel
theorem dX12_nameOf_21 : decode cX12_nameOf 21 = .ok (.ireturn, 1) := by decide +kernel
def f_X12_nameOf (x1 : Int32) (w : Wd) : Option (Int32 × Wd) :=
  if (w.1 0 49) ≤ x1 then
  (some ((10 + x1) - (w.1 0 49), w))
  else
  some (x1, w)
set_option maxRecDepth 100000 in
set_option maxHeartbeats 4000000 in
theorem t_X12_nameOf {Z : Cz (Int32 × Wd)} (hZ : OKZ Z SM cX12_nameOf RX12 2 (some .int) 1) (hE : EndI Z) (x1 : Int32)  (w : Wd) : BW Z 2 0 [(0, .ref (ph (zY Z) 0)), (1, .int x1)] [] w (f_X12_nameOf x1 w) :=
  bw_iload_n hZ 1 rfl dX12_nameOf_0 <|
  bw_aload_n hZ 0 rfl dX12_nameOf_1 <|
  bw_getI hZ fl_RX12_431 (by decide) obM_0 dX12_nameOf_2 <|
  bw_icmp_ge hZ (tgt := 12) (by decide) dX12_nameOf_5 (fun _ =>
  bw_bipush hZ 10 (by decide) dX12_nameOf_12 <|
  bw_iload_n hZ 1 rfl dX12_nameOf_14 <|
  bw_iadd hZ dX12_nameOf_15 <|
  bw_aload_n hZ 0 rfl dX12_nameOf_16 <|
  bw_getI hZ fl_RX12_431 (by decide) obM_0 dX12_nameOf_17 <|
  bw_isub hZ dX12_nameOf_20 <|
  bw_iret hZ hE dX12_nameOf_21) (fun _ =>
  bw_iload_n hZ 1 rfl dX12_nameOf_8 <|
  bw_goto hZ (tgt := 21) (by decide) dX12_nameOf_9 <|
  bw_iret hZ hE dX12_nameOf_21)
theorem c_X12_nameOf (l : Launch) (Y : Ev) (hY : Y.1 = SM) (x1 : Int32)  (w : Wd) : CI l Y yX12_nameOf cX12_nameOf 2 1 [.ref (ph Y 0), .int x1] w .int (f_X12_nameOf x1 w) := by
  refine CI_of (S := SM) (by decide) (Nat.le_of_ble_eq_true rfl) hY ?_
  intro Z hl hY2 hZ hE
  subst hY2
  exact t_X12_nameOf hZ hE x1 w
-- WhichWillModel.itemOf
theorem dX12_itemOf_0 : decode cX12_itemOf 0 = .ok (.iload_n 1, 1) := by decide +kernel
theorem dX12_itemOf_1 : decode cX12_itemOf 1 = .ok (.bipush 10, 2) := by decide +kernel
theorem dX12_itemOf_3 : decode cX12_itemOf 3 = .ok (.if_icmp .ge 7, 3) := by decide +kernel
theorem dX12_itemOf_6 : decode cX12_itemOf 6 = .ok (.iload_n 1, 1) := by decide +kernel
theorem dX12_itemOf_7 : decode cX12_itemOf 7 = .ok (.goto 12, 3) := by decide +kernel
theorem dX12_itemOf_10 : decode cX12_itemOf 10 = .ok (.aload_n 0, 1) := by decide +kernel
theorem dX12_itemOf_11 : decode cX12_itemOf 11 = .ok (.getfield 431, 3) := by decide +kernel
theorem dX12_itemOf_14 : decode cX12_itemOf 14 = .ok (.iload_n 1, 1) := by decide +kernel
theorem dX12_itemOf_15 : decode cX12_itemOf 15 = .ok (.iadd, 1) := by decide +kernel
theorem dX12_itemOf_16 : decode cX12_itemOf 16 = .ok (.bipush 10, 2) := by decide +kernel
theorem dX12_itemOf_18 : decode cX12_itemOf 18 = .ok (.isub, 1) := by decide +kernel
theorem dX12_itemOf_19 : decode cX12_itemOf 19 = .ok (.ireturn, 1) := by decide +kernel
def f_X12_itemOf (x1 : Int32) (w : Wd) : Option (Int32 × Wd) :=
  if 10 ≤ x1 then
  (some (((w.1 0 49) + x1) - 10, w))
  else
  some (x1, w)
set_option maxRecDepth 100000 in
set_option maxHeartbeats 4000000 in
theorem t_X12_itemOf {Z : Cz (Int32 × Wd)} (hZ : OKZ Z SM cX12_itemOf RX12 2 (some .int) 1) (hE : EndI Z) (x1 : Int32)  (w : Wd) : BW Z 2 0 [(0, .ref (ph (zY Z) 0)), (1, .int x1)] [] w (f_X12_itemOf x1 w) :=
  bw_iload_n hZ 1 rfl dX12_itemOf_0 <|
  bw_bipush hZ 10 (by decide) dX12_itemOf_1 <|
  bw_icmp_ge hZ (tgt := 10) (by decide) dX12_itemOf_3 (fun _ =>
  bw_aload_n hZ 0 rfl dX12_itemOf_10 <|
  bw_getI hZ fl_RX12_431 (by decide) obM_0 dX12_itemOf_11 <|
  bw_iload_n hZ 1 rfl dX12_itemOf_14 <|
  bw_iadd hZ dX12_itemOf_15 <|
  bw_bipush hZ 10 (by decide) dX12_itemOf_16 <|
  bw_isub hZ dX12_itemOf_18 <|
  bw_iret hZ hE dX12_itemOf_19) (fun _ =>
  bw_iload_n hZ 1 rfl dX12_itemOf_6 <|
  bw_goto hZ (tgt := 19) (by decide) dX12_itemOf_7 <|
  bw_iret hZ hE dX12_itemOf_19)
theorem c_X12_itemOf (l : Launch) (Y : Ev) (hY : Y.1 = SM) (x1 : Int32)  (w : Wd) : CI l Y yX12_itemOf cX12_itemOf 2 1 [.ref (ph Y 0), .int x1] w .int (f_X12_itemOf x1 w) := by
  refine CI_of (S := SM) (by decide) (Nat.le_of_ble_eq_true rfl) hY ?_
  intro Z hl hY2 hZ hE
  subst hY2
  exact t_X12_itemOf hZ hE x1 w
-- WhichWillModel.tells
theorem dX12_tells_0 : decode cX12_tells 0 = .ok (.aload_n 0, 1) := by decide +kernel
theorem dX12_tells_1 : decode cX12_tells 1 = .ok (.iload_n 1, 1) := by decide +kernel
theorem dX12_tells_2 : decode cX12_tells 2 = .ok (.invokevirtual 682, 3) := by decide +kernel
theorem dX12_tells_5 : decode cX12_tells 5 = .ok (.ifCond .eq 24, 3) := by decide +kernel
theorem dX12_tells_8 : decode cX12_tells 8 = .ok (.aload_n 0, 1) := by decide +kernel
theorem dX12_tells_9 : decode cX12_tells 9 = .ok (.iload_n 2, 1) := by decide +kernel
theorem dX12_tells_10 : decode cX12_tells 10 = .ok (.invokevirtual 570, 3) := by decide +kernel
theorem dX12_tells_13 : decode cX12_tells 13 = .ok (.ifCond .eq 16, 3) := by decide +kernel
theorem dX12_tells_16 : decode cX12_tells 16 = .ok (.aload_n 0, 1) := by decide +kernel
theorem dX12_tells_17 : decode cX12_tells 17 = .ok (.iload_n 3, 1) := by decide +kernel
theorem dX12_tells_18 : decode cX12_tells 18 = .ok (.invokevirtual 570, 3) := by decide +kernel
theorem dX12_tells_21 : decode cX12_tells 21 = .ok (.ifCond .eq 8, 3) := by decide +kernel
theorem dX12_tells_24 : decode cX12_tells 24 = .ok (.iload_n 2, 1) := by decide +kernel
theorem dX12_tells_25 : decode cX12_tells 25 = .ok (.iload_n 3, 1) := by decide +kernel
theorem dX12_tells_26 : decode cX12_tells 26 = .ok (.if_icmp .ne 6, 3) := by decide +kernel
theorem dX12_tells_29 : decode cX12_tells 29 = .ok (.bipush (-2), 2) := by decide +kernel
theorem dX12_tells_31 : decode cX12_tells 31 = .ok (.ireturn, 1) := by decide +kernel
theorem dX12_tells_32 : decode cX12_tells 32 = .ok (.aload_n 0, 1) := by decide +kernel
theorem dX12_tells_33 : decode cX12_tells 33 = .ok (.getfield 437, 3) := by decide +kernel
theorem dX12_tells_36 : decode cX12_tells 36 = .ok (.bipush 8, 2) := by decide +kernel
theorem dX12_tells_38 : decode cX12_tells 38 = .ok (.if_icmp .ne 6, 3) := by decide +kernel
theorem dX12_tells_41 : decode cX12_tells 41 = .ok (.bipush (-3), 2) := by decide +kernel
theorem dX12_tells_43 : decode cX12_tells 43 = .ok (.ireturn, 1) := by decide +kernel
theorem dX12_tells_44 : decode cX12_tells 44 = .ok (.aload_n 0, 1) := by decide +kernel
theorem dX12_tells_45 : decode cX12_tells 45 = .ok (.getfield 378, 3) := by decide +kernel
theorem dX12_tells_48 : decode cX12_tells 48 = .ok (.aload_n 0, 1) := by decide +kernel
theorem dX12_tells_49 : decode cX12_tells 49 = .ok (.getfield 437, 3) := by decide +kernel
theorem dX12_tells_52 : decode cX12_tells 52 = .ok (.iload_n 1, 1) := by decide +kernel
theorem dX12_tells_53 : decode cX12_tells 53 = .ok (.iastore, 1) := by decide +kernel
theorem dX12_tells_54 : decode cX12_tells 54 = .ok (.aload_n 0, 1) := by decide +kernel
theorem dX12_tells_55 : decode cX12_tells 55 = .ok (.getfield 381, 3) := by decide +kernel
theorem dX12_tells_58 : decode cX12_tells 58 = .ok (.aload_n 0, 1) := by decide +kernel
theorem dX12_tells_59 : decode cX12_tells 59 = .ok (.getfield 437, 3) := by decide +kernel
theorem dX12_tells_62 : decode cX12_tells 62 = .ok (.iconst (-1), 1) := by decide +kernel
theorem dX12_tells_63 : decode cX12_tells 63 = .ok (.iastore, 1) := by decide +kernel
theorem dX12_tells_64 : decode cX12_tells 64 = .ok (.aload_n 0, 1) := by decide +kernel
theorem dX12_tells_65 : decode cX12_tells 65 = .ok (.getfield 387, 3) := by decide +kernel
theorem dX12_tells_68 : decode cX12_tells 68 = .ok (.aload_n 0, 1) := by decide +kernel
theorem dX12_tells_69 : decode cX12_tells 69 = .ok (.getfield 437, 3) := by decide +kernel
theorem dX12_tells_72 : decode cX12_tells 72 = .ok (.aload_n 0, 1) := by decide +kernel
theorem dX12_tells_73 : decode cX12_tells 73 = .ok (.iload_n 2, 1) := by decide +kernel
theorem dX12_tells_74 : decode cX12_tells 74 = .ok (.invokevirtual 714, 3) := by decide +kernel
theorem dX12_tells_77 : decode cX12_tells 77 = .ok (.iastore, 1) := by decide +kernel
theorem dX12_tells_78 : decode cX12_tells 78 = .ok (.aload_n 0, 1) := by decide +kernel
theorem dX12_tells_79 : decode cX12_tells 79 = .ok (.getfield 390, 3) := by decide +kernel
theorem dX12_tells_82 : decode cX12_tells 82 = .ok (.aload_n 0, 1) := by decide +kernel
theorem dX12_tells_83 : decode cX12_tells 83 = .ok (.getfield 437, 3) := by decide +kernel
theorem dX12_tells_86 : decode cX12_tells 86 = .ok (.aload_n 0, 1) := by decide +kernel
theorem dX12_tells_87 : decode cX12_tells 87 = .ok (.iload_n 3, 1) := by decide +kernel
theorem dX12_tells_88 : decode cX12_tells 88 = .ok (.invokevirtual 714, 3) := by decide +kernel
theorem dX12_tells_91 : decode cX12_tells 91 = .ok (.iastore, 1) := by decide +kernel
theorem dX12_tells_92 : decode cX12_tells 92 = .ok (.aload_n 0, 1) := by decide +kernel
theorem dX12_tells_93 : decode cX12_tells 93 = .ok (.dup, 1) := by decide +kernel
theorem dX12_tells_94 : decode cX12_tells 94 = .ok (.getfield 437, 3) := by decide +kernel
theorem dX12_tells_97 : decode cX12_tells 97 = .ok (.iconst 1, 1) := by decide +kernel
theorem dX12_tells_98 : decode cX12_tells 98 = .ok (.iadd, 1) := by decide +kernel
theorem dX12_tells_99 : decode cX12_tells 99 = .ok (.putfield 437, 3) := by decide +kernel
theorem dX12_tells_102 : decode cX12_tells 102 = .ok (.aload_n 0, 1) := by decide +kernel
theorem dX12_tells_103 : decode cX12_tells 103 = .ok (.getfield 437, 3) := by decide +kernel
theorem dX12_tells_106 : decode cX12_tells 106 = .ok (.iconst 1, 1) := by decide +kernel
theorem dX12_tells_107 : decode cX12_tells 107 = .ok (.isub, 1) := by decide +kernel
theorem dX12_tells_108 : decode cX12_tells 108 = .ok (.ireturn, 1) := by decide +kernel
def f_X12_tells (x1 : Int32) (x2 : Int32) (x3 : Int32) (w : Wd) : Option (Int32 × Wd) :=
  cl (f_X12_isPerson x1 w) fun r2 w1 =>
  if r2 = 0 then
  (some ((-2), w1))
  else
  cl (f_X12_isItem x2 w1) fun r4 w3 =>
  if r4 = 0 then
  (some ((-2), w3))
  else
  cl (f_X12_isItem x3 w3) fun r6 w5 =>
  if r6 = 0 then
  (some ((-2), w5))
  else
  if x2 = x3 then
  (some ((-2), w5))
  else
  if (w5.1 0 99) = 8 then
  (some ((-3), w5))
  else
  if inb (w5.1 0 99) 8 = true then
  (lt (wI w5 55 (Int32.toNatClampNeg (w5.1 0 99)) x1) fun w7 =>
  if inb (w7.1 0 99) 8 = true then
  (lt (wI w7 56 (Int32.toNatClampNeg (w7.1 0 99)) ((-1))) fun w8 =>
  cl (f_X12_nameOf x2 w8) fun r10 w9 =>
  if inb (w8.1 0 99) 8 = true then
  (lt (wI w9 58 (Int32.toNatClampNeg (w8.1 0 99)) r10) fun w11 =>
  cl (f_X12_nameOf x3 w11) fun r13 w12 =>
  if inb (w11.1 0 99) 8 = true then
  (lt (wI w12 59 (Int32.toNatClampNeg (w11.1 0 99)) r13) fun w14 =>
  lt (wI w14 0 99 ((w14.1 0 99) + 1)) fun w15 =>
  some ((w15.1 0 99) - 1, w15))
  else none)
  else none)
  else none)
  else none
set_option maxRecDepth 100000 in
set_option maxHeartbeats 4000000 in
theorem t_X12_tells {Z : Cz (Int32 × Wd)} (hZ : OKZ Z SM cX12_tells RX12 4 (some .int) 3) (hE : EndI Z) (x1 : Int32) (x2 : Int32) (x3 : Int32)  (w : Wd) : BW Z 4 0 [(0, .ref (ph (zY Z) 0)), (1, .int x1), (2, .int x2), (3, .int x3)] [] w (f_X12_tells x1 x2 x3 w) :=
  bw_aload_n hZ 0 rfl dX12_tells_0 <|
  bw_iload_n hZ 1 rfl dX12_tells_1 <|
  bw_callVI (As := [.int x1]) hZ ml_RX12_682 rc_12 obM_0 (by decide) (c_X12_isPerson (zl Z) (zY Z) (hZ_S hZ) x1 w) rfl rfl (Nat.le_of_ble_eq_true rfl) dX12_tells_2 fun r2 w1 =>
  bw_if_eq hZ (tgt := 29) (by decide) dX12_tells_5 (fun _ =>
  bw_bipush hZ (-2) (by decide) dX12_tells_29 <|
  bw_iret hZ hE dX12_tells_31) (fun _ =>
  bw_aload_n hZ 0 rfl dX12_tells_8 <|
  bw_iload_n hZ 2 rfl dX12_tells_9 <|
  bw_callVI (As := [.int x2]) hZ ml_RX12_570 rc_12 obM_0 (by decide) (c_X12_isItem (zl Z) (zY Z) (hZ_S hZ) x2 w1) rfl rfl (Nat.le_of_ble_eq_true rfl) dX12_tells_10 fun r4 w3 =>
  bw_if_eq hZ (tgt := 29) (by decide) dX12_tells_13 (fun _ =>
  bw_bipush hZ (-2) (by decide) dX12_tells_29 <|
  bw_iret hZ hE dX12_tells_31) (fun _ =>
  bw_aload_n hZ 0 rfl dX12_tells_16 <|
  bw_iload_n hZ 3 rfl dX12_tells_17 <|
  bw_callVI (As := [.int x3]) hZ ml_RX12_570 rc_12 obM_0 (by decide) (c_X12_isItem (zl Z) (zY Z) (hZ_S hZ) x3 w3) rfl rfl (Nat.le_of_ble_eq_true rfl) dX12_tells_18 fun r6 w5 =>
  bw_if_eq hZ (tgt := 29) (by decide) dX12_tells_21 (fun _ =>
  bw_bipush hZ (-2) (by decide) dX12_tells_29 <|
  bw_iret hZ hE dX12_tells_31) (fun _ =>
  bw_iload_n hZ 2 rfl dX12_tells_24 <|
  bw_iload_n hZ 3 rfl dX12_tells_25 <|
  bw_icmp_ne hZ (tgt := 32) (by decide) dX12_tells_26 (fun _ =>
  bw_aload_n hZ 0 rfl dX12_tells_32 <|
  bw_getI hZ fl_RX12_437 (by decide) obM_0 dX12_tells_33 <|
  bw_bipush hZ 8 (by decide) dX12_tells_36 <|
  bw_icmp_ne hZ (tgt := 44) (by decide) dX12_tells_38 (fun _ =>
  bw_aload_n hZ 0 rfl dX12_tells_44 <|
  bw_getR hZ fl_RX12_378 obM_0 rfl dX12_tells_45 <|
  bw_aload_n hZ 0 rfl dX12_tells_48 <|
  bw_getI hZ fl_RX12_437 (by decide) obM_0 dX12_tells_49 <|
  bw_iload_n hZ 1 rfl dX12_tells_52 <|
  bw_iast hZ (arM_55 _) dX12_tells_53 fun w7 =>
  bw_aload_n hZ 0 rfl dX12_tells_54 <|
  bw_getR hZ fl_RX12_381 obM_0 rfl dX12_tells_55 <|
  bw_aload_n hZ 0 rfl dX12_tells_58 <|
  bw_getI hZ fl_RX12_437 (by decide) obM_0 dX12_tells_59 <|
  bw_iconst hZ (-1) (by decide) dX12_tells_62 <|
  bw_iast hZ (arM_56 _) dX12_tells_63 fun w8 =>
  bw_aload_n hZ 0 rfl dX12_tells_64 <|
  bw_getR hZ fl_RX12_387 obM_0 rfl dX12_tells_65 <|
  bw_aload_n hZ 0 rfl dX12_tells_68 <|
  bw_getI hZ fl_RX12_437 (by decide) obM_0 dX12_tells_69 <|
  bw_aload_n hZ 0 rfl dX12_tells_72 <|
  bw_iload_n hZ 2 rfl dX12_tells_73 <|
  bw_callVI (As := [.int x2]) hZ ml_RX12_714 rc_12 obM_0 (by decide) (c_X12_nameOf (zl Z) (zY Z) (hZ_S hZ) x2 w8) rfl rfl (Nat.le_of_ble_eq_true rfl) dX12_tells_74 fun r10 w9 =>
  bw_iast hZ (arM_58 _) dX12_tells_77 fun w11 =>
  bw_aload_n hZ 0 rfl dX12_tells_78 <|
  bw_getR hZ fl_RX12_390 obM_0 rfl dX12_tells_79 <|
  bw_aload_n hZ 0 rfl dX12_tells_82 <|
  bw_getI hZ fl_RX12_437 (by decide) obM_0 dX12_tells_83 <|
  bw_aload_n hZ 0 rfl dX12_tells_86 <|
  bw_iload_n hZ 3 rfl dX12_tells_87 <|
  bw_callVI (As := [.int x3]) hZ ml_RX12_714 rc_12 obM_0 (by decide) (c_X12_nameOf (zl Z) (zY Z) (hZ_S hZ) x3 w11) rfl rfl (Nat.le_of_ble_eq_true rfl) dX12_tells_88 fun r13 w12 =>
  bw_iast hZ (arM_59 _) dX12_tells_91 fun w14 =>
  bw_aload_n hZ 0 rfl dX12_tells_92 <|
  bw_dup hZ rfl dX12_tells_93 <|
  bw_getI hZ fl_RX12_437 (by decide) obM_0 dX12_tells_94 <|
  bw_iconst hZ 1 (by decide) dX12_tells_97 <|
  bw_iadd hZ dX12_tells_98 <|
  bw_putI hZ fl_RX12_437 rfl rfl (by decide) obM_0 dX12_tells_99 fun w15 =>
  bw_aload_n hZ 0 rfl dX12_tells_102 <|
  bw_getI hZ fl_RX12_437 (by decide) obM_0 dX12_tells_103 <|
  bw_iconst hZ 1 (by decide) dX12_tells_106 <|
  bw_isub hZ dX12_tells_107 <|
  bw_iret hZ hE dX12_tells_108) (fun _ =>
  bw_bipush hZ (-3) (by decide) dX12_tells_41 <|
  bw_iret hZ hE dX12_tells_43)) (fun _ =>
  bw_bipush hZ (-2) (by decide) dX12_tells_29 <|
  bw_iret hZ hE dX12_tells_31))))
theorem c_X12_tells (l : Launch) (Y : Ev) (hY : Y.1 = SM) (x1 : Int32) (x2 : Int32) (x3 : Int32)  (w : Wd) : CI l Y yX12_tells cX12_tells 4 3 [.ref (ph Y 0), .int x1, .int x2, .int x3] w .int (f_X12_tells x1 x2 x3 w) := by
  refine CI_of (S := SM) (by decide) (Nat.le_of_ble_eq_true rfl) hY ?_
  intro Z hl hY2 hZ hE
  subst hY2
  exact t_X12_tells hZ hE x1 x2 x3 w
-- WhichWillModel.isTrue
theorem dX12_isTrue_0 : decode cX12_isTrue 0 = .ok (.aload_n 0, 1) := by decide +kernel
theorem dX12_isTrue_1 : decode cX12_isTrue 1 = .ok (.getfield 381, 3) := by decide +kernel
theorem dX12_isTrue_4 : decode cX12_isTrue 4 = .ok (.iload_n 1, 1) := by decide +kernel
theorem dX12_isTrue_5 : decode cX12_isTrue 5 = .ok (.iaload, 1) := by decide +kernel
theorem dX12_isTrue_6 : decode cX12_isTrue 6 = .ok (.iconst (-1), 1) := by decide +kernel
theorem dX12_isTrue_7 : decode cX12_isTrue 7 = .ok (.if_icmp .eq 30, 3) := by decide +kernel
theorem dX12_isTrue_10 : decode cX12_isTrue 10 = .ok (.iload_n 2, 1) := by decide +kernel
theorem dX12_isTrue_11 : decode cX12_isTrue 11 = .ok (.aload_n 0, 1) := by decide +kernel
theorem dX12_isTrue_12 : decode cX12_isTrue 12 = .ok (.getfield 381, 3) := by decide +kernel
theorem dX12_isTrue_15 : decode cX12_isTrue 15 = .ok (.iload_n 1, 1) := by decide +kernel
theorem dX12_isTrue_16 : decode cX12_isTrue 16 = .ok (.iaload, 1) := by decide +kernel
theorem dX12_isTrue_17 : decode cX12_isTrue 17 = .ok (.ishr, 1) := by decide +kernel
theorem dX12_isTrue_18 : decode cX12_isTrue 18 = .ok (.iconst 1, 1) := by decide +kernel
theorem dX12_isTrue_19 : decode cX12_isTrue 19 = .ok (.iand, 1) := by decide +kernel
theorem dX12_isTrue_20 : decode cX12_isTrue 20 = .ok (.aload_n 0, 1) := by decide +kernel
theorem dX12_isTrue_21 : decode cX12_isTrue 21 = .ok (.getfield 384, 3) := by decide +kernel
theorem dX12_isTrue_24 : decode cX12_isTrue 24 = .ok (.iload_n 1, 1) := by decide +kernel
theorem dX12_isTrue_25 : decode cX12_isTrue 25 = .ok (.iaload, 1) := by decide +kernel
theorem dX12_isTrue_26 : decode cX12_isTrue 26 = .ok (.if_icmp .ne 7, 3) := by decide +kernel
theorem dX12_isTrue_29 : decode cX12_isTrue 29 = .ok (.iconst 1, 1) := by decide +kernel
theorem dX12_isTrue_30 : decode cX12_isTrue 30 = .ok (.goto 35, 3) := by decide +kernel
theorem dX12_isTrue_33 : decode cX12_isTrue 33 = .ok (.iconst 0, 1) := by decide +kernel
theorem dX12_isTrue_34 : decode cX12_isTrue 34 = .ok (.goto 31, 3) := by decide +kernel
theorem dX12_isTrue_37 : decode cX12_isTrue 37 = .ok (.aload_n 0, 1) := by decide +kernel
theorem dX12_isTrue_38 : decode cX12_isTrue 38 = .ok (.iload_n 2, 1) := by decide +kernel
theorem dX12_isTrue_39 : decode cX12_isTrue 39 = .ok (.bipush 8, 2) := by decide +kernel
theorem dX12_isTrue_41 : decode cX12_isTrue 41 = .ok (.idiv, 1) := by decide +kernel
theorem dX12_isTrue_42 : decode cX12_isTrue 42 = .ok (.aload_n 0, 1) := by decide +kernel
theorem dX12_isTrue_43 : decode cX12_isTrue 43 = .ok (.aload_n 0, 1) := by decide +kernel
theorem dX12_isTrue_44 : decode cX12_isTrue 44 = .ok (.getfield 387, 3) := by decide +kernel
theorem dX12_isTrue_47 : decode cX12_isTrue 47 = .ok (.iload_n 1, 1) := by decide +kernel
theorem dX12_isTrue_48 : decode cX12_isTrue 48 = .ok (.iaload, 1) := by decide +kernel
theorem dX12_isTrue_49 : decode cX12_isTrue 49 = .ok (.invokevirtual 717, 3) := by decide +kernel
theorem dX12_isTrue_52 : decode cX12_isTrue 52 = .ok (.aload_n 0, 1) := by decide +kernel
theorem dX12_isTrue_53 : decode cX12_isTrue 53 = .ok (.aload_n 0, 1) := by decide +kernel
theorem dX12_isTrue_54 : decode cX12_isTrue 54 = .ok (.getfield 390, 3) := by decide +kernel
theorem dX12_isTrue_57 : decode cX12_isTrue 57 = .ok (.iload_n 1, 1) := by decide +kernel
theorem dX12_isTrue_58 : decode cX12_isTrue 58 = .ok (.iaload, 1) := by decide +kernel
theorem dX12_isTrue_59 : decode cX12_isTrue 59 = .ok (.invokevirtual 717, 3) := by decide +kernel
theorem dX12_isTrue_62 : decode cX12_isTrue 62 = .ok (.invokevirtual 573, 3) := by decide +kernel
theorem dX12_isTrue_65 : decode cX12_isTrue 65 = .ok (.ireturn, 1) := by decide +kernel
def f_X12_isTrue (x1 : Int32) (x2 : Int32) (w : Wd) : Option (Int32 × Wd) :=
  if inb x1 8 = true then
  (if (w.1 56 (Int32.toNatClampNeg x1)) = ((-1)) then
  (if inb x1 8 = true then
  (cl (f_X12_itemOf (w.1 58 (Int32.toNatClampNeg x1)) w) fun r2 w1 =>
  if inb x1 8 = true then
  (cl (f_X12_itemOf (w1.1 59 (Int32.toNatClampNeg x1)) w1) fun r4 w3 =>
  cl (f_X12_isAhead (x2 / 8) r2 r4 w3) fun r6 w5 =>
  if isB r6 = true then some (r6, w5) else none)
  else none)
  else none)
  else
  if inb x1 8 = true then
  (if inb x1 8 = true then
  (if ((x2 >>> ((w.1 56 (Int32.toNatClampNeg x1)) &&& 31)) &&& 1) = (w.1 57 (Int32.toNatClampNeg x1)) then
  (some (1, w))
  else
  some (0, w))
  else none)
  else none)
  else none
set_option maxRecDepth 100000 in
set_option maxHeartbeats 4000000 in
theorem t_X12_isTrue {Z : Cz (Int32 × Wd)} (hZ : OKZ Z SM cX12_isTrue RX12 3 (some .boolean) 3) (hE : EndI Z) (x1 : Int32) (x2 : Int32)  (w : Wd) : BW Z 3 0 [(0, .ref (ph (zY Z) 0)), (1, .int x1), (2, .int x2)] [] w (f_X12_isTrue x1 x2 w) :=
  bw_aload_n hZ 0 rfl dX12_isTrue_0 <|
  bw_getR hZ fl_RX12_381 obM_0 rfl dX12_isTrue_1 <|
  bw_iload_n hZ 1 rfl dX12_isTrue_4 <|
  bw_iald hZ (arM_56 _) dX12_isTrue_5 <|
  bw_iconst hZ (-1) (by decide) dX12_isTrue_6 <|
  bw_icmp_eq hZ (tgt := 37) (by decide) dX12_isTrue_7 (fun _ =>
  bw_aload_n hZ 0 rfl dX12_isTrue_37 <|
  bw_iload_n hZ 2 rfl dX12_isTrue_38 <|
  bw_bipush hZ 8 (by decide) dX12_isTrue_39 <|
  bw_idivN hZ (by decide) dX12_isTrue_41 <|
  bw_aload_n hZ 0 rfl dX12_isTrue_42 <|
  bw_aload_n hZ 0 rfl dX12_isTrue_43 <|
  bw_getR hZ fl_RX12_387 obM_0 rfl dX12_isTrue_44 <|
  bw_iload_n hZ 1 rfl dX12_isTrue_47 <|
  bw_iald hZ (arM_58 _) dX12_isTrue_48 <|
  bw_callVI (As := [.int (w.1 58 (Int32.toNatClampNeg x1))]) hZ ml_RX12_717 rc_12 obM_0 (by decide) (c_X12_itemOf (zl Z) (zY Z) (hZ_S hZ) (w.1 58 (Int32.toNatClampNeg x1)) w) rfl rfl (Nat.le_of_ble_eq_true rfl) dX12_isTrue_49 fun r2 w1 =>
  bw_aload_n hZ 0 rfl dX12_isTrue_52 <|
  bw_aload_n hZ 0 rfl dX12_isTrue_53 <|
  bw_getR hZ fl_RX12_390 obM_0 rfl dX12_isTrue_54 <|
  bw_iload_n hZ 1 rfl dX12_isTrue_57 <|
  bw_iald hZ (arM_59 _) dX12_isTrue_58 <|
  bw_callVI (As := [.int (w1.1 59 (Int32.toNatClampNeg x1))]) hZ ml_RX12_717 rc_12 obM_0 (by decide) (c_X12_itemOf (zl Z) (zY Z) (hZ_S hZ) (w1.1 59 (Int32.toNatClampNeg x1)) w1) rfl rfl (Nat.le_of_ble_eq_true rfl) dX12_isTrue_59 fun r4 w3 =>
  bw_callVI (As := [.int (x2 / 8), .int r2, .int r4]) hZ ml_RX12_573 rc_12 obM_0 (by decide) (c_X12_isAhead (zl Z) (zY Z) (hZ_S hZ) (x2 / 8) r2 r4 w3) rfl rfl (Nat.le_of_ble_eq_true rfl) dX12_isTrue_62 fun r6 w5 =>
  bw_zretC hZ hE dX12_isTrue_65) (fun _ =>
  bw_iload_n hZ 2 rfl dX12_isTrue_10 <|
  bw_aload_n hZ 0 rfl dX12_isTrue_11 <|
  bw_getR hZ fl_RX12_381 obM_0 rfl dX12_isTrue_12 <|
  bw_iload_n hZ 1 rfl dX12_isTrue_15 <|
  bw_iald hZ (arM_56 _) dX12_isTrue_16 <|
  bw_ishr hZ dX12_isTrue_17 <|
  bw_iconst hZ 1 (by decide) dX12_isTrue_18 <|
  bw_iand hZ dX12_isTrue_19 <|
  bw_aload_n hZ 0 rfl dX12_isTrue_20 <|
  bw_getR hZ fl_RX12_384 obM_0 rfl dX12_isTrue_21 <|
  bw_iload_n hZ 1 rfl dX12_isTrue_24 <|
  bw_iald hZ (arM_57 _) dX12_isTrue_25 <|
  bw_icmp_ne hZ (tgt := 33) (by decide) dX12_isTrue_26 (fun _ =>
  bw_iconst hZ 0 (by decide) dX12_isTrue_33 <|
  bw_goto hZ (tgt := 65) (by decide) dX12_isTrue_34 <|
  bw_zret hZ hE (by decide) dX12_isTrue_65) (fun _ =>
  bw_iconst hZ 1 (by decide) dX12_isTrue_29 <|
  bw_goto hZ (tgt := 65) (by decide) dX12_isTrue_30 <|
  bw_zret hZ hE (by decide) dX12_isTrue_65))
theorem c_X12_isTrue (l : Launch) (Y : Ev) (hY : Y.1 = SM) (x1 : Int32) (x2 : Int32)  (w : Wd) : CI l Y yX12_isTrue cX12_isTrue 3 3 [.ref (ph Y 0), .int x1, .int x2] w .boolean (f_X12_isTrue x1 x2 w) := by
  refine CI_of (S := SM) (by decide) (Nat.le_of_ble_eq_true rfl) hY ?_
  intro Z hl hY2 hZ hE
  subst hY2
  exact t_X12_isTrue hZ hE x1 x2 w
-- WhichWillModel.falseIn
theorem dX12_falseIn_0 : decode cX12_falseIn 0 = .ok (.iconst 0, 1) := by decide +kernel
theorem dX12_falseIn_1 : decode cX12_falseIn 1 = .ok (.istore_n 2, 1) := by decide +kernel
theorem dX12_falseIn_2 : decode cX12_falseIn 2 = .ok (.iconst 0, 1) := by decide +kernel
theorem dX12_falseIn_3 : decode cX12_falseIn 3 = .ok (.istore_n 3, 1) := by decide +kernel
theorem dX12_falseIn_4 : decode cX12_falseIn 4 = .ok (.iload_n 3, 1) := by decide +kernel
theorem dX12_falseIn_5 : decode cX12_falseIn 5 = .ok (.aload_n 0, 1) := by decide +kernel
theorem dX12_falseIn_6 : decode cX12_falseIn 6 = .ok (.getfield 437, 3) := by decide +kernel
theorem dX12_falseIn_9 : decode cX12_falseIn 9 = .ok (.if_icmp .ge 28, 3) := by decide +kernel
theorem dX12_falseIn_12 : decode cX12_falseIn 12 = .ok (.iload_n 2, 1) := by decide +kernel
theorem dX12_falseIn_13 : decode cX12_falseIn 13 = .ok (.aload_n 0, 1) := by decide +kernel
theorem dX12_falseIn_14 : decode cX12_falseIn 14 = .ok (.iload_n 3, 1) := by decide +kernel
theorem dX12_falseIn_15 : decode cX12_falseIn 15 = .ok (.iload_n 1, 1) := by decide +kernel
theorem dX12_falseIn_16 : decode cX12_falseIn 16 = .ok (.invokevirtual 720, 3) := by decide +kernel
theorem dX12_falseIn_19 : decode cX12_falseIn 19 = .ok (.ifCond .eq 7, 3) := by decide +kernel
theorem dX12_falseIn_22 : decode cX12_falseIn 22 = .ok (.iconst 0, 1) := by decide +kernel
theorem dX12_falseIn_23 : decode cX12_falseIn 23 = .ok (.goto 6, 3) := by decide +kernel
theorem dX12_falseIn_26 : decode cX12_falseIn 26 = .ok (.iconst 1, 1) := by decide +kernel
theorem dX12_falseIn_27 : decode cX12_falseIn 27 = .ok (.iload_n 3, 1) := by decide +kernel
theorem dX12_falseIn_28 : decode cX12_falseIn 28 = .ok (.ishl, 1) := by decide +kernel
theorem dX12_falseIn_29 : decode cX12_falseIn 29 = .ok (.ior, 1) := by decide +kernel
theorem dX12_falseIn_30 : decode cX12_falseIn 30 = .ok (.istore_n 2, 1) := by decide +kernel
theorem dX12_falseIn_31 : decode cX12_falseIn 31 = .ok (.iinc 3 1, 3) := by decide +kernel
theorem dX12_falseIn_34 : decode cX12_falseIn 34 = .ok (.goto (-30), 3) := by decide +kernel
theorem dX12_falseIn_37 : decode cX12_falseIn 37 = .ok (.iload_n 2, 1) := by decide +kernel
theorem dX12_falseIn_38 : decode cX12_falseIn 38 = .ok (.ireturn, 1) := by decide +kernel
def X12_falseIn_b4 (k4 : Int32 → Int32 → Int32 → Wd → Option (Int32 × Wd)) (y1 : Int32) (y2 : Int32) (y3 : Int32) (w : Wd) : Option (Int32 × Wd) :=
  if (w.1 0 99) ≤ y3 then
  (some (y2, w))
  else
  cl (f_X12_isTrue y3 y1 w) fun r2 w1 =>
  if r2 = 0 then
  (lt (y2 ||| (1 <<< (y3 &&& 31))) fun v3 =>
  k4 y1 v3 (y3 + 1) w1)
  else
  lt (y2 ||| 0) fun v4 =>
  k4 y1 v4 (y3 + 1) w1
set_option maxRecDepth 100000 in
set_option maxHeartbeats 4000000 in
theorem t_X12_falseIn_b4 {Z : Cz (Int32 × Wd)} (hZ : OKZ Z SM cX12_falseIn RX12 4 (some .int) 4) (hE : EndI Z) (k4 : Int32 → Int32 → Int32 → Wd → Option (Int32 × Wd)) (hk4 : ∀ (y1 : Int32) (y2 : Int32) (y3 : Int32)  (w : Wd), BW Z 4 4 [(0, .ref (ph (zY Z) 0)), (1, .int y1), (2, .int y2), (3, .int y3)] [] w (k4 y1 y2 y3 w)) (y1 : Int32) (y2 : Int32) (y3 : Int32)  (w : Wd) : BW Z 4 4 [(0, .ref (ph (zY Z) 0)), (1, .int y1), (2, .int y2), (3, .int y3)] [] w (X12_falseIn_b4 k4 y1 y2 y3 w) :=
  bw_iload_n hZ 3 rfl dX12_falseIn_4 <|
  bw_aload_n hZ 0 rfl dX12_falseIn_5 <|
  bw_getI hZ fl_RX12_437 (by decide) obM_0 dX12_falseIn_6 <|
  bw_icmp_ge hZ (tgt := 37) (by decide) dX12_falseIn_9 (fun _ =>
  bw_iload_n hZ 2 rfl dX12_falseIn_37 <|
  bw_iret hZ hE dX12_falseIn_38) (fun _ =>
  bw_iload_n hZ 2 rfl dX12_falseIn_12 <|
  bw_aload_n hZ 0 rfl dX12_falseIn_13 <|
  bw_iload_n hZ 3 rfl dX12_falseIn_14 <|
  bw_iload_n hZ 1 rfl dX12_falseIn_15 <|
  bw_callVI (As := [.int y3, .int y1]) hZ ml_RX12_720 rc_12 obM_0 (by decide) (c_X12_isTrue (zl Z) (zY Z) (hZ_S hZ) y3 y1 w) rfl rfl (Nat.le_of_ble_eq_true rfl) dX12_falseIn_16 fun r2 w1 =>
  bw_if_eq hZ (tgt := 26) (by decide) dX12_falseIn_19 (fun _ =>
  bw_iconst hZ 1 (by decide) dX12_falseIn_26 <|
  bw_iload_n hZ 3 rfl dX12_falseIn_27 <|
  bw_ishl hZ dX12_falseIn_28 <|
  bw_ior hZ dX12_falseIn_29 <|
  bw_nm fun v3 =>
  bw_istore_n hZ rfl (by decide) rfl dX12_falseIn_30 <|
  bw_iinc hZ 1 3 rfl (by decide) (by decide) rfl dX12_falseIn_31 <|
  bw_goto hZ (tgt := 4) (by decide) dX12_falseIn_34 <|
  bw_sub [2, 3, 1, 0] rfl (hk4 y1 v3 (y3 + 1) w1)) (fun _ =>
  bw_iconst hZ 0 (by decide) dX12_falseIn_22 <|
  bw_goto hZ (tgt := 29) (by decide) dX12_falseIn_23 <|
  bw_ior hZ dX12_falseIn_29 <|
  bw_nm fun v4 =>
  bw_istore_n hZ rfl (by decide) rfl dX12_falseIn_30 <|
  bw_iinc hZ 1 3 rfl (by decide) (by decide) rfl dX12_falseIn_31 <|
  bw_goto hZ (tgt := 4) (by decide) dX12_falseIn_34 <|
  bw_sub [2, 3, 1, 0] rfl (hk4 y1 v4 (y3 + 1) w1)))
def X12_falseIn_b4_L  : Int32 → Int32 → Int32 → Wd → Option (Int32 × Wd) :=
  lp fu (fun _ _ _ _ => none) (fun k4 => X12_falseIn_b4 k4)
theorem t_X12_falseIn_b4_L {Z : Cz (Int32 × Wd)} (hZ : OKZ Z SM cX12_falseIn RX12 4 (some .int) 4) (hE : EndI Z)  : ∀ (y1 : Int32) (y2 : Int32) (y3 : Int32)  (w : Wd), BW Z 4 4 [(0, .ref (ph (zY Z) 0)), (1, .int y1), (2, .int y2), (3, .int y3)] [] w (X12_falseIn_b4_L y1 y2 y3 w) :=
  lp_bw (fun k4 => ∀ (y1 : Int32) (y2 : Int32) (y3 : Int32)  (w : Wd), BW Z 4 4 [(0, .ref (ph (zY Z) 0)), (1, .int y1), (2, .int y2), (3, .int y3)] [] w (k4 y1 y2 y3 w)) (fun _ _ _ _ => bw_none) (fun k4 hk4 y1 y2 y3 w => t_X12_falseIn_b4 hZ hE k4 hk4 y1 y2 y3 w) fu
def f_X12_falseIn (x1 : Int32) (w : Wd) : Option (Int32 × Wd) :=
  X12_falseIn_b4_L x1 0 0 w
set_option maxRecDepth 100000 in
set_option maxHeartbeats 4000000 in
theorem t_X12_falseIn {Z : Cz (Int32 × Wd)} (hZ : OKZ Z SM cX12_falseIn RX12 4 (some .int) 4) (hE : EndI Z) (x1 : Int32)  (w : Wd) : BW Z 4 0 [(0, .ref (ph (zY Z) 0)), (1, .int x1)] [] w (f_X12_falseIn x1 w) :=
  bw_iconst hZ 0 (by decide) dX12_falseIn_0 <|
  bw_istore_n hZ rfl (by decide) rfl dX12_falseIn_1 <|
  bw_iconst hZ 0 (by decide) dX12_falseIn_2 <|
  bw_istore_n hZ rfl (by decide) rfl dX12_falseIn_3 <|
  bw_sub [2, 3, 1, 0] rfl (t_X12_falseIn_b4_L hZ hE x1 0 0 w)
theorem c_X12_falseIn (l : Launch) (Y : Ev) (hY : Y.1 = SM) (x1 : Int32)  (w : Wd) : CI l Y yX12_falseIn cX12_falseIn 4 4 [.ref (ph Y 0), .int x1] w .int (f_X12_falseIn x1 w) := by
  refine CI_of (S := SM) (by decide) (Nat.le_of_ble_eq_true rfl) hY ?_
  intro Z hl hY2 hZ hE
  subst hY2
  exact t_X12_falseIn hZ hE x1 w
-- WhichWillModel.bits
theorem dX12_bits_0 : decode cX12_bits 0 = .ok (.iconst 0, 1) := by decide +kernel
theorem dX12_bits_1 : decode cX12_bits 1 = .ok (.istore_n 1, 1) := by decide +kernel
theorem dX12_bits_2 : decode cX12_bits 2 = .ok (.iload_n 0, 1) := by decide +kernel
theorem dX12_bits_3 : decode cX12_bits 3 = .ok (.istore_n 2, 1) := by decide +kernel
theorem dX12_bits_4 : decode cX12_bits 4 = .ok (.iload_n 2, 1) := by decide +kernel
theorem dX12_bits_5 : decode cX12_bits 5 = .ok (.ifCond .eq 15, 3) := by decide +kernel
theorem dX12_bits_8 : decode cX12_bits 8 = .ok (.iinc 1 1, 3) := by decide +kernel
theorem dX12_bits_11 : decode cX12_bits 11 = .ok (.iload_n 2, 1) := by decide +kernel
theorem dX12_bits_12 : decode cX12_bits 12 = .ok (.iload_n 2, 1) := by decide +kernel
theorem dX12_bits_13 : decode cX12_bits 13 = .ok (.iconst 1, 1) := by decide +kernel
theorem dX12_bits_14 : decode cX12_bits 14 = .ok (.isub, 1) := by decide +kernel
theorem dX12_bits_15 : decode cX12_bits 15 = .ok (.iand, 1) := by decide +kernel
theorem dX12_bits_16 : decode cX12_bits 16 = .ok (.istore_n 2, 1) := by decide +kernel
theorem dX12_bits_17 : decode cX12_bits 17 = .ok (.goto (-13), 3) := by decide +kernel
theorem dX12_bits_20 : decode cX12_bits 20 = .ok (.iload_n 1, 1) := by decide +kernel
theorem dX12_bits_21 : decode cX12_bits 21 = .ok (.ireturn, 1) := by decide +kernel
def X12_bits_b4 (k4 : Int32 → Int32 → Wd → Option (Int32 × Wd)) (y1 : Int32) (y2 : Int32) (w : Wd) : Option (Int32 × Wd) :=
  if y2 = 0 then
  (some (y1, w))
  else
  lt (y2 &&& (y2 - 1)) fun v1 =>
  k4 (y1 + 1) v1 w
set_option maxRecDepth 100000 in
set_option maxHeartbeats 4000000 in
theorem t_X12_bits_b4 {Z : Cz (Int32 × Wd)} (hZ : OKZ Z SM cX12_bits RX12 3 (some .int) 1) (hE : EndI Z) (k4 : Int32 → Int32 → Wd → Option (Int32 × Wd)) (hk4 : ∀ (y1 : Int32) (y2 : Int32)  (w : Wd), BW Z 3 4 [(1, .int y1), (2, .int y2)] [] w (k4 y1 y2 w)) (y1 : Int32) (y2 : Int32)  (w : Wd) : BW Z 3 4 [(1, .int y1), (2, .int y2)] [] w (X12_bits_b4 k4 y1 y2 w) :=
  bw_iload_n hZ 1 rfl dX12_bits_4 <|
  bw_if_eq hZ (tgt := 20) (by decide) dX12_bits_5 (fun _ =>
  bw_iload_n hZ 0 rfl dX12_bits_20 <|
  bw_iret hZ hE dX12_bits_21) (fun _ =>
  bw_iinc hZ 1 0 rfl (by decide) (by decide) rfl dX12_bits_8 <|
  bw_iload_n hZ 1 rfl dX12_bits_11 <|
  bw_iload_n hZ 1 rfl dX12_bits_12 <|
  bw_iconst hZ 1 (by decide) dX12_bits_13 <|
  bw_isub hZ dX12_bits_14 <|
  bw_iand hZ dX12_bits_15 <|
  bw_nm fun v1 =>
  bw_istore_n hZ rfl (by decide) rfl dX12_bits_16 <|
  bw_goto hZ (tgt := 4) (by decide) dX12_bits_17 <|
  bw_sub [1, 0] rfl (hk4 (y1 + 1) v1 w))
def X12_bits_b4_L  : Int32 → Int32 → Wd → Option (Int32 × Wd) :=
  lp fu (fun _ _ _ => none) (fun k4 => X12_bits_b4 k4)
theorem t_X12_bits_b4_L {Z : Cz (Int32 × Wd)} (hZ : OKZ Z SM cX12_bits RX12 3 (some .int) 1) (hE : EndI Z)  : ∀ (y1 : Int32) (y2 : Int32)  (w : Wd), BW Z 3 4 [(1, .int y1), (2, .int y2)] [] w (X12_bits_b4_L y1 y2 w) :=
  lp_bw (fun k4 => ∀ (y1 : Int32) (y2 : Int32)  (w : Wd), BW Z 3 4 [(1, .int y1), (2, .int y2)] [] w (k4 y1 y2 w)) (fun _ _ _ => bw_none) (fun k4 hk4 y1 y2 w => t_X12_bits_b4 hZ hE k4 hk4 y1 y2 w) fu
def f_X12_bits (x0 : Int32) (w : Wd) : Option (Int32 × Wd) :=
  X12_bits_b4_L 0 x0 w
set_option maxRecDepth 100000 in
set_option maxHeartbeats 4000000 in
theorem t_X12_bits {Z : Cz (Int32 × Wd)} (hZ : OKZ Z SM cX12_bits RX12 3 (some .int) 1) (hE : EndI Z) (x0 : Int32)  (w : Wd) : BW Z 3 0 [(0, .int x0)] [] w (f_X12_bits x0 w) :=
  bw_iconst hZ 0 (by decide) dX12_bits_0 <|
  bw_istore_n hZ rfl (by decide) rfl dX12_bits_1 <|
  bw_iload_n hZ 1 rfl dX12_bits_2 <|
  bw_istore_n hZ rfl (by decide) rfl dX12_bits_3 <|
  bw_sub [1, 0] rfl (t_X12_bits_b4_L hZ hE 0 x0 w)
theorem c_X12_bits (l : Launch) (Y : Ev) (hY : Y.1 = SM) (x0 : Int32)  (w : Wd) : CI l Y yX12_bits cX12_bits 3 1 [.int x0] w .int (f_X12_bits x0 w) := by
  refine CI_of (S := SM) (by decide) (Nat.le_of_ble_eq_true rfl) hY ?_
  intro Z hl hY2 hZ hE
  subst hY2
  exact t_X12_bits hZ hE x0 w
-- WhichWillModel.stories
theorem dX12_stories_0 : decode cX12_stories 0 = .ok (.aload_n 0, 1) := by decide +kernel
theorem dX12_stories_1 : decode cX12_stories 1 = .ok (.invokevirtual 622, 3) := by decide +kernel
theorem dX12_stories_4 : decode cX12_stories 4 = .ok (.ifCond .eq 15, 3) := by decide +kernel
theorem dX12_stories_7 : decode cX12_stories 7 = .ok (.iload_n 1, 1) := by decide +kernel
theorem dX12_stories_8 : decode cX12_stories 8 = .ok (.i2l, 1) := by decide +kernel
theorem dX12_stories_9 : decode cX12_stories 9 = .ok (.lconst 0, 1) := by decide +kernel
theorem dX12_stories_10 : decode cX12_stories 10 = .ok (.ldc2_w 539, 3) := by decide +kernel
theorem dX12_stories_13 : decode cX12_stories 13 = .ok (.invokestatic 60, 3) := by decide +kernel
theorem dX12_stories_16 : decode cX12_stories 16 = .ok (.ifCond .ne 5, 3) := by decide +kernel
theorem dX12_stories_19 : decode cX12_stories 19 = .ok (.iconst (-1), 1) := by decide +kernel
theorem dX12_stories_20 : decode cX12_stories 20 = .ok (.ireturn, 1) := by decide +kernel
theorem dX12_stories_21 : decode cX12_stories 21 = .ok (.bipush 9, 2) := by decide +kernel
theorem dX12_stories_23 : decode cX12_stories 23 = .ok (.istore_n 2, 1) := by decide +kernel
theorem dX12_stories_24 : decode cX12_stories 24 = .ok (.iconst 0, 1) := by decide +kernel
theorem dX12_stories_25 : decode cX12_stories 25 = .ok (.istore_n 3, 1) := by decide +kernel
theorem dX12_stories_26 : decode cX12_stories 26 = .ok (.iconst 0, 1) := by decide +kernel
theorem dX12_stories_27 : decode cX12_stories 27 = .ok (.istore 4, 2) := by decide +kernel
theorem dX12_stories_29 : decode cX12_stories 29 = .ok (.iconst 0, 1) := by decide +kernel
theorem dX12_stories_30 : decode cX12_stories 30 = .ok (.istore 5, 2) := by decide +kernel
theorem dX12_stories_32 : decode cX12_stories 32 = .ok (.iload 5, 2) := by decide +kernel
theorem dX12_stories_34 : decode cX12_stories 34 = .ok (.aload_n 0, 1) := by decide +kernel
theorem dX12_stories_35 : decode cX12_stories 35 = .ok (.invokevirtual 622, 3) := by decide +kernel
theorem dX12_stories_38 : decode cX12_stories 38 = .ok (.if_icmp .ge 68, 3) := by decide +kernel
theorem dX12_stories_41 : decode cX12_stories 41 = .ok (.aload_n 0, 1) := by decide +kernel
theorem dX12_stories_42 : decode cX12_stories 42 = .ok (.iload 5, 2) := by decide +kernel
theorem dX12_stories_44 : decode cX12_stories 44 = .ok (.invokevirtual 723, 3) := by decide +kernel
theorem dX12_stories_47 : decode cX12_stories 47 = .ok (.istore 6, 2) := by decide +kernel
theorem dX12_stories_49 : decode cX12_stories 49 = .ok (.iload 6, 2) := by decide +kernel
theorem dX12_stories_51 : decode cX12_stories 51 = .ok (.invokestatic 726, 3) := by decide +kernel
theorem dX12_stories_54 : decode cX12_stories 54 = .ok (.istore 7, 2) := by decide +kernel
theorem dX12_stories_56 : decode cX12_stories 56 = .ok (.iload 7, 2) := by decide +kernel
theorem dX12_stories_58 : decode cX12_stories 58 = .ok (.iload_n 2, 1) := by decide +kernel
theorem dX12_stories_59 : decode cX12_stories 59 = .ok (.if_icmp .le 6, 3) := by decide +kernel
theorem dX12_stories_62 : decode cX12_stories 62 = .ok (.goto 38, 3) := by decide +kernel
theorem dX12_stories_65 : decode cX12_stories 65 = .ok (.iload 7, 2) := by decide +kernel
theorem dX12_stories_67 : decode cX12_stories 67 = .ok (.iload_n 2, 1) := by decide +kernel
theorem dX12_stories_68 : decode cX12_stories 68 = .ok (.if_icmp .ge 8, 3) := by decide +kernel
theorem dX12_stories_71 : decode cX12_stories 71 = .ok (.iload 6, 2) := by decide +kernel
theorem dX12_stories_73 : decode cX12_stories 73 = .ok (.goto 8, 3) := by decide +kernel
theorem dX12_stories_76 : decode cX12_stories 76 = .ok (.iload 4, 2) := by decide +kernel
theorem dX12_stories_78 : decode cX12_stories 78 = .ok (.iload 6, 2) := by decide +kernel
theorem dX12_stories_80 : decode cX12_stories 80 = .ok (.iand, 1) := by decide +kernel
theorem dX12_stories_81 : decode cX12_stories 81 = .ok (.istore 4, 2) := by decide +kernel
theorem dX12_stories_83 : decode cX12_stories 83 = .ok (.iload 7, 2) := by decide +kernel
theorem dX12_stories_85 : decode cX12_stories 85 = .ok (.iload_n 2, 1) := by decide +kernel
theorem dX12_stories_86 : decode cX12_stories 86 = .ok (.if_icmp .ge 7, 3) := by decide +kernel
theorem dX12_stories_89 : decode cX12_stories 89 = .ok (.iconst 1, 1) := by decide +kernel
theorem dX12_stories_90 : decode cX12_stories 90 = .ok (.goto 6, 3) := by decide +kernel
theorem dX12_stories_93 : decode cX12_stories 93 = .ok (.iload_n 3, 1) := by decide +kernel
theorem dX12_stories_94 : decode cX12_stories 94 = .ok (.iconst 1, 1) := by decide +kernel
theorem dX12_stories_95 : decode cX12_stories 95 = .ok (.iadd, 1) := by decide +kernel
theorem dX12_stories_96 : decode cX12_stories 96 = .ok (.istore_n 3, 1) := by decide +kernel
theorem dX12_stories_97 : decode cX12_stories 97 = .ok (.iload 7, 2) := by decide +kernel
theorem dX12_stories_99 : decode cX12_stories 99 = .ok (.istore_n 2, 1) := by decide +kernel
theorem dX12_stories_100 : decode cX12_stories 100 = .ok (.iinc 5 1, 3) := by decide +kernel
theorem dX12_stories_103 : decode cX12_stories 103 = .ok (.goto (-71), 3) := by decide +kernel
theorem dX12_stories_106 : decode cX12_stories 106 = .ok (.iload_n 1, 1) := by decide +kernel
theorem dX12_stories_107 : decode cX12_stories 107 = .ok (.ifCond .ne 7, 3) := by decide +kernel
theorem dX12_stories_110 : decode cX12_stories 110 = .ok (.iload_n 2, 1) := by decide +kernel
theorem dX12_stories_111 : decode cX12_stories 111 = .ok (.goto 14, 3) := by decide +kernel
theorem dX12_stories_114 : decode cX12_stories 114 = .ok (.iload_n 1, 1) := by decide +kernel
theorem dX12_stories_115 : decode cX12_stories 115 = .ok (.iconst 1, 1) := by decide +kernel
theorem dX12_stories_116 : decode cX12_stories 116 = .ok (.if_icmp .ne 8, 3) := by decide +kernel
theorem dX12_stories_119 : decode cX12_stories 119 = .ok (.iload 4, 2) := by decide +kernel
theorem dX12_stories_121 : decode cX12_stories 121 = .ok (.goto 4, 3) := by decide +kernel
theorem dX12_stories_124 : decode cX12_stories 124 = .ok (.iload_n 3, 1) := by decide +kernel
theorem dX12_stories_125 : decode cX12_stories 125 = .ok (.ireturn, 1) := by decide +kernel
def X12_stories_b81 (k32 : Int32 → Int32 → Int32 → Int32 → Int32 → Wd → Option (Int32 × Wd)) (y1 : Int32) (y2 : Int32) (y3 : Int32) (y5 : Int32) (y7 : Int32) (t0 : Int32) (w : Wd) : Option (Int32 × Wd) :=
  if y2 ≤ y7 then
  (lt (y3 + 1) fun v11 =>
  k32 y1 y7 v11 t0 (y5 + 1) w)
  else
  k32 y1 y7 1 t0 (y5 + 1) w
set_option maxRecDepth 100000 in
set_option maxHeartbeats 4000000 in
theorem t_X12_stories_b81 {Z : Cz (Int32 × Wd)} (hZ : OKZ Z SM cX12_stories RX12 8 (some .int) 5) (hE : EndI Z) (k32 : Int32 → Int32 → Int32 → Int32 → Int32 → Wd → Option (Int32 × Wd)) (hk32 : ∀ (y1 : Int32) (y2 : Int32) (y3 : Int32) (y4 : Int32) (y5 : Int32)  (w : Wd), BW Z 8 32 [(0, .ref (ph (zY Z) 0)), (1, .int y1), (2, .int y2), (3, .int y3), (4, .int y4), (5, .int y5)] [] w (k32 y1 y2 y3 y4 y5 w)) (y1 : Int32) (y2 : Int32) (y3 : Int32) (y5 : Int32) (y7 : Int32) (t0 : Int32)  (w : Wd) : BW Z 8 81 [(0, .ref (ph (zY Z) 0)), (1, .int y1), (2, .int y2), (3, .int y3), (5, .int y5), (7, .int y7)] [.int t0] w (X12_stories_b81 k32 y1 y2 y3 y5 y7 t0 w) :=
  bw_istore hZ (by decide) rfl dX12_stories_81 <|
  bw_iload hZ 6 rfl dX12_stories_83 <|
  bw_iload_n hZ 3 rfl dX12_stories_85 <|
  bw_icmp_ge hZ (tgt := 93) (by decide) dX12_stories_86 (fun _ =>
  bw_iload_n hZ 4 rfl dX12_stories_93 <|
  bw_iconst hZ 1 (by decide) dX12_stories_94 <|
  bw_iadd hZ dX12_stories_95 <|
  bw_nm fun v11 =>
  bw_istore_n hZ rfl (by decide) rfl dX12_stories_96 <|
  bw_iload hZ 6 rfl dX12_stories_97 <|
  bw_istore_n hZ rfl (by decide) rfl dX12_stories_99 <|
  bw_iinc hZ 1 5 rfl (by decide) (by decide) rfl dX12_stories_100 <|
  bw_goto hZ (tgt := 32) (by decide) dX12_stories_103 <|
  bw_sub [4, 5, 1, 2, 3, 0] rfl (hk32 y1 y7 v11 t0 (y5 + 1) w)) (fun _ =>
  bw_iconst hZ 1 (by decide) dX12_stories_89 <|
  bw_goto hZ (tgt := 96) (by decide) dX12_stories_90 <|
  bw_istore_n hZ rfl (by decide) rfl dX12_stories_96 <|
  bw_iload hZ 6 rfl dX12_stories_97 <|
  bw_istore_n hZ rfl (by decide) rfl dX12_stories_99 <|
  bw_iinc hZ 1 5 rfl (by decide) (by decide) rfl dX12_stories_100 <|
  bw_goto hZ (tgt := 32) (by decide) dX12_stories_103 <|
  bw_sub [4, 5, 1, 2, 3, 0] rfl (hk32 y1 y7 1 t0 (y5 + 1) w))
def X12_stories_b32 (k32 : Int32 → Int32 → Int32 → Int32 → Int32 → Wd → Option (Int32 × Wd)) (y1 : Int32) (y2 : Int32) (y3 : Int32) (y4 : Int32) (y5 : Int32) (w : Wd) : Option (Int32 × Wd) :=
  cl (f_X12_allWays w) fun r6 w5 =>
  if r6 ≤ y5 then
  (if y1 = 0 then
  (some (y2, w5))
  else
  if y1 = 1 then
  (some (y4, w5))
  else
  some (y3, w5))
  else
  cl (f_X12_falseIn y5 w5) fun r8 w7 =>
  cl (f_X12_bits r8 w7) fun r10 w9 =>
  if r10 ≤ y2 then
  (if y2 ≤ r10 then
  (X12_stories_b81 k32 y1 y2 y3 y5 r10 (y4 &&& r8) w9)
  else
  X12_stories_b81 k32 y1 y2 y3 y5 r10 r8 w9)
  else
  k32 y1 y2 y3 y4 (y5 + 1) w9
set_option maxRecDepth 100000 in
set_option maxHeartbeats 4000000 in
theorem t_X12_stories_b32 {Z : Cz (Int32 × Wd)} (hZ : OKZ Z SM cX12_stories RX12 8 (some .int) 5) (hE : EndI Z) (k32 : Int32 → Int32 → Int32 → Int32 → Int32 → Wd → Option (Int32 × Wd)) (hk32 : ∀ (y1 : Int32) (y2 : Int32) (y3 : Int32) (y4 : Int32) (y5 : Int32)  (w : Wd), BW Z 8 32 [(0, .ref (ph (zY Z) 0)), (1, .int y1), (2, .int y2), (3, .int y3), (4, .int y4), (5, .int y5)] [] w (k32 y1 y2 y3 y4 y5 w)) (y1 : Int32) (y2 : Int32) (y3 : Int32) (y4 : Int32) (y5 : Int32)  (w : Wd) : BW Z 8 32 [(0, .ref (ph (zY Z) 0)), (1, .int y1), (2, .int y2), (3, .int y3), (4, .int y4), (5, .int y5)] [] w (X12_stories_b32 k32 y1 y2 y3 y4 y5 w) :=
  bw_iload hZ 5 rfl dX12_stories_32 <|
  bw_aload_n hZ 0 rfl dX12_stories_34 <|
  bw_callVI (As := []) hZ ml_RX12_622 rc_12 obM_0 (by decide) (c_X12_allWays (zl Z) (zY Z) (hZ_S hZ) w) rfl rfl (Nat.le_of_ble_eq_true rfl) dX12_stories_35 fun r6 w5 =>
  bw_icmp_ge hZ (tgt := 106) (by decide) dX12_stories_38 (fun _ =>
  bw_iload_n hZ 1 rfl dX12_stories_106 <|
  bw_if_ne hZ (tgt := 114) (by decide) dX12_stories_107 (fun _ =>
  bw_iload_n hZ 1 rfl dX12_stories_114 <|
  bw_iconst hZ 1 (by decide) dX12_stories_115 <|
  bw_icmp_ne hZ (tgt := 124) (by decide) dX12_stories_116 (fun _ =>
  bw_iload_n hZ 3 rfl dX12_stories_124 <|
  bw_iret hZ hE dX12_stories_125) (fun _ =>
  bw_iload hZ 4 rfl dX12_stories_119 <|
  bw_goto hZ (tgt := 125) (by decide) dX12_stories_121 <|
  bw_iret hZ hE dX12_stories_125)) (fun _ =>
  bw_iload_n hZ 2 rfl dX12_stories_110 <|
  bw_goto hZ (tgt := 125) (by decide) dX12_stories_111 <|
  bw_iret hZ hE dX12_stories_125)) (fun _ =>
  bw_aload_n hZ 0 rfl dX12_stories_41 <|
  bw_iload hZ 5 rfl dX12_stories_42 <|
  bw_callVI (As := [.int y5]) hZ ml_RX12_723 rc_12 obM_0 (by decide) (c_X12_falseIn (zl Z) (zY Z) (hZ_S hZ) y5 w5) rfl rfl (Nat.le_of_ble_eq_true rfl) dX12_stories_44 fun r8 w7 =>
  bw_istore hZ (by decide) rfl dX12_stories_47 <|
  bw_iload hZ 0 rfl dX12_stories_49 <|
  bw_callSI (As := [.int r8]) hZ ms_RX12_726 (by decide) (c_X12_bits (zl Z) (zY Z) (hZ_S hZ) r8 w7) rfl rfl (Nat.le_of_ble_eq_true rfl) dX12_stories_51 fun r10 w9 =>
  bw_istore hZ (by decide) rfl dX12_stories_54 <|
  bw_iload hZ 0 rfl dX12_stories_56 <|
  bw_iload_n hZ 4 rfl dX12_stories_58 <|
  bw_icmp_le hZ (tgt := 65) (by decide) dX12_stories_59 (fun _ =>
  bw_iload hZ 0 rfl dX12_stories_65 <|
  bw_iload_n hZ 4 rfl dX12_stories_67 <|
  bw_icmp_ge hZ (tgt := 76) (by decide) dX12_stories_68 (fun _ =>
  bw_iload hZ 6 rfl dX12_stories_76 <|
  bw_iload hZ 1 rfl dX12_stories_78 <|
  bw_iand hZ dX12_stories_80 <|
  bw_sub [2, 3, 4, 5, 7, 0] rfl (t_X12_stories_b81 hZ hE k32 hk32 y1 y2 y3 y5 r10 (y4 &&& r8) w9)) (fun _ =>
  bw_iload hZ 1 rfl dX12_stories_71 <|
  bw_goto hZ (tgt := 81) (by decide) dX12_stories_73 <|
  bw_sub [2, 3, 4, 5, 7, 0] rfl (t_X12_stories_b81 hZ hE k32 hk32 y1 y2 y3 y5 r10 r8 w9))) (fun _ =>
  bw_goto hZ (tgt := 100) (by decide) dX12_stories_62 <|
  bw_iinc hZ 1 7 rfl (by decide) (by decide) rfl dX12_stories_100 <|
  bw_goto hZ (tgt := 32) (by decide) dX12_stories_103 <|
  bw_sub [3, 4, 5, 6, 7, 0] rfl (hk32 y1 y2 y3 y4 (y5 + 1) w9)))
def X12_stories_b32_L  : Int32 → Int32 → Int32 → Int32 → Int32 → Wd → Option (Int32 × Wd) :=
  lp fu (fun _ _ _ _ _ _ => none) (fun k32 => X12_stories_b32 k32)
theorem t_X12_stories_b32_L {Z : Cz (Int32 × Wd)} (hZ : OKZ Z SM cX12_stories RX12 8 (some .int) 5) (hE : EndI Z)  : ∀ (y1 : Int32) (y2 : Int32) (y3 : Int32) (y4 : Int32) (y5 : Int32)  (w : Wd), BW Z 8 32 [(0, .ref (ph (zY Z) 0)), (1, .int y1), (2, .int y2), (3, .int y3), (4, .int y4), (5, .int y5)] [] w (X12_stories_b32_L y1 y2 y3 y4 y5 w) :=
  lp_bw (fun k32 => ∀ (y1 : Int32) (y2 : Int32) (y3 : Int32) (y4 : Int32) (y5 : Int32)  (w : Wd), BW Z 8 32 [(0, .ref (ph (zY Z) 0)), (1, .int y1), (2, .int y2), (3, .int y3), (4, .int y4), (5, .int y5)] [] w (k32 y1 y2 y3 y4 y5 w)) (fun _ _ _ _ _ _ => bw_none) (fun k32 hk32 y1 y2 y3 y4 y5 w => t_X12_stories_b32 hZ hE k32 hk32 y1 y2 y3 y4 y5 w) fu
def f_X12_stories (x1 : Int32) (w : Wd) : Option (Int32 × Wd) :=
  cl (f_X12_allWays w) fun r2 w1 =>
  if r2 = 0 then
  (some ((-1), w1))
  else
  cl (f_X12_in (Int32.toInt64 x1) 0 2 w1) fun r4 w3 =>
  if r4 = 0 then
  (some ((-1), w3))
  else
  X12_stories_b32_L x1 9 0 0 0 w3
set_option maxRecDepth 100000 in
set_option maxHeartbeats 4000000 in
theorem t_X12_stories {Z : Cz (Int32 × Wd)} (hZ : OKZ Z SM cX12_stories RX12 8 (some .int) 5) (hE : EndI Z) (x1 : Int32)  (w : Wd) : BW Z 8 0 [(0, .ref (ph (zY Z) 0)), (1, .int x1)] [] w (f_X12_stories x1 w) :=
  bw_aload_n hZ 0 rfl dX12_stories_0 <|
  bw_callVI (As := []) hZ ml_RX12_622 rc_12 obM_0 (by decide) (c_X12_allWays (zl Z) (zY Z) (hZ_S hZ) w) rfl rfl (Nat.le_of_ble_eq_true rfl) dX12_stories_1 fun r2 w1 =>
  bw_if_eq hZ (tgt := 19) (by decide) dX12_stories_4 (fun _ =>
  bw_iconst hZ (-1) (by decide) dX12_stories_19 <|
  bw_iret hZ hE dX12_stories_20) (fun _ =>
  bw_iload_n hZ 1 rfl dX12_stories_7 <|
  bw_i2l hZ dX12_stories_8 <|
  bw_lconst hZ 0 (by decide) dX12_stories_9 <|
  bw_ldc2 hZ kk_RX12_539 dX12_stories_10 <|
  bw_callSI (As := [.long (Int32.toInt64 x1), .long 0, .long 2]) hZ ms_RX12_60 (by decide) (c_X12_in (zl Z) (zY Z) (hZ_S hZ) (Int32.toInt64 x1) 0 2 w1) rfl rfl (Nat.le_of_ble_eq_true rfl) dX12_stories_13 fun r4 w3 =>
  bw_if_ne hZ (tgt := 21) (by decide) dX12_stories_16 (fun _ =>
  bw_bipush hZ 9 (by decide) dX12_stories_21 <|
  bw_istore_n hZ rfl (by decide) rfl dX12_stories_23 <|
  bw_iconst hZ 0 (by decide) dX12_stories_24 <|
  bw_istore_n hZ rfl (by decide) rfl dX12_stories_25 <|
  bw_iconst hZ 0 (by decide) dX12_stories_26 <|
  bw_istore hZ (by decide) rfl dX12_stories_27 <|
  bw_iconst hZ 0 (by decide) dX12_stories_29 <|
  bw_istore hZ (by decide) rfl dX12_stories_30 <|
  bw_sub [4, 5, 3, 2, 1, 0] rfl (t_X12_stories_b32_L hZ hE x1 9 0 0 0 w3)) (fun _ =>
  bw_iconst hZ (-1) (by decide) dX12_stories_19 <|
  bw_iret hZ hE dX12_stories_20))
theorem c_X12_stories (l : Launch) (Y : Ev) (hY : Y.1 = SM) (x1 : Int32)  (w : Wd) : CI l Y yX12_stories cX12_stories 8 5 [.ref (ph Y 0), .int x1] w .int (f_X12_stories x1 w) := by
  refine CI_of (S := SM) (by decide) (Nat.le_of_ble_eq_true rfl) hY ?_
  intro Z hl hY2 hZ hE
  subst hY2
  exact t_X12_stories hZ hE x1 w
