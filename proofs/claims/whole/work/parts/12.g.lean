-- WhichWill$Shares.givenTo
theorem dX7_givenTo_0 : decode cX7_givenTo 0 = .ok (.aload_n 0, 1) := by decide +kernel
theorem dX7_givenTo_1 : decode cX7_givenTo 1 = .ok (.getfield 40, 3) := by decide +kernel
theorem dX7_givenTo_4 : decode cX7_givenTo 4 = .ok (.invokevirtual 121, 3) := by decide +kernel
theorem dX7_givenTo_7 : decode cX7_givenTo 7 = .ok (.iconst 1, 1) := by decide +kernel
theorem dX7_givenTo_8 : decode cX7_givenTo 8 = .ok (.isub, 1) := by decide +kernel
theorem dX7_givenTo_9 : decode cX7_givenTo 9 = .ok (.istore_n 3, 1) := by decide +kernel
theorem dX7_givenTo_10 : decode cX7_givenTo 10 = .ok (.iload_n 3, 1) := by decide +kernel
theorem dX7_givenTo_11 : decode cX7_givenTo 11 = .ok (.ifCond .lt 117, 3) := by decide +kernel
theorem dX7_givenTo_14 : decode cX7_givenTo 14 = .ok (.aload_n 0, 1) := by decide +kernel
theorem dX7_givenTo_15 : decode cX7_givenTo 15 = .ok (.getfield 40, 3) := by decide +kernel
theorem dX7_givenTo_18 : decode cX7_givenTo 18 = .ok (.aload_n 0, 1) := by decide +kernel
theorem dX7_givenTo_19 : decode cX7_givenTo 19 = .ok (.getfield 62, 3) := by decide +kernel
theorem dX7_givenTo_22 : decode cX7_givenTo 22 = .ok (.iload_n 3, 1) := by decide +kernel
theorem dX7_givenTo_23 : decode cX7_givenTo 23 = .ok (.invokevirtual 125, 3) := by decide +kernel
theorem dX7_givenTo_26 : decode cX7_givenTo 26 = .ok (.istore 4, 2) := by decide +kernel
theorem dX7_givenTo_28 : decode cX7_givenTo 28 = .ok (.iload 4, 2) := by decide +kernel
theorem dX7_givenTo_30 : decode cX7_givenTo 30 = .ok (.aload_n 0, 1) := by decide +kernel
theorem dX7_givenTo_31 : decode cX7_givenTo 31 = .ok (.getfield 40, 3) := by decide +kernel
theorem dX7_givenTo_34 : decode cX7_givenTo 34 = .ok (.getfield 128, 3) := by decide +kernel
theorem dX7_givenTo_37 : decode cX7_givenTo 37 = .ok (.if_icmp .ge 85, 3) := by decide +kernel
theorem dX7_givenTo_40 : decode cX7_givenTo 40 = .ok (.aload_n 1, 1) := by decide +kernel
theorem dX7_givenTo_41 : decode cX7_givenTo 41 = .ok (.iload 4, 2) := by decide +kernel
theorem dX7_givenTo_43 : decode cX7_givenTo 43 = .ok (.invokevirtual 131, 3) := by decide +kernel
theorem dX7_givenTo_46 : decode cX7_givenTo 46 = .ok (.ifCond .eq 76, 3) := by decide +kernel
theorem dX7_givenTo_49 : decode cX7_givenTo 49 = .ok (.aload_n 0, 1) := by decide +kernel
theorem dX7_givenTo_50 : decode cX7_givenTo 50 = .ok (.getfield 40, 3) := by decide +kernel
theorem dX7_givenTo_53 : decode cX7_givenTo 53 = .ok (.getfield 135, 3) := by decide +kernel
theorem dX7_givenTo_56 : decode cX7_givenTo 56 = .ok (.iload 4, 2) := by decide +kernel
theorem dX7_givenTo_58 : decode cX7_givenTo 58 = .ok (.aaload, 1) := by decide +kernel
theorem dX7_givenTo_59 : decode cX7_givenTo 59 = .ok (.astore 5, 2) := by decide +kernel
theorem dX7_givenTo_61 : decode cX7_givenTo 61 = .ok (.aload_n 1, 1) := by decide +kernel
theorem dX7_givenTo_62 : decode cX7_givenTo 62 = .ok (.iload 4, 2) := by decide +kernel
theorem dX7_givenTo_64 : decode cX7_givenTo 64 = .ok (.invokevirtual 139, 3) := by decide +kernel
theorem dX7_givenTo_67 : decode cX7_givenTo 67 = .ok (.istore 6, 2) := by decide +kernel
theorem dX7_givenTo_69 : decode cX7_givenTo 69 = .ok (.iconst 0, 1) := by decide +kernel
theorem dX7_givenTo_70 : decode cX7_givenTo 70 = .ok (.istore 7, 2) := by decide +kernel
theorem dX7_givenTo_72 : decode cX7_givenTo 72 = .ok (.iload 7, 2) := by decide +kernel
theorem dX7_givenTo_74 : decode cX7_givenTo 74 = .ok (.aload 5, 2) := by decide +kernel
theorem dX7_givenTo_76 : decode cX7_givenTo 76 = .ok (.getfield 142, 3) := by decide +kernel
theorem dX7_givenTo_79 : decode cX7_givenTo 79 = .ok (.if_icmp .ge 43, 3) := by decide +kernel
theorem dX7_givenTo_82 : decode cX7_givenTo 82 = .ok (.aload 5, 2) := by decide +kernel
theorem dX7_givenTo_84 : decode cX7_givenTo 84 = .ok (.getfield 147, 3) := by decide +kernel
theorem dX7_givenTo_87 : decode cX7_givenTo 87 = .ok (.iload 7, 2) := by decide +kernel
theorem dX7_givenTo_89 : decode cX7_givenTo 89 = .ok (.iaload, 1) := by decide +kernel
theorem dX7_givenTo_90 : decode cX7_givenTo 90 = .ok (.iload_n 2, 1) := by decide +kernel
theorem dX7_givenTo_91 : decode cX7_givenTo 91 = .ok (.if_icmp .ne 25, 3) := by decide +kernel
theorem dX7_givenTo_94 : decode cX7_givenTo 94 = .ok (.aload_n 0, 1) := by decide +kernel
theorem dX7_givenTo_95 : decode cX7_givenTo 95 = .ok (.aload 5, 2) := by decide +kernel
theorem dX7_givenTo_97 : decode cX7_givenTo 97 = .ok (.iload 7, 2) := by decide +kernel
theorem dX7_givenTo_99 : decode cX7_givenTo 99 = .ok (.iload 6, 2) := by decide +kernel
theorem dX7_givenTo_101 : decode cX7_givenTo 101 = .ok (.invokevirtual 150, 3) := by decide +kernel
theorem dX7_givenTo_104 : decode cX7_givenTo 104 = .ok (.ifCond .eq 12, 3) := by decide +kernel
theorem dX7_givenTo_107 : decode cX7_givenTo 107 = .ok (.aload 5, 2) := by decide +kernel
theorem dX7_givenTo_109 : decode cX7_givenTo 109 = .ok (.getfield 154, 3) := by decide +kernel
theorem dX7_givenTo_112 : decode cX7_givenTo 112 = .ok (.iload 7, 2) := by decide +kernel
theorem dX7_givenTo_114 : decode cX7_givenTo 114 = .ok (.iaload, 1) := by decide +kernel
theorem dX7_givenTo_115 : decode cX7_givenTo 115 = .ok (.ireturn, 1) := by decide +kernel
theorem dX7_givenTo_116 : decode cX7_givenTo 116 = .ok (.iinc 7 1, 3) := by decide +kernel
theorem dX7_givenTo_119 : decode cX7_givenTo 119 = .ok (.goto (-47), 3) := by decide +kernel
theorem dX7_givenTo_122 : decode cX7_givenTo 122 = .ok (.iinc 3 (-1), 3) := by decide +kernel
theorem dX7_givenTo_125 : decode cX7_givenTo 125 = .ok (.goto (-115), 3) := by decide +kernel
theorem dX7_givenTo_128 : decode cX7_givenTo 128 = .ok (.iconst (-1), 1) := by decide +kernel
theorem dX7_givenTo_129 : decode cX7_givenTo 129 = .ok (.ireturn, 1) := by decide +kernel
def X7_givenTo_b72 (k10 : Nat → Int32 → Int32 → Wd → Option (Int32 × Wd)) (k72 : Nat → Int32 → Int32 → Nat → Int32 → Int32 → Wd → Option (Int32 × Wd)) (y1 : Nat) (y2 : Int32) (y3 : Int32) (y5 : Nat) (y6 : Int32) (y7 : Int32) (w : Wd) : Option (Int32 × Wd) :=
  if (w.1 y5 8) ≤ y7 then
  (k10 y1 y2 (y3 + (-1)) w)
  else
  if inb y7 8 = true then
  (if (w.1 (y5 + 1) (Int32.toNatClampNeg y7)) = y2 then
  (cl (f_X7_isHolding y5 y7 y6 w) fun r13 w12 =>
  if r13 = 0 then
  (k72 y1 y2 y3 y5 y6 (y7 + 1) w12)
  else
  if inb y7 8 = true then
  (some (w12.1 (y5 + 3) (Int32.toNatClampNeg y7), w12))
  else none)
  else
  k72 y1 y2 y3 y5 y6 (y7 + 1) w)
  else none
set_option maxRecDepth 100000 in
set_option maxHeartbeats 4000000 in
theorem t_X7_givenTo_b72 {Z : Cz (Int32 × Wd)} (hZ : OKZ Z SC cX7_givenTo RX7 8 (some .int) 3) (hE : EndI Z) (k10 : Nat → Int32 → Int32 → Wd → Option (Int32 × Wd)) (hk10 : ∀ (y1 : Nat) (y2 : Int32) (y3 : Int32) (hy1 : IsS y1) (w : Wd), BW Z 8 10 [(0, .ref (ph (zY Z) 8)), (1, .ref (ph (zY Z) y1)), (2, .int y2), (3, .int y3)] [] w (k10 y1 y2 y3 w)) (k72 : Nat → Int32 → Int32 → Nat → Int32 → Int32 → Wd → Option (Int32 × Wd)) (hk72 : ∀ (y1 : Nat) (y2 : Int32) (y3 : Int32) (y5 : Nat) (y6 : Int32) (y7 : Int32) (hy1 : IsS y1) (hy5 : IsP y5) (w : Wd), BW Z 8 72 [(0, .ref (ph (zY Z) 8)), (1, .ref (ph (zY Z) y1)), (2, .int y2), (3, .int y3), (5, .ref (ph (zY Z) y5)), (6, .int y6), (7, .int y7)] [] w (k72 y1 y2 y3 y5 y6 y7 w)) (y1 : Nat) (y2 : Int32) (y3 : Int32) (y5 : Nat) (y6 : Int32) (y7 : Int32) (hy1 : IsS y1) (hy5 : IsP y5) (w : Wd) : BW Z 8 72 [(0, .ref (ph (zY Z) 8)), (1, .ref (ph (zY Z) y1)), (2, .int y2), (3, .int y3), (5, .ref (ph (zY Z) y5)), (6, .int y6), (7, .int y7)] [] w (X7_givenTo_b72 k10 k72 y1 y2 y3 y5 y6 y7 w) :=
  bw_iload hZ 6 rfl dX7_givenTo_72 <|
  bw_aload hZ 4 rfl dX7_givenTo_74 <|
  bw_getI hZ fl_RX7_142 (by decide) (obP hy5) dX7_givenTo_76 <|
  bw_icmp_ge hZ (tgt := 122) (by decide) dX7_givenTo_79 (fun _ =>
  bw_iinc hZ (-1) 3 rfl (by decide) (by decide) rfl dX7_givenTo_122 <|
  bw_goto hZ (tgt := 10) (by decide) dX7_givenTo_125 <|
  bw_sub [1, 2, 3, 0] rfl (hk10 y1 y2 (y3 + (-1)) hy1 w)) (fun _ =>
  bw_aload hZ 4 rfl dX7_givenTo_82 <|
  bw_getR hZ fl_RX7_147 (obP hy5) (rfP9 hy5) dX7_givenTo_84 <|
  bw_iload hZ 6 rfl dX7_givenTo_87 <|
  bw_iald hZ (arP1 hy5 _) dX7_givenTo_89 <|
  bw_iload_n hZ 2 rfl dX7_givenTo_90 <|
  bw_icmp_ne hZ (tgt := 116) (by decide) dX7_givenTo_91 (fun _ =>
  bw_iinc hZ 1 6 rfl (by decide) (by decide) rfl dX7_givenTo_116 <|
  bw_goto hZ (tgt := 72) (by decide) dX7_givenTo_119 <|
  bw_sub [1, 2, 3, 4, 5, 6, 0] rfl (hk72 y1 y2 y3 y5 y6 (y7 + 1) hy1 hy5 w)) (fun _ =>
  bw_aload_n hZ 0 rfl dX7_givenTo_94 <|
  bw_aload hZ 4 rfl dX7_givenTo_95 <|
  bw_iload hZ 6 rfl dX7_givenTo_97 <|
  bw_iload hZ 5 rfl dX7_givenTo_99 <|
  bw_callVI (As := [.ref (ph (zY Z) y5), .int y7, .int y6]) hZ ml_RX7_150 rc_7 obC_8 (by decide) (c_X7_isHolding (zl Z) (zY Z) (hZ_S hZ) y5 y7 y6 hy5 w) rfl rfl (Nat.le_of_ble_eq_true rfl) dX7_givenTo_101 fun r13 w12 =>
  bw_if_eq hZ (tgt := 116) (by decide) dX7_givenTo_104 (fun _ =>
  bw_iinc hZ 1 6 rfl (by decide) (by decide) rfl dX7_givenTo_116 <|
  bw_goto hZ (tgt := 72) (by decide) dX7_givenTo_119 <|
  bw_sub [1, 2, 3, 4, 5, 6, 0] rfl (hk72 y1 y2 y3 y5 y6 (y7 + 1) hy1 hy5 w12)) (fun _ =>
  bw_aload hZ 4 rfl dX7_givenTo_107 <|
  bw_getR hZ fl_RX7_154 (obP hy5) (rfP11 hy5) dX7_givenTo_109 <|
  bw_iload hZ 6 rfl dX7_givenTo_112 <|
  bw_iald hZ (arP3 hy5 _) dX7_givenTo_114 <|
  bw_iret hZ hE dX7_givenTo_115)))
def X7_givenTo_b72_L (k10 : Nat → Int32 → Int32 → Wd → Option (Int32 × Wd)) : Nat → Int32 → Int32 → Nat → Int32 → Int32 → Wd → Option (Int32 × Wd) :=
  lp fu (fun _ _ _ _ _ _ _ => none) (fun k72 => X7_givenTo_b72 k10 k72)
theorem t_X7_givenTo_b72_L {Z : Cz (Int32 × Wd)} (hZ : OKZ Z SC cX7_givenTo RX7 8 (some .int) 3) (hE : EndI Z) (k10 : Nat → Int32 → Int32 → Wd → Option (Int32 × Wd)) (hk10 : ∀ (y1 : Nat) (y2 : Int32) (y3 : Int32) (hy1 : IsS y1) (w : Wd), BW Z 8 10 [(0, .ref (ph (zY Z) 8)), (1, .ref (ph (zY Z) y1)), (2, .int y2), (3, .int y3)] [] w (k10 y1 y2 y3 w)) : ∀ (y1 : Nat) (y2 : Int32) (y3 : Int32) (y5 : Nat) (y6 : Int32) (y7 : Int32) (hy1 : IsS y1) (hy5 : IsP y5) (w : Wd), BW Z 8 72 [(0, .ref (ph (zY Z) 8)), (1, .ref (ph (zY Z) y1)), (2, .int y2), (3, .int y3), (5, .ref (ph (zY Z) y5)), (6, .int y6), (7, .int y7)] [] w (X7_givenTo_b72_L k10 y1 y2 y3 y5 y6 y7 w) :=
  lp_bw (fun k72 => ∀ (y1 : Nat) (y2 : Int32) (y3 : Int32) (y5 : Nat) (y6 : Int32) (y7 : Int32) (hy1 : IsS y1) (hy5 : IsP y5) (w : Wd), BW Z 8 72 [(0, .ref (ph (zY Z) 8)), (1, .ref (ph (zY Z) y1)), (2, .int y2), (3, .int y3), (5, .ref (ph (zY Z) y5)), (6, .int y6), (7, .int y7)] [] w (k72 y1 y2 y3 y5 y6 y7 w)) (fun _ _ _ _ _ _ _ _ _ => bw_none) (fun k72 hk72 y1 y2 y3 y5 y6 y7 hy1 hy5 w => t_X7_givenTo_b72 hZ hE k10 hk10 k72 hk72 y1 y2 y3 y5 y6 y7 hy1 hy5 w) fu
def X7_givenTo_b10 (k10 : Nat → Int32 → Int32 → Wd → Option (Int32 × Wd)) (y1 : Nat) (y2 : Int32) (y3 : Int32) (w : Wd) : Option (Int32 × Wd) :=
  if y3 < 0 then
  (some ((-1), w))
  else
  cl (f_X2_itemAt (w.1 8 11) y3 w) fun r5 w4 =>
  if (w4.1 3 3) ≤ r5 then
  (k10 y1 y2 (y3 + (-1)) w4)
  else
  cl (f_X8_isCounting y1 r5 w4) fun r7 w6 =>
  if r7 = 0 then
  (k10 y1 y2 (y3 + (-1)) w6)
  else
  if inb r5 4 = true then
  (cl (f_X8_voidOf y1 r5 w6) fun r11 w10 =>
  X7_givenTo_b72_L k10 y1 y2 y3 (57 + 6 * Int32.toNatClampNeg r5) r11 0 w10)
  else none
set_option maxRecDepth 100000 in
set_option maxHeartbeats 4000000 in
theorem t_X7_givenTo_b10 {Z : Cz (Int32 × Wd)} (hZ : OKZ Z SC cX7_givenTo RX7 8 (some .int) 3) (hE : EndI Z) (k10 : Nat → Int32 → Int32 → Wd → Option (Int32 × Wd)) (hk10 : ∀ (y1 : Nat) (y2 : Int32) (y3 : Int32) (hy1 : IsS y1) (w : Wd), BW Z 8 10 [(0, .ref (ph (zY Z) 8)), (1, .ref (ph (zY Z) y1)), (2, .int y2), (3, .int y3)] [] w (k10 y1 y2 y3 w)) (y1 : Nat) (y2 : Int32) (y3 : Int32) (hy1 : IsS y1) (w : Wd) : BW Z 8 10 [(0, .ref (ph (zY Z) 8)), (1, .ref (ph (zY Z) y1)), (2, .int y2), (3, .int y3)] [] w (X7_givenTo_b10 k10 y1 y2 y3 w) :=
  bw_iload_n hZ 3 rfl dX7_givenTo_10 <|
  bw_if_lt hZ (tgt := 128) (by decide) dX7_givenTo_11 (fun _ =>
  bw_iconst hZ (-1) (by decide) dX7_givenTo_128 <|
  bw_iret hZ hE dX7_givenTo_129) (fun _ =>
  bw_aload_n hZ 0 rfl dX7_givenTo_14 <|
  bw_getR hZ fl_RX7_40 obC_8 rfl dX7_givenTo_15 <|
  bw_aload_n hZ 0 rfl dX7_givenTo_18 <|
  bw_getI hZ fl_RX7_62 (by decide) obC_8 dX7_givenTo_19 <|
  bw_iload_n hZ 3 rfl dX7_givenTo_22 <|
  bw_callVI (As := [.int (w.1 8 11), .int y3]) hZ ml_RX7_125 rc_2 obC_3 (by decide) (c_X2_itemAt (zl Z) (zY Z) (hZ_S hZ) (w.1 8 11) y3 w) rfl rfl (Nat.le_of_ble_eq_true rfl) dX7_givenTo_23 fun r5 w4 =>
  bw_istore hZ (by decide) rfl dX7_givenTo_26 <|
  bw_iload hZ 0 rfl dX7_givenTo_28 <|
  bw_aload_n hZ 1 rfl dX7_givenTo_30 <|
  bw_getR hZ fl_RX7_40 obC_8 rfl dX7_givenTo_31 <|
  bw_getI hZ fl_RX7_128 (by decide) obC_3 dX7_givenTo_34 <|
  bw_icmp_ge hZ (tgt := 122) (by decide) dX7_givenTo_37 (fun _ =>
  bw_iinc hZ (-1) 4 rfl (by decide) (by decide) rfl dX7_givenTo_122 <|
  bw_goto hZ (tgt := 10) (by decide) dX7_givenTo_125 <|
  bw_sub [2, 3, 4, 0] rfl (hk10 y1 y2 (y3 + (-1)) hy1 w4)) (fun _ =>
  bw_aload_n hZ 2 rfl dX7_givenTo_40 <|
  bw_iload hZ 0 rfl dX7_givenTo_41 <|
  bw_callVI (As := [.int r5]) hZ ml_RX7_131 rc_8 (obS hy1) (by decide) (c_X8_isCounting (zl Z) (zY Z) (hZ_S hZ) y1 r5 hy1 w4) rfl rfl (Nat.le_of_ble_eq_true rfl) dX7_givenTo_43 fun r7 w6 =>
  bw_if_eq hZ (tgt := 122) (by decide) dX7_givenTo_46 (fun _ =>
  bw_iinc hZ (-1) 4 rfl (by decide) (by decide) rfl dX7_givenTo_122 <|
  bw_goto hZ (tgt := 10) (by decide) dX7_givenTo_125 <|
  bw_sub [2, 3, 4, 0] rfl (hk10 y1 y2 (y3 + (-1)) hy1 w6)) (fun _ =>
  bw_aload_n hZ 1 rfl dX7_givenTo_49 <|
  bw_getR hZ fl_RX7_40 obC_8 rfl dX7_givenTo_50 <|
  bw_getR hZ fl_RX7_135 obC_3 rfl dX7_givenTo_53 <|
  bw_iload hZ 0 rfl dX7_givenTo_56 <|
  bw_aald (57 + 6 * Int32.toNatClampNeg r5) hZ (arC_4 _) (Or.inl ⟨rfl, rfl⟩) rfl dX7_givenTo_58 fun hi8 =>
  bw_astore hZ (by decide) rfl dX7_givenTo_59 <|
  bw_aload_n hZ 3 rfl dX7_givenTo_61 <|
  bw_iload hZ 1 rfl dX7_givenTo_62 <|
  bw_callVI (As := [.int r5]) hZ ml_RX7_139 rc_8 (obS hy1) (by decide) (c_X8_voidOf (zl Z) (zY Z) (hZ_S hZ) y1 r5 hy1 w6) rfl rfl (Nat.le_of_ble_eq_true rfl) dX7_givenTo_64 fun r11 w10 =>
  bw_istore hZ (by decide) rfl dX7_givenTo_67 <|
  bw_iconst hZ 0 (by decide) dX7_givenTo_69 <|
  bw_istore hZ (by decide) rfl dX7_givenTo_70 <|
  bw_sub [4, 5, 6, 7, 2, 1, 0] rfl (t_X7_givenTo_b72_L hZ hE k10 hk10 y1 y2 y3 (57 + 6 * Int32.toNatClampNeg r5) r11 0 hy1 (isP_of hi8) w10))))
def X7_givenTo_b10_L  : Nat → Int32 → Int32 → Wd → Option (Int32 × Wd) :=
  lp fu (fun _ _ _ _ => none) (fun k10 => X7_givenTo_b10 k10)
theorem t_X7_givenTo_b10_L {Z : Cz (Int32 × Wd)} (hZ : OKZ Z SC cX7_givenTo RX7 8 (some .int) 3) (hE : EndI Z)  : ∀ (y1 : Nat) (y2 : Int32) (y3 : Int32) (hy1 : IsS y1) (w : Wd), BW Z 8 10 [(0, .ref (ph (zY Z) 8)), (1, .ref (ph (zY Z) y1)), (2, .int y2), (3, .int y3)] [] w (X7_givenTo_b10_L y1 y2 y3 w) :=
  lp_bw (fun k10 => ∀ (y1 : Nat) (y2 : Int32) (y3 : Int32) (hy1 : IsS y1) (w : Wd), BW Z 8 10 [(0, .ref (ph (zY Z) 8)), (1, .ref (ph (zY Z) y1)), (2, .int y2), (3, .int y3)] [] w (k10 y1 y2 y3 w)) (fun _ _ _ _ _ => bw_none) (fun k10 hk10 y1 y2 y3 hy1 w => t_X7_givenTo_b10 hZ hE k10 hk10 y1 y2 y3 hy1 w) fu
def f_X7_givenTo (o1 : Nat) (x2 : Int32) (w : Wd) : Option (Int32 × Wd) :=
  cl (f_X2_itemsTold w) fun r2 w1 =>
  lt (r2 - 1) fun v3 =>
  X7_givenTo_b10_L o1 x2 v3 w1
set_option maxRecDepth 100000 in
set_option maxHeartbeats 4000000 in
theorem t_X7_givenTo {Z : Cz (Int32 × Wd)} (hZ : OKZ Z SC cX7_givenTo RX7 8 (some .int) 3) (hE : EndI Z) (o1 : Nat) (x2 : Int32) (ho1 : IsS o1) (w : Wd) : BW Z 8 0 [(0, .ref (ph (zY Z) 8)), (1, .ref (ph (zY Z) o1)), (2, .int x2)] [] w (f_X7_givenTo o1 x2 w) :=
  bw_aload_n hZ 0 rfl dX7_givenTo_0 <|
  bw_getR hZ fl_RX7_40 obC_8 rfl dX7_givenTo_1 <|
  bw_callVI (As := []) hZ ml_RX7_121 rc_2 obC_3 (by decide) (c_X2_itemsTold (zl Z) (zY Z) (hZ_S hZ) w) rfl rfl (Nat.le_of_ble_eq_true rfl) dX7_givenTo_4 fun r2 w1 =>
  bw_iconst hZ 1 (by decide) dX7_givenTo_7 <|
  bw_isub hZ dX7_givenTo_8 <|
  bw_nm fun v3 =>
  bw_istore_n hZ rfl (by decide) rfl dX7_givenTo_9 <|
  bw_sub [1, 2, 3, 0] rfl (t_X7_givenTo_b10_L hZ hE o1 x2 v3 ho1 w1)
theorem c_X7_givenTo (l : Launch) (Y : Ev) (hY : Y.1 = SC) (o1 : Nat) (x2 : Int32) (ho1 : IsS o1) (w : Wd) : CI l Y yX7_givenTo cX7_givenTo 8 3 [.ref (ph Y 8), .ref (ph Y o1), .int x2] w .int (f_X7_givenTo o1 x2 w) := by
  refine CI_of (S := SC) (by decide) (Nat.le_of_ble_eq_true rfl) hY ?_
  intro Z hl hY2 hZ hE
  subst hY2
  exact t_X7_givenTo hZ hE o1 x2 ho1 w
-- WhichWill$Shares.heirsOfRest
theorem dX7_heirsOfRest_0 : decode cX7_heirsOfRest 0 = .ok (.aload_n 0, 1) := by decide +kernel
theorem dX7_heirsOfRest_1 : decode cX7_heirsOfRest 1 = .ok (.getfield 40, 3) := by decide +kernel
theorem dX7_heirsOfRest_4 : decode cX7_heirsOfRest 4 = .ok (.invokevirtual 121, 3) := by decide +kernel
theorem dX7_heirsOfRest_7 : decode cX7_heirsOfRest 7 = .ok (.iconst 1, 1) := by decide +kernel
theorem dX7_heirsOfRest_8 : decode cX7_heirsOfRest 8 = .ok (.isub, 1) := by decide +kernel
theorem dX7_heirsOfRest_9 : decode cX7_heirsOfRest 9 = .ok (.istore_n 2, 1) := by decide +kernel
theorem dX7_heirsOfRest_10 : decode cX7_heirsOfRest 10 = .ok (.iload_n 2, 1) := by decide +kernel
theorem dX7_heirsOfRest_11 : decode cX7_heirsOfRest 11 = .ok (.ifCond .lt 86, 3) := by decide +kernel
theorem dX7_heirsOfRest_14 : decode cX7_heirsOfRest 14 = .ok (.aload_n 0, 1) := by decide +kernel
theorem dX7_heirsOfRest_15 : decode cX7_heirsOfRest 15 = .ok (.getfield 40, 3) := by decide +kernel
theorem dX7_heirsOfRest_18 : decode cX7_heirsOfRest 18 = .ok (.aload_n 0, 1) := by decide +kernel
theorem dX7_heirsOfRest_19 : decode cX7_heirsOfRest 19 = .ok (.getfield 62, 3) := by decide +kernel
theorem dX7_heirsOfRest_22 : decode cX7_heirsOfRest 22 = .ok (.iload_n 2, 1) := by decide +kernel
theorem dX7_heirsOfRest_23 : decode cX7_heirsOfRest 23 = .ok (.invokevirtual 125, 3) := by decide +kernel
theorem dX7_heirsOfRest_26 : decode cX7_heirsOfRest 26 = .ok (.istore_n 3, 1) := by decide +kernel
theorem dX7_heirsOfRest_27 : decode cX7_heirsOfRest 27 = .ok (.iload_n 3, 1) := by decide +kernel
theorem dX7_heirsOfRest_28 : decode cX7_heirsOfRest 28 = .ok (.aload_n 0, 1) := by decide +kernel
theorem dX7_heirsOfRest_29 : decode cX7_heirsOfRest 29 = .ok (.getfield 40, 3) := by decide +kernel
theorem dX7_heirsOfRest_32 : decode cX7_heirsOfRest 32 = .ok (.getfield 128, 3) := by decide +kernel
theorem dX7_heirsOfRest_35 : decode cX7_heirsOfRest 35 = .ok (.if_icmp .ge 56, 3) := by decide +kernel
theorem dX7_heirsOfRest_38 : decode cX7_heirsOfRest 38 = .ok (.aload_n 1, 1) := by decide +kernel
theorem dX7_heirsOfRest_39 : decode cX7_heirsOfRest 39 = .ok (.iload_n 3, 1) := by decide +kernel
theorem dX7_heirsOfRest_40 : decode cX7_heirsOfRest 40 = .ok (.invokevirtual 131, 3) := by decide +kernel
theorem dX7_heirsOfRest_43 : decode cX7_heirsOfRest 43 = .ok (.ifCond .eq 48, 3) := by decide +kernel
theorem dX7_heirsOfRest_46 : decode cX7_heirsOfRest 46 = .ok (.aload_n 1, 1) := by decide +kernel
theorem dX7_heirsOfRest_47 : decode cX7_heirsOfRest 47 = .ok (.iload_n 3, 1) := by decide +kernel
theorem dX7_heirsOfRest_48 : decode cX7_heirsOfRest 48 = .ok (.invokevirtual 139, 3) := by decide +kernel
theorem dX7_heirsOfRest_51 : decode cX7_heirsOfRest 51 = .ok (.aload_n 0, 1) := by decide +kernel
theorem dX7_heirsOfRest_52 : decode cX7_heirsOfRest 52 = .ok (.getfield 40, 3) := by decide +kernel
theorem dX7_heirsOfRest_55 : decode cX7_heirsOfRest 55 = .ok (.getfield 72, 3) := by decide +kernel
theorem dX7_heirsOfRest_58 : decode cX7_heirsOfRest 58 = .ok (.getfield 157, 3) := by decide +kernel
theorem dX7_heirsOfRest_61 : decode cX7_heirsOfRest 61 = .ok (.ior, 1) := by decide +kernel
theorem dX7_heirsOfRest_62 : decode cX7_heirsOfRest 62 = .ok (.istore 4, 2) := by decide +kernel
theorem dX7_heirsOfRest_64 : decode cX7_heirsOfRest 64 = .ok (.aload_n 0, 1) := by decide +kernel
theorem dX7_heirsOfRest_65 : decode cX7_heirsOfRest 65 = .ok (.getfield 40, 3) := by decide +kernel
theorem dX7_heirsOfRest_68 : decode cX7_heirsOfRest 68 = .ok (.getfield 135, 3) := by decide +kernel
theorem dX7_heirsOfRest_71 : decode cX7_heirsOfRest 71 = .ok (.iload_n 3, 1) := by decide +kernel
theorem dX7_heirsOfRest_72 : decode cX7_heirsOfRest 72 = .ok (.aaload, 1) := by decide +kernel
theorem dX7_heirsOfRest_73 : decode cX7_heirsOfRest 73 = .ok (.getfield 189, 3) := by decide +kernel
theorem dX7_heirsOfRest_76 : decode cX7_heirsOfRest 76 = .ok (.iload 4, 2) := by decide +kernel
theorem dX7_heirsOfRest_78 : decode cX7_heirsOfRest 78 = .ok (.iconst (-1), 1) := by decide +kernel
theorem dX7_heirsOfRest_79 : decode cX7_heirsOfRest 79 = .ok (.ixor, 1) := by decide +kernel
theorem dX7_heirsOfRest_80 : decode cX7_heirsOfRest 80 = .ok (.iand, 1) := by decide +kernel
theorem dX7_heirsOfRest_81 : decode cX7_heirsOfRest 81 = .ok (.istore 5, 2) := by decide +kernel
theorem dX7_heirsOfRest_83 : decode cX7_heirsOfRest 83 = .ok (.iload 5, 2) := by decide +kernel
theorem dX7_heirsOfRest_85 : decode cX7_heirsOfRest 85 = .ok (.ifCond .eq 6, 3) := by decide +kernel
theorem dX7_heirsOfRest_88 : decode cX7_heirsOfRest 88 = .ok (.iload 5, 2) := by decide +kernel
theorem dX7_heirsOfRest_90 : decode cX7_heirsOfRest 90 = .ok (.ireturn, 1) := by decide +kernel
theorem dX7_heirsOfRest_91 : decode cX7_heirsOfRest 91 = .ok (.iinc 2 (-1), 3) := by decide +kernel
theorem dX7_heirsOfRest_94 : decode cX7_heirsOfRest 94 = .ok (.goto (-84), 3) := by decide +kernel
theorem dX7_heirsOfRest_97 : decode cX7_heirsOfRest 97 = .ok (.iconst 0, 1) := by decide +kernel
theorem dX7_heirsOfRest_98 : decode cX7_heirsOfRest 98 = .ok (.ireturn, 1) := by decide +kernel
def X7_heirsOfRest_b10 (k10 : Nat → Int32 → Wd → Option (Int32 × Wd)) (y1 : Nat) (y2 : Int32) (w : Wd) : Option (Int32 × Wd) :=
  if y2 < 0 then
  (some (0, w))
  else
  cl (f_X2_itemAt (w.1 8 11) y2 w) fun r5 w4 =>
  if (w4.1 3 3) ≤ r5 then
  (k10 y1 (y2 + (-1)) w4)
  else
  cl (f_X8_isCounting y1 r5 w4) fun r7 w6 =>
  if r7 = 0 then
  (k10 y1 (y2 + (-1)) w6)
  else
  cl (f_X8_voidOf y1 r5 w6) fun r9 w8 =>
  lt (r9 ||| (w8.1 31 10)) fun v10 =>
  if inb r5 4 = true then
  (lt ((w8.1 (57 + 6 * Int32.toNatClampNeg r5) 3) &&& (v10 ^^^ ((-1)))) fun v13 =>
  if v13 = 0 then
  (k10 y1 (y2 + (-1)) w8)
  else
  some (v13, w8))
  else none
set_option maxRecDepth 100000 in
set_option maxHeartbeats 4000000 in
theorem t_X7_heirsOfRest_b10 {Z : Cz (Int32 × Wd)} (hZ : OKZ Z SC cX7_heirsOfRest RX7 6 (some .int) 2) (hE : EndI Z) (k10 : Nat → Int32 → Wd → Option (Int32 × Wd)) (hk10 : ∀ (y1 : Nat) (y2 : Int32) (hy1 : IsS y1) (w : Wd), BW Z 6 10 [(0, .ref (ph (zY Z) 8)), (1, .ref (ph (zY Z) y1)), (2, .int y2)] [] w (k10 y1 y2 w)) (y1 : Nat) (y2 : Int32) (hy1 : IsS y1) (w : Wd) : BW Z 6 10 [(0, .ref (ph (zY Z) 8)), (1, .ref (ph (zY Z) y1)), (2, .int y2)] [] w (X7_heirsOfRest_b10 k10 y1 y2 w) :=
  bw_iload_n hZ 2 rfl dX7_heirsOfRest_10 <|
  bw_if_lt hZ (tgt := 97) (by decide) dX7_heirsOfRest_11 (fun _ =>
  bw_iconst hZ 0 (by decide) dX7_heirsOfRest_97 <|
  bw_iret hZ hE dX7_heirsOfRest_98) (fun _ =>
  bw_aload_n hZ 0 rfl dX7_heirsOfRest_14 <|
  bw_getR hZ fl_RX7_40 obC_8 rfl dX7_heirsOfRest_15 <|
  bw_aload_n hZ 0 rfl dX7_heirsOfRest_18 <|
  bw_getI hZ fl_RX7_62 (by decide) obC_8 dX7_heirsOfRest_19 <|
  bw_iload_n hZ 2 rfl dX7_heirsOfRest_22 <|
  bw_callVI (As := [.int (w.1 8 11), .int y2]) hZ ml_RX7_125 rc_2 obC_3 (by decide) (c_X2_itemAt (zl Z) (zY Z) (hZ_S hZ) (w.1 8 11) y2 w) rfl rfl (Nat.le_of_ble_eq_true rfl) dX7_heirsOfRest_23 fun r5 w4 =>
  bw_istore_n hZ rfl (by decide) rfl dX7_heirsOfRest_26 <|
  bw_iload_n hZ 0 rfl dX7_heirsOfRest_27 <|
  bw_aload_n hZ 1 rfl dX7_heirsOfRest_28 <|
  bw_getR hZ fl_RX7_40 obC_8 rfl dX7_heirsOfRest_29 <|
  bw_getI hZ fl_RX7_128 (by decide) obC_3 dX7_heirsOfRest_32 <|
  bw_icmp_ge hZ (tgt := 91) (by decide) dX7_heirsOfRest_35 (fun _ =>
  bw_iinc hZ (-1) 3 rfl (by decide) (by decide) rfl dX7_heirsOfRest_91 <|
  bw_goto hZ (tgt := 10) (by decide) dX7_heirsOfRest_94 <|
  bw_sub [2, 3, 0] rfl (hk10 y1 (y2 + (-1)) hy1 w4)) (fun _ =>
  bw_aload_n hZ 2 rfl dX7_heirsOfRest_38 <|
  bw_iload_n hZ 0 rfl dX7_heirsOfRest_39 <|
  bw_callVI (As := [.int r5]) hZ ml_RX7_131 rc_8 (obS hy1) (by decide) (c_X8_isCounting (zl Z) (zY Z) (hZ_S hZ) y1 r5 hy1 w4) rfl rfl (Nat.le_of_ble_eq_true rfl) dX7_heirsOfRest_40 fun r7 w6 =>
  bw_if_eq hZ (tgt := 91) (by decide) dX7_heirsOfRest_43 (fun _ =>
  bw_iinc hZ (-1) 3 rfl (by decide) (by decide) rfl dX7_heirsOfRest_91 <|
  bw_goto hZ (tgt := 10) (by decide) dX7_heirsOfRest_94 <|
  bw_sub [2, 3, 0] rfl (hk10 y1 (y2 + (-1)) hy1 w6)) (fun _ =>
  bw_aload_n hZ 2 rfl dX7_heirsOfRest_46 <|
  bw_iload_n hZ 0 rfl dX7_heirsOfRest_47 <|
  bw_callVI (As := [.int r5]) hZ ml_RX7_139 rc_8 (obS hy1) (by decide) (c_X8_voidOf (zl Z) (zY Z) (hZ_S hZ) y1 r5 hy1 w6) rfl rfl (Nat.le_of_ble_eq_true rfl) dX7_heirsOfRest_48 fun r9 w8 =>
  bw_aload_n hZ 1 rfl dX7_heirsOfRest_51 <|
  bw_getR hZ fl_RX7_40 obC_8 rfl dX7_heirsOfRest_52 <|
  bw_getR hZ fl_RX7_72 obC_3 rfl dX7_heirsOfRest_55 <|
  bw_getI hZ fl_RX7_157 (by decide) obC_31 dX7_heirsOfRest_58 <|
  bw_ior hZ dX7_heirsOfRest_61 <|
  bw_nm fun v10 =>
  bw_istore hZ (by decide) rfl dX7_heirsOfRest_62 <|
  bw_aload_n hZ 2 rfl dX7_heirsOfRest_64 <|
  bw_getR hZ fl_RX7_40 obC_8 rfl dX7_heirsOfRest_65 <|
  bw_getR hZ fl_RX7_135 obC_3 rfl dX7_heirsOfRest_68 <|
  bw_iload_n hZ 1 rfl dX7_heirsOfRest_71 <|
  bw_aald (57 + 6 * Int32.toNatClampNeg r5) hZ (arC_4 _) (Or.inl ⟨rfl, rfl⟩) rfl dX7_heirsOfRest_72 fun hi11 =>
  bw_getI hZ fl_RX7_189 (by decide) (obP (isP_of hi11)) dX7_heirsOfRest_73 <|
  bw_iload hZ 0 rfl dX7_heirsOfRest_76 <|
  bw_iconst hZ (-1) (by decide) dX7_heirsOfRest_78 <|
  bw_ixor hZ dX7_heirsOfRest_79 <|
  bw_iand hZ dX7_heirsOfRest_80 <|
  bw_nm fun v13 =>
  bw_istore hZ (by decide) rfl dX7_heirsOfRest_81 <|
  bw_iload hZ 0 rfl dX7_heirsOfRest_83 <|
  bw_if_eq hZ (tgt := 91) (by decide) dX7_heirsOfRest_85 (fun _ =>
  bw_iinc hZ (-1) 5 rfl (by decide) (by decide) rfl dX7_heirsOfRest_91 <|
  bw_goto hZ (tgt := 10) (by decide) dX7_heirsOfRest_94 <|
  bw_sub [4, 5, 0] rfl (hk10 y1 (y2 + (-1)) hy1 w8)) (fun _ =>
  bw_iload hZ 0 rfl dX7_heirsOfRest_88 <|
  bw_iret hZ hE dX7_heirsOfRest_90))))
def X7_heirsOfRest_b10_L  : Nat → Int32 → Wd → Option (Int32 × Wd) :=
  lp fu (fun _ _ _ => none) (fun k10 => X7_heirsOfRest_b10 k10)
theorem t_X7_heirsOfRest_b10_L {Z : Cz (Int32 × Wd)} (hZ : OKZ Z SC cX7_heirsOfRest RX7 6 (some .int) 2) (hE : EndI Z)  : ∀ (y1 : Nat) (y2 : Int32) (hy1 : IsS y1) (w : Wd), BW Z 6 10 [(0, .ref (ph (zY Z) 8)), (1, .ref (ph (zY Z) y1)), (2, .int y2)] [] w (X7_heirsOfRest_b10_L y1 y2 w) :=
  lp_bw (fun k10 => ∀ (y1 : Nat) (y2 : Int32) (hy1 : IsS y1) (w : Wd), BW Z 6 10 [(0, .ref (ph (zY Z) 8)), (1, .ref (ph (zY Z) y1)), (2, .int y2)] [] w (k10 y1 y2 w)) (fun _ _ _ _ => bw_none) (fun k10 hk10 y1 y2 hy1 w => t_X7_heirsOfRest_b10 hZ hE k10 hk10 y1 y2 hy1 w) fu
def f_X7_heirsOfRest (o1 : Nat) (w : Wd) : Option (Int32 × Wd) :=
  cl (f_X2_itemsTold w) fun r2 w1 =>
  lt (r2 - 1) fun v3 =>
  X7_heirsOfRest_b10_L o1 v3 w1
set_option maxRecDepth 100000 in
set_option maxHeartbeats 4000000 in
theorem t_X7_heirsOfRest {Z : Cz (Int32 × Wd)} (hZ : OKZ Z SC cX7_heirsOfRest RX7 6 (some .int) 2) (hE : EndI Z) (o1 : Nat) (ho1 : IsS o1) (w : Wd) : BW Z 6 0 [(0, .ref (ph (zY Z) 8)), (1, .ref (ph (zY Z) o1))] [] w (f_X7_heirsOfRest o1 w) :=
  bw_aload_n hZ 0 rfl dX7_heirsOfRest_0 <|
  bw_getR hZ fl_RX7_40 obC_8 rfl dX7_heirsOfRest_1 <|
  bw_callVI (As := []) hZ ml_RX7_121 rc_2 obC_3 (by decide) (c_X2_itemsTold (zl Z) (zY Z) (hZ_S hZ) w) rfl rfl (Nat.le_of_ble_eq_true rfl) dX7_heirsOfRest_4 fun r2 w1 =>
  bw_iconst hZ 1 (by decide) dX7_heirsOfRest_7 <|
  bw_isub hZ dX7_heirsOfRest_8 <|
  bw_nm fun v3 =>
  bw_istore_n hZ rfl (by decide) rfl dX7_heirsOfRest_9 <|
  bw_sub [1, 2, 0] rfl (t_X7_heirsOfRest_b10_L hZ hE o1 v3 ho1 w1)
theorem c_X7_heirsOfRest (l : Launch) (Y : Ev) (hY : Y.1 = SC) (o1 : Nat) (ho1 : IsS o1) (w : Wd) : CI l Y yX7_heirsOfRest cX7_heirsOfRest 6 2 [.ref (ph Y 8), .ref (ph Y o1)] w .int (f_X7_heirsOfRest o1 w) := by
  refine CI_of (S := SC) (by decide) (Nat.le_of_ble_eq_true rfl) hY ?_
  intro Z hl hY2 hZ hE
  subst hY2
  exact t_X7_heirsOfRest hZ hE o1 ho1 w
-- java/lang/Integer.bitCount
theorem dJ6_bitCount_0f7a4_0 : decode cJ6_bitCount_0f7a4 0 = .ok (.iload_n 0, 1) := by decide +kernel
theorem dJ6_bitCount_0f7a4_1 : decode cJ6_bitCount_0f7a4 1 = .ok (.iload_n 0, 1) := by decide +kernel
theorem dJ6_bitCount_0f7a4_2 : decode cJ6_bitCount_0f7a4 2 = .ok (.iconst 1, 1) := by decide +kernel
theorem dJ6_bitCount_0f7a4_3 : decode cJ6_bitCount_0f7a4 3 = .ok (.iushr, 1) := by decide +kernel
theorem dJ6_bitCount_0f7a4_4 : decode cJ6_bitCount_0f7a4 4 = .ok (.ldc_w 265, 3) := by decide +kernel
theorem dJ6_bitCount_0f7a4_7 : decode cJ6_bitCount_0f7a4 7 = .ok (.iand, 1) := by decide +kernel
theorem dJ6_bitCount_0f7a4_8 : decode cJ6_bitCount_0f7a4 8 = .ok (.isub, 1) := by decide +kernel
theorem dJ6_bitCount_0f7a4_9 : decode cJ6_bitCount_0f7a4 9 = .ok (.istore_n 0, 1) := by decide +kernel
theorem dJ6_bitCount_0f7a4_10 : decode cJ6_bitCount_0f7a4 10 = .ok (.iload_n 0, 1) := by decide +kernel
theorem dJ6_bitCount_0f7a4_11 : decode cJ6_bitCount_0f7a4 11 = .ok (.ldc_w 266, 3) := by decide +kernel
theorem dJ6_bitCount_0f7a4_14 : decode cJ6_bitCount_0f7a4 14 = .ok (.iand, 1) := by decide +kernel
theorem dJ6_bitCount_0f7a4_15 : decode cJ6_bitCount_0f7a4 15 = .ok (.iload_n 0, 1) := by decide +kernel
theorem dJ6_bitCount_0f7a4_16 : decode cJ6_bitCount_0f7a4 16 = .ok (.iconst 2, 1) := by decide +kernel
theorem dJ6_bitCount_0f7a4_17 : decode cJ6_bitCount_0f7a4 17 = .ok (.iushr, 1) := by decide +kernel
theorem dJ6_bitCount_0f7a4_18 : decode cJ6_bitCount_0f7a4 18 = .ok (.ldc_w 266, 3) := by decide +kernel
theorem dJ6_bitCount_0f7a4_21 : decode cJ6_bitCount_0f7a4 21 = .ok (.iand, 1) := by decide +kernel
theorem dJ6_bitCount_0f7a4_22 : decode cJ6_bitCount_0f7a4 22 = .ok (.iadd, 1) := by decide +kernel
theorem dJ6_bitCount_0f7a4_23 : decode cJ6_bitCount_0f7a4 23 = .ok (.istore_n 0, 1) := by decide +kernel
theorem dJ6_bitCount_0f7a4_24 : decode cJ6_bitCount_0f7a4 24 = .ok (.iload_n 0, 1) := by decide +kernel
theorem dJ6_bitCount_0f7a4_25 : decode cJ6_bitCount_0f7a4 25 = .ok (.iload_n 0, 1) := by decide +kernel
theorem dJ6_bitCount_0f7a4_26 : decode cJ6_bitCount_0f7a4 26 = .ok (.iconst 4, 1) := by decide +kernel
theorem dJ6_bitCount_0f7a4_27 : decode cJ6_bitCount_0f7a4 27 = .ok (.iushr, 1) := by decide +kernel
theorem dJ6_bitCount_0f7a4_28 : decode cJ6_bitCount_0f7a4 28 = .ok (.iadd, 1) := by decide +kernel
theorem dJ6_bitCount_0f7a4_29 : decode cJ6_bitCount_0f7a4 29 = .ok (.ldc_w 267, 3) := by decide +kernel
theorem dJ6_bitCount_0f7a4_32 : decode cJ6_bitCount_0f7a4 32 = .ok (.iand, 1) := by decide +kernel
theorem dJ6_bitCount_0f7a4_33 : decode cJ6_bitCount_0f7a4 33 = .ok (.istore_n 0, 1) := by decide +kernel
theorem dJ6_bitCount_0f7a4_34 : decode cJ6_bitCount_0f7a4 34 = .ok (.iload_n 0, 1) := by decide +kernel
theorem dJ6_bitCount_0f7a4_35 : decode cJ6_bitCount_0f7a4 35 = .ok (.iload_n 0, 1) := by decide +kernel
theorem dJ6_bitCount_0f7a4_36 : decode cJ6_bitCount_0f7a4 36 = .ok (.bipush 8, 2) := by decide +kernel
theorem dJ6_bitCount_0f7a4_38 : decode cJ6_bitCount_0f7a4 38 = .ok (.iushr, 1) := by decide +kernel
theorem dJ6_bitCount_0f7a4_39 : decode cJ6_bitCount_0f7a4 39 = .ok (.iadd, 1) := by decide +kernel
theorem dJ6_bitCount_0f7a4_40 : decode cJ6_bitCount_0f7a4 40 = .ok (.istore_n 0, 1) := by decide +kernel
theorem dJ6_bitCount_0f7a4_41 : decode cJ6_bitCount_0f7a4 41 = .ok (.iload_n 0, 1) := by decide +kernel
theorem dJ6_bitCount_0f7a4_42 : decode cJ6_bitCount_0f7a4 42 = .ok (.iload_n 0, 1) := by decide +kernel
theorem dJ6_bitCount_0f7a4_43 : decode cJ6_bitCount_0f7a4 43 = .ok (.bipush 16, 2) := by decide +kernel
theorem dJ6_bitCount_0f7a4_45 : decode cJ6_bitCount_0f7a4 45 = .ok (.iushr, 1) := by decide +kernel
theorem dJ6_bitCount_0f7a4_46 : decode cJ6_bitCount_0f7a4 46 = .ok (.iadd, 1) := by decide +kernel
theorem dJ6_bitCount_0f7a4_47 : decode cJ6_bitCount_0f7a4 47 = .ok (.istore_n 0, 1) := by decide +kernel
theorem dJ6_bitCount_0f7a4_48 : decode cJ6_bitCount_0f7a4 48 = .ok (.iload_n 0, 1) := by decide +kernel
theorem dJ6_bitCount_0f7a4_49 : decode cJ6_bitCount_0f7a4 49 = .ok (.bipush 63, 2) := by decide +kernel
theorem dJ6_bitCount_0f7a4_51 : decode cJ6_bitCount_0f7a4 51 = .ok (.iand, 1) := by decide +kernel
theorem dJ6_bitCount_0f7a4_52 : decode cJ6_bitCount_0f7a4 52 = .ok (.ireturn, 1) := by decide +kernel
def f_J6_bitCount_0f7a4 (x0 : Int32) (w : Wd) : Option (Int32 × Wd) :=
  lt (x0 - (((x0.toUInt32 >>> (Int32.toUInt32 1 &&& Int32.toUInt32 31)).toInt32) &&& 1431655765)) fun v1 =>
  lt ((v1 &&& 858993459) + (((v1.toUInt32 >>> (Int32.toUInt32 2 &&& Int32.toUInt32 31)).toInt32) &&& 858993459)) fun v2 =>
  lt ((v2 + ((v2.toUInt32 >>> (Int32.toUInt32 4 &&& Int32.toUInt32 31)).toInt32)) &&& 252645135) fun v3 =>
  lt (v3 + ((v3.toUInt32 >>> (Int32.toUInt32 8 &&& Int32.toUInt32 31)).toInt32)) fun v4 =>
  lt (v4 + ((v4.toUInt32 >>> (Int32.toUInt32 16 &&& Int32.toUInt32 31)).toInt32)) fun v5 =>
  some (v5 &&& 63, w)
set_option maxRecDepth 100000 in
set_option maxHeartbeats 4000000 in
theorem t_J6_bitCount_0f7a4 {S : Shp} {Z : Cz (Int32 × Wd)} (hZ : OKZ Z S cJ6_bitCount_0f7a4 RJ6 1 (some .int) 1) (hE : EndI Z) (x0 : Int32)  (w : Wd) : BW Z 1 0 [(0, .int x0)] [] w (f_J6_bitCount_0f7a4 x0 w) :=
  bw_iload_n hZ 0 rfl dJ6_bitCount_0f7a4_0 <|
  bw_iload_n hZ 0 rfl dJ6_bitCount_0f7a4_1 <|
  bw_iconst hZ 1 (by decide) dJ6_bitCount_0f7a4_2 <|
  bw_iushr hZ dJ6_bitCount_0f7a4_3 <|
  bw_ldcw hZ kk_RJ6_265 dJ6_bitCount_0f7a4_4 <|
  bw_iand hZ dJ6_bitCount_0f7a4_7 <|
  bw_isub hZ dJ6_bitCount_0f7a4_8 <|
  bw_nm fun v1 =>
  bw_istore_n hZ rfl (by decide) rfl dJ6_bitCount_0f7a4_9 <|
  bw_iload_n hZ 0 rfl dJ6_bitCount_0f7a4_10 <|
  bw_ldcw hZ kk_RJ6_266 dJ6_bitCount_0f7a4_11 <|
  bw_iand hZ dJ6_bitCount_0f7a4_14 <|
  bw_iload_n hZ 0 rfl dJ6_bitCount_0f7a4_15 <|
  bw_iconst hZ 2 (by decide) dJ6_bitCount_0f7a4_16 <|
  bw_iushr hZ dJ6_bitCount_0f7a4_17 <|
  bw_ldcw hZ kk_RJ6_266 dJ6_bitCount_0f7a4_18 <|
  bw_iand hZ dJ6_bitCount_0f7a4_21 <|
  bw_iadd hZ dJ6_bitCount_0f7a4_22 <|
  bw_nm fun v2 =>
  bw_istore_n hZ rfl (by decide) rfl dJ6_bitCount_0f7a4_23 <|
  bw_iload_n hZ 0 rfl dJ6_bitCount_0f7a4_24 <|
  bw_iload_n hZ 0 rfl dJ6_bitCount_0f7a4_25 <|
  bw_iconst hZ 4 (by decide) dJ6_bitCount_0f7a4_26 <|
  bw_iushr hZ dJ6_bitCount_0f7a4_27 <|
  bw_iadd hZ dJ6_bitCount_0f7a4_28 <|
  bw_ldcw hZ kk_RJ6_267 dJ6_bitCount_0f7a4_29 <|
  bw_iand hZ dJ6_bitCount_0f7a4_32 <|
  bw_nm fun v3 =>
  bw_istore_n hZ rfl (by decide) rfl dJ6_bitCount_0f7a4_33 <|
  bw_iload_n hZ 0 rfl dJ6_bitCount_0f7a4_34 <|
  bw_iload_n hZ 0 rfl dJ6_bitCount_0f7a4_35 <|
  bw_bipush hZ 8 (by decide) dJ6_bitCount_0f7a4_36 <|
  bw_iushr hZ dJ6_bitCount_0f7a4_38 <|
  bw_iadd hZ dJ6_bitCount_0f7a4_39 <|
  bw_nm fun v4 =>
  bw_istore_n hZ rfl (by decide) rfl dJ6_bitCount_0f7a4_40 <|
  bw_iload_n hZ 0 rfl dJ6_bitCount_0f7a4_41 <|
  bw_iload_n hZ 0 rfl dJ6_bitCount_0f7a4_42 <|
  bw_bipush hZ 16 (by decide) dJ6_bitCount_0f7a4_43 <|
  bw_iushr hZ dJ6_bitCount_0f7a4_45 <|
  bw_iadd hZ dJ6_bitCount_0f7a4_46 <|
  bw_nm fun v5 =>
  bw_istore_n hZ rfl (by decide) rfl dJ6_bitCount_0f7a4_47 <|
  bw_iload_n hZ 0 rfl dJ6_bitCount_0f7a4_48 <|
  bw_bipush hZ 63 (by decide) dJ6_bitCount_0f7a4_49 <|
  bw_iand hZ dJ6_bitCount_0f7a4_51 <|
  bw_iret hZ hE dJ6_bitCount_0f7a4_52
theorem c_J6_bitCount_0f7a4 {S : Shp} (l : Launch) (Y : Ev) (hY : Y.1 = S) (x0 : Int32)  (w : Wd) : CI l Y yJ6_bitCount_0f7a4 cJ6_bitCount_0f7a4 1 1 [.int x0] w .int (f_J6_bitCount_0f7a4 x0 w) := by
  refine CI_of (S := S) (by decide) (Nat.le_of_ble_eq_true rfl) hY ?_
  intro Z hl hY2 hZ hE
  subst hY2
  exact t_J6_bitCount_0f7a4 hZ hE x0 w
-- WhichWill$Shares.partEqually
theorem dX7_partEqually_0 : decode cX7_partEqually 0 = .ok (.iload_n 1, 1) := by decide +kernel
theorem dX7_partEqually_1 : decode cX7_partEqually 1 = .ok (.invokestatic 192, 3) := by decide +kernel
theorem dX7_partEqually_4 : decode cX7_partEqually 4 = .ok (.istore_n 3, 1) := by decide +kernel
theorem dX7_partEqually_5 : decode cX7_partEqually 5 = .ok (.iload_n 3, 1) := by decide +kernel
theorem dX7_partEqually_6 : decode cX7_partEqually 6 = .ok (.ifCond .ne 4, 3) := by decide +kernel
theorem dX7_partEqually_9 : decode cX7_partEqually 9 = .ok (.return_, 1) := by decide +kernel
theorem dX7_partEqually_10 : decode cX7_partEqually 10 = .ok (.iload_n 2, 1) := by decide +kernel
theorem dX7_partEqually_11 : decode cX7_partEqually 11 = .ok (.iload_n 3, 1) := by decide +kernel
theorem dX7_partEqually_12 : decode cX7_partEqually 12 = .ok (.idiv, 1) := by decide +kernel
theorem dX7_partEqually_13 : decode cX7_partEqually 13 = .ok (.istore 4, 2) := by decide +kernel
theorem dX7_partEqually_15 : decode cX7_partEqually 15 = .ok (.iload_n 2, 1) := by decide +kernel
theorem dX7_partEqually_16 : decode cX7_partEqually 16 = .ok (.iload_n 3, 1) := by decide +kernel
theorem dX7_partEqually_17 : decode cX7_partEqually 17 = .ok (.irem, 1) := by decide +kernel
theorem dX7_partEqually_18 : decode cX7_partEqually 18 = .ok (.istore 5, 2) := by decide +kernel
theorem dX7_partEqually_20 : decode cX7_partEqually 20 = .ok (.iconst 0, 1) := by decide +kernel
theorem dX7_partEqually_21 : decode cX7_partEqually 21 = .ok (.istore 6, 2) := by decide +kernel
theorem dX7_partEqually_23 : decode cX7_partEqually 23 = .ok (.iload 6, 2) := by decide +kernel
theorem dX7_partEqually_25 : decode cX7_partEqually 25 = .ok (.bipush 8, 2) := by decide +kernel
theorem dX7_partEqually_27 : decode cX7_partEqually 27 = .ok (.if_icmp .ge 45, 3) := by decide +kernel
theorem dX7_partEqually_30 : decode cX7_partEqually 30 = .ok (.iload_n 1, 1) := by decide +kernel
theorem dX7_partEqually_31 : decode cX7_partEqually 31 = .ok (.iload 6, 2) := by decide +kernel
theorem dX7_partEqually_33 : decode cX7_partEqually 33 = .ok (.ishr, 1) := by decide +kernel
theorem dX7_partEqually_34 : decode cX7_partEqually 34 = .ok (.iconst 1, 1) := by decide +kernel
theorem dX7_partEqually_35 : decode cX7_partEqually 35 = .ok (.iand, 1) := by decide +kernel
theorem dX7_partEqually_36 : decode cX7_partEqually 36 = .ok (.ifCond .eq 30, 3) := by decide +kernel
theorem dX7_partEqually_39 : decode cX7_partEqually 39 = .ok (.aload_n 0, 1) := by decide +kernel
theorem dX7_partEqually_40 : decode cX7_partEqually 40 = .ok (.getfield 9, 3) := by decide +kernel
theorem dX7_partEqually_43 : decode cX7_partEqually 43 = .ok (.iload 6, 2) := by decide +kernel
theorem dX7_partEqually_45 : decode cX7_partEqually 45 = .ok (.dup2, 1) := by decide +kernel
theorem dX7_partEqually_46 : decode cX7_partEqually 46 = .ok (.iaload, 1) := by decide +kernel
theorem dX7_partEqually_47 : decode cX7_partEqually 47 = .ok (.iload 5, 2) := by decide +kernel
theorem dX7_partEqually_49 : decode cX7_partEqually 49 = .ok (.ifCond .le 10, 3) := by decide +kernel
theorem dX7_partEqually_52 : decode cX7_partEqually 52 = .ok (.iload 4, 2) := by decide +kernel
theorem dX7_partEqually_54 : decode cX7_partEqually 54 = .ok (.iconst 1, 1) := by decide +kernel
theorem dX7_partEqually_55 : decode cX7_partEqually 55 = .ok (.iadd, 1) := by decide +kernel
theorem dX7_partEqually_56 : decode cX7_partEqually 56 = .ok (.goto 5, 3) := by decide +kernel
theorem dX7_partEqually_59 : decode cX7_partEqually 59 = .ok (.iload 4, 2) := by decide +kernel
theorem dX7_partEqually_61 : decode cX7_partEqually 61 = .ok (.iadd, 1) := by decide +kernel
theorem dX7_partEqually_62 : decode cX7_partEqually 62 = .ok (.iastore, 1) := by decide +kernel
theorem dX7_partEqually_63 : decode cX7_partEqually 63 = .ok (.iinc 5 (-1), 3) := by decide +kernel
theorem dX7_partEqually_66 : decode cX7_partEqually 66 = .ok (.iinc 6 1, 3) := by decide +kernel
theorem dX7_partEqually_69 : decode cX7_partEqually 69 = .ok (.goto (-46), 3) := by decide +kernel
theorem dX7_partEqually_72 : decode cX7_partEqually 72 = .ok (.return_, 1) := by decide +kernel
def X7_partEqually_b23 (k23 : Int32 → Int32 → Int32 → Int32 → Wd → Option (Wd)) (y1 : Int32) (y4 : Int32) (y5 : Int32) (y6 : Int32) (w : Wd) : Option (Wd) :=
  if 8 ≤ y6 then
  (some w)
  else
  if ((y1 >>> (y6 &&& 31)) &&& 1) = 0 then
  (k23 y1 y4 y5 (y6 + 1) w)
  else
  if inb y6 8 = true then
  (if y5 ≤ 0 then
  (if inb y6 8 = true then
  (lt (wI w 9 (Int32.toNatClampNeg y6) ((w.1 9 (Int32.toNatClampNeg y6)) + y4)) fun w5 =>
  k23 y1 y4 (y5 + (-1)) (y6 + 1) w5)
  else none)
  else
  if inb y6 8 = true then
  (lt (wI w 9 (Int32.toNatClampNeg y6) ((w.1 9 (Int32.toNatClampNeg y6)) + (y4 + 1))) fun w6 =>
  k23 y1 y4 (y5 + (-1)) (y6 + 1) w6)
  else none)
  else none
set_option maxRecDepth 100000 in
set_option maxHeartbeats 4000000 in
theorem t_X7_partEqually_b23 {Z : Cz (Wd)} (hZ : OKZ Z SC cX7_partEqually RX7 7 none 2) (hE : EndV Z) (k23 : Int32 → Int32 → Int32 → Int32 → Wd → Option (Wd)) (hk23 : ∀ (y1 : Int32) (y4 : Int32) (y5 : Int32) (y6 : Int32)  (w : Wd), BW Z 7 23 [(0, .ref (ph (zY Z) 8)), (1, .int y1), (4, .int y4), (5, .int y5), (6, .int y6)] [] w (k23 y1 y4 y5 y6 w)) (y1 : Int32) (y4 : Int32) (y5 : Int32) (y6 : Int32)  (w : Wd) : BW Z 7 23 [(0, .ref (ph (zY Z) 8)), (1, .int y1), (4, .int y4), (5, .int y5), (6, .int y6)] [] w (X7_partEqually_b23 k23 y1 y4 y5 y6 w) :=
  bw_iload hZ 4 rfl dX7_partEqually_23 <|
  bw_bipush hZ 8 (by decide) dX7_partEqually_25 <|
  bw_icmp_ge hZ (tgt := 72) (by decide) dX7_partEqually_27 (fun _ =>
  bw_vret hZ hE dX7_partEqually_72) (fun _ =>
  bw_iload_n hZ 1 rfl dX7_partEqually_30 <|
  bw_iload hZ 4 rfl dX7_partEqually_31 <|
  bw_ishr hZ dX7_partEqually_33 <|
  bw_iconst hZ 1 (by decide) dX7_partEqually_34 <|
  bw_iand hZ dX7_partEqually_35 <|
  bw_if_eq hZ (tgt := 66) (by decide) dX7_partEqually_36 (fun _ =>
  bw_iinc hZ 1 4 rfl (by decide) (by decide) rfl dX7_partEqually_66 <|
  bw_goto hZ (tgt := 23) (by decide) dX7_partEqually_69 <|
  bw_sub [1, 2, 3, 4, 0] rfl (hk23 y1 y4 y5 (y6 + 1) w)) (fun _ =>
  bw_aload_n hZ 0 rfl dX7_partEqually_39 <|
  bw_getR hZ fl_RX7_9 obC_8 rfl dX7_partEqually_40 <|
  bw_iload hZ 4 rfl dX7_partEqually_43 <|
  bw_dup2 hZ rfl rfl dX7_partEqually_45 <|
  bw_iald hZ (arC_9 _) dX7_partEqually_46 <|
  bw_iload hZ 3 rfl dX7_partEqually_47 <|
  bw_if_le hZ (tgt := 59) (by decide) dX7_partEqually_49 (fun _ =>
  bw_iload hZ 2 rfl dX7_partEqually_59 <|
  bw_iadd hZ dX7_partEqually_61 <|
  bw_iast hZ (arC_9 _) dX7_partEqually_62 fun w5 =>
  bw_iinc hZ (-1) 3 rfl (by decide) (by decide) rfl dX7_partEqually_63 <|
  bw_iinc hZ 1 4 rfl (by decide) (by decide) rfl dX7_partEqually_66 <|
  bw_goto hZ (tgt := 23) (by decide) dX7_partEqually_69 <|
  bw_sub [2, 3, 4, 1, 0] rfl (hk23 y1 y4 (y5 + (-1)) (y6 + 1) w5)) (fun _ =>
  bw_iload hZ 2 rfl dX7_partEqually_52 <|
  bw_iconst hZ 1 (by decide) dX7_partEqually_54 <|
  bw_iadd hZ dX7_partEqually_55 <|
  bw_goto hZ (tgt := 61) (by decide) dX7_partEqually_56 <|
  bw_iadd hZ dX7_partEqually_61 <|
  bw_iast hZ (arC_9 _) dX7_partEqually_62 fun w6 =>
  bw_iinc hZ (-1) 3 rfl (by decide) (by decide) rfl dX7_partEqually_63 <|
  bw_iinc hZ 1 4 rfl (by decide) (by decide) rfl dX7_partEqually_66 <|
  bw_goto hZ (tgt := 23) (by decide) dX7_partEqually_69 <|
  bw_sub [2, 3, 4, 1, 0] rfl (hk23 y1 y4 (y5 + (-1)) (y6 + 1) w6))))
def X7_partEqually_b23_L  : Int32 → Int32 → Int32 → Int32 → Wd → Option (Wd) :=
  lp fu (fun _ _ _ _ _ => none) (fun k23 => X7_partEqually_b23 k23)
theorem t_X7_partEqually_b23_L {Z : Cz (Wd)} (hZ : OKZ Z SC cX7_partEqually RX7 7 none 2) (hE : EndV Z)  : ∀ (y1 : Int32) (y4 : Int32) (y5 : Int32) (y6 : Int32)  (w : Wd), BW Z 7 23 [(0, .ref (ph (zY Z) 8)), (1, .int y1), (4, .int y4), (5, .int y5), (6, .int y6)] [] w (X7_partEqually_b23_L y1 y4 y5 y6 w) :=
  lp_bw (fun k23 => ∀ (y1 : Int32) (y4 : Int32) (y5 : Int32) (y6 : Int32)  (w : Wd), BW Z 7 23 [(0, .ref (ph (zY Z) 8)), (1, .int y1), (4, .int y4), (5, .int y5), (6, .int y6)] [] w (k23 y1 y4 y5 y6 w)) (fun _ _ _ _ _ => bw_none) (fun k23 hk23 y1 y4 y5 y6 w => t_X7_partEqually_b23 hZ hE k23 hk23 y1 y4 y5 y6 w) fu
def f_X7_partEqually (x1 : Int32) (x2 : Int32) (w : Wd) : Option (Wd) :=
  cl (f_J6_bitCount_0f7a4 x1 w) fun r2 w1 =>
  if r2 = 0 then
  (some w1)
  else
  if r2 = 0 then none else
  lt (x2 / r2) fun v3 =>
  if r2 = 0 then none else
  lt (x2 - x2 / r2 * r2) fun v4 =>
  X7_partEqually_b23_L x1 v3 v4 0 w1
set_option maxRecDepth 100000 in
set_option maxHeartbeats 4000000 in
theorem t_X7_partEqually {Z : Cz (Wd)} (hZ : OKZ Z SC cX7_partEqually RX7 7 none 2) (hE : EndV Z) (x1 : Int32) (x2 : Int32)  (w : Wd) : BW Z 7 0 [(0, .ref (ph (zY Z) 8)), (1, .int x1), (2, .int x2)] [] w (f_X7_partEqually x1 x2 w) :=
  bw_iload_n hZ 1 rfl dX7_partEqually_0 <|
  bw_callSI (As := [.int x1]) hZ ms_RX7_192 (by decide) (c_J6_bitCount_0f7a4 (zl Z) (zY Z) (hZ_S hZ) x1 w) rfl rfl (Nat.le_of_ble_eq_true rfl) dX7_partEqually_1 fun r2 w1 =>
  bw_istore_n hZ rfl (by decide) rfl dX7_partEqually_4 <|
  bw_iload_n hZ 0 rfl dX7_partEqually_5 <|
  bw_if_ne hZ (tgt := 10) (by decide) dX7_partEqually_6 (fun _ =>
  bw_iload_n hZ 3 rfl dX7_partEqually_10 <|
  bw_iload_n hZ 0 rfl dX7_partEqually_11 <|
  bw_idiv hZ dX7_partEqually_12 <|
  bw_nm fun v3 =>
  bw_istore hZ (by decide) rfl dX7_partEqually_13 <|
  bw_iload_n hZ 4 rfl dX7_partEqually_15 <|
  bw_iload_n hZ 1 rfl dX7_partEqually_16 <|
  bw_irem hZ dX7_partEqually_17 <|
  bw_nm fun v4 =>
  bw_istore hZ (by decide) rfl dX7_partEqually_18 <|
  bw_iconst hZ 0 (by decide) dX7_partEqually_20 <|
  bw_istore hZ (by decide) rfl dX7_partEqually_21 <|
  bw_sub [4, 5, 2, 1, 0] rfl (t_X7_partEqually_b23_L hZ hE x1 v3 v4 0 w1)) (fun _ =>
  bw_vret hZ hE dX7_partEqually_9)
theorem c_X7_partEqually (l : Launch) (Y : Ev) (hY : Y.1 = SC) (x1 : Int32) (x2 : Int32)  (w : Wd) : CV l Y yX7_partEqually cX7_partEqually 7 2 [.ref (ph Y 8), .int x1, .int x2] w (f_X7_partEqually x1 x2 w) := by
  refine CV_of (S := SC) (by decide) (Nat.le_of_ble_eq_true rfl) hY ?_
  intro Z hl hY2 hZ hE
  subst hY2
  exact t_X7_partEqually hZ hE x1 x2 w
-- WhichWill$Shares.partLeft
theorem dX7_partLeft_0 : decode cX7_partLeft 0 = .ok (.aload_n 0, 1) := by decide +kernel
theorem dX7_partLeft_1 : decode cX7_partLeft 1 = .ok (.getfield 40, 3) := by decide +kernel
theorem dX7_partLeft_4 : decode cX7_partLeft 4 = .ok (.getfield 72, 3) := by decide +kernel
theorem dX7_partLeft_7 : decode cX7_partLeft 7 = .ok (.astore_n 3, 1) := by decide +kernel
theorem dX7_partLeft_8 : decode cX7_partLeft 8 = .ok (.aload_n 0, 1) := by decide +kernel
theorem dX7_partLeft_9 : decode cX7_partLeft 9 = .ok (.aload_n 0, 1) := by decide +kernel
theorem dX7_partLeft_10 : decode cX7_partLeft 10 = .ok (.getfield 23, 3) := by decide +kernel
theorem dX7_partLeft_13 : decode cX7_partLeft 13 = .ok (.iload_n 1, 1) := by decide +kernel
theorem dX7_partLeft_14 : decode cX7_partLeft 14 = .ok (.aaload, 1) := by decide +kernel
theorem dX7_partLeft_15 : decode cX7_partLeft 15 = .ok (.invokevirtual 164, 3) := by decide +kernel
theorem dX7_partLeft_18 : decode cX7_partLeft 18 = .ok (.istore 4, 2) := by decide +kernel
theorem dX7_partLeft_20 : decode cX7_partLeft 20 = .ok (.iload 4, 2) := by decide +kernel
theorem dX7_partLeft_22 : decode cX7_partLeft 22 = .ok (.ifCond .eq 12, 3) := by decide +kernel
theorem dX7_partLeft_25 : decode cX7_partLeft 25 = .ok (.aload_n 0, 1) := by decide +kernel
theorem dX7_partLeft_26 : decode cX7_partLeft 26 = .ok (.iload 4, 2) := by decide +kernel
theorem dX7_partLeft_28 : decode cX7_partLeft 28 = .ok (.iload_n 2, 1) := by decide +kernel
theorem dX7_partLeft_29 : decode cX7_partLeft 29 = .ok (.invokevirtual 168, 3) := by decide +kernel
theorem dX7_partLeft_32 : decode cX7_partLeft 32 = .ok (.iconst 1, 1) := by decide +kernel
theorem dX7_partLeft_33 : decode cX7_partLeft 33 = .ok (.ireturn, 1) := by decide +kernel
theorem dX7_partLeft_34 : decode cX7_partLeft 34 = .ok (.aload_n 3, 1) := by decide +kernel
theorem dX7_partLeft_35 : decode cX7_partLeft 35 = .ok (.getfield 171, 3) := by decide +kernel
theorem dX7_partLeft_38 : decode cX7_partLeft 38 = .ok (.ifCond .lt 18, 3) := by decide +kernel
theorem dX7_partLeft_41 : decode cX7_partLeft 41 = .ok (.aload_n 3, 1) := by decide +kernel
theorem dX7_partLeft_42 : decode cX7_partLeft 42 = .ok (.aload_n 3, 1) := by decide +kernel
theorem dX7_partLeft_43 : decode cX7_partLeft 43 = .ok (.getfield 171, 3) := by decide +kernel
theorem dX7_partLeft_46 : decode cX7_partLeft 46 = .ok (.invokevirtual 174, 3) := by decide +kernel
theorem dX7_partLeft_49 : decode cX7_partLeft 49 = .ok (.ifCond .ne 7, 3) := by decide +kernel
theorem dX7_partLeft_52 : decode cX7_partLeft 52 = .ok (.iconst 1, 1) := by decide +kernel
theorem dX7_partLeft_53 : decode cX7_partLeft 53 = .ok (.goto 4, 3) := by decide +kernel
theorem dX7_partLeft_56 : decode cX7_partLeft 56 = .ok (.iconst 0, 1) := by decide +kernel
theorem dX7_partLeft_57 : decode cX7_partLeft 57 = .ok (.istore 5, 2) := by decide +kernel
theorem dX7_partLeft_59 : decode cX7_partLeft 59 = .ok (.iload 5, 2) := by decide +kernel
theorem dX7_partLeft_61 : decode cX7_partLeft 61 = .ok (.ifCond .ne 12, 3) := by decide +kernel
theorem dX7_partLeft_64 : decode cX7_partLeft 64 = .ok (.aload_n 3, 1) := by decide +kernel
theorem dX7_partLeft_65 : decode cX7_partLeft 65 = .ok (.getfield 177, 3) := by decide +kernel
theorem dX7_partLeft_68 : decode cX7_partLeft 68 = .ok (.ifCond .ne 5, 3) := by decide +kernel
theorem dX7_partLeft_71 : decode cX7_partLeft 71 = .ok (.iconst 3, 1) := by decide +kernel
theorem dX7_partLeft_72 : decode cX7_partLeft 72 = .ok (.ireturn, 1) := by decide +kernel
theorem dX7_partLeft_73 : decode cX7_partLeft 73 = .ok (.iconst 0, 1) := by decide +kernel
theorem dX7_partLeft_74 : decode cX7_partLeft 74 = .ok (.istore 6, 2) := by decide +kernel
theorem dX7_partLeft_76 : decode cX7_partLeft 76 = .ok (.iload 5, 2) := by decide +kernel
theorem dX7_partLeft_78 : decode cX7_partLeft 78 = .ok (.ifCond .eq 39, 3) := by decide +kernel
theorem dX7_partLeft_81 : decode cX7_partLeft 81 = .ok (.aload_n 3, 1) := by decide +kernel
theorem dX7_partLeft_82 : decode cX7_partLeft 82 = .ok (.getfield 177, 3) := by decide +kernel
theorem dX7_partLeft_85 : decode cX7_partLeft 85 = .ok (.ifCond .ne 7, 3) := by decide +kernel
theorem dX7_partLeft_88 : decode cX7_partLeft 88 = .ok (.iload_n 2, 1) := by decide +kernel
theorem dX7_partLeft_89 : decode cX7_partLeft 89 = .ok (.goto 15, 3) := by decide +kernel
theorem dX7_partLeft_92 : decode cX7_partLeft 92 = .ok (.iload_n 2, 1) := by decide +kernel
theorem dX7_partLeft_93 : decode cX7_partLeft 93 = .ok (.aload_n 3, 1) := by decide +kernel
theorem dX7_partLeft_94 : decode cX7_partLeft 94 = .ok (.iload_n 1, 1) := by decide +kernel
theorem dX7_partLeft_95 : decode cX7_partLeft 95 = .ok (.bipush 9, 2) := by decide +kernel
theorem dX7_partLeft_97 : decode cX7_partLeft 97 = .ok (.invokevirtual 180, 3) := by decide +kernel
theorem dX7_partLeft_100 : decode cX7_partLeft 100 = .ok (.imul, 1) := by decide +kernel
theorem dX7_partLeft_101 : decode cX7_partLeft 101 = .ok (.bipush 100, 2) := by decide +kernel
theorem dX7_partLeft_103 : decode cX7_partLeft 103 = .ok (.idiv, 1) := by decide +kernel
theorem dX7_partLeft_104 : decode cX7_partLeft 104 = .ok (.istore 6, 2) := by decide +kernel
theorem dX7_partLeft_106 : decode cX7_partLeft 106 = .ok (.aload_n 0, 1) := by decide +kernel
theorem dX7_partLeft_107 : decode cX7_partLeft 107 = .ok (.getfield 9, 3) := by decide +kernel
theorem dX7_partLeft_110 : decode cX7_partLeft 110 = .ok (.aload_n 3, 1) := by decide +kernel
theorem dX7_partLeft_111 : decode cX7_partLeft 111 = .ok (.getfield 171, 3) := by decide +kernel
theorem dX7_partLeft_114 : decode cX7_partLeft 114 = .ok (.iload 6, 2) := by decide +kernel
theorem dX7_partLeft_116 : decode cX7_partLeft 116 = .ok (.iastore, 1) := by decide +kernel
theorem dX7_partLeft_117 : decode cX7_partLeft 117 = .ok (.aload_n 0, 1) := by decide +kernel
theorem dX7_partLeft_118 : decode cX7_partLeft 118 = .ok (.aload_n 3, 1) := by decide +kernel
theorem dX7_partLeft_119 : decode cX7_partLeft 119 = .ok (.getfield 177, 3) := by decide +kernel
theorem dX7_partLeft_122 : decode cX7_partLeft 122 = .ok (.iload_n 2, 1) := by decide +kernel
theorem dX7_partLeft_123 : decode cX7_partLeft 123 = .ok (.iload 6, 2) := by decide +kernel
theorem dX7_partLeft_125 : decode cX7_partLeft 125 = .ok (.isub, 1) := by decide +kernel
theorem dX7_partLeft_126 : decode cX7_partLeft 126 = .ok (.invokevirtual 168, 3) := by decide +kernel
theorem dX7_partLeft_129 : decode cX7_partLeft 129 = .ok (.iconst 0, 1) := by decide +kernel
theorem dX7_partLeft_130 : decode cX7_partLeft 130 = .ok (.istore 7, 2) := by decide +kernel
theorem dX7_partLeft_132 : decode cX7_partLeft 132 = .ok (.iload 7, 2) := by decide +kernel
theorem dX7_partLeft_134 : decode cX7_partLeft 134 = .ok (.aload_n 3, 1) := by decide +kernel
theorem dX7_partLeft_135 : decode cX7_partLeft 135 = .ok (.getfield 183, 3) := by decide +kernel
theorem dX7_partLeft_138 : decode cX7_partLeft 138 = .ok (.getfield 82, 3) := by decide +kernel
theorem dX7_partLeft_141 : decode cX7_partLeft 141 = .ok (.if_icmp .ge 58, 3) := by decide +kernel
theorem dX7_partLeft_144 : decode cX7_partLeft 144 = .ok (.aload_n 3, 1) := by decide +kernel
theorem dX7_partLeft_145 : decode cX7_partLeft 145 = .ok (.iload 7, 2) := by decide +kernel
theorem dX7_partLeft_147 : decode cX7_partLeft 147 = .ok (.invokevirtual 174, 3) := by decide +kernel
theorem dX7_partLeft_150 : decode cX7_partLeft 150 = .ok (.ifCond .eq 43, 3) := by decide +kernel
theorem dX7_partLeft_153 : decode cX7_partLeft 153 = .ok (.aload_n 0, 1) := by decide +kernel
theorem dX7_partLeft_154 : decode cX7_partLeft 154 = .ok (.getfield 9, 3) := by decide +kernel
theorem dX7_partLeft_157 : decode cX7_partLeft 157 = .ok (.iload 7, 2) := by decide +kernel
theorem dX7_partLeft_159 : decode cX7_partLeft 159 = .ok (.iaload, 1) := by decide +kernel
theorem dX7_partLeft_160 : decode cX7_partLeft 160 = .ok (.ifCond .le 33, 3) := by decide +kernel
theorem dX7_partLeft_163 : decode cX7_partLeft 163 = .ok (.aload_n 0, 1) := by decide +kernel
theorem dX7_partLeft_164 : decode cX7_partLeft 164 = .ok (.getfield 9, 3) := by decide +kernel
theorem dX7_partLeft_167 : decode cX7_partLeft 167 = .ok (.iload 7, 2) := by decide +kernel
theorem dX7_partLeft_169 : decode cX7_partLeft 169 = .ok (.iaload, 1) := by decide +kernel
theorem dX7_partLeft_170 : decode cX7_partLeft 170 = .ok (.istore 8, 2) := by decide +kernel
theorem dX7_partLeft_172 : decode cX7_partLeft 172 = .ok (.aload_n 0, 1) := by decide +kernel
theorem dX7_partLeft_173 : decode cX7_partLeft 173 = .ok (.getfield 9, 3) := by decide +kernel
theorem dX7_partLeft_176 : decode cX7_partLeft 176 = .ok (.iload 7, 2) := by decide +kernel
theorem dX7_partLeft_178 : decode cX7_partLeft 178 = .ok (.iconst 0, 1) := by decide +kernel
theorem dX7_partLeft_179 : decode cX7_partLeft 179 = .ok (.iastore, 1) := by decide +kernel
theorem dX7_partLeft_180 : decode cX7_partLeft 180 = .ok (.aload_n 0, 1) := by decide +kernel
theorem dX7_partLeft_181 : decode cX7_partLeft 181 = .ok (.aload_n 3, 1) := by decide +kernel
theorem dX7_partLeft_182 : decode cX7_partLeft 182 = .ok (.getfield 186, 3) := by decide +kernel
theorem dX7_partLeft_185 : decode cX7_partLeft 185 = .ok (.iload 7, 2) := by decide +kernel
theorem dX7_partLeft_187 : decode cX7_partLeft 187 = .ok (.iaload, 1) := by decide +kernel
theorem dX7_partLeft_188 : decode cX7_partLeft 188 = .ok (.iload 8, 2) := by decide +kernel
theorem dX7_partLeft_190 : decode cX7_partLeft 190 = .ok (.invokevirtual 168, 3) := by decide +kernel
theorem dX7_partLeft_193 : decode cX7_partLeft 193 = .ok (.iinc 7 1, 3) := by decide +kernel
theorem dX7_partLeft_196 : decode cX7_partLeft 196 = .ok (.goto (-64), 3) := by decide +kernel
theorem dX7_partLeft_199 : decode cX7_partLeft 199 = .ok (.iconst 2, 1) := by decide +kernel
theorem dX7_partLeft_200 : decode cX7_partLeft 200 = .ok (.ireturn, 1) := by decide +kernel
def X7_partLeft_b132 (k132 : Int32 → Wd → Option (Int32 × Wd)) (y7 : Int32) (w : Wd) : Option (Int32 × Wd) :=
  if (w.1 34 1) ≤ y7 then
  (some (2, w))
  else
  cl (f_X0_isDead 31 y7 w) fun r7 w6 =>
  if r7 = 0 then
  (k132 (y7 + 1) w6)
  else
  if inb y7 8 = true then
  (if (w6.1 9 (Int32.toNatClampNeg y7)) ≤ 0 then
  (k132 (y7 + 1) w6)
  else
  if inb y7 8 = true then
  (lt (w6.1 9 (Int32.toNatClampNeg y7)) fun v8 =>
  if inb y7 8 = true then
  (lt (wI w6 9 (Int32.toNatClampNeg y7) 0) fun w9 =>
  if inb y7 8 = true then
  (cv (f_X7_partEqually (w9.1 43 (Int32.toNatClampNeg y7)) v8 w9) fun w10 =>
  k132 (y7 + 1) w10)
  else none)
  else none)
  else none)
  else none
set_option maxRecDepth 100000 in
set_option maxHeartbeats 4000000 in
theorem t_X7_partLeft_b132 {Z : Cz (Int32 × Wd)} (hZ : OKZ Z SC cX7_partLeft RX7 9 (some .int) 3) (hE : EndI Z) (k132 : Int32 → Wd → Option (Int32 × Wd)) (hk132 : ∀ (y7 : Int32)  (w : Wd), BW Z 9 132 [(0, .ref (ph (zY Z) 8)), (3, .ref (ph (zY Z) 31)), (7, .int y7)] [] w (k132 y7 w)) (y7 : Int32)  (w : Wd) : BW Z 9 132 [(0, .ref (ph (zY Z) 8)), (3, .ref (ph (zY Z) 31)), (7, .int y7)] [] w (X7_partLeft_b132 k132 y7 w) :=
  bw_iload hZ 2 rfl dX7_partLeft_132 <|
  bw_aload_n hZ 1 rfl dX7_partLeft_134 <|
  bw_getR hZ fl_RX7_183 obC_31 rfl dX7_partLeft_135 <|
  bw_getI hZ fl_RX7_82 (by decide) obC_34 dX7_partLeft_138 <|
  bw_icmp_ge hZ (tgt := 199) (by decide) dX7_partLeft_141 (fun _ =>
  bw_iconst hZ 2 (by decide) dX7_partLeft_199 <|
  bw_iret hZ hE dX7_partLeft_200) (fun _ =>
  bw_aload_n hZ 1 rfl dX7_partLeft_144 <|
  bw_iload hZ 2 rfl dX7_partLeft_145 <|
  bw_callVI (As := [.int y7]) hZ ml_RX7_174 rc_0 obC_31 (by decide) (c_X0_isDead (zl Z) (zY Z) (hZ_S hZ) 31 y7 isE31 w) rfl rfl (Nat.le_of_ble_eq_true rfl) dX7_partLeft_147 fun r7 w6 =>
  bw_if_eq hZ (tgt := 193) (by decide) dX7_partLeft_150 (fun _ =>
  bw_iinc hZ 1 2 rfl (by decide) (by decide) rfl dX7_partLeft_193 <|
  bw_goto hZ (tgt := 132) (by decide) dX7_partLeft_196 <|
  bw_sub [1, 2, 0] rfl (hk132 (y7 + 1) w6)) (fun _ =>
  bw_aload_n hZ 0 rfl dX7_partLeft_153 <|
  bw_getR hZ fl_RX7_9 obC_8 rfl dX7_partLeft_154 <|
  bw_iload hZ 2 rfl dX7_partLeft_157 <|
  bw_iald hZ (arC_9 _) dX7_partLeft_159 <|
  bw_if_le hZ (tgt := 193) (by decide) dX7_partLeft_160 (fun _ =>
  bw_iinc hZ 1 2 rfl (by decide) (by decide) rfl dX7_partLeft_193 <|
  bw_goto hZ (tgt := 132) (by decide) dX7_partLeft_196 <|
  bw_sub [1, 2, 0] rfl (hk132 (y7 + 1) w6)) (fun _ =>
  bw_aload_n hZ 0 rfl dX7_partLeft_163 <|
  bw_getR hZ fl_RX7_9 obC_8 rfl dX7_partLeft_164 <|
  bw_iload hZ 2 rfl dX7_partLeft_167 <|
  bw_iald hZ (arC_9 _) dX7_partLeft_169 <|
  bw_nm fun v8 =>
  bw_istore hZ (by decide) rfl dX7_partLeft_170 <|
  bw_aload_n hZ 1 rfl dX7_partLeft_172 <|
  bw_getR hZ fl_RX7_9 obC_8 rfl dX7_partLeft_173 <|
  bw_iload hZ 3 rfl dX7_partLeft_176 <|
  bw_iconst hZ 0 (by decide) dX7_partLeft_178 <|
  bw_iast hZ (arC_9 _) dX7_partLeft_179 fun w9 =>
  bw_aload_n hZ 1 rfl dX7_partLeft_180 <|
  bw_aload_n hZ 2 rfl dX7_partLeft_181 <|
  bw_getR hZ fl_RX7_186 obC_31 rfl dX7_partLeft_182 <|
  bw_iload hZ 3 rfl dX7_partLeft_185 <|
  bw_iald hZ (arC_43 _) dX7_partLeft_187 <|
  bw_iload hZ 0 rfl dX7_partLeft_188 <|
  bw_callVV (As := [.int (w9.1 43 (Int32.toNatClampNeg y7)), .int v8]) hZ ml_RX7_168 rc_7 obC_8 (by decide) (c_X7_partEqually (zl Z) (zY Z) (hZ_S hZ) (w9.1 43 (Int32.toNatClampNeg y7)) v8 w9) rfl rfl (Nat.le_of_ble_eq_true rfl) dX7_partLeft_190 fun w10 =>
  bw_iinc hZ 1 3 rfl (by decide) (by decide) rfl dX7_partLeft_193 <|
  bw_goto hZ (tgt := 132) (by decide) dX7_partLeft_196 <|
  bw_sub [2, 3, 0] rfl (hk132 (y7 + 1) w10))))
def X7_partLeft_b132_L  : Int32 → Wd → Option (Int32 × Wd) :=
  lp fu (fun _ _ => none) (fun k132 => X7_partLeft_b132 k132)
theorem t_X7_partLeft_b132_L {Z : Cz (Int32 × Wd)} (hZ : OKZ Z SC cX7_partLeft RX7 9 (some .int) 3) (hE : EndI Z)  : ∀ (y7 : Int32)  (w : Wd), BW Z 9 132 [(0, .ref (ph (zY Z) 8)), (3, .ref (ph (zY Z) 31)), (7, .int y7)] [] w (X7_partLeft_b132_L y7 w) :=
  lp_bw (fun k132 => ∀ (y7 : Int32)  (w : Wd), BW Z 9 132 [(0, .ref (ph (zY Z) 8)), (3, .ref (ph (zY Z) 31)), (7, .int y7)] [] w (k132 y7 w)) (fun _ _ => bw_none) (fun k132 hk132 y7 w => t_X7_partLeft_b132 hZ hE k132 hk132 y7 w) fu
def X7_partLeft_b117 (y2 : Int32) (y6 : Int32) (w : Wd) : Option (Int32 × Wd) :=
  cv (f_X7_partEqually (w.1 31 9) (y2 - y6) w) fun w5 =>
  X7_partLeft_b132_L 0 w5
set_option maxRecDepth 100000 in
set_option maxHeartbeats 4000000 in
theorem t_X7_partLeft_b117 {Z : Cz (Int32 × Wd)} (hZ : OKZ Z SC cX7_partLeft RX7 9 (some .int) 3) (hE : EndI Z)  (y2 : Int32) (y6 : Int32)  (w : Wd) : BW Z 9 117 [(0, .ref (ph (zY Z) 8)), (2, .int y2), (3, .ref (ph (zY Z) 31)), (6, .int y6)] [] w (X7_partLeft_b117 y2 y6 w) :=
  bw_aload_n hZ 0 rfl dX7_partLeft_117 <|
  bw_aload_n hZ 2 rfl dX7_partLeft_118 <|
  bw_getI hZ fl_RX7_177 (by decide) obC_31 dX7_partLeft_119 <|
  bw_iload_n hZ 1 rfl dX7_partLeft_122 <|
  bw_iload hZ 3 rfl dX7_partLeft_123 <|
  bw_isub hZ dX7_partLeft_125 <|
  bw_callVV (As := [.int (w.1 31 9), .int (y2 - y6)]) hZ ml_RX7_168 rc_7 obC_8 (by decide) (c_X7_partEqually (zl Z) (zY Z) (hZ_S hZ) (w.1 31 9) (y2 - y6) w) rfl rfl (Nat.le_of_ble_eq_true rfl) dX7_partLeft_126 fun w5 =>
  bw_iconst hZ 0 (by decide) dX7_partLeft_129 <|
  bw_istore hZ (by decide) rfl dX7_partLeft_130 <|
  bw_sub [1, 3, 0] rfl (t_X7_partLeft_b132_L hZ hE 0 w5)
def X7_partLeft_b104 (y2 : Int32) (t0 : Int32) (w : Wd) : Option (Int32 × Wd) :=
  if inb (w.1 31 11) 8 = true then
  (lt (wI w 9 (Int32.toNatClampNeg (w.1 31 11)) t0) fun w13 =>
  X7_partLeft_b117 y2 t0 w13)
  else none
set_option maxRecDepth 100000 in
set_option maxHeartbeats 4000000 in
theorem t_X7_partLeft_b104 {Z : Cz (Int32 × Wd)} (hZ : OKZ Z SC cX7_partLeft RX7 9 (some .int) 3) (hE : EndI Z)  (y2 : Int32) (t0 : Int32)  (w : Wd) : BW Z 9 104 [(0, .ref (ph (zY Z) 8)), (2, .int y2), (3, .ref (ph (zY Z) 31))] [.int t0] w (X7_partLeft_b104 y2 t0 w) :=
  bw_istore hZ (by decide) rfl dX7_partLeft_104 <|
  bw_aload_n hZ 1 rfl dX7_partLeft_106 <|
  bw_getR hZ fl_RX7_9 obC_8 rfl dX7_partLeft_107 <|
  bw_aload_n hZ 3 rfl dX7_partLeft_110 <|
  bw_getI hZ fl_RX7_171 (by decide) obC_31 dX7_partLeft_111 <|
  bw_iload hZ 0 rfl dX7_partLeft_114 <|
  bw_iast hZ (arC_9 _) dX7_partLeft_116 fun w13 =>
  bw_sub [1, 2, 3, 0] rfl (t_X7_partLeft_b117 hZ hE y2 t0 w13)
def X7_partLeft_b73 (y1 : Int32) (y2 : Int32) (y5 : Int32) (w : Wd) : Option (Int32 × Wd) :=
  if y5 = 0 then
  (X7_partLeft_b117 y2 0 w)
  else
  if (w.1 31 9) = 0 then
  (X7_partLeft_b104 y2 y2 w)
  else
  cl (f_X0_ruleOf y1 9 w) fun r12 w11 =>
  X7_partLeft_b104 y2 ((y2 * r12) / 100) w11
set_option maxRecDepth 100000 in
set_option maxHeartbeats 4000000 in
theorem t_X7_partLeft_b73 {Z : Cz (Int32 × Wd)} (hZ : OKZ Z SC cX7_partLeft RX7 9 (some .int) 3) (hE : EndI Z)  (y1 : Int32) (y2 : Int32) (y5 : Int32)  (w : Wd) : BW Z 9 73 [(0, .ref (ph (zY Z) 8)), (1, .int y1), (2, .int y2), (3, .ref (ph (zY Z) 31)), (5, .int y5)] [] w (X7_partLeft_b73 y1 y2 y5 w) :=
  bw_iconst hZ 0 (by decide) dX7_partLeft_73 <|
  bw_istore hZ (by decide) rfl dX7_partLeft_74 <|
  bw_iload hZ 5 rfl dX7_partLeft_76 <|
  bw_if_eq hZ (tgt := 117) (by decide) dX7_partLeft_78 (fun _ =>
  bw_sub [1, 3, 4, 0] rfl (t_X7_partLeft_b117 hZ hE y2 0 w)) (fun _ =>
  bw_aload_n hZ 4 rfl dX7_partLeft_81 <|
  bw_getI hZ fl_RX7_177 (by decide) obC_31 dX7_partLeft_82 <|
  bw_if_ne hZ (tgt := 92) (by decide) dX7_partLeft_85 (fun _ =>
  bw_iload_n hZ 3 rfl dX7_partLeft_92 <|
  bw_aload_n hZ 4 rfl dX7_partLeft_93 <|
  bw_iload_n hZ 2 rfl dX7_partLeft_94 <|
  bw_bipush hZ 9 (by decide) dX7_partLeft_95 <|
  bw_callVI (As := [.int y1, .int 9]) hZ ml_RX7_180 rc_0 obC_31 (by decide) (c_X0_ruleOf (zl Z) (zY Z) (hZ_S hZ) y1 9 w) rfl rfl (Nat.le_of_ble_eq_true rfl) dX7_partLeft_97 fun r12 w11 =>
  bw_imul hZ dX7_partLeft_100 <|
  bw_bipush hZ 100 (by decide) dX7_partLeft_101 <|
  bw_idivN hZ (by decide) dX7_partLeft_103 <|
  bw_sub [1, 3, 4] rfl (t_X7_partLeft_b104 hZ hE y2 ((y2 * r12) / 100) w11)) (fun _ =>
  bw_iload_n hZ 3 rfl dX7_partLeft_88 <|
  bw_goto hZ (tgt := 104) (by decide) dX7_partLeft_89 <|
  bw_sub [1, 3, 4] rfl (t_X7_partLeft_b104 hZ hE y2 y2 w)))
def X7_partLeft_b57 (y1 : Int32) (y2 : Int32) (t0 : Int32) (w : Wd) : Option (Int32 × Wd) :=
  if t0 = 0 then
  (if (w.1 31 9) = 0 then
  (some (3, w))
  else
  X7_partLeft_b73 y1 y2 t0 w)
  else
  X7_partLeft_b73 y1 y2 t0 w
set_option maxRecDepth 100000 in
set_option maxHeartbeats 4000000 in
theorem t_X7_partLeft_b57 {Z : Cz (Int32 × Wd)} (hZ : OKZ Z SC cX7_partLeft RX7 9 (some .int) 3) (hE : EndI Z)  (y1 : Int32) (y2 : Int32) (t0 : Int32)  (w : Wd) : BW Z 9 57 [(0, .ref (ph (zY Z) 8)), (1, .int y1), (2, .int y2), (3, .ref (ph (zY Z) 31))] [.int t0] w (X7_partLeft_b57 y1 y2 t0 w) :=
  bw_istore hZ (by decide) rfl dX7_partLeft_57 <|
  bw_iload hZ 0 rfl dX7_partLeft_59 <|
  bw_if_ne hZ (tgt := 73) (by decide) dX7_partLeft_61 (fun _ =>
  bw_sub [1, 2, 3, 4, 0] rfl (t_X7_partLeft_b73 hZ hE y1 y2 t0 w)) (fun _ =>
  bw_aload_n hZ 4 rfl dX7_partLeft_64 <|
  bw_getI hZ fl_RX7_177 (by decide) obC_31 dX7_partLeft_65 <|
  bw_if_ne hZ (tgt := 73) (by decide) dX7_partLeft_68 (fun _ =>
  bw_sub [1, 2, 3, 4, 0] rfl (t_X7_partLeft_b73 hZ hE y1 y2 t0 w)) (fun _ =>
  bw_iconst hZ 3 (by decide) dX7_partLeft_71 <|
  bw_iret hZ hE dX7_partLeft_72))
def f_X7_partLeft (x1 : Int32) (x2 : Int32) (w : Wd) : Option (Int32 × Wd) :=
  if inb x1 4 = true then
  (cl (f_X7_heirsOfRest (84 + 3 * Int32.toNatClampNeg x1) w) fun r4 w3 =>
  if r4 = 0 then
  (if (w3.1 31 11) < 0 then
  (X7_partLeft_b57 x1 x2 0 w3)
  else
  cl (f_X0_isDead 31 (w3.1 31 11) w3) fun r15 w14 =>
  if r15 = 0 then
  (X7_partLeft_b57 x1 x2 1 w14)
  else
  X7_partLeft_b57 x1 x2 0 w14)
  else
  cv (f_X7_partEqually r4 x2 w3) fun w16 =>
  some (1, w16))
  else none
set_option maxRecDepth 100000 in
set_option maxHeartbeats 4000000 in
theorem t_X7_partLeft {Z : Cz (Int32 × Wd)} (hZ : OKZ Z SC cX7_partLeft RX7 9 (some .int) 3) (hE : EndI Z) (x1 : Int32) (x2 : Int32)  (w : Wd) : BW Z 9 0 [(0, .ref (ph (zY Z) 8)), (1, .int x1), (2, .int x2)] [] w (f_X7_partLeft x1 x2 w) :=
  bw_aload_n hZ 0 rfl dX7_partLeft_0 <|
  bw_getR hZ fl_RX7_40 obC_8 rfl dX7_partLeft_1 <|
  bw_getR hZ fl_RX7_72 obC_3 rfl dX7_partLeft_4 <|
  bw_astore_n hZ rfl (by decide) rfl dX7_partLeft_7 <|
  bw_aload_n hZ 1 rfl dX7_partLeft_8 <|
  bw_aload_n hZ 1 rfl dX7_partLeft_9 <|
  bw_getR hZ fl_RX7_23 obC_8 rfl dX7_partLeft_10 <|
  bw_iload_n hZ 2 rfl dX7_partLeft_13 <|
  bw_aald (84 + 3 * Int32.toNatClampNeg x1) hZ (arC_12 _) (Or.inr (Or.inr ⟨rfl, rfl⟩)) rfl dX7_partLeft_14 fun hi1 =>
  bw_callVI (As := [.ref (ph (zY Z) (84 + 3 * Int32.toNatClampNeg x1))]) hZ ml_RX7_164 rc_7 obC_8 (by decide) (c_X7_heirsOfRest (zl Z) (zY Z) (hZ_S hZ) (84 + 3 * Int32.toNatClampNeg x1) (isS_of hi1) w) rfl rfl (Nat.le_of_ble_eq_true rfl) dX7_partLeft_15 fun r4 w3 =>
  bw_istore hZ (by decide) rfl dX7_partLeft_18 <|
  bw_iload hZ 0 rfl dX7_partLeft_20 <|
  bw_if_eq hZ (tgt := 34) (by decide) dX7_partLeft_22 (fun _ =>
  bw_aload_n hZ 1 rfl dX7_partLeft_34 <|
  bw_getI hZ fl_RX7_171 (by decide) obC_31 dX7_partLeft_35 <|
  bw_if_lt hZ (tgt := 56) (by decide) dX7_partLeft_38 (fun _ =>
  bw_iconst hZ 0 (by decide) dX7_partLeft_56 <|
  bw_sub [2, 3, 4, 1] rfl (t_X7_partLeft_b57 hZ hE x1 x2 0 w3)) (fun _ =>
  bw_aload_n hZ 1 rfl dX7_partLeft_41 <|
  bw_aload_n hZ 1 rfl dX7_partLeft_42 <|
  bw_getI hZ fl_RX7_171 (by decide) obC_31 dX7_partLeft_43 <|
  bw_callVI (As := [.int (w3.1 31 11)]) hZ ml_RX7_174 rc_0 obC_31 (by decide) (c_X0_isDead (zl Z) (zY Z) (hZ_S hZ) 31 (w3.1 31 11) isE31 w3) rfl rfl (Nat.le_of_ble_eq_true rfl) dX7_partLeft_46 fun r15 w14 =>
  bw_if_ne hZ (tgt := 56) (by decide) dX7_partLeft_49 (fun _ =>
  bw_iconst hZ 0 (by decide) dX7_partLeft_56 <|
  bw_sub [2, 3, 4, 1] rfl (t_X7_partLeft_b57 hZ hE x1 x2 0 w14)) (fun _ =>
  bw_iconst hZ 1 (by decide) dX7_partLeft_52 <|
  bw_goto hZ (tgt := 57) (by decide) dX7_partLeft_53 <|
  bw_sub [2, 3, 4, 1] rfl (t_X7_partLeft_b57 hZ hE x1 x2 1 w14)))) (fun _ =>
  bw_aload_n hZ 2 rfl dX7_partLeft_25 <|
  bw_iload hZ 0 rfl dX7_partLeft_26 <|
  bw_iload_n hZ 4 rfl dX7_partLeft_28 <|
  bw_callVV (As := [.int r4, .int x2]) hZ ml_RX7_168 rc_7 obC_8 (by decide) (c_X7_partEqually (zl Z) (zY Z) (hZ_S hZ) r4 x2 w3) rfl rfl (Nat.le_of_ble_eq_true rfl) dX7_partLeft_29 fun w16 =>
  bw_iconst hZ 1 (by decide) dX7_partLeft_32 <|
  bw_iret hZ hE dX7_partLeft_33)
theorem c_X7_partLeft (l : Launch) (Y : Ev) (hY : Y.1 = SC) (x1 : Int32) (x2 : Int32)  (w : Wd) : CI l Y yX7_partLeft cX7_partLeft 9 3 [.ref (ph Y 8), .int x1, .int x2] w .int (f_X7_partLeft x1 x2 w) := by
  refine CI_of (S := SC) (by decide) (Nat.le_of_ble_eq_true rfl) hY ?_
  intro Z hl hY2 hZ hE
  subst hY2
  exact t_X7_partLeft hZ hE x1 x2 w
-- java/util/Arrays.fill
theorem dJ7_fill_53178_0 : decode cJ7_fill_53178 0 = .ok (.iconst 0, 1) := by decide +kernel
theorem dJ7_fill_53178_1 : decode cJ7_fill_53178 1 = .ok (.istore_n 2, 1) := by decide +kernel
theorem dJ7_fill_53178_2 : decode cJ7_fill_53178 2 = .ok (.aload_n 0, 1) := by decide +kernel
theorem dJ7_fill_53178_3 : decode cJ7_fill_53178 3 = .ok (.arraylength, 1) := by decide +kernel
theorem dJ7_fill_53178_4 : decode cJ7_fill_53178 4 = .ok (.istore_n 3, 1) := by decide +kernel
theorem dJ7_fill_53178_5 : decode cJ7_fill_53178 5 = .ok (.iload_n 2, 1) := by decide +kernel
theorem dJ7_fill_53178_6 : decode cJ7_fill_53178 6 = .ok (.iload_n 3, 1) := by decide +kernel
theorem dJ7_fill_53178_7 : decode cJ7_fill_53178 7 = .ok (.if_icmp .ge 13, 3) := by decide +kernel
theorem dJ7_fill_53178_10 : decode cJ7_fill_53178 10 = .ok (.aload_n 0, 1) := by decide +kernel
theorem dJ7_fill_53178_11 : decode cJ7_fill_53178 11 = .ok (.iload_n 2, 1) := by decide +kernel
theorem dJ7_fill_53178_12 : decode cJ7_fill_53178 12 = .ok (.iload_n 1, 1) := by decide +kernel
theorem dJ7_fill_53178_13 : decode cJ7_fill_53178 13 = .ok (.iastore, 1) := by decide +kernel
theorem dJ7_fill_53178_14 : decode cJ7_fill_53178 14 = .ok (.iinc 2 1, 3) := by decide +kernel
theorem dJ7_fill_53178_17 : decode cJ7_fill_53178 17 = .ok (.goto (-12), 3) := by decide +kernel
theorem dJ7_fill_53178_20 : decode cJ7_fill_53178 20 = .ok (.return_, 1) := by decide +kernel
def J7_fill_53178_b5 (k5 : Nat → Nat → Int32 → Int32 → Int32 → Wd → Option (Wd)) (y0 : Nat) (ny0 : Nat) (y1 : Int32) (y2 : Int32) (y3 : Int32) (w : Wd) : Option (Wd) :=
  if y3 ≤ y2 then
  (some w)
  else
  if inb y2 ny0 = true then
  (lt (wI w y0 (Int32.toNatClampNeg y2) y1) fun w2 =>
  k5 y0 ny0 y1 (y2 + 1) y3 w2)
  else none
set_option maxRecDepth 100000 in
set_option maxHeartbeats 4000000 in
theorem t_J7_fill_53178_b5 {S : Shp} {Z : Cz (Wd)} (hZ : OKZ Z S cJ7_fill_53178 RJ7 4 none 1) (hE : EndV Z) (k5 : Nat → Nat → Int32 → Int32 → Int32 → Wd → Option (Wd)) (hk5 : ∀ (y0 : Nat) (ny0 : Nat) (y1 : Int32) (y2 : Int32) (y3 : Int32) (hy0 : AR S (yc (zY Z)) y0 20 ny0) (w : Wd), BW Z 4 5 [(0, .ref (ph (zY Z) y0)), (1, .int y1), (2, .int y2), (3, .int y3)] [] w (k5 y0 ny0 y1 y2 y3 w)) (y0 : Nat) (ny0 : Nat) (y1 : Int32) (y2 : Int32) (y3 : Int32) (hy0 : AR S (yc (zY Z)) y0 20 ny0) (w : Wd) : BW Z 4 5 [(0, .ref (ph (zY Z) y0)), (1, .int y1), (2, .int y2), (3, .int y3)] [] w (J7_fill_53178_b5 k5 y0 ny0 y1 y2 y3 w) :=
  bw_iload_n hZ 2 rfl dJ7_fill_53178_5 <|
  bw_iload_n hZ 3 rfl dJ7_fill_53178_6 <|
  bw_icmp_ge hZ (tgt := 20) (by decide) dJ7_fill_53178_7 (fun _ =>
  bw_vret hZ hE dJ7_fill_53178_20) (fun _ =>
  bw_aload_n hZ 0 rfl dJ7_fill_53178_10 <|
  bw_iload_n hZ 2 rfl dJ7_fill_53178_11 <|
  bw_iload_n hZ 1 rfl dJ7_fill_53178_12 <|
  bw_iast hZ hy0 dJ7_fill_53178_13 fun w2 =>
  bw_iinc hZ 1 2 rfl (by decide) (by decide) rfl dJ7_fill_53178_14 <|
  bw_goto hZ (tgt := 5) (by decide) dJ7_fill_53178_17 <|
  bw_sub [1, 2, 0, 3] rfl (hk5 y0 ny0 y1 (y2 + 1) y3 hy0 w2))
def J7_fill_53178_b5_L  : Nat → Nat → Int32 → Int32 → Int32 → Wd → Option (Wd) :=
  lp fu (fun _ _ _ _ _ _ => none) (fun k5 => J7_fill_53178_b5 k5)
theorem t_J7_fill_53178_b5_L {S : Shp} {Z : Cz (Wd)} (hZ : OKZ Z S cJ7_fill_53178 RJ7 4 none 1) (hE : EndV Z)  : ∀ (y0 : Nat) (ny0 : Nat) (y1 : Int32) (y2 : Int32) (y3 : Int32) (hy0 : AR S (yc (zY Z)) y0 20 ny0) (w : Wd), BW Z 4 5 [(0, .ref (ph (zY Z) y0)), (1, .int y1), (2, .int y2), (3, .int y3)] [] w (J7_fill_53178_b5_L y0 ny0 y1 y2 y3 w) :=
  lp_bw (fun k5 => ∀ (y0 : Nat) (ny0 : Nat) (y1 : Int32) (y2 : Int32) (y3 : Int32) (hy0 : AR S (yc (zY Z)) y0 20 ny0) (w : Wd), BW Z 4 5 [(0, .ref (ph (zY Z) y0)), (1, .int y1), (2, .int y2), (3, .int y3)] [] w (k5 y0 ny0 y1 y2 y3 w)) (fun _ _ _ _ _ _ _ => bw_none) (fun k5 hk5 y0 ny0 y1 y2 y3 hy0 w => t_J7_fill_53178_b5 hZ hE k5 hk5 y0 ny0 y1 y2 y3 hy0 w) fu
def f_J7_fill_53178 (o0 : Nat) (n0 : Nat) (x1 : Int32) (w : Wd) : Option (Wd) :=
  lt (Int32.ofNat n0) fun v1 =>
  J7_fill_53178_b5_L o0 n0 x1 0 v1 w
set_option maxRecDepth 100000 in
set_option maxHeartbeats 4000000 in
theorem t_J7_fill_53178 {S : Shp} {Z : Cz (Wd)} (hZ : OKZ Z S cJ7_fill_53178 RJ7 4 none 1) (hE : EndV Z) (o0 : Nat) (n0 : Nat) (x1 : Int32) (ho0 : AR S (yc (zY Z)) o0 20 n0) (w : Wd) : BW Z 4 0 [(0, .ref (ph (zY Z) o0)), (1, .int x1)] [] w (f_J7_fill_53178 o0 n0 x1 w) :=
  bw_iconst hZ 0 (by decide) dJ7_fill_53178_0 <|
  bw_istore_n hZ rfl (by decide) rfl dJ7_fill_53178_1 <|
  bw_aload_n hZ 1 rfl dJ7_fill_53178_2 <|
  bw_alenI hZ ho0 rfl dJ7_fill_53178_3 <|
  bw_nm fun v1 =>
  bw_istore_n hZ rfl (by decide) rfl dJ7_fill_53178_4 <|
  bw_sub [2, 3, 1, 0] rfl (t_J7_fill_53178_b5_L hZ hE o0 n0 x1 0 v1 ho0 w)
theorem c_J7_fill_53178 {S : Shp} (l : Launch) (Y : Ev) (hY : Y.1 = S) (o0 : Nat) (n0 : Nat) (x1 : Int32) (ho0 : AR S (yc Y) o0 20 n0) (w : Wd) : CV l Y yJ7_fill_53178 cJ7_fill_53178 4 1 [.ref (ph Y o0), .int x1] w (f_J7_fill_53178 o0 n0 x1 w) := by
  refine CV_of (S := S) (by decide) (Nat.le_of_ble_eq_true rfl) hY ?_
  intro Z hl hY2 hZ hE
  subst hY2
  exact t_J7_fill_53178 hZ hE o0 n0 x1 ho0 w
-- WhichWill$Shares.partThing
theorem dX7_partThing_0 : decode cX7_partThing 0 = .ok (.aload_n 0, 1) := by decide +kernel
theorem dX7_partThing_1 : decode cX7_partThing 1 = .ok (.getfield 9, 3) := by decide +kernel
theorem dX7_partThing_4 : decode cX7_partThing 4 = .ok (.iconst 0, 1) := by decide +kernel
theorem dX7_partThing_5 : decode cX7_partThing 5 = .ok (.invokestatic 104, 3) := by decide +kernel
theorem dX7_partThing_8 : decode cX7_partThing 8 = .ok (.aload_n 0, 1) := by decide +kernel
theorem dX7_partThing_9 : decode cX7_partThing 9 = .ok (.getfield 40, 3) := by decide +kernel
theorem dX7_partThing_12 : decode cX7_partThing 12 = .ok (.getfield 72, 3) := by decide +kernel
theorem dX7_partThing_15 : decode cX7_partThing 15 = .ok (.getfield 110, 3) := by decide +kernel
theorem dX7_partThing_18 : decode cX7_partThing 18 = .ok (.iload_n 1, 1) := by decide +kernel
theorem dX7_partThing_19 : decode cX7_partThing 19 = .ok (.iaload, 1) := by decide +kernel
theorem dX7_partThing_20 : decode cX7_partThing 20 = .ok (.istore_n 2, 1) := by decide +kernel
theorem dX7_partThing_21 : decode cX7_partThing 21 = .ok (.aload_n 0, 1) := by decide +kernel
theorem dX7_partThing_22 : decode cX7_partThing 22 = .ok (.aload_n 0, 1) := by decide +kernel
theorem dX7_partThing_23 : decode cX7_partThing 23 = .ok (.getfield 23, 3) := by decide +kernel
theorem dX7_partThing_26 : decode cX7_partThing 26 = .ok (.aload_n 0, 1) := by decide +kernel
theorem dX7_partThing_27 : decode cX7_partThing 27 = .ok (.getfield 27, 3) := by decide +kernel
theorem dX7_partThing_30 : decode cX7_partThing 30 = .ok (.iload_n 1, 1) := by decide +kernel
theorem dX7_partThing_31 : decode cX7_partThing 31 = .ok (.iaload, 1) := by decide +kernel
theorem dX7_partThing_32 : decode cX7_partThing 32 = .ok (.aaload, 1) := by decide +kernel
theorem dX7_partThing_33 : decode cX7_partThing 33 = .ok (.iload_n 1, 1) := by decide +kernel
theorem dX7_partThing_34 : decode cX7_partThing 34 = .ok (.invokevirtual 113, 3) := by decide +kernel
theorem dX7_partThing_37 : decode cX7_partThing 37 = .ok (.istore_n 3, 1) := by decide +kernel
theorem dX7_partThing_38 : decode cX7_partThing 38 = .ok (.iload_n 3, 1) := by decide +kernel
theorem dX7_partThing_39 : decode cX7_partThing 39 = .ok (.iconst (-1), 1) := by decide +kernel
theorem dX7_partThing_40 : decode cX7_partThing 40 = .ok (.if_icmp .eq 12, 3) := by decide +kernel
theorem dX7_partThing_43 : decode cX7_partThing 43 = .ok (.aload_n 0, 1) := by decide +kernel
theorem dX7_partThing_44 : decode cX7_partThing 44 = .ok (.getfield 9, 3) := by decide +kernel
theorem dX7_partThing_47 : decode cX7_partThing 47 = .ok (.iload_n 3, 1) := by decide +kernel
theorem dX7_partThing_48 : decode cX7_partThing 48 = .ok (.iload_n 2, 1) := by decide +kernel
theorem dX7_partThing_49 : decode cX7_partThing 49 = .ok (.iastore, 1) := by decide +kernel
theorem dX7_partThing_50 : decode cX7_partThing 50 = .ok (.iconst 0, 1) := by decide +kernel
theorem dX7_partThing_51 : decode cX7_partThing 51 = .ok (.ireturn, 1) := by decide +kernel
theorem dX7_partThing_52 : decode cX7_partThing 52 = .ok (.aload_n 0, 1) := by decide +kernel
theorem dX7_partThing_53 : decode cX7_partThing 53 = .ok (.aload_n 0, 1) := by decide +kernel
theorem dX7_partThing_54 : decode cX7_partThing 54 = .ok (.getfield 27, 3) := by decide +kernel
theorem dX7_partThing_57 : decode cX7_partThing 57 = .ok (.iload_n 1, 1) := by decide +kernel
theorem dX7_partThing_58 : decode cX7_partThing 58 = .ok (.iaload, 1) := by decide +kernel
theorem dX7_partThing_59 : decode cX7_partThing 59 = .ok (.iload_n 2, 1) := by decide +kernel
theorem dX7_partThing_60 : decode cX7_partThing 60 = .ok (.invokevirtual 117, 3) := by decide +kernel
theorem dX7_partThing_63 : decode cX7_partThing 63 = .ok (.ireturn, 1) := by decide +kernel
def f_X7_partThing (x1 : Int32) (w : Wd) : Option (Int32 × Wd) :=
  cv (f_J7_fill_53178 9 8 0 w) fun w1 =>
  if inb x1 8 = true then
  (lt (w1.1 41 (Int32.toNatClampNeg x1)) fun v2 =>
  if inb x1 8 = true then
  (if inb (w1.1 13 (Int32.toNatClampNeg x1)) 4 = true then
  (cl (f_X7_givenTo (84 + 3 * Int32.toNatClampNeg (w1.1 13 (Int32.toNatClampNeg x1))) x1 w1) fun r6 w5 =>
  if r6 = ((-1)) then
  (if inb x1 8 = true then
  (cl (f_X7_partLeft (w5.1 13 (Int32.toNatClampNeg x1)) v2 w5) fun r8 w7 =>
  some (r8, w7))
  else none)
  else
  if inb r6 8 = true then
  (lt (wI w5 9 (Int32.toNatClampNeg r6) v2) fun w9 =>
  some (0, w9))
  else none)
  else none)
  else none)
  else none
set_option maxRecDepth 100000 in
set_option maxHeartbeats 4000000 in
theorem t_X7_partThing {Z : Cz (Int32 × Wd)} (hZ : OKZ Z SC cX7_partThing RX7 4 (some .int) 4) (hE : EndI Z) (x1 : Int32)  (w : Wd) : BW Z 4 0 [(0, .ref (ph (zY Z) 8)), (1, .int x1)] [] w (f_X7_partThing x1 w) :=
  bw_aload_n hZ 0 rfl dX7_partThing_0 <|
  bw_getR hZ fl_RX7_9 obC_8 rfl dX7_partThing_1 <|
  bw_iconst hZ 0 (by decide) dX7_partThing_4 <|
  bw_callSV (As := [.ref (ph (zY Z) 9), .int 0]) hZ ms_RX7_104 (by decide) (c_J7_fill_53178 (zl Z) (zY Z) (hZ_S hZ) 9 8 0 (arC_9 _) w) rfl rfl (Nat.le_of_ble_eq_true rfl) dX7_partThing_5 fun w1 =>
  bw_aload_n hZ 0 rfl dX7_partThing_8 <|
  bw_getR hZ fl_RX7_40 obC_8 rfl dX7_partThing_9 <|
  bw_getR hZ fl_RX7_72 obC_3 rfl dX7_partThing_12 <|
  bw_getR hZ fl_RX7_110 obC_31 rfl dX7_partThing_15 <|
  bw_iload_n hZ 1 rfl dX7_partThing_18 <|
  bw_iald hZ (arC_41 _) dX7_partThing_19 <|
  bw_nm fun v2 =>
  bw_istore_n hZ rfl (by decide) rfl dX7_partThing_20 <|
  bw_aload_n hZ 1 rfl dX7_partThing_21 <|
  bw_aload_n hZ 1 rfl dX7_partThing_22 <|
  bw_getR hZ fl_RX7_23 obC_8 rfl dX7_partThing_23 <|
  bw_aload_n hZ 1 rfl dX7_partThing_26 <|
  bw_getR hZ fl_RX7_27 obC_8 rfl dX7_partThing_27 <|
  bw_iload_n hZ 2 rfl dX7_partThing_30 <|
  bw_iald hZ (arC_13 _) dX7_partThing_31 <|
  bw_aald (84 + 3 * Int32.toNatClampNeg (w1.1 13 (Int32.toNatClampNeg x1))) hZ (arC_12 _) (Or.inr (Or.inr ⟨rfl, rfl⟩)) rfl dX7_partThing_32 fun hi3 =>
  bw_iload_n hZ 2 rfl dX7_partThing_33 <|
  bw_callVI (As := [.ref (ph (zY Z) (84 + 3 * Int32.toNatClampNeg (w1.1 13 (Int32.toNatClampNeg x1)))), .int x1]) hZ ml_RX7_113 rc_7 obC_8 (by decide) (c_X7_givenTo (zl Z) (zY Z) (hZ_S hZ) (84 + 3 * Int32.toNatClampNeg (w1.1 13 (Int32.toNatClampNeg x1))) x1 (isS_of hi3) w1) rfl rfl (Nat.le_of_ble_eq_true rfl) dX7_partThing_34 fun r6 w5 =>
  bw_istore_n hZ rfl (by decide) rfl dX7_partThing_37 <|
  bw_iload_n hZ 0 rfl dX7_partThing_38 <|
  bw_iconst hZ (-1) (by decide) dX7_partThing_39 <|
  bw_icmp_eq hZ (tgt := 52) (by decide) dX7_partThing_40 (fun _ =>
  bw_aload_n hZ 2 rfl dX7_partThing_52 <|
  bw_aload_n hZ 2 rfl dX7_partThing_53 <|
  bw_getR hZ fl_RX7_27 obC_8 rfl dX7_partThing_54 <|
  bw_iload_n hZ 3 rfl dX7_partThing_57 <|
  bw_iald hZ (arC_13 _) dX7_partThing_58 <|
  bw_iload_n hZ 1 rfl dX7_partThing_59 <|
  bw_callVI (As := [.int (w5.1 13 (Int32.toNatClampNeg x1)), .int v2]) hZ ml_RX7_117 rc_7 obC_8 (by decide) (c_X7_partLeft (zl Z) (zY Z) (hZ_S hZ) (w5.1 13 (Int32.toNatClampNeg x1)) v2 w5) rfl rfl (Nat.le_of_ble_eq_true rfl) dX7_partThing_60 fun r8 w7 =>
  bw_iret hZ hE dX7_partThing_63) (fun _ =>
  bw_aload_n hZ 2 rfl dX7_partThing_43 <|
  bw_getR hZ fl_RX7_9 obC_8 rfl dX7_partThing_44 <|
  bw_iload_n hZ 0 rfl dX7_partThing_47 <|
  bw_iload_n hZ 1 rfl dX7_partThing_48 <|
  bw_iast hZ (arC_9 _) dX7_partThing_49 fun w9 =>
  bw_iconst hZ 0 (by decide) dX7_partThing_50 <|
  bw_iret hZ hE dX7_partThing_51)
theorem c_X7_partThing (l : Launch) (Y : Ev) (hY : Y.1 = SC) (x1 : Int32)  (w : Wd) : CI l Y yX7_partThing cX7_partThing 4 4 [.ref (ph Y 8), .int x1] w .int (f_X7_partThing x1 w) := by
  refine CI_of (S := SC) (by decide) (Nat.le_of_ble_eq_true rfl) hY ?_
  intro Z hl hY2 hZ hE
  subst hY2
  exact t_X7_partThing hZ hE x1 w
-- WhichWill$Shares.setWay
theorem dX7_setWay_0 : decode cX7_setWay 0 = .ok (.aload_n 0, 1) := by decide +kernel
theorem dX7_setWay_1 : decode cX7_setWay 1 = .ok (.iload_n 1, 1) := by decide +kernel
theorem dX7_setWay_2 : decode cX7_setWay 2 = .ok (.bipush 8, 2) := by decide +kernel
theorem dX7_setWay_4 : decode cX7_setWay 4 = .ok (.idiv, 1) := by decide +kernel
theorem dX7_setWay_5 : decode cX7_setWay 5 = .ok (.putfield 62, 3) := by decide +kernel
theorem dX7_setWay_8 : decode cX7_setWay 8 = .ok (.aload_n 0, 1) := by decide +kernel
theorem dX7_setWay_9 : decode cX7_setWay 9 = .ok (.iload_n 1, 1) := by decide +kernel
theorem dX7_setWay_10 : decode cX7_setWay 10 = .ok (.bipush 8, 2) := by decide +kernel
theorem dX7_setWay_12 : decode cX7_setWay 12 = .ok (.irem, 1) := by decide +kernel
theorem dX7_setWay_13 : decode cX7_setWay 13 = .ok (.putfield 65, 3) := by decide +kernel
theorem dX7_setWay_16 : decode cX7_setWay 16 = .ok (.return_, 1) := by decide +kernel
def f_X7_setWay (x1 : Int32) (w : Wd) : Option (Wd) :=
  lt (wI w 8 11 (x1 / 8)) fun w1 =>
  lt (wI w1 8 12 (x1 - x1 / 8 * 8)) fun w2 =>
  some w2
set_option maxRecDepth 100000 in
set_option maxHeartbeats 4000000 in
theorem t_X7_setWay {Z : Cz (Wd)} (hZ : OKZ Z SC cX7_setWay RX7 2 none 1) (hE : EndV Z) (x1 : Int32)  (w : Wd) : BW Z 2 0 [(0, .ref (ph (zY Z) 8)), (1, .int x1)] [] w (f_X7_setWay x1 w) :=
  bw_aload_n hZ 0 rfl dX7_setWay_0 <|
  bw_iload_n hZ 1 rfl dX7_setWay_1 <|
  bw_bipush hZ 8 (by decide) dX7_setWay_2 <|
  bw_idivN hZ (by decide) dX7_setWay_4 <|
  bw_putI hZ fl_RX7_62 rfl rfl (by decide) obC_8 dX7_setWay_5 fun w1 =>
  bw_aload_n hZ 0 rfl dX7_setWay_8 <|
  bw_iload_n hZ 1 rfl dX7_setWay_9 <|
  bw_bipush hZ 8 (by decide) dX7_setWay_10 <|
  bw_iremN hZ (by decide) dX7_setWay_12 <|
  bw_putI hZ fl_RX7_65 rfl rfl (by decide) obC_8 dX7_setWay_13 fun w2 =>
  bw_vret hZ hE dX7_setWay_16
theorem c_X7_setWay (l : Launch) (Y : Ev) (hY : Y.1 = SC) (x1 : Int32)  (w : Wd) : CV l Y yX7_setWay cX7_setWay 2 1 [.ref (ph Y 8), .int x1] w (f_X7_setWay x1 w) := by
  refine CV_of (S := SC) (by decide) (Nat.le_of_ble_eq_true rfl) hY ?_
  intro Z hl hY2 hZ hE
  subst hY2
  exact t_X7_setWay hZ hE x1 w
-- WhichWill$Standing.findCounting
theorem dX8_findCounting_0 : decode cX8_findCounting 0 = .ok (.aload_n 0, 1) := by decide +kernel
theorem dX8_findCounting_1 : decode cX8_findCounting 1 = .ok (.iconst 0, 1) := by decide +kernel
theorem dX8_findCounting_2 : decode cX8_findCounting 2 = .ok (.putfield 131, 3) := by decide +kernel
theorem dX8_findCounting_5 : decode cX8_findCounting 5 = .ok (.iconst 0, 1) := by decide +kernel
theorem dX8_findCounting_6 : decode cX8_findCounting 6 = .ok (.istore_n 1, 1) := by decide +kernel
theorem dX8_findCounting_7 : decode cX8_findCounting 7 = .ok (.iload_n 1, 1) := by decide +kernel
theorem dX8_findCounting_8 : decode cX8_findCounting 8 = .ok (.aload_n 0, 1) := by decide +kernel
theorem dX8_findCounting_9 : decode cX8_findCounting 9 = .ok (.getfield 18, 3) := by decide +kernel
theorem dX8_findCounting_12 : decode cX8_findCounting 12 = .ok (.getfield 63, 3) := by decide +kernel
theorem dX8_findCounting_15 : decode cX8_findCounting 15 = .ok (.if_icmp .ge 60, 3) := by decide +kernel
theorem dX8_findCounting_18 : decode cX8_findCounting 18 = .ok (.aload_n 0, 1) := by decide +kernel
theorem dX8_findCounting_19 : decode cX8_findCounting 19 = .ok (.getfield 18, 3) := by decide +kernel
theorem dX8_findCounting_22 : decode cX8_findCounting 22 = .ok (.getfield 66, 3) := by decide +kernel
theorem dX8_findCounting_25 : decode cX8_findCounting 25 = .ok (.iload_n 1, 1) := by decide +kernel
theorem dX8_findCounting_26 : decode cX8_findCounting 26 = .ok (.aaload, 1) := by decide +kernel
theorem dX8_findCounting_27 : decode cX8_findCounting 27 = .ok (.getfield 134, 3) := by decide +kernel
theorem dX8_findCounting_30 : decode cX8_findCounting 30 = .ok (.istore_n 2, 1) := by decide +kernel
theorem dX8_findCounting_31 : decode cX8_findCounting 31 = .ok (.aload_n 0, 1) := by decide +kernel
theorem dX8_findCounting_32 : decode cX8_findCounting 32 = .ok (.getfield 82, 3) := by decide +kernel
theorem dX8_findCounting_35 : decode cX8_findCounting 35 = .ok (.iload_n 1, 1) := by decide +kernel
theorem dX8_findCounting_36 : decode cX8_findCounting 36 = .ok (.ishr, 1) := by decide +kernel
theorem dX8_findCounting_37 : decode cX8_findCounting 37 = .ok (.iconst 1, 1) := by decide +kernel
theorem dX8_findCounting_38 : decode cX8_findCounting 38 = .ok (.iand, 1) := by decide +kernel
theorem dX8_findCounting_39 : decode cX8_findCounting 39 = .ok (.ifCond .eq 30, 3) := by decide +kernel
theorem dX8_findCounting_42 : decode cX8_findCounting 42 = .ok (.iload_n 2, 1) := by decide +kernel
theorem dX8_findCounting_43 : decode cX8_findCounting 43 = .ok (.ifCond .lt 14, 3) := by decide +kernel
theorem dX8_findCounting_46 : decode cX8_findCounting 46 = .ok (.aload_n 0, 1) := by decide +kernel
theorem dX8_findCounting_47 : decode cX8_findCounting 47 = .ok (.getfield 131, 3) := by decide +kernel
theorem dX8_findCounting_50 : decode cX8_findCounting 50 = .ok (.iload_n 2, 1) := by decide +kernel
theorem dX8_findCounting_51 : decode cX8_findCounting 51 = .ok (.ishr, 1) := by decide +kernel
theorem dX8_findCounting_52 : decode cX8_findCounting 52 = .ok (.iconst 1, 1) := by decide +kernel
theorem dX8_findCounting_53 : decode cX8_findCounting 53 = .ok (.iand, 1) := by decide +kernel
theorem dX8_findCounting_54 : decode cX8_findCounting 54 = .ok (.ifCond .eq 15, 3) := by decide +kernel
theorem dX8_findCounting_57 : decode cX8_findCounting 57 = .ok (.aload_n 0, 1) := by decide +kernel
theorem dX8_findCounting_58 : decode cX8_findCounting 58 = .ok (.dup, 1) := by decide +kernel
theorem dX8_findCounting_59 : decode cX8_findCounting 59 = .ok (.getfield 131, 3) := by decide +kernel
theorem dX8_findCounting_62 : decode cX8_findCounting 62 = .ok (.iconst 1, 1) := by decide +kernel
theorem dX8_findCounting_63 : decode cX8_findCounting 63 = .ok (.iload_n 1, 1) := by decide +kernel
theorem dX8_findCounting_64 : decode cX8_findCounting 64 = .ok (.ishl, 1) := by decide +kernel
theorem dX8_findCounting_65 : decode cX8_findCounting 65 = .ok (.ior, 1) := by decide +kernel
theorem dX8_findCounting_66 : decode cX8_findCounting 66 = .ok (.putfield 131, 3) := by decide +kernel
theorem dX8_findCounting_69 : decode cX8_findCounting 69 = .ok (.iinc 1 1, 3) := by decide +kernel
theorem dX8_findCounting_72 : decode cX8_findCounting 72 = .ok (.goto (-65), 3) := by decide +kernel
theorem dX8_findCounting_75 : decode cX8_findCounting 75 = .ok (.return_, 1) := by decide +kernel
def X8_findCounting_b57 (k7 : Nat → Int32 → Wd → Option (Wd)) (y0 : Nat) (y1 : Int32) (w : Wd) : Option (Wd) :=
  lt (wI w y0 1 ((w.1 y0 1) ||| (1 <<< (y1 &&& 31)))) fun w5 =>
  k7 y0 (y1 + 1) w5
set_option maxRecDepth 100000 in
set_option maxHeartbeats 4000000 in
theorem t_X8_findCounting_b57 {Z : Cz (Wd)} (hZ : OKZ Z SC cX8_findCounting RX8 3 none 1) (hE : EndV Z) (k7 : Nat → Int32 → Wd → Option (Wd)) (hk7 : ∀ (y0 : Nat) (y1 : Int32) (hy0 : IsS y0) (w : Wd), BW Z 3 7 [(0, .ref (ph (zY Z) y0)), (1, .int y1)] [] w (k7 y0 y1 w)) (y0 : Nat) (y1 : Int32) (hy0 : IsS y0) (w : Wd) : BW Z 3 57 [(0, .ref (ph (zY Z) y0)), (1, .int y1)] [] w (X8_findCounting_b57 k7 y0 y1 w) :=
  bw_aload_n hZ 0 rfl dX8_findCounting_57 <|
  bw_dup hZ rfl dX8_findCounting_58 <|
  bw_getI hZ fl_RX8_131 (by decide) (obS hy0) dX8_findCounting_59 <|
  bw_iconst hZ 1 (by decide) dX8_findCounting_62 <|
  bw_iload_n hZ 1 rfl dX8_findCounting_63 <|
  bw_ishl hZ dX8_findCounting_64 <|
  bw_ior hZ dX8_findCounting_65 <|
  bw_putI hZ fl_RX8_131 rfl rfl (by decide) (obS hy0) dX8_findCounting_66 fun w5 =>
  bw_iinc hZ 1 1 rfl (by decide) (by decide) rfl dX8_findCounting_69 <|
  bw_goto hZ (tgt := 7) (by decide) dX8_findCounting_72 <|
  bw_sub [1, 0] rfl (hk7 y0 (y1 + 1) hy0 w5)
def X8_findCounting_b7 (k7 : Nat → Int32 → Wd → Option (Wd)) (y0 : Nat) (y1 : Int32) (w : Wd) : Option (Wd) :=
  if (w.1 3 3) ≤ y1 then
  (some w)
  else
  if inb y1 4 = true then
  (lt (w.1 (57 + 6 * Int32.toNatClampNeg y1) 7) fun v4 =>
  if (((w.1 y0 9) >>> (y1 &&& 31)) &&& 1) = 0 then
  (k7 y0 (y1 + 1) w)
  else
  if v4 < 0 then
  (X8_findCounting_b57 k7 y0 y1 w)
  else
  if (((w.1 y0 1) >>> (v4 &&& 31)) &&& 1) = 0 then
  (k7 y0 (y1 + 1) w)
  else
  X8_findCounting_b57 k7 y0 y1 w)
  else none
set_option maxRecDepth 100000 in
set_option maxHeartbeats 4000000 in
theorem t_X8_findCounting_b7 {Z : Cz (Wd)} (hZ : OKZ Z SC cX8_findCounting RX8 3 none 1) (hE : EndV Z) (k7 : Nat → Int32 → Wd → Option (Wd)) (hk7 : ∀ (y0 : Nat) (y1 : Int32) (hy0 : IsS y0) (w : Wd), BW Z 3 7 [(0, .ref (ph (zY Z) y0)), (1, .int y1)] [] w (k7 y0 y1 w)) (y0 : Nat) (y1 : Int32) (hy0 : IsS y0) (w : Wd) : BW Z 3 7 [(0, .ref (ph (zY Z) y0)), (1, .int y1)] [] w (X8_findCounting_b7 k7 y0 y1 w) :=
  bw_iload_n hZ 1 rfl dX8_findCounting_7 <|
  bw_aload_n hZ 0 rfl dX8_findCounting_8 <|
  bw_getR hZ fl_RX8_18 (obS hy0) (rfS2 hy0) dX8_findCounting_9 <|
  bw_getI hZ fl_RX8_63 (by decide) obC_3 dX8_findCounting_12 <|
  bw_icmp_ge hZ (tgt := 75) (by decide) dX8_findCounting_15 (fun _ =>
  bw_vret hZ hE dX8_findCounting_75) (fun _ =>
  bw_aload_n hZ 0 rfl dX8_findCounting_18 <|
  bw_getR hZ fl_RX8_18 (obS hy0) (rfS2 hy0) dX8_findCounting_19 <|
  bw_getR hZ fl_RX8_66 obC_3 rfl dX8_findCounting_22 <|
  bw_iload_n hZ 1 rfl dX8_findCounting_25 <|
  bw_aald (57 + 6 * Int32.toNatClampNeg y1) hZ (arC_4 _) (Or.inl ⟨rfl, rfl⟩) rfl dX8_findCounting_26 fun hi2 =>
  bw_getI hZ fl_RX8_134 (by decide) (obP (isP_of hi2)) dX8_findCounting_27 <|
  bw_nm fun v4 =>
  bw_istore_n hZ rfl (by decide) rfl dX8_findCounting_30 <|
  bw_aload_n hZ 1 rfl dX8_findCounting_31 <|
  bw_getI hZ fl_RX8_82 (by decide) (obS hy0) dX8_findCounting_32 <|
  bw_iload_n hZ 2 rfl dX8_findCounting_35 <|
  bw_ishr hZ dX8_findCounting_36 <|
  bw_iconst hZ 1 (by decide) dX8_findCounting_37 <|
  bw_iand hZ dX8_findCounting_38 <|
  bw_if_eq hZ (tgt := 69) (by decide) dX8_findCounting_39 (fun _ =>
  bw_iinc hZ 1 2 rfl (by decide) (by decide) rfl dX8_findCounting_69 <|
  bw_goto hZ (tgt := 7) (by decide) dX8_findCounting_72 <|
  bw_sub [2, 0] rfl (hk7 y0 (y1 + 1) hy0 w)) (fun _ =>
  bw_iload_n hZ 0 rfl dX8_findCounting_42 <|
  bw_if_lt hZ (tgt := 57) (by decide) dX8_findCounting_43 (fun _ =>
  bw_sub [1, 2] rfl (t_X8_findCounting_b57 hZ hE k7 hk7 y0 y1 hy0 w)) (fun _ =>
  bw_aload_n hZ 1 rfl dX8_findCounting_46 <|
  bw_getI hZ fl_RX8_131 (by decide) (obS hy0) dX8_findCounting_47 <|
  bw_iload_n hZ 0 rfl dX8_findCounting_50 <|
  bw_ishr hZ dX8_findCounting_51 <|
  bw_iconst hZ 1 (by decide) dX8_findCounting_52 <|
  bw_iand hZ dX8_findCounting_53 <|
  bw_if_eq hZ (tgt := 69) (by decide) dX8_findCounting_54 (fun _ =>
  bw_iinc hZ 1 2 rfl (by decide) (by decide) rfl dX8_findCounting_69 <|
  bw_goto hZ (tgt := 7) (by decide) dX8_findCounting_72 <|
  bw_sub [2, 0] rfl (hk7 y0 (y1 + 1) hy0 w)) (fun _ =>
  bw_sub [1, 2] rfl (t_X8_findCounting_b57 hZ hE k7 hk7 y0 y1 hy0 w)))))
def X8_findCounting_b7_L  : Nat → Int32 → Wd → Option (Wd) :=
  lp fu (fun _ _ _ => none) (fun k7 => X8_findCounting_b7 k7)
theorem t_X8_findCounting_b7_L {Z : Cz (Wd)} (hZ : OKZ Z SC cX8_findCounting RX8 3 none 1) (hE : EndV Z)  : ∀ (y0 : Nat) (y1 : Int32) (hy0 : IsS y0) (w : Wd), BW Z 3 7 [(0, .ref (ph (zY Z) y0)), (1, .int y1)] [] w (X8_findCounting_b7_L y0 y1 w) :=
  lp_bw (fun k7 => ∀ (y0 : Nat) (y1 : Int32) (hy0 : IsS y0) (w : Wd), BW Z 3 7 [(0, .ref (ph (zY Z) y0)), (1, .int y1)] [] w (k7 y0 y1 w)) (fun _ _ _ _ => bw_none) (fun k7 hk7 y0 y1 hy0 w => t_X8_findCounting_b7 hZ hE k7 hk7 y0 y1 hy0 w) fu
def f_X8_findCounting (o0 : Nat) (w : Wd) : Option (Wd) :=
  lt (wI w o0 1 0) fun w1 =>
  X8_findCounting_b7_L o0 0 w1
set_option maxRecDepth 100000 in
set_option maxHeartbeats 4000000 in
theorem t_X8_findCounting {Z : Cz (Wd)} (hZ : OKZ Z SC cX8_findCounting RX8 3 none 1) (hE : EndV Z) (o0 : Nat) (ho0 : IsS o0) (w : Wd) : BW Z 3 0 [(0, .ref (ph (zY Z) o0))] [] w (f_X8_findCounting o0 w) :=
  bw_aload_n hZ 0 rfl dX8_findCounting_0 <|
  bw_iconst hZ 0 (by decide) dX8_findCounting_1 <|
  bw_putI hZ fl_RX8_131 rfl rfl (by decide) (obS ho0) dX8_findCounting_2 fun w1 =>
  bw_iconst hZ 0 (by decide) dX8_findCounting_5 <|
  bw_istore_n hZ rfl (by decide) rfl dX8_findCounting_6 <|
  bw_sub [1, 0] rfl (t_X8_findCounting_b7_L hZ hE o0 0 ho0 w1)
theorem c_X8_findCounting (l : Launch) (Y : Ev) (hY : Y.1 = SC) (o0 : Nat) (ho0 : IsS o0) (w : Wd) : CV l Y yX8_findCounting cX8_findCounting 3 1 [.ref (ph Y o0)] w (f_X8_findCounting o0 w) := by
  refine CV_of (S := SC) (by decide) (Nat.le_of_ble_eq_true rfl) hY ?_
  intro Z hl hY2 hZ hE
  subst hY2
  exact t_X8_findCounting hZ hE o0 ho0 w
-- WhichWill$Standing.raise
theorem dX8_raise_0 : decode cX8_raise 0 = .ok (.iconst 0, 1) := by decide +kernel
theorem dX8_raise_1 : decode cX8_raise 1 = .ok (.istore_n 2, 1) := by decide +kernel
theorem dX8_raise_2 : decode cX8_raise 2 = .ok (.iload_n 2, 1) := by decide +kernel
theorem dX8_raise_3 : decode cX8_raise 3 = .ok (.iconst 4, 1) := by decide +kernel
theorem dX8_raise_4 : decode cX8_raise 4 = .ok (.if_icmp .ge 36, 3) := by decide +kernel
theorem dX8_raise_7 : decode cX8_raise 7 = .ok (.iload_n 1, 1) := by decide +kernel
theorem dX8_raise_8 : decode cX8_raise 8 = .ok (.iload_n 2, 1) := by decide +kernel
theorem dX8_raise_9 : decode cX8_raise 9 = .ok (.ishr, 1) := by decide +kernel
theorem dX8_raise_10 : decode cX8_raise 10 = .ok (.iconst 1, 1) := by decide +kernel
theorem dX8_raise_11 : decode cX8_raise 11 = .ok (.iand, 1) := by decide +kernel
theorem dX8_raise_12 : decode cX8_raise 12 = .ok (.ifCond .eq 22, 3) := by decide +kernel
theorem dX8_raise_15 : decode cX8_raise 15 = .ok (.aload_n 0, 1) := by decide +kernel
theorem dX8_raise_16 : decode cX8_raise 16 = .ok (.getfield 9, 3) := by decide +kernel
theorem dX8_raise_19 : decode cX8_raise 19 = .ok (.iload_n 2, 1) := by decide +kernel
theorem dX8_raise_20 : decode cX8_raise 20 = .ok (.iconst (-1), 1) := by decide +kernel
theorem dX8_raise_21 : decode cX8_raise 21 = .ok (.iastore, 1) := by decide +kernel
theorem dX8_raise_22 : decode cX8_raise 22 = .ok (.aload_n 0, 1) := by decide +kernel
theorem dX8_raise_23 : decode cX8_raise 23 = .ok (.dup, 1) := by decide +kernel
theorem dX8_raise_24 : decode cX8_raise 24 = .ok (.getfield 82, 3) := by decide +kernel
theorem dX8_raise_27 : decode cX8_raise 27 = .ok (.iconst 1, 1) := by decide +kernel
theorem dX8_raise_28 : decode cX8_raise 28 = .ok (.iload_n 2, 1) := by decide +kernel
theorem dX8_raise_29 : decode cX8_raise 29 = .ok (.ishl, 1) := by decide +kernel
theorem dX8_raise_30 : decode cX8_raise 30 = .ok (.ior, 1) := by decide +kernel
theorem dX8_raise_31 : decode cX8_raise 31 = .ok (.putfield 82, 3) := by decide +kernel
theorem dX8_raise_34 : decode cX8_raise 34 = .ok (.iinc 2 1, 3) := by decide +kernel
theorem dX8_raise_37 : decode cX8_raise 37 = .ok (.goto (-35), 3) := by decide +kernel
theorem dX8_raise_40 : decode cX8_raise 40 = .ok (.return_, 1) := by decide +kernel
def X8_raise_b2 (k2 : Nat → Int32 → Int32 → Wd → Option (Wd)) (y0 : Nat) (y1 : Int32) (y2 : Int32) (w : Wd) : Option (Wd) :=
  if 4 ≤ y2 then
  (some w)
  else
  if ((y1 >>> (y2 &&& 31)) &&& 1) = 0 then
  (k2 y0 y1 (y2 + 1) w)
  else
  if inb y2 4 = true then
  (lt (wI w (y0 + 1) (Int32.toNatClampNeg y2) ((-1))) fun w1 =>
  lt (wI w1 y0 9 ((w1.1 y0 9) ||| (1 <<< (y2 &&& 31)))) fun w2 =>
  k2 y0 y1 (y2 + 1) w2)
  else none
set_option maxRecDepth 100000 in
set_option maxHeartbeats 4000000 in
theorem t_X8_raise_b2 {Z : Cz (Wd)} (hZ : OKZ Z SC cX8_raise RX8 3 none 1) (hE : EndV Z) (k2 : Nat → Int32 → Int32 → Wd → Option (Wd)) (hk2 : ∀ (y0 : Nat) (y1 : Int32) (y2 : Int32) (hy0 : IsS y0) (w : Wd), BW Z 3 2 [(0, .ref (ph (zY Z) y0)), (1, .int y1), (2, .int y2)] [] w (k2 y0 y1 y2 w)) (y0 : Nat) (y1 : Int32) (y2 : Int32) (hy0 : IsS y0) (w : Wd) : BW Z 3 2 [(0, .ref (ph (zY Z) y0)), (1, .int y1), (2, .int y2)] [] w (X8_raise_b2 k2 y0 y1 y2 w) :=
  bw_iload_n hZ 2 rfl dX8_raise_2 <|
  bw_iconst hZ 4 (by decide) dX8_raise_3 <|
  bw_icmp_ge hZ (tgt := 40) (by decide) dX8_raise_4 (fun _ =>
  bw_vret hZ hE dX8_raise_40) (fun _ =>
  bw_iload_n hZ 1 rfl dX8_raise_7 <|
  bw_iload_n hZ 2 rfl dX8_raise_8 <|
  bw_ishr hZ dX8_raise_9 <|
  bw_iconst hZ 1 (by decide) dX8_raise_10 <|
  bw_iand hZ dX8_raise_11 <|
  bw_if_eq hZ (tgt := 34) (by decide) dX8_raise_12 (fun _ =>
  bw_iinc hZ 1 2 rfl (by decide) (by decide) rfl dX8_raise_34 <|
  bw_goto hZ (tgt := 2) (by decide) dX8_raise_37 <|
  bw_sub [1, 2, 0] rfl (hk2 y0 y1 (y2 + 1) hy0 w)) (fun _ =>
  bw_aload_n hZ 0 rfl dX8_raise_15 <|
  bw_getR hZ fl_RX8_9 (obS hy0) (rfS0 hy0) dX8_raise_16 <|
  bw_iload_n hZ 2 rfl dX8_raise_19 <|
  bw_iconst hZ (-1) (by decide) dX8_raise_20 <|
  bw_iast hZ (arS1 hy0 _) dX8_raise_21 fun w1 =>
  bw_aload_n hZ 0 rfl dX8_raise_22 <|
  bw_dup hZ rfl dX8_raise_23 <|
  bw_getI hZ fl_RX8_82 (by decide) (obS hy0) dX8_raise_24 <|
  bw_iconst hZ 1 (by decide) dX8_raise_27 <|
  bw_iload_n hZ 2 rfl dX8_raise_28 <|
  bw_ishl hZ dX8_raise_29 <|
  bw_ior hZ dX8_raise_30 <|
  bw_putI hZ fl_RX8_82 rfl rfl (by decide) (obS hy0) dX8_raise_31 fun w2 =>
  bw_iinc hZ 1 2 rfl (by decide) (by decide) rfl dX8_raise_34 <|
  bw_goto hZ (tgt := 2) (by decide) dX8_raise_37 <|
  bw_sub [1, 2, 0] rfl (hk2 y0 y1 (y2 + 1) hy0 w2)))
def X8_raise_b2_L  : Nat → Int32 → Int32 → Wd → Option (Wd) :=
  lp fu (fun _ _ _ _ => none) (fun k2 => X8_raise_b2 k2)
theorem t_X8_raise_b2_L {Z : Cz (Wd)} (hZ : OKZ Z SC cX8_raise RX8 3 none 1) (hE : EndV Z)  : ∀ (y0 : Nat) (y1 : Int32) (y2 : Int32) (hy0 : IsS y0) (w : Wd), BW Z 3 2 [(0, .ref (ph (zY Z) y0)), (1, .int y1), (2, .int y2)] [] w (X8_raise_b2_L y0 y1 y2 w) :=
  lp_bw (fun k2 => ∀ (y0 : Nat) (y1 : Int32) (y2 : Int32) (hy0 : IsS y0) (w : Wd), BW Z 3 2 [(0, .ref (ph (zY Z) y0)), (1, .int y1), (2, .int y2)] [] w (k2 y0 y1 y2 w)) (fun _ _ _ _ _ => bw_none) (fun k2 hk2 y0 y1 y2 hy0 w => t_X8_raise_b2 hZ hE k2 hk2 y0 y1 y2 hy0 w) fu
def f_X8_raise (o0 : Nat) (x1 : Int32) (w : Wd) : Option (Wd) :=
  X8_raise_b2_L o0 x1 0 w
set_option maxRecDepth 100000 in
set_option maxHeartbeats 4000000 in
theorem t_X8_raise {Z : Cz (Wd)} (hZ : OKZ Z SC cX8_raise RX8 3 none 1) (hE : EndV Z) (o0 : Nat) (x1 : Int32) (ho0 : IsS o0) (w : Wd) : BW Z 3 0 [(0, .ref (ph (zY Z) o0)), (1, .int x1)] [] w (f_X8_raise o0 x1 w) :=
  bw_iconst hZ 0 (by decide) dX8_raise_0 <|
  bw_istore_n hZ rfl (by decide) rfl dX8_raise_1 <|
  bw_sub [1, 2, 0] rfl (t_X8_raise_b2_L hZ hE o0 x1 0 ho0 w)
theorem c_X8_raise (l : Launch) (Y : Ev) (hY : Y.1 = SC) (o0 : Nat) (x1 : Int32) (ho0 : IsS o0) (w : Wd) : CV l Y yX8_raise cX8_raise 3 1 [.ref (ph Y o0), .int x1] w (f_X8_raise o0 x1 w) := by
  refine CV_of (S := SC) (by decide) (Nat.le_of_ble_eq_true rfl) hY ?_
  intro Z hl hY2 hZ hE
  subst hY2
  exact t_X8_raise hZ hE o0 x1 ho0 w
-- WhichWill$Standing.undo
theorem dX8_undo_0 : decode cX8_undo 0 = .ok (.iconst 0, 1) := by decide +kernel
theorem dX8_undo_1 : decode cX8_undo 1 = .ok (.istore_n 3, 1) := by decide +kernel
theorem dX8_undo_2 : decode cX8_undo 2 = .ok (.iload_n 3, 1) := by decide +kernel
theorem dX8_undo_3 : decode cX8_undo 3 = .ok (.iconst 4, 1) := by decide +kernel
theorem dX8_undo_4 : decode cX8_undo 4 = .ok (.if_icmp .ge 43, 3) := by decide +kernel
theorem dX8_undo_7 : decode cX8_undo 7 = .ok (.iload_n 1, 1) := by decide +kernel
theorem dX8_undo_8 : decode cX8_undo 8 = .ok (.aload_n 0, 1) := by decide +kernel
theorem dX8_undo_9 : decode cX8_undo 9 = .ok (.getfield 82, 3) := by decide +kernel
theorem dX8_undo_12 : decode cX8_undo 12 = .ok (.iand, 1) := by decide +kernel
theorem dX8_undo_13 : decode cX8_undo 13 = .ok (.iconst 1, 1) := by decide +kernel
theorem dX8_undo_14 : decode cX8_undo 14 = .ok (.iload_n 3, 1) := by decide +kernel
theorem dX8_undo_15 : decode cX8_undo 15 = .ok (.ishl, 1) := by decide +kernel
theorem dX8_undo_16 : decode cX8_undo 16 = .ok (.iand, 1) := by decide +kernel
theorem dX8_undo_17 : decode cX8_undo 17 = .ok (.ifCond .eq 24, 3) := by decide +kernel
theorem dX8_undo_20 : decode cX8_undo 20 = .ok (.aload_n 0, 1) := by decide +kernel
theorem dX8_undo_21 : decode cX8_undo 21 = .ok (.getfield 9, 3) := by decide +kernel
theorem dX8_undo_24 : decode cX8_undo 24 = .ok (.iload_n 3, 1) := by decide +kernel
theorem dX8_undo_25 : decode cX8_undo 25 = .ok (.iload_n 2, 1) := by decide +kernel
theorem dX8_undo_26 : decode cX8_undo 26 = .ok (.iastore, 1) := by decide +kernel
theorem dX8_undo_27 : decode cX8_undo 27 = .ok (.aload_n 0, 1) := by decide +kernel
theorem dX8_undo_28 : decode cX8_undo 28 = .ok (.dup, 1) := by decide +kernel
theorem dX8_undo_29 : decode cX8_undo 29 = .ok (.getfield 82, 3) := by decide +kernel
theorem dX8_undo_32 : decode cX8_undo 32 = .ok (.iconst 1, 1) := by decide +kernel
theorem dX8_undo_33 : decode cX8_undo 33 = .ok (.iload_n 3, 1) := by decide +kernel
theorem dX8_undo_34 : decode cX8_undo 34 = .ok (.ishl, 1) := by decide +kernel
theorem dX8_undo_35 : decode cX8_undo 35 = .ok (.iconst (-1), 1) := by decide +kernel
theorem dX8_undo_36 : decode cX8_undo 36 = .ok (.ixor, 1) := by decide +kernel
theorem dX8_undo_37 : decode cX8_undo 37 = .ok (.iand, 1) := by decide +kernel
theorem dX8_undo_38 : decode cX8_undo 38 = .ok (.putfield 82, 3) := by decide +kernel
theorem dX8_undo_41 : decode cX8_undo 41 = .ok (.iinc 3 1, 3) := by decide +kernel
theorem dX8_undo_44 : decode cX8_undo 44 = .ok (.goto (-42), 3) := by decide +kernel
theorem dX8_undo_47 : decode cX8_undo 47 = .ok (.return_, 1) := by decide +kernel
def X8_undo_b2 (k2 : Nat → Int32 → Int32 → Int32 → Wd → Option (Wd)) (y0 : Nat) (y1 : Int32) (y2 : Int32) (y3 : Int32) (w : Wd) : Option (Wd) :=
  if 4 ≤ y3 then
  (some w)
  else
  if ((y1 &&& (w.1 y0 9)) &&& (1 <<< (y3 &&& 31))) = 0 then
  (k2 y0 y1 y2 (y3 + 1) w)
  else
  if inb y3 4 = true then
  (lt (wI w (y0 + 1) (Int32.toNatClampNeg y3) y2) fun w1 =>
  lt (wI w1 y0 9 ((w1.1 y0 9) &&& ((1 <<< (y3 &&& 31)) ^^^ ((-1))))) fun w2 =>
  k2 y0 y1 y2 (y3 + 1) w2)
  else none
set_option maxRecDepth 100000 in
set_option maxHeartbeats 4000000 in
theorem t_X8_undo_b2 {Z : Cz (Wd)} (hZ : OKZ Z SC cX8_undo RX8 4 none 1) (hE : EndV Z) (k2 : Nat → Int32 → Int32 → Int32 → Wd → Option (Wd)) (hk2 : ∀ (y0 : Nat) (y1 : Int32) (y2 : Int32) (y3 : Int32) (hy0 : IsS y0) (w : Wd), BW Z 4 2 [(0, .ref (ph (zY Z) y0)), (1, .int y1), (2, .int y2), (3, .int y3)] [] w (k2 y0 y1 y2 y3 w)) (y0 : Nat) (y1 : Int32) (y2 : Int32) (y3 : Int32) (hy0 : IsS y0) (w : Wd) : BW Z 4 2 [(0, .ref (ph (zY Z) y0)), (1, .int y1), (2, .int y2), (3, .int y3)] [] w (X8_undo_b2 k2 y0 y1 y2 y3 w) :=
  bw_iload_n hZ 3 rfl dX8_undo_2 <|
  bw_iconst hZ 4 (by decide) dX8_undo_3 <|
  bw_icmp_ge hZ (tgt := 47) (by decide) dX8_undo_4 (fun _ =>
  bw_vret hZ hE dX8_undo_47) (fun _ =>
  bw_iload_n hZ 1 rfl dX8_undo_7 <|
  bw_aload_n hZ 0 rfl dX8_undo_8 <|
  bw_getI hZ fl_RX8_82 (by decide) (obS hy0) dX8_undo_9 <|
  bw_iand hZ dX8_undo_12 <|
  bw_iconst hZ 1 (by decide) dX8_undo_13 <|
  bw_iload_n hZ 3 rfl dX8_undo_14 <|
  bw_ishl hZ dX8_undo_15 <|
  bw_iand hZ dX8_undo_16 <|
  bw_if_eq hZ (tgt := 41) (by decide) dX8_undo_17 (fun _ =>
  bw_iinc hZ 1 3 rfl (by decide) (by decide) rfl dX8_undo_41 <|
  bw_goto hZ (tgt := 2) (by decide) dX8_undo_44 <|
  bw_sub [1, 2, 3, 0] rfl (hk2 y0 y1 y2 (y3 + 1) hy0 w)) (fun _ =>
  bw_aload_n hZ 0 rfl dX8_undo_20 <|
  bw_getR hZ fl_RX8_9 (obS hy0) (rfS0 hy0) dX8_undo_21 <|
  bw_iload_n hZ 3 rfl dX8_undo_24 <|
  bw_iload_n hZ 2 rfl dX8_undo_25 <|
  bw_iast hZ (arS1 hy0 _) dX8_undo_26 fun w1 =>
  bw_aload_n hZ 0 rfl dX8_undo_27 <|
  bw_dup hZ rfl dX8_undo_28 <|
  bw_getI hZ fl_RX8_82 (by decide) (obS hy0) dX8_undo_29 <|
  bw_iconst hZ 1 (by decide) dX8_undo_32 <|
  bw_iload_n hZ 3 rfl dX8_undo_33 <|
  bw_ishl hZ dX8_undo_34 <|
  bw_iconst hZ (-1) (by decide) dX8_undo_35 <|
  bw_ixor hZ dX8_undo_36 <|
  bw_iand hZ dX8_undo_37 <|
  bw_putI hZ fl_RX8_82 rfl rfl (by decide) (obS hy0) dX8_undo_38 fun w2 =>
  bw_iinc hZ 1 3 rfl (by decide) (by decide) rfl dX8_undo_41 <|
  bw_goto hZ (tgt := 2) (by decide) dX8_undo_44 <|
  bw_sub [1, 2, 3, 0] rfl (hk2 y0 y1 y2 (y3 + 1) hy0 w2)))
def X8_undo_b2_L  : Nat → Int32 → Int32 → Int32 → Wd → Option (Wd) :=
  lp fu (fun _ _ _ _ _ => none) (fun k2 => X8_undo_b2 k2)
theorem t_X8_undo_b2_L {Z : Cz (Wd)} (hZ : OKZ Z SC cX8_undo RX8 4 none 1) (hE : EndV Z)  : ∀ (y0 : Nat) (y1 : Int32) (y2 : Int32) (y3 : Int32) (hy0 : IsS y0) (w : Wd), BW Z 4 2 [(0, .ref (ph (zY Z) y0)), (1, .int y1), (2, .int y2), (3, .int y3)] [] w (X8_undo_b2_L y0 y1 y2 y3 w) :=
  lp_bw (fun k2 => ∀ (y0 : Nat) (y1 : Int32) (y2 : Int32) (y3 : Int32) (hy0 : IsS y0) (w : Wd), BW Z 4 2 [(0, .ref (ph (zY Z) y0)), (1, .int y1), (2, .int y2), (3, .int y3)] [] w (k2 y0 y1 y2 y3 w)) (fun _ _ _ _ _ _ => bw_none) (fun k2 hk2 y0 y1 y2 y3 hy0 w => t_X8_undo_b2 hZ hE k2 hk2 y0 y1 y2 y3 hy0 w) fu
def f_X8_undo (o0 : Nat) (x1 : Int32) (x2 : Int32) (w : Wd) : Option (Wd) :=
  X8_undo_b2_L o0 x1 x2 0 w
set_option maxRecDepth 100000 in
set_option maxHeartbeats 4000000 in
theorem t_X8_undo {Z : Cz (Wd)} (hZ : OKZ Z SC cX8_undo RX8 4 none 1) (hE : EndV Z) (o0 : Nat) (x1 : Int32) (x2 : Int32) (ho0 : IsS o0) (w : Wd) : BW Z 4 0 [(0, .ref (ph (zY Z) o0)), (1, .int x1), (2, .int x2)] [] w (f_X8_undo o0 x1 x2 w) :=
  bw_iconst hZ 0 (by decide) dX8_undo_0 <|
  bw_istore_n hZ rfl (by decide) rfl dX8_undo_1 <|
  bw_sub [1, 2, 3, 0] rfl (t_X8_undo_b2_L hZ hE o0 x1 x2 0 ho0 w)
theorem c_X8_undo (l : Launch) (Y : Ev) (hY : Y.1 = SC) (o0 : Nat) (x1 : Int32) (x2 : Int32) (ho0 : IsS o0) (w : Wd) : CV l Y yX8_undo cX8_undo 4 1 [.ref (ph Y o0), .int x1, .int x2] w (f_X8_undo o0 x1 x2 w) := by
  refine CV_of (S := SC) (by decide) (Nat.le_of_ble_eq_true rfl) hY ?_
  intro Z hl hY2 hZ hE
  subst hY2
  exact t_X8_undo hZ hE o0 x1 x2 ho0 w
-- WhichWill$Standing.putPaper
theorem dX8_putPaper_0 : decode cX8_putPaper 0 = .ok (.iconst 1, 1) := by decide +kernel
theorem dX8_putPaper_1 : decode cX8_putPaper 1 = .ok (.iload_n 1, 1) := by decide +kernel
theorem dX8_putPaper_2 : decode cX8_putPaper 2 = .ok (.ishl, 1) := by decide +kernel
theorem dX8_putPaper_3 : decode cX8_putPaper 3 = .ok (.istore_n 2, 1) := by decide +kernel
theorem dX8_putPaper_4 : decode cX8_putPaper 4 = .ok (.aload_n 0, 1) := by decide +kernel
theorem dX8_putPaper_5 : decode cX8_putPaper 5 = .ok (.dup, 1) := by decide +kernel
theorem dX8_putPaper_6 : decode cX8_putPaper 6 = .ok (.getfield 79, 3) := by decide +kernel
theorem dX8_putPaper_9 : decode cX8_putPaper 9 = .ok (.iload_n 2, 1) := by decide +kernel
theorem dX8_putPaper_10 : decode cX8_putPaper 10 = .ok (.ior, 1) := by decide +kernel
theorem dX8_putPaper_11 : decode cX8_putPaper 11 = .ok (.putfield 79, 3) := by decide +kernel
theorem dX8_putPaper_14 : decode cX8_putPaper 14 = .ok (.aload_n 0, 1) := by decide +kernel
theorem dX8_putPaper_15 : decode cX8_putPaper 15 = .ok (.getfield 57, 3) := by decide +kernel
theorem dX8_putPaper_18 : decode cX8_putPaper 18 = .ok (.iload_n 2, 1) := by decide +kernel
theorem dX8_putPaper_19 : decode cX8_putPaper 19 = .ok (.iand, 1) := by decide +kernel
theorem dX8_putPaper_20 : decode cX8_putPaper 20 = .ok (.ifCond .ne 4, 3) := by decide +kernel
theorem dX8_putPaper_23 : decode cX8_putPaper 23 = .ok (.return_, 1) := by decide +kernel
theorem dX8_putPaper_24 : decode cX8_putPaper 24 = .ok (.aload_n 0, 1) := by decide +kernel
theorem dX8_putPaper_25 : decode cX8_putPaper 25 = .ok (.dup, 1) := by decide +kernel
theorem dX8_putPaper_26 : decode cX8_putPaper 26 = .ok (.getfield 82, 3) := by decide +kernel
theorem dX8_putPaper_29 : decode cX8_putPaper 29 = .ok (.iload_n 2, 1) := by decide +kernel
theorem dX8_putPaper_30 : decode cX8_putPaper 30 = .ok (.ior, 1) := by decide +kernel
theorem dX8_putPaper_31 : decode cX8_putPaper 31 = .ok (.putfield 82, 3) := by decide +kernel
theorem dX8_putPaper_34 : decode cX8_putPaper 34 = .ok (.aload_n 0, 1) := by decide +kernel
theorem dX8_putPaper_35 : decode cX8_putPaper 35 = .ok (.getfield 18, 3) := by decide +kernel
theorem dX8_putPaper_38 : decode cX8_putPaper 38 = .ok (.getfield 66, 3) := by decide +kernel
theorem dX8_putPaper_41 : decode cX8_putPaper 41 = .ok (.iload_n 1, 1) := by decide +kernel
theorem dX8_putPaper_42 : decode cX8_putPaper 42 = .ok (.aaload, 1) := by decide +kernel
theorem dX8_putPaper_43 : decode cX8_putPaper 43 = .ok (.astore_n 3, 1) := by decide +kernel
theorem dX8_putPaper_44 : decode cX8_putPaper 44 = .ok (.aload_n 0, 1) := by decide +kernel
theorem dX8_putPaper_45 : decode cX8_putPaper 45 = .ok (.aload_n 0, 1) := by decide +kernel
theorem dX8_putPaper_46 : decode cX8_putPaper 46 = .ok (.getfield 60, 3) := by decide +kernel
theorem dX8_putPaper_49 : decode cX8_putPaper 49 = .ok (.iload_n 2, 1) := by decide +kernel
theorem dX8_putPaper_50 : decode cX8_putPaper 50 = .ok (.iand, 1) := by decide +kernel
theorem dX8_putPaper_51 : decode cX8_putPaper 51 = .ok (.ifCond .eq 9, 3) := by decide +kernel
theorem dX8_putPaper_54 : decode cX8_putPaper 54 = .ok (.iload_n 2, 1) := by decide +kernel
theorem dX8_putPaper_55 : decode cX8_putPaper 55 = .ok (.iconst (-1), 1) := by decide +kernel
theorem dX8_putPaper_56 : decode cX8_putPaper 56 = .ok (.ixor, 1) := by decide +kernel
theorem dX8_putPaper_57 : decode cX8_putPaper 57 = .ok (.goto 7, 3) := by decide +kernel
theorem dX8_putPaper_60 : decode cX8_putPaper 60 = .ok (.aload_n 3, 1) := by decide +kernel
theorem dX8_putPaper_61 : decode cX8_putPaper 61 = .ok (.getfield 122, 3) := by decide +kernel
theorem dX8_putPaper_64 : decode cX8_putPaper 64 = .ok (.iload_n 1, 1) := by decide +kernel
theorem dX8_putPaper_65 : decode cX8_putPaper 65 = .ok (.invokevirtual 109, 3) := by decide +kernel
theorem dX8_putPaper_68 : decode cX8_putPaper 68 = .ok (.aload_n 0, 1) := by decide +kernel
theorem dX8_putPaper_69 : decode cX8_putPaper 69 = .ok (.aload_n 3, 1) := by decide +kernel
theorem dX8_putPaper_70 : decode cX8_putPaper 70 = .ok (.getfield 125, 3) := by decide +kernel
theorem dX8_putPaper_73 : decode cX8_putPaper 73 = .ok (.aload_n 0, 1) := by decide +kernel
theorem dX8_putPaper_74 : decode cX8_putPaper 74 = .ok (.getfield 57, 3) := by decide +kernel
theorem dX8_putPaper_77 : decode cX8_putPaper 77 = .ok (.iand, 1) := by decide +kernel
theorem dX8_putPaper_78 : decode cX8_putPaper 78 = .ok (.aload_n 0, 1) := by decide +kernel
theorem dX8_putPaper_79 : decode cX8_putPaper 79 = .ok (.getfield 79, 3) := by decide +kernel
theorem dX8_putPaper_82 : decode cX8_putPaper 82 = .ok (.iand, 1) := by decide +kernel
theorem dX8_putPaper_83 : decode cX8_putPaper 83 = .ok (.invokevirtual 128, 3) := by decide +kernel
theorem dX8_putPaper_86 : decode cX8_putPaper 86 = .ok (.return_, 1) := by decide +kernel
def X8_putPaper_b64 (y0 : Nat) (y1 : Int32) (y3 : Nat) (t0 : Int32) (t1 : Nat) (w : Wd) : Option (Wd) :=
  cv (f_X8_undo t1 t0 y1 w) fun w6 =>
  cv (f_X8_raise y0 (((w6.1 y3 6) &&& (w6.1 y0 6)) &&& (w6.1 y0 8)) w6) fun w7 =>
  some w7
set_option maxRecDepth 100000 in
set_option maxHeartbeats 4000000 in
theorem t_X8_putPaper_b64 {Z : Cz (Wd)} (hZ : OKZ Z SC cX8_putPaper RX8 4 none 2) (hE : EndV Z)  (y0 : Nat) (y1 : Int32) (y3 : Nat) (t0 : Int32) (t1 : Nat) (hy0 : IsS y0) (hy3 : IsP y3) (ht1 : IsS t1) (w : Wd) : BW Z 4 64 [(0, .ref (ph (zY Z) y0)), (1, .int y1), (3, .ref (ph (zY Z) y3))] [.int t0, .ref (ph (zY Z) t1)] w (X8_putPaper_b64 y0 y1 y3 t0 t1 w) :=
  bw_iload_n hZ 1 rfl dX8_putPaper_64 <|
  bw_callVV (As := [.int t0, .int y1]) hZ ml_RX8_109 rc_8 (obS ht1) (by decide) (c_X8_undo (zl Z) (zY Z) (hZ_S hZ) t1 t0 y1 ht1 w) rfl rfl (Nat.le_of_ble_eq_true rfl) dX8_putPaper_65 fun w6 =>
  bw_aload_n hZ 0 rfl dX8_putPaper_68 <|
  bw_aload_n hZ 2 rfl dX8_putPaper_69 <|
  bw_getI hZ fl_RX8_125 (by decide) (obP hy3) dX8_putPaper_70 <|
  bw_aload_n hZ 0 rfl dX8_putPaper_73 <|
  bw_getI hZ fl_RX8_57 (by decide) (obS hy0) dX8_putPaper_74 <|
  bw_iand hZ dX8_putPaper_77 <|
  bw_aload_n hZ 0 rfl dX8_putPaper_78 <|
  bw_getI hZ fl_RX8_79 (by decide) (obS hy0) dX8_putPaper_79 <|
  bw_iand hZ dX8_putPaper_82 <|
  bw_callVV (As := [.int (((w6.1 y3 6) &&& (w6.1 y0 6)) &&& (w6.1 y0 8))]) hZ ml_RX8_128 rc_8 (obS hy0) (by decide) (c_X8_raise (zl Z) (zY Z) (hZ_S hZ) y0 (((w6.1 y3 6) &&& (w6.1 y0 6)) &&& (w6.1 y0 8)) hy0 w6) rfl rfl (Nat.le_of_ble_eq_true rfl) dX8_putPaper_83 fun w7 =>
  bw_vret hZ hE dX8_putPaper_86
def f_X8_putPaper (o0 : Nat) (x1 : Int32) (w : Wd) : Option (Wd) :=
  lt (1 <<< (x1 &&& 31)) fun v1 =>
  lt (wI w o0 8 ((w.1 o0 8) ||| v1)) fun w2 =>
  if ((w2.1 o0 6) &&& v1) = 0 then
  (some w2)
  else
  lt (wI w2 o0 9 ((w2.1 o0 9) ||| v1)) fun w3 =>
  if inb x1 4 = true then
  (if ((w3.1 o0 7) &&& v1) = 0 then
  (X8_putPaper_b64 o0 x1 (57 + 6 * Int32.toNatClampNeg x1) (w3.1 (57 + 6 * Int32.toNatClampNeg x1) 5) o0 w3)
  else
  X8_putPaper_b64 o0 x1 (57 + 6 * Int32.toNatClampNeg x1) (v1 ^^^ ((-1))) o0 w3)
  else none
set_option maxRecDepth 100000 in
set_option maxHeartbeats 4000000 in
theorem t_X8_putPaper {Z : Cz (Wd)} (hZ : OKZ Z SC cX8_putPaper RX8 4 none 2) (hE : EndV Z) (o0 : Nat) (x1 : Int32) (ho0 : IsS o0) (w : Wd) : BW Z 4 0 [(0, .ref (ph (zY Z) o0)), (1, .int x1)] [] w (f_X8_putPaper o0 x1 w) :=
  bw_iconst hZ 1 (by decide) dX8_putPaper_0 <|
  bw_iload_n hZ 1 rfl dX8_putPaper_1 <|
  bw_ishl hZ dX8_putPaper_2 <|
  bw_nm fun v1 =>
  bw_istore_n hZ rfl (by decide) rfl dX8_putPaper_3 <|
  bw_aload_n hZ 1 rfl dX8_putPaper_4 <|
  bw_dup hZ rfl dX8_putPaper_5 <|
  bw_getI hZ fl_RX8_79 (by decide) (obS ho0) dX8_putPaper_6 <|
  bw_iload_n hZ 0 rfl dX8_putPaper_9 <|
  bw_ior hZ dX8_putPaper_10 <|
  bw_putI hZ fl_RX8_79 rfl rfl (by decide) (obS ho0) dX8_putPaper_11 fun w2 =>
  bw_aload_n hZ 1 rfl dX8_putPaper_14 <|
  bw_getI hZ fl_RX8_57 (by decide) (obS ho0) dX8_putPaper_15 <|
  bw_iload_n hZ 0 rfl dX8_putPaper_18 <|
  bw_iand hZ dX8_putPaper_19 <|
  bw_if_ne hZ (tgt := 24) (by decide) dX8_putPaper_20 (fun _ =>
  bw_aload_n hZ 1 rfl dX8_putPaper_24 <|
  bw_dup hZ rfl dX8_putPaper_25 <|
  bw_getI hZ fl_RX8_82 (by decide) (obS ho0) dX8_putPaper_26 <|
  bw_iload_n hZ 0 rfl dX8_putPaper_29 <|
  bw_ior hZ dX8_putPaper_30 <|
  bw_putI hZ fl_RX8_82 rfl rfl (by decide) (obS ho0) dX8_putPaper_31 fun w3 =>
  bw_aload_n hZ 1 rfl dX8_putPaper_34 <|
  bw_getR hZ fl_RX8_18 (obS ho0) (rfS2 ho0) dX8_putPaper_35 <|
  bw_getR hZ fl_RX8_66 obC_3 rfl dX8_putPaper_38 <|
  bw_iload_n hZ 2 rfl dX8_putPaper_41 <|
  bw_aald (57 + 6 * Int32.toNatClampNeg x1) hZ (arC_4 _) (Or.inl ⟨rfl, rfl⟩) rfl dX8_putPaper_42 fun hi4 =>
  bw_astore_n hZ rfl (by decide) rfl dX8_putPaper_43 <|
  bw_aload_n hZ 2 rfl dX8_putPaper_44 <|
  bw_aload_n hZ 2 rfl dX8_putPaper_45 <|
  bw_getI hZ fl_RX8_60 (by decide) (obS ho0) dX8_putPaper_46 <|
  bw_iload_n hZ 1 rfl dX8_putPaper_49 <|
  bw_iand hZ dX8_putPaper_50 <|
  bw_if_eq hZ (tgt := 60) (by decide) dX8_putPaper_51 (fun _ =>
  bw_aload_n hZ 0 rfl dX8_putPaper_60 <|
  bw_getI hZ fl_RX8_122 (by decide) (obP (isP_of hi4)) dX8_putPaper_61 <|
  bw_sub [2, 3, 0] rfl (t_X8_putPaper_b64 hZ hE o0 x1 (57 + 6 * Int32.toNatClampNeg x1) (w3.1 (57 + 6 * Int32.toNatClampNeg x1) 5) o0 ho0 (isP_of hi4) ho0 w3)) (fun _ =>
  bw_iload_n hZ 1 rfl dX8_putPaper_54 <|
  bw_iconst hZ (-1) (by decide) dX8_putPaper_55 <|
  bw_ixor hZ dX8_putPaper_56 <|
  bw_goto hZ (tgt := 64) (by decide) dX8_putPaper_57 <|
  bw_sub [2, 3, 0] rfl (t_X8_putPaper_b64 hZ hE o0 x1 (57 + 6 * Int32.toNatClampNeg x1) (v1 ^^^ ((-1))) o0 ho0 (isP_of hi4) ho0 w3))) (fun _ =>
  bw_vret hZ hE dX8_putPaper_23)
theorem c_X8_putPaper (l : Launch) (Y : Ev) (hY : Y.1 = SC) (o0 : Nat) (x1 : Int32) (ho0 : IsS o0) (w : Wd) : CV l Y yX8_putPaper cX8_putPaper 4 2 [.ref (ph Y o0), .int x1] w (f_X8_putPaper o0 x1 w) := by
  refine CV_of (S := SC) (by decide) (Nat.le_of_ble_eq_true rfl) hY ?_
  intro Z hl hY2 hZ hE
  subst hY2
  exact t_X8_putPaper hZ hE o0 x1 ho0 w
-- WhichWill$Standing.takeAway
theorem dX8_takeAway_0 : decode cX8_takeAway 0 = .ok (.aload_n 0, 1) := by decide +kernel
theorem dX8_takeAway_1 : decode cX8_takeAway 1 = .ok (.getfield 82, 3) := by decide +kernel
theorem dX8_takeAway_4 : decode cX8_takeAway 4 = .ok (.iload_n 1, 1) := by decide +kernel
theorem dX8_takeAway_5 : decode cX8_takeAway 5 = .ok (.ishr, 1) := by decide +kernel
theorem dX8_takeAway_6 : decode cX8_takeAway 6 = .ok (.iconst 1, 1) := by decide +kernel
theorem dX8_takeAway_7 : decode cX8_takeAway 7 = .ok (.iand, 1) := by decide +kernel
theorem dX8_takeAway_8 : decode cX8_takeAway 8 = .ok (.ifCond .ne 4, 3) := by decide +kernel
theorem dX8_takeAway_11 : decode cX8_takeAway 11 = .ok (.return_, 1) := by decide +kernel
theorem dX8_takeAway_12 : decode cX8_takeAway 12 = .ok (.aload_n 0, 1) := by decide +kernel
theorem dX8_takeAway_13 : decode cX8_takeAway 13 = .ok (.iconst 1, 1) := by decide +kernel
theorem dX8_takeAway_14 : decode cX8_takeAway 14 = .ok (.iload_n 1, 1) := by decide +kernel
theorem dX8_takeAway_15 : decode cX8_takeAway 15 = .ok (.ishl, 1) := by decide +kernel
theorem dX8_takeAway_16 : decode cX8_takeAway 16 = .ok (.iload_n 2, 1) := by decide +kernel
theorem dX8_takeAway_17 : decode cX8_takeAway 17 = .ok (.invokevirtual 109, 3) := by decide +kernel
theorem dX8_takeAway_20 : decode cX8_takeAway 20 = .ok (.aload_n 0, 1) := by decide +kernel
theorem dX8_takeAway_21 : decode cX8_takeAway 21 = .ok (.getfield 34, 3) := by decide +kernel
theorem dX8_takeAway_24 : decode cX8_takeAway 24 = .ok (.ifCond .ne 4, 3) := by decide +kernel
theorem dX8_takeAway_27 : decode cX8_takeAway 27 = .ok (.return_, 1) := by decide +kernel
theorem dX8_takeAway_28 : decode cX8_takeAway 28 = .ok (.iconst 0, 1) := by decide +kernel
theorem dX8_takeAway_29 : decode cX8_takeAway 29 = .ok (.istore_n 3, 1) := by decide +kernel
theorem dX8_takeAway_30 : decode cX8_takeAway 30 = .ok (.iconst 0, 1) := by decide +kernel
theorem dX8_takeAway_31 : decode cX8_takeAway 31 = .ok (.istore 4, 2) := by decide +kernel
theorem dX8_takeAway_33 : decode cX8_takeAway 33 = .ok (.iload 4, 2) := by decide +kernel
theorem dX8_takeAway_35 : decode cX8_takeAway 35 = .ok (.iconst 4, 1) := by decide +kernel
theorem dX8_takeAway_36 : decode cX8_takeAway 36 = .ok (.if_icmp .ge 31, 3) := by decide +kernel
theorem dX8_takeAway_39 : decode cX8_takeAway 39 = .ok (.iload_n 3, 1) := by decide +kernel
theorem dX8_takeAway_40 : decode cX8_takeAway 40 = .ok (.aload_n 0, 1) := by decide +kernel
theorem dX8_takeAway_41 : decode cX8_takeAway 41 = .ok (.getfield 9, 3) := by decide +kernel
theorem dX8_takeAway_44 : decode cX8_takeAway 44 = .ok (.iload 4, 2) := by decide +kernel
theorem dX8_takeAway_46 : decode cX8_takeAway 46 = .ok (.iaload, 1) := by decide +kernel
theorem dX8_takeAway_47 : decode cX8_takeAway 47 = .ok (.iload_n 1, 1) := by decide +kernel
theorem dX8_takeAway_48 : decode cX8_takeAway 48 = .ok (.if_icmp .ne 10, 3) := by decide +kernel
theorem dX8_takeAway_51 : decode cX8_takeAway 51 = .ok (.iconst 1, 1) := by decide +kernel
theorem dX8_takeAway_52 : decode cX8_takeAway 52 = .ok (.iload 4, 2) := by decide +kernel
theorem dX8_takeAway_54 : decode cX8_takeAway 54 = .ok (.ishl, 1) := by decide +kernel
theorem dX8_takeAway_55 : decode cX8_takeAway 55 = .ok (.goto 4, 3) := by decide +kernel
theorem dX8_takeAway_58 : decode cX8_takeAway 58 = .ok (.iconst 0, 1) := by decide +kernel
theorem dX8_takeAway_59 : decode cX8_takeAway 59 = .ok (.ior, 1) := by decide +kernel
theorem dX8_takeAway_60 : decode cX8_takeAway 60 = .ok (.istore_n 3, 1) := by decide +kernel
theorem dX8_takeAway_61 : decode cX8_takeAway 61 = .ok (.iinc 4 1, 3) := by decide +kernel
theorem dX8_takeAway_64 : decode cX8_takeAway 64 = .ok (.goto (-31), 3) := by decide +kernel
theorem dX8_takeAway_67 : decode cX8_takeAway 67 = .ok (.aload_n 0, 1) := by decide +kernel
theorem dX8_takeAway_68 : decode cX8_takeAway 68 = .ok (.iload_n 3, 1) := by decide +kernel
theorem dX8_takeAway_69 : decode cX8_takeAway 69 = .ok (.invokevirtual 128, 3) := by decide +kernel
theorem dX8_takeAway_72 : decode cX8_takeAway 72 = .ok (.return_, 1) := by decide +kernel
def X8_takeAway_b33 (k33 : Nat → Int32 → Int32 → Int32 → Wd → Option (Wd)) (y0 : Nat) (y1 : Int32) (y3 : Int32) (y4 : Int32) (w : Wd) : Option (Wd) :=
  if 4 ≤ y4 then
  (cv (f_X8_raise y0 y3 w) fun w2 =>
  some w2)
  else
  if inb y4 4 = true then
  (if (w.1 (y0 + 1) (Int32.toNatClampNeg y4)) = y1 then
  (lt (y3 ||| (1 <<< (y4 &&& 31))) fun v4 =>
  k33 y0 y1 v4 (y4 + 1) w)
  else
  lt (y3 ||| 0) fun v3 =>
  k33 y0 y1 v3 (y4 + 1) w)
  else none
set_option maxRecDepth 100000 in
set_option maxHeartbeats 4000000 in
theorem t_X8_takeAway_b33 {Z : Cz (Wd)} (hZ : OKZ Z SC cX8_takeAway RX8 5 none 2) (hE : EndV Z) (k33 : Nat → Int32 → Int32 → Int32 → Wd → Option (Wd)) (hk33 : ∀ (y0 : Nat) (y1 : Int32) (y3 : Int32) (y4 : Int32) (hy0 : IsS y0) (w : Wd), BW Z 5 33 [(0, .ref (ph (zY Z) y0)), (1, .int y1), (3, .int y3), (4, .int y4)] [] w (k33 y0 y1 y3 y4 w)) (y0 : Nat) (y1 : Int32) (y3 : Int32) (y4 : Int32) (hy0 : IsS y0) (w : Wd) : BW Z 5 33 [(0, .ref (ph (zY Z) y0)), (1, .int y1), (3, .int y3), (4, .int y4)] [] w (X8_takeAway_b33 k33 y0 y1 y3 y4 w) :=
  bw_iload hZ 3 rfl dX8_takeAway_33 <|
  bw_iconst hZ 4 (by decide) dX8_takeAway_35 <|
  bw_icmp_ge hZ (tgt := 67) (by decide) dX8_takeAway_36 (fun _ =>
  bw_aload_n hZ 0 rfl dX8_takeAway_67 <|
  bw_iload_n hZ 2 rfl dX8_takeAway_68 <|
  bw_callVV (As := [.int y3]) hZ ml_RX8_128 rc_8 (obS hy0) (by decide) (c_X8_raise (zl Z) (zY Z) (hZ_S hZ) y0 y3 hy0 w) rfl rfl (Nat.le_of_ble_eq_true rfl) dX8_takeAway_69 fun w2 =>
  bw_vret hZ hE dX8_takeAway_72) (fun _ =>
  bw_iload_n hZ 2 rfl dX8_takeAway_39 <|
  bw_aload_n hZ 0 rfl dX8_takeAway_40 <|
  bw_getR hZ fl_RX8_9 (obS hy0) (rfS0 hy0) dX8_takeAway_41 <|
  bw_iload hZ 3 rfl dX8_takeAway_44 <|
  bw_iald hZ (arS1 hy0 _) dX8_takeAway_46 <|
  bw_iload_n hZ 1 rfl dX8_takeAway_47 <|
  bw_icmp_ne hZ (tgt := 58) (by decide) dX8_takeAway_48 (fun _ =>
  bw_iconst hZ 0 (by decide) dX8_takeAway_58 <|
  bw_ior hZ dX8_takeAway_59 <|
  bw_nm fun v3 =>
  bw_istore_n hZ rfl (by decide) rfl dX8_takeAway_60 <|
  bw_iinc hZ 1 3 rfl (by decide) (by decide) rfl dX8_takeAway_61 <|
  bw_goto hZ (tgt := 33) (by decide) dX8_takeAway_64 <|
  bw_sub [2, 3, 1, 0] rfl (hk33 y0 y1 v3 (y4 + 1) hy0 w)) (fun _ =>
  bw_iconst hZ 1 (by decide) dX8_takeAway_51 <|
  bw_iload hZ 3 rfl dX8_takeAway_52 <|
  bw_ishl hZ dX8_takeAway_54 <|
  bw_goto hZ (tgt := 59) (by decide) dX8_takeAway_55 <|
  bw_ior hZ dX8_takeAway_59 <|
  bw_nm fun v4 =>
  bw_istore_n hZ rfl (by decide) rfl dX8_takeAway_60 <|
  bw_iinc hZ 1 3 rfl (by decide) (by decide) rfl dX8_takeAway_61 <|
  bw_goto hZ (tgt := 33) (by decide) dX8_takeAway_64 <|
  bw_sub [2, 3, 1, 0] rfl (hk33 y0 y1 v4 (y4 + 1) hy0 w)))
def X8_takeAway_b33_L  : Nat → Int32 → Int32 → Int32 → Wd → Option (Wd) :=
  lp fu (fun _ _ _ _ _ => none) (fun k33 => X8_takeAway_b33 k33)
theorem t_X8_takeAway_b33_L {Z : Cz (Wd)} (hZ : OKZ Z SC cX8_takeAway RX8 5 none 2) (hE : EndV Z)  : ∀ (y0 : Nat) (y1 : Int32) (y3 : Int32) (y4 : Int32) (hy0 : IsS y0) (w : Wd), BW Z 5 33 [(0, .ref (ph (zY Z) y0)), (1, .int y1), (3, .int y3), (4, .int y4)] [] w (X8_takeAway_b33_L y0 y1 y3 y4 w) :=
  lp_bw (fun k33 => ∀ (y0 : Nat) (y1 : Int32) (y3 : Int32) (y4 : Int32) (hy0 : IsS y0) (w : Wd), BW Z 5 33 [(0, .ref (ph (zY Z) y0)), (1, .int y1), (3, .int y3), (4, .int y4)] [] w (k33 y0 y1 y3 y4 w)) (fun _ _ _ _ _ _ => bw_none) (fun k33 hk33 y0 y1 y3 y4 hy0 w => t_X8_takeAway_b33 hZ hE k33 hk33 y0 y1 y3 y4 hy0 w) fu
def f_X8_takeAway (o0 : Nat) (x1 : Int32) (x2 : Int32) (w : Wd) : Option (Wd) :=
  if (((w.1 o0 9) >>> (x1 &&& 31)) &&& 1) = 0 then
  (some w)
  else
  cv (f_X8_undo o0 (1 <<< (x1 &&& 31)) x2 w) fun w1 =>
  if (w1.1 o0 4) = 0 then
  (some w1)
  else
  X8_takeAway_b33_L o0 x1 0 0 w1
set_option maxRecDepth 100000 in
set_option maxHeartbeats 4000000 in
theorem t_X8_takeAway {Z : Cz (Wd)} (hZ : OKZ Z SC cX8_takeAway RX8 5 none 2) (hE : EndV Z) (o0 : Nat) (x1 : Int32) (x2 : Int32) (ho0 : IsS o0) (w : Wd) : BW Z 5 0 [(0, .ref (ph (zY Z) o0)), (1, .int x1), (2, .int x2)] [] w (f_X8_takeAway o0 x1 x2 w) :=
  bw_aload_n hZ 0 rfl dX8_takeAway_0 <|
  bw_getI hZ fl_RX8_82 (by decide) (obS ho0) dX8_takeAway_1 <|
  bw_iload_n hZ 1 rfl dX8_takeAway_4 <|
  bw_ishr hZ dX8_takeAway_5 <|
  bw_iconst hZ 1 (by decide) dX8_takeAway_6 <|
  bw_iand hZ dX8_takeAway_7 <|
  bw_if_ne hZ (tgt := 12) (by decide) dX8_takeAway_8 (fun _ =>
  bw_aload_n hZ 0 rfl dX8_takeAway_12 <|
  bw_iconst hZ 1 (by decide) dX8_takeAway_13 <|
  bw_iload_n hZ 1 rfl dX8_takeAway_14 <|
  bw_ishl hZ dX8_takeAway_15 <|
  bw_iload_n hZ 2 rfl dX8_takeAway_16 <|
  bw_callVV (As := [.int (1 <<< (x1 &&& 31)), .int x2]) hZ ml_RX8_109 rc_8 (obS ho0) (by decide) (c_X8_undo (zl Z) (zY Z) (hZ_S hZ) o0 (1 <<< (x1 &&& 31)) x2 ho0 w) rfl rfl (Nat.le_of_ble_eq_true rfl) dX8_takeAway_17 fun w1 =>
  bw_aload_n hZ 0 rfl dX8_takeAway_20 <|
  bw_getI hZ fl_RX8_34 (by decide) (obS ho0) dX8_takeAway_21 <|
  bw_if_ne hZ (tgt := 28) (by decide) dX8_takeAway_24 (fun _ =>
  bw_iconst hZ 0 (by decide) dX8_takeAway_28 <|
  bw_istore_n hZ rfl (by decide) rfl dX8_takeAway_29 <|
  bw_iconst hZ 0 (by decide) dX8_takeAway_30 <|
  bw_istore hZ (by decide) rfl dX8_takeAway_31 <|
  bw_sub [2, 3, 1, 0] rfl (t_X8_takeAway_b33_L hZ hE o0 x1 0 0 ho0 w1)) (fun _ =>
  bw_vret hZ hE dX8_takeAway_27)) (fun _ =>
  bw_vret hZ hE dX8_takeAway_11)
theorem c_X8_takeAway (l : Launch) (Y : Ev) (hY : Y.1 = SC) (o0 : Nat) (x1 : Int32) (x2 : Int32) (ho0 : IsS o0) (w : Wd) : CV l Y yX8_takeAway cX8_takeAway 5 2 [.ref (ph Y o0), .int x1, .int x2] w (f_X8_takeAway o0 x1 x2 w) := by
  refine CV_of (S := SC) (by decide) (Nat.le_of_ble_eq_true rfl) hY ?_
  intro Z hl hY2 hZ hE
  subst hY2
  exact t_X8_takeAway hZ hE o0 x1 x2 ho0 w
-- WhichWill$Standing.run
theorem dX8_run_0 : decode cX8_run 0 = .ok (.aload_n 0, 1) := by decide +kernel
theorem dX8_run_1 : decode cX8_run 1 = .ok (.iconst 0, 1) := by decide +kernel
theorem dX8_run_2 : decode cX8_run 2 = .ok (.putfield 79, 3) := by decide +kernel
theorem dX8_run_5 : decode cX8_run 5 = .ok (.aload_n 0, 1) := by decide +kernel
theorem dX8_run_6 : decode cX8_run 6 = .ok (.iconst 0, 1) := by decide +kernel
theorem dX8_run_7 : decode cX8_run 7 = .ok (.putfield 82, 3) := by decide +kernel
theorem dX8_run_10 : decode cX8_run 10 = .ok (.aload_n 0, 1) := by decide +kernel
theorem dX8_run_11 : decode cX8_run 11 = .ok (.iconst 0, 1) := by decide +kernel
theorem dX8_run_12 : decode cX8_run 12 = .ok (.putfield 85, 3) := by decide +kernel
theorem dX8_run_15 : decode cX8_run 15 = .ok (.aload_n 0, 1) := by decide +kernel
theorem dX8_run_16 : decode cX8_run 16 = .ok (.getfield 9, 3) := by decide +kernel
theorem dX8_run_19 : decode cX8_run 19 = .ok (.iconst (-1), 1) := by decide +kernel
theorem dX8_run_20 : decode cX8_run 20 = .ok (.invokestatic 88, 3) := by decide +kernel
theorem dX8_run_23 : decode cX8_run 23 = .ok (.aload_n 0, 1) := by decide +kernel
theorem dX8_run_24 : decode cX8_run 24 = .ok (.getfield 18, 3) := by decide +kernel
theorem dX8_run_27 : decode cX8_run 27 = .ok (.getfield 63, 3) := by decide +kernel
theorem dX8_run_30 : decode cX8_run 30 = .ok (.istore_n 3, 1) := by decide +kernel
theorem dX8_run_31 : decode cX8_run 31 = .ok (.aload_n 0, 1) := by decide +kernel
theorem dX8_run_32 : decode cX8_run 32 = .ok (.getfield 18, 3) := by decide +kernel
theorem dX8_run_35 : decode cX8_run 35 = .ok (.invokevirtual 94, 3) := by decide +kernel
theorem dX8_run_38 : decode cX8_run 38 = .ok (.istore 4, 2) := by decide +kernel
theorem dX8_run_40 : decode cX8_run 40 = .ok (.iconst 0, 1) := by decide +kernel
theorem dX8_run_41 : decode cX8_run 41 = .ok (.istore 5, 2) := by decide +kernel
theorem dX8_run_43 : decode cX8_run 43 = .ok (.iload 5, 2) := by decide +kernel
theorem dX8_run_45 : decode cX8_run 45 = .ok (.iload 4, 2) := by decide +kernel
theorem dX8_run_47 : decode cX8_run 47 = .ok (.if_icmp .ge 134, 3) := by decide +kernel
theorem dX8_run_50 : decode cX8_run 50 = .ok (.aload_n 0, 1) := by decide +kernel
theorem dX8_run_51 : decode cX8_run 51 = .ok (.getfield 18, 3) := by decide +kernel
theorem dX8_run_54 : decode cX8_run 54 = .ok (.iload_n 1, 1) := by decide +kernel
theorem dX8_run_55 : decode cX8_run 55 = .ok (.iload 5, 2) := by decide +kernel
theorem dX8_run_57 : decode cX8_run 57 = .ok (.invokevirtual 98, 3) := by decide +kernel
theorem dX8_run_60 : decode cX8_run 60 = .ok (.istore 6, 2) := by decide +kernel
theorem dX8_run_62 : decode cX8_run 62 = .ok (.iload 6, 2) := by decide +kernel
theorem dX8_run_64 : decode cX8_run 64 = .ok (.iload_n 3, 1) := by decide +kernel
theorem dX8_run_65 : decode cX8_run 65 = .ok (.if_icmp .ge 12, 3) := by decide +kernel
theorem dX8_run_68 : decode cX8_run 68 = .ok (.aload_n 0, 1) := by decide +kernel
theorem dX8_run_69 : decode cX8_run 69 = .ok (.iload 6, 2) := by decide +kernel
theorem dX8_run_71 : decode cX8_run 71 = .ok (.invokevirtual 101, 3) := by decide +kernel
theorem dX8_run_74 : decode cX8_run 74 = .ok (.goto 101, 3) := by decide +kernel
theorem dX8_run_77 : decode cX8_run 77 = .ok (.aload_n 0, 1) := by decide +kernel
theorem dX8_run_78 : decode cX8_run 78 = .ok (.getfield 18, 3) := by decide +kernel
theorem dX8_run_81 : decode cX8_run 81 = .ok (.getfield 45, 3) := by decide +kernel
theorem dX8_run_84 : decode cX8_run 84 = .ok (.iload 6, 2) := by decide +kernel
theorem dX8_run_86 : decode cX8_run 86 = .ok (.iload_n 3, 1) := by decide +kernel
theorem dX8_run_87 : decode cX8_run 87 = .ok (.isub, 1) := by decide +kernel
theorem dX8_run_88 : decode cX8_run 88 = .ok (.aaload, 1) := by decide +kernel
theorem dX8_run_89 : decode cX8_run 89 = .ok (.iload_n 2, 1) := by decide +kernel
theorem dX8_run_90 : decode cX8_run 90 = .ok (.invokevirtual 105, 3) := by decide +kernel
theorem dX8_run_93 : decode cX8_run 93 = .ok (.ifCond .eq 82, 3) := by decide +kernel
theorem dX8_run_96 : decode cX8_run 96 = .ok (.aload_n 0, 1) := by decide +kernel
theorem dX8_run_97 : decode cX8_run 97 = .ok (.getfield 15, 3) := by decide +kernel
theorem dX8_run_100 : decode cX8_run 100 = .ok (.iload 6, 2) := by decide +kernel
theorem dX8_run_102 : decode cX8_run 102 = .ok (.iload_n 3, 1) := by decide +kernel
theorem dX8_run_103 : decode cX8_run 103 = .ok (.isub, 1) := by decide +kernel
theorem dX8_run_104 : decode cX8_run 104 = .ok (.iaload, 1) := by decide +kernel
theorem dX8_run_105 : decode cX8_run 105 = .ok (.istore 7, 2) := by decide +kernel
theorem dX8_run_107 : decode cX8_run 107 = .ok (.iload 7, 2) := by decide +kernel
theorem dX8_run_109 : decode cX8_run 109 = .ok (.iconst 1, 1) := by decide +kernel
theorem dX8_run_110 : decode cX8_run 110 = .ok (.if_icmp .ne 16, 3) := by decide +kernel
theorem dX8_run_113 : decode cX8_run 113 = .ok (.aload_n 0, 1) := by decide +kernel
theorem dX8_run_114 : decode cX8_run 114 = .ok (.aload_n 0, 1) := by decide +kernel
theorem dX8_run_115 : decode cX8_run 115 = .ok (.getfield 82, 3) := by decide +kernel
theorem dX8_run_118 : decode cX8_run 118 = .ok (.iload 6, 2) := by decide +kernel
theorem dX8_run_120 : decode cX8_run 120 = .ok (.invokevirtual 109, 3) := by decide +kernel
theorem dX8_run_123 : decode cX8_run 123 = .ok (.goto 52, 3) := by decide +kernel
theorem dX8_run_126 : decode cX8_run 126 = .ok (.iload 7, 2) := by decide +kernel
theorem dX8_run_128 : decode cX8_run 128 = .ok (.iconst 2, 1) := by decide +kernel
theorem dX8_run_129 : decode cX8_run 129 = .ok (.if_icmp .ne 19, 3) := by decide +kernel
theorem dX8_run_132 : decode cX8_run 132 = .ok (.aload_n 0, 1) := by decide +kernel
theorem dX8_run_133 : decode cX8_run 133 = .ok (.dup, 1) := by decide +kernel
theorem dX8_run_134 : decode cX8_run 134 = .ok (.getfield 85, 3) := by decide +kernel
theorem dX8_run_137 : decode cX8_run 137 = .ok (.aload_n 0, 1) := by decide +kernel
theorem dX8_run_138 : decode cX8_run 138 = .ok (.getfield 82, 3) := by decide +kernel
theorem dX8_run_141 : decode cX8_run 141 = .ok (.ior, 1) := by decide +kernel
theorem dX8_run_142 : decode cX8_run 142 = .ok (.putfield 85, 3) := by decide +kernel
theorem dX8_run_145 : decode cX8_run 145 = .ok (.goto 30, 3) := by decide +kernel
theorem dX8_run_148 : decode cX8_run 148 = .ok (.iload 7, 2) := by decide +kernel
theorem dX8_run_150 : decode cX8_run 150 = .ok (.iconst 3, 1) := by decide +kernel
theorem dX8_run_151 : decode cX8_run 151 = .ok (.if_icmp .ne 24, 3) := by decide +kernel
theorem dX8_run_154 : decode cX8_run 154 = .ok (.aload_n 0, 1) := by decide +kernel
theorem dX8_run_155 : decode cX8_run 155 = .ok (.aload_n 0, 1) := by decide +kernel
theorem dX8_run_156 : decode cX8_run 156 = .ok (.getfield 18, 3) := by decide +kernel
theorem dX8_run_159 : decode cX8_run 159 = .ok (.getfield 45, 3) := by decide +kernel
theorem dX8_run_162 : decode cX8_run 162 = .ok (.iload 6, 2) := by decide +kernel
theorem dX8_run_164 : decode cX8_run 164 = .ok (.iload_n 3, 1) := by decide +kernel
theorem dX8_run_165 : decode cX8_run 165 = .ok (.isub, 1) := by decide +kernel
theorem dX8_run_166 : decode cX8_run 166 = .ok (.aaload, 1) := by decide +kernel
theorem dX8_run_167 : decode cX8_run 167 = .ok (.getfield 113, 3) := by decide +kernel
theorem dX8_run_170 : decode cX8_run 170 = .ok (.iload 6, 2) := by decide +kernel
theorem dX8_run_172 : decode cX8_run 172 = .ok (.invokevirtual 116, 3) := by decide +kernel
theorem dX8_run_175 : decode cX8_run 175 = .ok (.iinc 5 1, 3) := by decide +kernel
theorem dX8_run_178 : decode cX8_run 178 = .ok (.goto (-135), 3) := by decide +kernel
theorem dX8_run_181 : decode cX8_run 181 = .ok (.aload_n 0, 1) := by decide +kernel
theorem dX8_run_182 : decode cX8_run 182 = .ok (.invokevirtual 119, 3) := by decide +kernel
theorem dX8_run_185 : decode cX8_run 185 = .ok (.return_, 1) := by decide +kernel
def X8_run_b43 (k43 : Nat → Int32 → Int32 → Int32 → Int32 → Int32 → Wd → Option (Wd)) (y0 : Nat) (y1 : Int32) (y2 : Int32) (y3 : Int32) (y4 : Int32) (y5 : Int32) (w : Wd) : Option (Wd) :=
  if y4 ≤ y5 then
  (cv (f_X8_findCounting y0 w) fun w8 =>
  some w8)
  else
  cl (f_X2_itemAt y1 y5 w) fun r10 w9 =>
  if y3 ≤ r10 then
  (if inb (r10 - y3) 3 = true then
  (cl (f_X1_isSo (81 + Int32.toNatClampNeg (r10 - y3)) y2 w9) fun r14 w13 =>
  if r14 = 0 then
  (k43 y0 y1 y2 y3 y4 (y5 + 1) w13)
  else
  if inb (r10 - y3) 3 = true then
  (lt (w13.1 (y0 + 2) (Int32.toNatClampNeg (r10 - y3))) fun v15 =>
  if v15 = 1 then
  (cv (f_X8_undo y0 (w13.1 y0 9) r10 w13) fun w20 =>
  k43 y0 y1 y2 y3 y4 (y5 + 1) w20)
  else
  if v15 = 2 then
  (lt (wI w13 y0 10 ((w13.1 y0 10) ||| (w13.1 y0 9))) fun w19 =>
  k43 y0 y1 y2 y3 y4 (y5 + 1) w19)
  else
  if v15 = 3 then
  (if inb (r10 - y3) 3 = true then
  (cv (f_X8_takeAway y0 (w13.1 (81 + Int32.toNatClampNeg (r10 - y3)) 1) r10 w13) fun w18 =>
  k43 y0 y1 y2 y3 y4 (y5 + 1) w18)
  else none)
  else
  k43 y0 y1 y2 y3 y4 (y5 + 1) w13)
  else none)
  else none)
  else
  cv (f_X8_putPaper y0 r10 w9) fun w21 =>
  k43 y0 y1 y2 y3 y4 (y5 + 1) w21
set_option maxRecDepth 100000 in
set_option maxHeartbeats 4000000 in
theorem t_X8_run_b43 {Z : Cz (Wd)} (hZ : OKZ Z SC cX8_run RX8 8 none 3) (hE : EndV Z) (k43 : Nat → Int32 → Int32 → Int32 → Int32 → Int32 → Wd → Option (Wd)) (hk43 : ∀ (y0 : Nat) (y1 : Int32) (y2 : Int32) (y3 : Int32) (y4 : Int32) (y5 : Int32) (hy0 : IsS y0) (w : Wd), BW Z 8 43 [(0, .ref (ph (zY Z) y0)), (1, .int y1), (2, .int y2), (3, .int y3), (4, .int y4), (5, .int y5)] [] w (k43 y0 y1 y2 y3 y4 y5 w)) (y0 : Nat) (y1 : Int32) (y2 : Int32) (y3 : Int32) (y4 : Int32) (y5 : Int32) (hy0 : IsS y0) (w : Wd) : BW Z 8 43 [(0, .ref (ph (zY Z) y0)), (1, .int y1), (2, .int y2), (3, .int y3), (4, .int y4), (5, .int y5)] [] w (X8_run_b43 k43 y0 y1 y2 y3 y4 y5 w) :=
  bw_iload hZ 5 rfl dX8_run_43 <|
  bw_iload hZ 4 rfl dX8_run_45 <|
  bw_icmp_ge hZ (tgt := 181) (by decide) dX8_run_47 (fun _ =>
  bw_aload_n hZ 0 rfl dX8_run_181 <|
  bw_callVV (As := []) hZ ml_RX8_119 rc_8 (obS hy0) (by decide) (c_X8_findCounting (zl Z) (zY Z) (hZ_S hZ) y0 hy0 w) rfl rfl (Nat.le_of_ble_eq_true rfl) dX8_run_182 fun w8 =>
  bw_vret hZ hE dX8_run_185) (fun _ =>
  bw_aload_n hZ 0 rfl dX8_run_50 <|
  bw_getR hZ fl_RX8_18 (obS hy0) (rfS2 hy0) dX8_run_51 <|
  bw_iload_n hZ 1 rfl dX8_run_54 <|
  bw_iload hZ 5 rfl dX8_run_55 <|
  bw_callVI (As := [.int y1, .int y5]) hZ ml_RX8_98 rc_2 obC_3 (by decide) (c_X2_itemAt (zl Z) (zY Z) (hZ_S hZ) y1 y5 w) rfl rfl (Nat.le_of_ble_eq_true rfl) dX8_run_57 fun r10 w9 =>
  bw_istore hZ (by decide) rfl dX8_run_60 <|
  bw_iload hZ 0 rfl dX8_run_62 <|
  bw_iload_n hZ 4 rfl dX8_run_64 <|
  bw_icmp_ge hZ (tgt := 77) (by decide) dX8_run_65 (fun _ =>
  bw_aload_n hZ 1 rfl dX8_run_77 <|
  bw_getR hZ fl_RX8_18 (obS hy0) (rfS2 hy0) dX8_run_78 <|
  bw_getR hZ fl_RX8_45 obC_3 rfl dX8_run_81 <|
  bw_iload hZ 0 rfl dX8_run_84 <|
  bw_iload_n hZ 4 rfl dX8_run_86 <|
  bw_isub hZ dX8_run_87 <|
  bw_aald (81 + Int32.toNatClampNeg (r10 - y3)) hZ (arC_5 _) (Or.inr (Or.inl ⟨rfl, rfl⟩)) rfl dX8_run_88 fun hi11 =>
  bw_iload_n hZ 3 rfl dX8_run_89 <|
  bw_callVI (As := [.int y2]) hZ ml_RX8_105 rc_1 (obV (isV_of hi11)) (by decide) (c_X1_isSo (zl Z) (zY Z) (hZ_S hZ) (81 + Int32.toNatClampNeg (r10 - y3)) y2 (isV_of hi11) w9) rfl rfl (Nat.le_of_ble_eq_true rfl) dX8_run_90 fun r14 w13 =>
  bw_if_eq hZ (tgt := 175) (by decide) dX8_run_93 (fun _ =>
  bw_iinc hZ 1 6 rfl (by decide) (by decide) rfl dX8_run_175 <|
  bw_goto hZ (tgt := 43) (by decide) dX8_run_178 <|
  bw_sub [2, 3, 4, 5, 6, 0] rfl (hk43 y0 y1 y2 y3 y4 (y5 + 1) hy0 w13)) (fun _ =>
  bw_aload_n hZ 1 rfl dX8_run_96 <|
  bw_getR hZ fl_RX8_15 (obS hy0) (rfS3 hy0) dX8_run_97 <|
  bw_iload hZ 0 rfl dX8_run_100 <|
  bw_iload_n hZ 4 rfl dX8_run_102 <|
  bw_isub hZ dX8_run_103 <|
  bw_iald hZ (arS2 hy0 _) dX8_run_104 <|
  bw_nm fun v15 =>
  bw_istore hZ (by decide) rfl dX8_run_105 <|
  bw_iload hZ 0 rfl dX8_run_107 <|
  bw_iconst hZ 1 (by decide) dX8_run_109 <|
  bw_icmp_ne hZ (tgt := 126) (by decide) dX8_run_110 (fun _ =>
  bw_iload hZ 0 rfl dX8_run_126 <|
  bw_iconst hZ 2 (by decide) dX8_run_128 <|
  bw_icmp_ne hZ (tgt := 148) (by decide) dX8_run_129 (fun _ =>
  bw_iload hZ 0 rfl dX8_run_148 <|
  bw_iconst hZ 3 (by decide) dX8_run_150 <|
  bw_icmp_ne hZ (tgt := 175) (by decide) dX8_run_151 (fun _ =>
  bw_iinc hZ 1 7 rfl (by decide) (by decide) rfl dX8_run_175 <|
  bw_goto hZ (tgt := 43) (by decide) dX8_run_178 <|
  bw_sub [3, 4, 5, 6, 7, 0] rfl (hk43 y0 y1 y2 y3 y4 (y5 + 1) hy0 w13)) (fun _ =>
  bw_aload_n hZ 2 rfl dX8_run_154 <|
  bw_aload_n hZ 2 rfl dX8_run_155 <|
  bw_getR hZ fl_RX8_18 (obS hy0) (rfS2 hy0) dX8_run_156 <|
  bw_getR hZ fl_RX8_45 obC_3 rfl dX8_run_159 <|
  bw_iload hZ 1 rfl dX8_run_162 <|
  bw_iload_n hZ 5 rfl dX8_run_164 <|
  bw_isub hZ dX8_run_165 <|
  bw_aald (81 + Int32.toNatClampNeg (r10 - y3)) hZ (arC_5 _) (Or.inr (Or.inl ⟨rfl, rfl⟩)) rfl dX8_run_166 fun hi16 =>
  bw_getI hZ fl_RX8_113 (by decide) (obV (isV_of hi16)) dX8_run_167 <|
  bw_iload hZ 1 rfl dX8_run_170 <|
  bw_callVV (As := [.int (w13.1 (81 + Int32.toNatClampNeg (r10 - y3)) 1), .int r10]) hZ ml_RX8_116 rc_8 (obS hy0) (by decide) (c_X8_takeAway (zl Z) (zY Z) (hZ_S hZ) y0 (w13.1 (81 + Int32.toNatClampNeg (r10 - y3)) 1) r10 hy0 w13) rfl rfl (Nat.le_of_ble_eq_true rfl) dX8_run_172 fun w18 =>
  bw_iinc hZ 1 7 rfl (by decide) (by decide) rfl dX8_run_175 <|
  bw_goto hZ (tgt := 43) (by decide) dX8_run_178 <|
  bw_sub [3, 4, 5, 6, 7, 0] rfl (hk43 y0 y1 y2 y3 y4 (y5 + 1) hy0 w18))) (fun _ =>
  bw_aload_n hZ 2 rfl dX8_run_132 <|
  bw_dup hZ rfl dX8_run_133 <|
  bw_getI hZ fl_RX8_85 (by decide) (obS hy0) dX8_run_134 <|
  bw_aload_n hZ 2 rfl dX8_run_137 <|
  bw_getI hZ fl_RX8_82 (by decide) (obS hy0) dX8_run_138 <|
  bw_ior hZ dX8_run_141 <|
  bw_putI hZ fl_RX8_85 rfl rfl (by decide) (obS hy0) dX8_run_142 fun w19 =>
  bw_goto hZ (tgt := 175) (by decide) dX8_run_145 <|
  bw_iinc hZ 1 7 rfl (by decide) (by decide) rfl dX8_run_175 <|
  bw_goto hZ (tgt := 43) (by decide) dX8_run_178 <|
  bw_sub [3, 4, 5, 6, 7, 0] rfl (hk43 y0 y1 y2 y3 y4 (y5 + 1) hy0 w19))) (fun _ =>
  bw_aload_n hZ 2 rfl dX8_run_113 <|
  bw_aload_n hZ 2 rfl dX8_run_114 <|
  bw_getI hZ fl_RX8_82 (by decide) (obS hy0) dX8_run_115 <|
  bw_iload hZ 1 rfl dX8_run_118 <|
  bw_callVV (As := [.int (w13.1 y0 9), .int r10]) hZ ml_RX8_109 rc_8 (obS hy0) (by decide) (c_X8_undo (zl Z) (zY Z) (hZ_S hZ) y0 (w13.1 y0 9) r10 hy0 w13) rfl rfl (Nat.le_of_ble_eq_true rfl) dX8_run_120 fun w20 =>
  bw_goto hZ (tgt := 175) (by decide) dX8_run_123 <|
  bw_iinc hZ 1 7 rfl (by decide) (by decide) rfl dX8_run_175 <|
  bw_goto hZ (tgt := 43) (by decide) dX8_run_178 <|
  bw_sub [3, 4, 5, 6, 7, 0] rfl (hk43 y0 y1 y2 y3 y4 (y5 + 1) hy0 w20)))) (fun _ =>
  bw_aload_n hZ 1 rfl dX8_run_68 <|
  bw_iload hZ 0 rfl dX8_run_69 <|
  bw_callVV (As := [.int r10]) hZ ml_RX8_101 rc_8 (obS hy0) (by decide) (c_X8_putPaper (zl Z) (zY Z) (hZ_S hZ) y0 r10 hy0 w9) rfl rfl (Nat.le_of_ble_eq_true rfl) dX8_run_71 fun w21 =>
  bw_goto hZ (tgt := 175) (by decide) dX8_run_74 <|
  bw_iinc hZ 1 6 rfl (by decide) (by decide) rfl dX8_run_175 <|
  bw_goto hZ (tgt := 43) (by decide) dX8_run_178 <|
  bw_sub [2, 3, 4, 5, 6, 0] rfl (hk43 y0 y1 y2 y3 y4 (y5 + 1) hy0 w21)))
def X8_run_b43_L  : Nat → Int32 → Int32 → Int32 → Int32 → Int32 → Wd → Option (Wd) :=
  lp fu (fun _ _ _ _ _ _ _ => none) (fun k43 => X8_run_b43 k43)
theorem t_X8_run_b43_L {Z : Cz (Wd)} (hZ : OKZ Z SC cX8_run RX8 8 none 3) (hE : EndV Z)  : ∀ (y0 : Nat) (y1 : Int32) (y2 : Int32) (y3 : Int32) (y4 : Int32) (y5 : Int32) (hy0 : IsS y0) (w : Wd), BW Z 8 43 [(0, .ref (ph (zY Z) y0)), (1, .int y1), (2, .int y2), (3, .int y3), (4, .int y4), (5, .int y5)] [] w (X8_run_b43_L y0 y1 y2 y3 y4 y5 w) :=
  lp_bw (fun k43 => ∀ (y0 : Nat) (y1 : Int32) (y2 : Int32) (y3 : Int32) (y4 : Int32) (y5 : Int32) (hy0 : IsS y0) (w : Wd), BW Z 8 43 [(0, .ref (ph (zY Z) y0)), (1, .int y1), (2, .int y2), (3, .int y3), (4, .int y4), (5, .int y5)] [] w (k43 y0 y1 y2 y3 y4 y5 w)) (fun _ _ _ _ _ _ _ _ => bw_none) (fun k43 hk43 y0 y1 y2 y3 y4 y5 hy0 w => t_X8_run_b43 hZ hE k43 hk43 y0 y1 y2 y3 y4 y5 hy0 w) fu
def f_X8_run (o0 : Nat) (x1 : Int32) (x2 : Int32) (w : Wd) : Option (Wd) :=
  lt (wI w o0 8 0) fun w1 =>
  lt (wI w1 o0 9 0) fun w2 =>
  lt (wI w2 o0 10 0) fun w3 =>
  cv (f_J7_fill_53178 (o0 + 1) 4 ((-1)) w3) fun w4 =>
  lt (w4.1 3 3) fun v5 =>
  cl (f_X2_itemsTold w4) fun r7 w6 =>
  X8_run_b43_L o0 x1 x2 v5 r7 0 w6
set_option maxRecDepth 100000 in
set_option maxHeartbeats 4000000 in
theorem t_X8_run {Z : Cz (Wd)} (hZ : OKZ Z SC cX8_run RX8 8 none 3) (hE : EndV Z) (o0 : Nat) (x1 : Int32) (x2 : Int32) (ho0 : IsS o0) (w : Wd) : BW Z 8 0 [(0, .ref (ph (zY Z) o0)), (1, .int x1), (2, .int x2)] [] w (f_X8_run o0 x1 x2 w) :=
  bw_aload_n hZ 0 rfl dX8_run_0 <|
  bw_iconst hZ 0 (by decide) dX8_run_1 <|
  bw_putI hZ fl_RX8_79 rfl rfl (by decide) (obS ho0) dX8_run_2 fun w1 =>
  bw_aload_n hZ 0 rfl dX8_run_5 <|
  bw_iconst hZ 0 (by decide) dX8_run_6 <|
  bw_putI hZ fl_RX8_82 rfl rfl (by decide) (obS ho0) dX8_run_7 fun w2 =>
  bw_aload_n hZ 0 rfl dX8_run_10 <|
  bw_iconst hZ 0 (by decide) dX8_run_11 <|
  bw_putI hZ fl_RX8_85 rfl rfl (by decide) (obS ho0) dX8_run_12 fun w3 =>
  bw_aload_n hZ 0 rfl dX8_run_15 <|
  bw_getR hZ fl_RX8_9 (obS ho0) (rfS0 ho0) dX8_run_16 <|
  bw_iconst hZ (-1) (by decide) dX8_run_19 <|
  bw_callSV (As := [.ref (ph (zY Z) (o0 + 1)), .int ((-1))]) hZ ms_RX8_88 (by decide) (c_J7_fill_53178 (zl Z) (zY Z) (hZ_S hZ) (o0 + 1) 4 ((-1)) (arS1 ho0 _) w3) rfl rfl (Nat.le_of_ble_eq_true rfl) dX8_run_20 fun w4 =>
  bw_aload_n hZ 0 rfl dX8_run_23 <|
  bw_getR hZ fl_RX8_18 (obS ho0) (rfS2 ho0) dX8_run_24 <|
  bw_getI hZ fl_RX8_63 (by decide) obC_3 dX8_run_27 <|
  bw_nm fun v5 =>
  bw_istore_n hZ rfl (by decide) rfl dX8_run_30 <|
  bw_aload_n hZ 1 rfl dX8_run_31 <|
  bw_getR hZ fl_RX8_18 (obS ho0) (rfS2 ho0) dX8_run_32 <|
  bw_callVI (As := []) hZ ml_RX8_94 rc_2 obC_3 (by decide) (c_X2_itemsTold (zl Z) (zY Z) (hZ_S hZ) w4) rfl rfl (Nat.le_of_ble_eq_true rfl) dX8_run_35 fun r7 w6 =>
  bw_istore hZ (by decide) rfl dX8_run_38 <|
  bw_iconst hZ 0 (by decide) dX8_run_40 <|
  bw_istore hZ (by decide) rfl dX8_run_41 <|
  bw_sub [3, 4, 5, 2, 1, 0] rfl (t_X8_run_b43_L hZ hE o0 x1 x2 v5 r7 0 ho0 w6)
theorem c_X8_run (l : Launch) (Y : Ev) (hY : Y.1 = SC) (o0 : Nat) (x1 : Int32) (x2 : Int32) (ho0 : IsS o0) (w : Wd) : CV l Y yX8_run cX8_run 8 3 [.ref (ph Y o0), .int x1, .int x2] w (f_X8_run o0 x1 x2 w) := by
  refine CV_of (S := SC) (by decide) (Nat.le_of_ble_eq_true rfl) hY ?_
  intro Z hl hY2 hZ hE
  subst hY2
  exact t_X8_run hZ hE o0 x1 x2 ho0 w
-- WhichWill$Shares.takeWayFor
theorem dX7_takeWayFor_0 : decode cX7_takeWayFor 0 = .ok (.aload_n 0, 1) := by decide +kernel
theorem dX7_takeWayFor_1 : decode cX7_takeWayFor 1 = .ok (.iload_n 2, 1) := by decide +kernel
theorem dX7_takeWayFor_2 : decode cX7_takeWayFor 2 = .ok (.invokevirtual 55, 3) := by decide +kernel
theorem dX7_takeWayFor_5 : decode cX7_takeWayFor 5 = .ok (.aload_n 0, 1) := by decide +kernel
theorem dX7_takeWayFor_6 : decode cX7_takeWayFor 6 = .ok (.getfield 23, 3) := by decide +kernel
theorem dX7_takeWayFor_9 : decode cX7_takeWayFor 9 = .ok (.aload_n 0, 1) := by decide +kernel
theorem dX7_takeWayFor_10 : decode cX7_takeWayFor 10 = .ok (.getfield 27, 3) := by decide +kernel
theorem dX7_takeWayFor_13 : decode cX7_takeWayFor 13 = .ok (.iload_n 1, 1) := by decide +kernel
theorem dX7_takeWayFor_14 : decode cX7_takeWayFor 14 = .ok (.iaload, 1) := by decide +kernel
theorem dX7_takeWayFor_15 : decode cX7_takeWayFor 15 = .ok (.aaload, 1) := by decide +kernel
theorem dX7_takeWayFor_16 : decode cX7_takeWayFor 16 = .ok (.aload_n 0, 1) := by decide +kernel
theorem dX7_takeWayFor_17 : decode cX7_takeWayFor 17 = .ok (.getfield 62, 3) := by decide +kernel
theorem dX7_takeWayFor_20 : decode cX7_takeWayFor 20 = .ok (.aload_n 0, 1) := by decide +kernel
theorem dX7_takeWayFor_21 : decode cX7_takeWayFor 21 = .ok (.getfield 65, 3) := by decide +kernel
theorem dX7_takeWayFor_24 : decode cX7_takeWayFor 24 = .ok (.invokevirtual 68, 3) := by decide +kernel
theorem dX7_takeWayFor_27 : decode cX7_takeWayFor 27 = .ok (.return_, 1) := by decide +kernel
def f_X7_takeWayFor (x1 : Int32) (x2 : Int32) (w : Wd) : Option (Wd) :=
  cv (f_X7_setWay x2 w) fun w1 =>
  if inb x1 8 = true then
  (if inb (w1.1 13 (Int32.toNatClampNeg x1)) 4 = true then
  (cv (f_X8_run (84 + 3 * Int32.toNatClampNeg (w1.1 13 (Int32.toNatClampNeg x1))) (w1.1 8 11) (w1.1 8 12) w1) fun w4 =>
  some w4)
  else none)
  else none
set_option maxRecDepth 100000 in
set_option maxHeartbeats 4000000 in
theorem t_X7_takeWayFor {Z : Cz (Wd)} (hZ : OKZ Z SC cX7_takeWayFor RX7 3 none 4) (hE : EndV Z) (x1 : Int32) (x2 : Int32)  (w : Wd) : BW Z 3 0 [(0, .ref (ph (zY Z) 8)), (1, .int x1), (2, .int x2)] [] w (f_X7_takeWayFor x1 x2 w) :=
  bw_aload_n hZ 0 rfl dX7_takeWayFor_0 <|
  bw_iload_n hZ 2 rfl dX7_takeWayFor_1 <|
  bw_callVV (As := [.int x2]) hZ ml_RX7_55 rc_7 obC_8 (by decide) (c_X7_setWay (zl Z) (zY Z) (hZ_S hZ) x2 w) rfl rfl (Nat.le_of_ble_eq_true rfl) dX7_takeWayFor_2 fun w1 =>
  bw_aload_n hZ 0 rfl dX7_takeWayFor_5 <|
  bw_getR hZ fl_RX7_23 obC_8 rfl dX7_takeWayFor_6 <|
  bw_aload_n hZ 0 rfl dX7_takeWayFor_9 <|
  bw_getR hZ fl_RX7_27 obC_8 rfl dX7_takeWayFor_10 <|
  bw_iload_n hZ 1 rfl dX7_takeWayFor_13 <|
  bw_iald hZ (arC_13 _) dX7_takeWayFor_14 <|
  bw_aald (84 + 3 * Int32.toNatClampNeg (w1.1 13 (Int32.toNatClampNeg x1))) hZ (arC_12 _) (Or.inr (Or.inr ⟨rfl, rfl⟩)) rfl dX7_takeWayFor_15 fun hi2 =>
  bw_aload_n hZ 0 rfl dX7_takeWayFor_16 <|
  bw_getI hZ fl_RX7_62 (by decide) obC_8 dX7_takeWayFor_17 <|
  bw_aload_n hZ 0 rfl dX7_takeWayFor_20 <|
  bw_getI hZ fl_RX7_65 (by decide) obC_8 dX7_takeWayFor_21 <|
  bw_callVV (As := [.int (w1.1 8 11), .int (w1.1 8 12)]) hZ ml_RX7_68 rc_8 (obS (isS_of hi2)) (by decide) (c_X8_run (zl Z) (zY Z) (hZ_S hZ) (84 + 3 * Int32.toNatClampNeg (w1.1 13 (Int32.toNatClampNeg x1))) (w1.1 8 11) (w1.1 8 12) (isS_of hi2) w1) rfl rfl (Nat.le_of_ble_eq_true rfl) dX7_takeWayFor_24 fun w4 =>
  bw_vret hZ hE dX7_takeWayFor_27
theorem c_X7_takeWayFor (l : Launch) (Y : Ev) (hY : Y.1 = SC) (x1 : Int32) (x2 : Int32)  (w : Wd) : CV l Y yX7_takeWayFor cX7_takeWayFor 3 4 [.ref (ph Y 8), .int x1, .int x2] w (f_X7_takeWayFor x1 x2 w) := by
  refine CV_of (S := SC) (by decide) (Nat.le_of_ble_eq_true rfl) hY ?_
  intro Z hl hY2 hZ hE
  subst hY2
  exact t_X7_takeWayFor hZ hE x1 x2 w
-- WhichWill$Mender.goesRightInAll
theorem dX3_goesRightInAll_0 : decode cX3_goesRightInAll 0 = .ok (.aload_n 0, 1) := by decide +kernel
theorem dX3_goesRightInAll_1 : decode cX3_goesRightInAll 1 = .ok (.getfield 15, 3) := by decide +kernel
theorem dX3_goesRightInAll_4 : decode cX3_goesRightInAll 4 = .ok (.getfield 33, 3) := by decide +kernel
theorem dX3_goesRightInAll_7 : decode cX3_goesRightInAll 7 = .ok (.getfield 90, 3) := by decide +kernel
theorem dX3_goesRightInAll_10 : decode cX3_goesRightInAll 10 = .ok (.aload_n 0, 1) := by decide +kernel
theorem dX3_goesRightInAll_11 : decode cX3_goesRightInAll 11 = .ok (.getfield 27, 3) := by decide +kernel
theorem dX3_goesRightInAll_14 : decode cX3_goesRightInAll 14 = .ok (.iaload, 1) := by decide +kernel
theorem dX3_goesRightInAll_15 : decode cX3_goesRightInAll 15 = .ok (.istore_n 2, 1) := by decide +kernel
theorem dX3_goesRightInAll_16 : decode cX3_goesRightInAll 16 = .ok (.aload_n 0, 1) := by decide +kernel
theorem dX3_goesRightInAll_17 : decode cX3_goesRightInAll 17 = .ok (.getfield 15, 3) := by decide +kernel
theorem dX3_goesRightInAll_20 : decode cX3_goesRightInAll 20 = .ok (.invokevirtual 93, 3) := by decide +kernel
theorem dX3_goesRightInAll_23 : decode cX3_goesRightInAll 23 = .ok (.iconst 1, 1) := by decide +kernel
theorem dX3_goesRightInAll_24 : decode cX3_goesRightInAll 24 = .ok (.isub, 1) := by decide +kernel
theorem dX3_goesRightInAll_25 : decode cX3_goesRightInAll 25 = .ok (.istore_n 3, 1) := by decide +kernel
theorem dX3_goesRightInAll_26 : decode cX3_goesRightInAll 26 = .ok (.aload_n 0, 1) := by decide +kernel
theorem dX3_goesRightInAll_27 : decode cX3_goesRightInAll 27 = .ok (.getfield 15, 3) := by decide +kernel
theorem dX3_goesRightInAll_30 : decode cX3_goesRightInAll 30 = .ok (.invokevirtual 97, 3) := by decide +kernel
theorem dX3_goesRightInAll_33 : decode cX3_goesRightInAll 33 = .ok (.istore 4, 2) := by decide +kernel
theorem dX3_goesRightInAll_35 : decode cX3_goesRightInAll 35 = .ok (.aload_n 0, 1) := by decide +kernel
theorem dX3_goesRightInAll_36 : decode cX3_goesRightInAll 36 = .ok (.getfield 15, 3) := by decide +kernel
theorem dX3_goesRightInAll_39 : decode cX3_goesRightInAll 39 = .ok (.invokevirtual 100, 3) := by decide +kernel
theorem dX3_goesRightInAll_42 : decode cX3_goesRightInAll 42 = .ok (.istore 5, 2) := by decide +kernel
theorem dX3_goesRightInAll_44 : decode cX3_goesRightInAll 44 = .ok (.iconst 0, 1) := by decide +kernel
theorem dX3_goesRightInAll_45 : decode cX3_goesRightInAll 45 = .ok (.istore 6, 2) := by decide +kernel
theorem dX3_goesRightInAll_47 : decode cX3_goesRightInAll 47 = .ok (.iconst 0, 1) := by decide +kernel
theorem dX3_goesRightInAll_48 : decode cX3_goesRightInAll 48 = .ok (.istore 7, 2) := by decide +kernel
theorem dX3_goesRightInAll_50 : decode cX3_goesRightInAll 50 = .ok (.iload 7, 2) := by decide +kernel
theorem dX3_goesRightInAll_52 : decode cX3_goesRightInAll 52 = .ok (.iload 5, 2) := by decide +kernel
theorem dX3_goesRightInAll_54 : decode cX3_goesRightInAll 54 = .ok (.if_icmp .ge 102, 3) := by decide +kernel
theorem dX3_goesRightInAll_57 : decode cX3_goesRightInAll 57 = .ok (.iload_n 1, 1) := by decide +kernel
theorem dX3_goesRightInAll_58 : decode cX3_goesRightInAll 58 = .ok (.ifCond .eq 23, 3) := by decide +kernel
theorem dX3_goesRightInAll_61 : decode cX3_goesRightInAll 61 = .ok (.aload_n 0, 1) := by decide +kernel
theorem dX3_goesRightInAll_62 : decode cX3_goesRightInAll 62 = .ok (.getfield 15, 3) := by decide +kernel
theorem dX3_goesRightInAll_65 : decode cX3_goesRightInAll 65 = .ok (.iload 7, 2) := by decide +kernel
theorem dX3_goesRightInAll_67 : decode cX3_goesRightInAll 67 = .ok (.bipush 8, 2) := by decide +kernel
theorem dX3_goesRightInAll_69 : decode cX3_goesRightInAll 69 = .ok (.idiv, 1) := by decide +kernel
theorem dX3_goesRightInAll_70 : decode cX3_goesRightInAll 70 = .ok (.iload_n 3, 1) := by decide +kernel
theorem dX3_goesRightInAll_71 : decode cX3_goesRightInAll 71 = .ok (.invokevirtual 103, 3) := by decide +kernel
theorem dX3_goesRightInAll_74 : decode cX3_goesRightInAll 74 = .ok (.aload_n 0, 1) := by decide +kernel
theorem dX3_goesRightInAll_75 : decode cX3_goesRightInAll 75 = .ok (.getfield 23, 3) := by decide +kernel
theorem dX3_goesRightInAll_78 : decode cX3_goesRightInAll 78 = .ok (.if_icmp .ne 7, 3) := by decide +kernel
theorem dX3_goesRightInAll_81 : decode cX3_goesRightInAll 81 = .ok (.iconst 1, 1) := by decide +kernel
theorem dX3_goesRightInAll_82 : decode cX3_goesRightInAll 82 = .ok (.goto 4, 3) := by decide +kernel
theorem dX3_goesRightInAll_85 : decode cX3_goesRightInAll 85 = .ok (.iconst 0, 1) := by decide +kernel
theorem dX3_goesRightInAll_86 : decode cX3_goesRightInAll 86 = .ok (.istore 8, 2) := by decide +kernel
theorem dX3_goesRightInAll_88 : decode cX3_goesRightInAll 88 = .ok (.iload 8, 2) := by decide +kernel
theorem dX3_goesRightInAll_90 : decode cX3_goesRightInAll 90 = .ok (.ifCond .eq 60, 3) := by decide +kernel
theorem dX3_goesRightInAll_93 : decode cX3_goesRightInAll 93 = .ok (.iload 7, 2) := by decide +kernel
theorem dX3_goesRightInAll_95 : decode cX3_goesRightInAll 95 = .ok (.iload 4, 2) := by decide +kernel
theorem dX3_goesRightInAll_97 : decode cX3_goesRightInAll 97 = .ok (.iand, 1) := by decide +kernel
theorem dX3_goesRightInAll_98 : decode cX3_goesRightInAll 98 = .ok (.ifCond .eq 6, 3) := by decide +kernel
theorem dX3_goesRightInAll_101 : decode cX3_goesRightInAll 101 = .ok (.goto 49, 3) := by decide +kernel
theorem dX3_goesRightInAll_104 : decode cX3_goesRightInAll 104 = .ok (.aload_n 0, 1) := by decide +kernel
theorem dX3_goesRightInAll_105 : decode cX3_goesRightInAll 105 = .ok (.getfield 19, 3) := by decide +kernel
theorem dX3_goesRightInAll_108 : decode cX3_goesRightInAll 108 = .ok (.aload_n 0, 1) := by decide +kernel
theorem dX3_goesRightInAll_109 : decode cX3_goesRightInAll 109 = .ok (.getfield 27, 3) := by decide +kernel
theorem dX3_goesRightInAll_112 : decode cX3_goesRightInAll 112 = .ok (.iload 7, 2) := by decide +kernel
theorem dX3_goesRightInAll_114 : decode cX3_goesRightInAll 114 = .ok (.invokevirtual 107, 3) := by decide +kernel
theorem dX3_goesRightInAll_117 : decode cX3_goesRightInAll 117 = .ok (.aload_n 0, 1) := by decide +kernel
theorem dX3_goesRightInAll_118 : decode cX3_goesRightInAll 118 = .ok (.getfield 19, 3) := by decide +kernel
theorem dX3_goesRightInAll_121 : decode cX3_goesRightInAll 121 = .ok (.aload_n 0, 1) := by decide +kernel
theorem dX3_goesRightInAll_122 : decode cX3_goesRightInAll 122 = .ok (.getfield 27, 3) := by decide +kernel
theorem dX3_goesRightInAll_125 : decode cX3_goesRightInAll 125 = .ok (.invokevirtual 111, 3) := by decide +kernel
theorem dX3_goesRightInAll_128 : decode cX3_goesRightInAll 128 = .ok (.pop, 1) := by decide +kernel
theorem dX3_goesRightInAll_129 : decode cX3_goesRightInAll 129 = .ok (.aload_n 0, 1) := by decide +kernel
theorem dX3_goesRightInAll_130 : decode cX3_goesRightInAll 130 = .ok (.getfield 19, 3) := by decide +kernel
theorem dX3_goesRightInAll_133 : decode cX3_goesRightInAll 133 = .ok (.getfield 114, 3) := by decide +kernel
theorem dX3_goesRightInAll_136 : decode cX3_goesRightInAll 136 = .ok (.aload_n 0, 1) := by decide +kernel
theorem dX3_goesRightInAll_137 : decode cX3_goesRightInAll 137 = .ok (.getfield 30, 3) := by decide +kernel
theorem dX3_goesRightInAll_140 : decode cX3_goesRightInAll 140 = .ok (.iaload, 1) := by decide +kernel
theorem dX3_goesRightInAll_141 : decode cX3_goesRightInAll 141 = .ok (.iload_n 2, 1) := by decide +kernel
theorem dX3_goesRightInAll_142 : decode cX3_goesRightInAll 142 = .ok (.if_icmp .eq 5, 3) := by decide +kernel
theorem dX3_goesRightInAll_145 : decode cX3_goesRightInAll 145 = .ok (.iconst 0, 1) := by decide +kernel
theorem dX3_goesRightInAll_146 : decode cX3_goesRightInAll 146 = .ok (.ireturn, 1) := by decide +kernel
theorem dX3_goesRightInAll_147 : decode cX3_goesRightInAll 147 = .ok (.iconst 1, 1) := by decide +kernel
theorem dX3_goesRightInAll_148 : decode cX3_goesRightInAll 148 = .ok (.istore 6, 2) := by decide +kernel
theorem dX3_goesRightInAll_150 : decode cX3_goesRightInAll 150 = .ok (.iinc 7 1, 3) := by decide +kernel
theorem dX3_goesRightInAll_153 : decode cX3_goesRightInAll 153 = .ok (.goto (-103), 3) := by decide +kernel
theorem dX3_goesRightInAll_156 : decode cX3_goesRightInAll 156 = .ok (.iload 6, 2) := by decide +kernel
theorem dX3_goesRightInAll_158 : decode cX3_goesRightInAll 158 = .ok (.ireturn, 1) := by decide +kernel
def X3_goesRightInAll_b86 (k50 : Int32 → Int32 → Int32 → Int32 → Int32 → Int32 → Int32 → Wd → Option (Int32 × Wd)) (y1 : Int32) (y2 : Int32) (y3 : Int32) (y4 : Int32) (y5 : Int32) (y6 : Int32) (y7 : Int32) (t0 : Int32) (w : Wd) : Option (Int32 × Wd) :=
  if t0 = 0 then
  (k50 y1 y2 y3 y4 y5 y6 (y7 + 1) w)
  else
  if (y7 &&& y4) = 0 then
  (cv (f_X7_takeWayFor (w.1 28 4) y7 w) fun w9 =>
  cl (f_X7_partThing (w9.1 28 4) w9) fun r11 w10 =>
  if inb (w10.1 28 5) 8 = true then
  (if (w10.1 9 (Int32.toNatClampNeg (w10.1 28 5))) = y2 then
  (k50 y1 y2 y3 y4 y5 1 (y7 + 1) w10)
  else
  some (0, w10))
  else none)
  else
  k50 y1 y2 y3 y4 y5 y6 (y7 + 1) w
set_option maxRecDepth 100000 in
set_option maxHeartbeats 4000000 in
theorem t_X3_goesRightInAll_b86 {Z : Cz (Int32 × Wd)} (hZ : OKZ Z SC cX3_goesRightInAll RX3 9 (some .boolean) 5) (hE : EndI Z) (k50 : Int32 → Int32 → Int32 → Int32 → Int32 → Int32 → Int32 → Wd → Option (Int32 × Wd)) (hk50 : ∀ (y1 : Int32) (y2 : Int32) (y3 : Int32) (y4 : Int32) (y5 : Int32) (y6 : Int32) (y7 : Int32)  (w : Wd), BW Z 9 50 [(0, .ref (ph (zY Z) 28)), (1, .int y1), (2, .int y2), (3, .int y3), (4, .int y4), (5, .int y5), (6, .int y6), (7, .int y7)] [] w (k50 y1 y2 y3 y4 y5 y6 y7 w)) (y1 : Int32) (y2 : Int32) (y3 : Int32) (y4 : Int32) (y5 : Int32) (y6 : Int32) (y7 : Int32) (t0 : Int32)  (w : Wd) : BW Z 9 86 [(0, .ref (ph (zY Z) 28)), (1, .int y1), (2, .int y2), (3, .int y3), (4, .int y4), (5, .int y5), (6, .int y6), (7, .int y7)] [.int t0] w (X3_goesRightInAll_b86 k50 y1 y2 y3 y4 y5 y6 y7 t0 w) :=
  bw_istore hZ (by decide) rfl dX3_goesRightInAll_86 <|
  bw_iload hZ 0 rfl dX3_goesRightInAll_88 <|
  bw_if_eq hZ (tgt := 150) (by decide) dX3_goesRightInAll_90 (fun _ =>
  bw_iinc hZ 1 8 rfl (by decide) (by decide) rfl dX3_goesRightInAll_150 <|
  bw_goto hZ (tgt := 50) (by decide) dX3_goesRightInAll_153 <|
  bw_sub [2, 3, 4, 5, 6, 7, 8, 0] rfl (hk50 y1 y2 y3 y4 y5 y6 (y7 + 1) w)) (fun _ =>
  bw_iload hZ 8 rfl dX3_goesRightInAll_93 <|
  bw_iload hZ 5 rfl dX3_goesRightInAll_95 <|
  bw_iand hZ dX3_goesRightInAll_97 <|
  bw_if_eq hZ (tgt := 104) (by decide) dX3_goesRightInAll_98 (fun _ =>
  bw_aload_n hZ 1 rfl dX3_goesRightInAll_104 <|
  bw_getR hZ fl_RX3_19 obC_28 rfl dX3_goesRightInAll_105 <|
  bw_aload_n hZ 1 rfl dX3_goesRightInAll_108 <|
  bw_getI hZ fl_RX3_27 (by decide) obC_28 dX3_goesRightInAll_109 <|
  bw_iload hZ 8 rfl dX3_goesRightInAll_112 <|
  bw_callVV (As := [.int (w.1 28 4), .int y7]) hZ ml_RX3_107 rc_7 obC_8 (by decide) (c_X7_takeWayFor (zl Z) (zY Z) (hZ_S hZ) (w.1 28 4) y7 w) rfl rfl (Nat.le_of_ble_eq_true rfl) dX3_goesRightInAll_114 fun w9 =>
  bw_aload_n hZ 1 rfl dX3_goesRightInAll_117 <|
  bw_getR hZ fl_RX3_19 obC_28 rfl dX3_goesRightInAll_118 <|
  bw_aload_n hZ 1 rfl dX3_goesRightInAll_121 <|
  bw_getI hZ fl_RX3_27 (by decide) obC_28 dX3_goesRightInAll_122 <|
  bw_callVI (As := [.int (w9.1 28 4)]) hZ ml_RX3_111 rc_7 obC_8 (by decide) (c_X7_partThing (zl Z) (zY Z) (hZ_S hZ) (w9.1 28 4) w9) rfl rfl (Nat.le_of_ble_eq_true rfl) dX3_goesRightInAll_125 fun r11 w10 =>
  bw_pop hZ rfl dX3_goesRightInAll_128 <|
  bw_aload_n hZ 1 rfl dX3_goesRightInAll_129 <|
  bw_getR hZ fl_RX3_19 obC_28 rfl dX3_goesRightInAll_130 <|
  bw_getR hZ fl_RX3_114 obC_8 rfl dX3_goesRightInAll_133 <|
  bw_aload_n hZ 1 rfl dX3_goesRightInAll_136 <|
  bw_getI hZ fl_RX3_30 (by decide) obC_28 dX3_goesRightInAll_137 <|
  bw_iald hZ (arC_9 _) dX3_goesRightInAll_140 <|
  bw_iload_n hZ 3 rfl dX3_goesRightInAll_141 <|
  bw_icmp_eq hZ (tgt := 147) (by decide) dX3_goesRightInAll_142 (fun _ =>
  bw_iconst hZ 1 (by decide) dX3_goesRightInAll_147 <|
  bw_istore hZ (by decide) rfl dX3_goesRightInAll_148 <|
  bw_iinc hZ 1 8 rfl (by decide) (by decide) rfl dX3_goesRightInAll_150 <|
  bw_goto hZ (tgt := 50) (by decide) dX3_goesRightInAll_153 <|
  bw_sub [3, 4, 5, 6, 7, 8, 1, 0] rfl (hk50 y1 y2 y3 y4 y5 1 (y7 + 1) w10)) (fun _ =>
  bw_iconst hZ 0 (by decide) dX3_goesRightInAll_145 <|
  bw_zret hZ hE (by decide) dX3_goesRightInAll_146)) (fun _ =>
  bw_goto hZ (tgt := 150) (by decide) dX3_goesRightInAll_101 <|
  bw_iinc hZ 1 8 rfl (by decide) (by decide) rfl dX3_goesRightInAll_150 <|
  bw_goto hZ (tgt := 50) (by decide) dX3_goesRightInAll_153 <|
  bw_sub [2, 3, 4, 5, 6, 7, 8, 0] rfl (hk50 y1 y2 y3 y4 y5 y6 (y7 + 1) w)))
def X3_goesRightInAll_b50 (k50 : Int32 → Int32 → Int32 → Int32 → Int32 → Int32 → Int32 → Wd → Option (Int32 × Wd)) (y1 : Int32) (y2 : Int32) (y3 : Int32) (y4 : Int32) (y5 : Int32) (y6 : Int32) (y7 : Int32) (w : Wd) : Option (Int32 × Wd) :=
  if y5 ≤ y7 then
  (if isB y6 = true then some (y6, w) else none)
  else
  if y1 = 0 then
  (X3_goesRightInAll_b86 k50 y1 y2 y3 y4 y5 y6 y7 1 w)
  else
  cl (f_X2_itemAt (y7 / 8) y3 w) fun r13 w12 =>
  if r13 = (w12.1 28 3) then
  (X3_goesRightInAll_b86 k50 y1 y2 y3 y4 y5 y6 y7 1 w12)
  else
  X3_goesRightInAll_b86 k50 y1 y2 y3 y4 y5 y6 y7 0 w12
set_option maxRecDepth 100000 in
set_option maxHeartbeats 4000000 in
theorem t_X3_goesRightInAll_b50 {Z : Cz (Int32 × Wd)} (hZ : OKZ Z SC cX3_goesRightInAll RX3 9 (some .boolean) 5) (hE : EndI Z) (k50 : Int32 → Int32 → Int32 → Int32 → Int32 → Int32 → Int32 → Wd → Option (Int32 × Wd)) (hk50 : ∀ (y1 : Int32) (y2 : Int32) (y3 : Int32) (y4 : Int32) (y5 : Int32) (y6 : Int32) (y7 : Int32)  (w : Wd), BW Z 9 50 [(0, .ref (ph (zY Z) 28)), (1, .int y1), (2, .int y2), (3, .int y3), (4, .int y4), (5, .int y5), (6, .int y6), (7, .int y7)] [] w (k50 y1 y2 y3 y4 y5 y6 y7 w)) (y1 : Int32) (y2 : Int32) (y3 : Int32) (y4 : Int32) (y5 : Int32) (y6 : Int32) (y7 : Int32)  (w : Wd) : BW Z 9 50 [(0, .ref (ph (zY Z) 28)), (1, .int y1), (2, .int y2), (3, .int y3), (4, .int y4), (5, .int y5), (6, .int y6), (7, .int y7)] [] w (X3_goesRightInAll_b50 k50 y1 y2 y3 y4 y5 y6 y7 w) :=
  bw_iload hZ 7 rfl dX3_goesRightInAll_50 <|
  bw_iload hZ 5 rfl dX3_goesRightInAll_52 <|
  bw_icmp_ge hZ (tgt := 156) (by decide) dX3_goesRightInAll_54 (fun _ =>
  bw_iload hZ 6 rfl dX3_goesRightInAll_156 <|
  bw_zretC hZ hE dX3_goesRightInAll_158) (fun _ =>
  bw_iload_n hZ 1 rfl dX3_goesRightInAll_57 <|
  bw_if_eq hZ (tgt := 81) (by decide) dX3_goesRightInAll_58 (fun _ =>
  bw_iconst hZ 1 (by decide) dX3_goesRightInAll_81 <|
  bw_goto hZ (tgt := 86) (by decide) dX3_goesRightInAll_82 <|
  bw_sub [0, 1, 2, 3, 4, 5, 6, 7] rfl (t_X3_goesRightInAll_b86 hZ hE k50 hk50 y1 y2 y3 y4 y5 y6 y7 1 w)) (fun _ =>
  bw_aload_n hZ 0 rfl dX3_goesRightInAll_61 <|
  bw_getR hZ fl_RX3_15 obC_28 rfl dX3_goesRightInAll_62 <|
  bw_iload hZ 7 rfl dX3_goesRightInAll_65 <|
  bw_bipush hZ 8 (by decide) dX3_goesRightInAll_67 <|
  bw_idivN hZ (by decide) dX3_goesRightInAll_69 <|
  bw_iload_n hZ 3 rfl dX3_goesRightInAll_70 <|
  bw_callVI (As := [.int (y7 / 8), .int y3]) hZ ml_RX3_103 rc_2 obC_3 (by decide) (c_X2_itemAt (zl Z) (zY Z) (hZ_S hZ) (y7 / 8) y3 w) rfl rfl (Nat.le_of_ble_eq_true rfl) dX3_goesRightInAll_71 fun r13 w12 =>
  bw_aload_n hZ 0 rfl dX3_goesRightInAll_74 <|
  bw_getI hZ fl_RX3_23 (by decide) obC_28 dX3_goesRightInAll_75 <|
  bw_icmp_ne hZ (tgt := 85) (by decide) dX3_goesRightInAll_78 (fun _ =>
  bw_iconst hZ 0 (by decide) dX3_goesRightInAll_85 <|
  bw_sub [0, 1, 2, 3, 4, 5, 6, 7] rfl (t_X3_goesRightInAll_b86 hZ hE k50 hk50 y1 y2 y3 y4 y5 y6 y7 0 w12)) (fun _ =>
  bw_iconst hZ 1 (by decide) dX3_goesRightInAll_81 <|
  bw_goto hZ (tgt := 86) (by decide) dX3_goesRightInAll_82 <|
  bw_sub [0, 1, 2, 3, 4, 5, 6, 7] rfl (t_X3_goesRightInAll_b86 hZ hE k50 hk50 y1 y2 y3 y4 y5 y6 y7 1 w12))))
def X3_goesRightInAll_b50_L  : Int32 → Int32 → Int32 → Int32 → Int32 → Int32 → Int32 → Wd → Option (Int32 × Wd) :=
  lp fu (fun _ _ _ _ _ _ _ _ => none) (fun k50 => X3_goesRightInAll_b50 k50)
theorem t_X3_goesRightInAll_b50_L {Z : Cz (Int32 × Wd)} (hZ : OKZ Z SC cX3_goesRightInAll RX3 9 (some .boolean) 5) (hE : EndI Z)  : ∀ (y1 : Int32) (y2 : Int32) (y3 : Int32) (y4 : Int32) (y5 : Int32) (y6 : Int32) (y7 : Int32)  (w : Wd), BW Z 9 50 [(0, .ref (ph (zY Z) 28)), (1, .int y1), (2, .int y2), (3, .int y3), (4, .int y4), (5, .int y5), (6, .int y6), (7, .int y7)] [] w (X3_goesRightInAll_b50_L y1 y2 y3 y4 y5 y6 y7 w) :=
  lp_bw (fun k50 => ∀ (y1 : Int32) (y2 : Int32) (y3 : Int32) (y4 : Int32) (y5 : Int32) (y6 : Int32) (y7 : Int32)  (w : Wd), BW Z 9 50 [(0, .ref (ph (zY Z) 28)), (1, .int y1), (2, .int y2), (3, .int y3), (4, .int y4), (5, .int y5), (6, .int y6), (7, .int y7)] [] w (k50 y1 y2 y3 y4 y5 y6 y7 w)) (fun _ _ _ _ _ _ _ _ => bw_none) (fun k50 hk50 y1 y2 y3 y4 y5 y6 y7 w => t_X3_goesRightInAll_b50 hZ hE k50 hk50 y1 y2 y3 y4 y5 y6 y7 w) fu
def f_X3_goesRightInAll (x1 : Int32) (w : Wd) : Option (Int32 × Wd) :=
  if inb (w.1 28 4) 8 = true then
  (lt (w.1 41 (Int32.toNatClampNeg (w.1 28 4))) fun v1 =>
  cl (f_X2_itemsTold w) fun r3 w2 =>
  lt (r3 - 1) fun v4 =>
  cl (f_X2_unusedFacts w2) fun r6 w5 =>
  cl (f_X2_waysFound w5) fun r8 w7 =>
  X3_goesRightInAll_b50_L x1 v1 v4 r6 r8 0 0 w7)
  else none
set_option maxRecDepth 100000 in
set_option maxHeartbeats 4000000 in
theorem t_X3_goesRightInAll {Z : Cz (Int32 × Wd)} (hZ : OKZ Z SC cX3_goesRightInAll RX3 9 (some .boolean) 5) (hE : EndI Z) (x1 : Int32)  (w : Wd) : BW Z 9 0 [(0, .ref (ph (zY Z) 28)), (1, .int x1)] [] w (f_X3_goesRightInAll x1 w) :=
  bw_aload_n hZ 0 rfl dX3_goesRightInAll_0 <|
  bw_getR hZ fl_RX3_15 obC_28 rfl dX3_goesRightInAll_1 <|
  bw_getR hZ fl_RX3_33 obC_3 rfl dX3_goesRightInAll_4 <|
  bw_getR hZ fl_RX3_90 obC_31 rfl dX3_goesRightInAll_7 <|
  bw_aload_n hZ 0 rfl dX3_goesRightInAll_10 <|
  bw_getI hZ fl_RX3_27 (by decide) obC_28 dX3_goesRightInAll_11 <|
  bw_iald hZ (arC_41 _) dX3_goesRightInAll_14 <|
  bw_nm fun v1 =>
  bw_istore_n hZ rfl (by decide) rfl dX3_goesRightInAll_15 <|
  bw_aload_n hZ 1 rfl dX3_goesRightInAll_16 <|
  bw_getR hZ fl_RX3_15 obC_28 rfl dX3_goesRightInAll_17 <|
  bw_callVI (As := []) hZ ml_RX3_93 rc_2 obC_3 (by decide) (c_X2_itemsTold (zl Z) (zY Z) (hZ_S hZ) w) rfl rfl (Nat.le_of_ble_eq_true rfl) dX3_goesRightInAll_20 fun r3 w2 =>
  bw_iconst hZ 1 (by decide) dX3_goesRightInAll_23 <|
  bw_isub hZ dX3_goesRightInAll_24 <|
  bw_nm fun v4 =>
  bw_istore_n hZ rfl (by decide) rfl dX3_goesRightInAll_25 <|
  bw_aload_n hZ 2 rfl dX3_goesRightInAll_26 <|
  bw_getR hZ fl_RX3_15 obC_28 rfl dX3_goesRightInAll_27 <|
  bw_callVI (As := []) hZ ml_RX3_97 rc_2 obC_3 (by decide) (c_X2_unusedFacts (zl Z) (zY Z) (hZ_S hZ) w2) rfl rfl (Nat.le_of_ble_eq_true rfl) dX3_goesRightInAll_30 fun r6 w5 =>
  bw_istore hZ (by decide) rfl dX3_goesRightInAll_33 <|
  bw_aload_n hZ 3 rfl dX3_goesRightInAll_35 <|
  bw_getR hZ fl_RX3_15 obC_28 rfl dX3_goesRightInAll_36 <|
  bw_callVI (As := []) hZ ml_RX3_100 rc_2 obC_3 (by decide) (c_X2_waysFound (zl Z) (zY Z) (hZ_S hZ) w5) rfl rfl (Nat.le_of_ble_eq_true rfl) dX3_goesRightInAll_39 fun r8 w7 =>
  bw_istore hZ (by decide) rfl dX3_goesRightInAll_42 <|
  bw_iconst hZ 0 (by decide) dX3_goesRightInAll_44 <|
  bw_istore hZ (by decide) rfl dX3_goesRightInAll_45 <|
  bw_iconst hZ 0 (by decide) dX3_goesRightInAll_47 <|
  bw_istore hZ (by decide) rfl dX3_goesRightInAll_48 <|
  bw_sub [6, 7, 5, 4, 3, 2, 1, 0] rfl (t_X3_goesRightInAll_b50_L hZ hE x1 v1 v4 r6 r8 0 0 w7)
theorem c_X3_goesRightInAll (l : Launch) (Y : Ev) (hY : Y.1 = SC) (x1 : Int32)  (w : Wd) : CI l Y yX3_goesRightInAll cX3_goesRightInAll 9 5 [.ref (ph Y 28), .int x1] w .boolean (f_X3_goesRightInAll x1 w) := by
  refine CI_of (S := SC) (by decide) (Nat.le_of_ble_eq_true rfl) hY ?_
  intro Z hl hY2 hZ hE
  subst hY2
  exact t_X3_goesRightInAll hZ hE x1 w
-- WhichWill$Paper.isMarked
theorem dX6_isMarked_0 : decode cX6_isMarked 0 = .ok (.aload_n 0, 1) := by decide +kernel
theorem dX6_isMarked_1 : decode cX6_isMarked 1 = .ok (.getfield 56, 3) := by decide +kernel
theorem dX6_isMarked_4 : decode cX6_isMarked 4 = .ok (.iload_n 1, 1) := by decide +kernel
theorem dX6_isMarked_5 : decode cX6_isMarked 5 = .ok (.iand, 1) := by decide +kernel
theorem dX6_isMarked_6 : decode cX6_isMarked 6 = .ok (.ifCond .eq 7, 3) := by decide +kernel
theorem dX6_isMarked_9 : decode cX6_isMarked 9 = .ok (.iconst 1, 1) := by decide +kernel
theorem dX6_isMarked_10 : decode cX6_isMarked 10 = .ok (.goto 4, 3) := by decide +kernel
theorem dX6_isMarked_13 : decode cX6_isMarked 13 = .ok (.iconst 0, 1) := by decide +kernel
theorem dX6_isMarked_14 : decode cX6_isMarked 14 = .ok (.ireturn, 1) := by decide +kernel
def f_X6_isMarked (o0 : Nat) (x1 : Int32) (w : Wd) : Option (Int32 × Wd) :=
  if ((w.1 o0 14) &&& x1) = 0 then
  (some (0, w))
  else
  some (1, w)
set_option maxRecDepth 100000 in
set_option maxHeartbeats 4000000 in
theorem t_X6_isMarked {Z : Cz (Int32 × Wd)} (hZ : OKZ Z SC cX6_isMarked RX6 2 (some .boolean) 1) (hE : EndI Z) (o0 : Nat) (x1 : Int32) (ho0 : IsP o0) (w : Wd) : BW Z 2 0 [(0, .ref (ph (zY Z) o0)), (1, .int x1)] [] w (f_X6_isMarked o0 x1 w) :=
  bw_aload_n hZ 0 rfl dX6_isMarked_0 <|
  bw_getI hZ fl_RX6_56 (by decide) (obP ho0) dX6_isMarked_1 <|
  bw_iload_n hZ 1 rfl dX6_isMarked_4 <|
  bw_iand hZ dX6_isMarked_5 <|
  bw_if_eq hZ (tgt := 13) (by decide) dX6_isMarked_6 (fun _ =>
  bw_iconst hZ 0 (by decide) dX6_isMarked_13 <|
  bw_zret hZ hE (by decide) dX6_isMarked_14) (fun _ =>
  bw_iconst hZ 1 (by decide) dX6_isMarked_9 <|
  bw_goto hZ (tgt := 14) (by decide) dX6_isMarked_10 <|
  bw_zret hZ hE (by decide) dX6_isMarked_14)
theorem c_X6_isMarked (l : Launch) (Y : Ev) (hY : Y.1 = SC) (o0 : Nat) (x1 : Int32) (ho0 : IsP o0) (w : Wd) : CI l Y yX6_isMarked cX6_isMarked 2 1 [.ref (ph Y o0), .int x1] w .boolean (f_X6_isMarked o0 x1 w) := by
  refine CI_of (S := SC) (by decide) (Nat.le_of_ble_eq_true rfl) hY ?_
  intro Z hl hY2 hZ hE
  subst hY2
  exact t_X6_isMarked hZ hE o0 x1 ho0 w
-- WhichWill$Paper.isGoodBy
theorem dX6_isGoodBy_0 : decode cX6_isGoodBy 0 = .ok (.aload_n 0, 1) := by decide +kernel
theorem dX6_isGoodBy_1 : decode cX6_isGoodBy 1 = .ok (.iconst 4, 1) := by decide +kernel
theorem dX6_isGoodBy_2 : decode cX6_isGoodBy 2 = .ok (.invokevirtual 147, 3) := by decide +kernel
theorem dX6_isGoodBy_5 : decode cX6_isGoodBy 5 = .ok (.ifCond .ne 9, 3) := by decide +kernel
theorem dX6_isGoodBy_8 : decode cX6_isGoodBy 8 = .ok (.iload_n 3, 1) := by decide +kernel
theorem dX6_isGoodBy_9 : decode cX6_isGoodBy 9 = .ok (.iconst 1, 1) := by decide +kernel
theorem dX6_isGoodBy_10 : decode cX6_isGoodBy 10 = .ok (.iand, 1) := by decide +kernel
theorem dX6_isGoodBy_11 : decode cX6_isGoodBy 11 = .ok (.ifCond .eq 7, 3) := by decide +kernel
theorem dX6_isGoodBy_14 : decode cX6_isGoodBy 14 = .ok (.iconst 1, 1) := by decide +kernel
theorem dX6_isGoodBy_15 : decode cX6_isGoodBy 15 = .ok (.goto 4, 3) := by decide +kernel
theorem dX6_isGoodBy_18 : decode cX6_isGoodBy 18 = .ok (.iconst 0, 1) := by decide +kernel
theorem dX6_isGoodBy_19 : decode cX6_isGoodBy 19 = .ok (.istore 4, 2) := by decide +kernel
theorem dX6_isGoodBy_21 : decode cX6_isGoodBy 21 = .ok (.aload_n 0, 1) := by decide +kernel
theorem dX6_isGoodBy_22 : decode cX6_isGoodBy 22 = .ok (.iconst 1, 1) := by decide +kernel
theorem dX6_isGoodBy_23 : decode cX6_isGoodBy 23 = .ok (.invokevirtual 147, 3) := by decide +kernel
theorem dX6_isGoodBy_26 : decode cX6_isGoodBy 26 = .ok (.ifCond .ne 9, 3) := by decide +kernel
theorem dX6_isGoodBy_29 : decode cX6_isGoodBy 29 = .ok (.iload_n 3, 1) := by decide +kernel
theorem dX6_isGoodBy_30 : decode cX6_isGoodBy 30 = .ok (.iconst 2, 1) := by decide +kernel
theorem dX6_isGoodBy_31 : decode cX6_isGoodBy 31 = .ok (.iand, 1) := by decide +kernel
theorem dX6_isGoodBy_32 : decode cX6_isGoodBy 32 = .ok (.ifCond .eq 7, 3) := by decide +kernel
theorem dX6_isGoodBy_35 : decode cX6_isGoodBy 35 = .ok (.iconst 1, 1) := by decide +kernel
theorem dX6_isGoodBy_36 : decode cX6_isGoodBy 36 = .ok (.goto 4, 3) := by decide +kernel
theorem dX6_isGoodBy_39 : decode cX6_isGoodBy 39 = .ok (.iconst 0, 1) := by decide +kernel
theorem dX6_isGoodBy_40 : decode cX6_isGoodBy 40 = .ok (.istore 5, 2) := by decide +kernel
theorem dX6_isGoodBy_42 : decode cX6_isGoodBy 42 = .ok (.aload_n 0, 1) := by decide +kernel
theorem dX6_isGoodBy_43 : decode cX6_isGoodBy 43 = .ok (.iconst 2, 1) := by decide +kernel
theorem dX6_isGoodBy_44 : decode cX6_isGoodBy 44 = .ok (.invokevirtual 147, 3) := by decide +kernel
theorem dX6_isGoodBy_47 : decode cX6_isGoodBy 47 = .ok (.ifCond .eq 13, 3) := by decide +kernel
theorem dX6_isGoodBy_50 : decode cX6_isGoodBy 50 = .ok (.iload_n 3, 1) := by decide +kernel
theorem dX6_isGoodBy_51 : decode cX6_isGoodBy 51 = .ok (.iconst 4, 1) := by decide +kernel
theorem dX6_isGoodBy_52 : decode cX6_isGoodBy 52 = .ok (.iand, 1) := by decide +kernel
theorem dX6_isGoodBy_53 : decode cX6_isGoodBy 53 = .ok (.ifCond .ne 7, 3) := by decide +kernel
theorem dX6_isGoodBy_56 : decode cX6_isGoodBy 56 = .ok (.iconst 1, 1) := by decide +kernel
theorem dX6_isGoodBy_57 : decode cX6_isGoodBy 57 = .ok (.goto 4, 3) := by decide +kernel
theorem dX6_isGoodBy_60 : decode cX6_isGoodBy 60 = .ok (.iconst 0, 1) := by decide +kernel
theorem dX6_isGoodBy_61 : decode cX6_isGoodBy 61 = .ok (.istore 6, 2) := by decide +kernel
theorem dX6_isGoodBy_63 : decode cX6_isGoodBy 63 = .ok (.iload 4, 2) := by decide +kernel
theorem dX6_isGoodBy_65 : decode cX6_isGoodBy 65 = .ok (.ifCond .eq 17, 3) := by decide +kernel
theorem dX6_isGoodBy_68 : decode cX6_isGoodBy 68 = .ok (.iload 6, 2) := by decide +kernel
theorem dX6_isGoodBy_70 : decode cX6_isGoodBy 70 = .ok (.ifCond .eq 14, 3) := by decide +kernel
theorem dX6_isGoodBy_73 : decode cX6_isGoodBy 73 = .ok (.aload_n 1, 1) := by decide +kernel
theorem dX6_isGoodBy_74 : decode cX6_isGoodBy 74 = .ok (.iload_n 2, 1) := by decide +kernel
theorem dX6_isGoodBy_75 : decode cX6_isGoodBy 75 = .ok (.iconst 2, 1) := by decide +kernel
theorem dX6_isGoodBy_76 : decode cX6_isGoodBy 76 = .ok (.invokevirtual 201, 3) := by decide +kernel
theorem dX6_isGoodBy_79 : decode cX6_isGoodBy 79 = .ok (.ifCond .ne 5, 3) := by decide +kernel
theorem dX6_isGoodBy_82 : decode cX6_isGoodBy 82 = .ok (.iconst 0, 1) := by decide +kernel
theorem dX6_isGoodBy_83 : decode cX6_isGoodBy 83 = .ok (.ireturn, 1) := by decide +kernel
theorem dX6_isGoodBy_84 : decode cX6_isGoodBy 84 = .ok (.iload 5, 2) := by decide +kernel
theorem dX6_isGoodBy_86 : decode cX6_isGoodBy 86 = .ok (.ifCond .eq 14, 3) := by decide +kernel
theorem dX6_isGoodBy_89 : decode cX6_isGoodBy 89 = .ok (.aload_n 1, 1) := by decide +kernel
theorem dX6_isGoodBy_90 : decode cX6_isGoodBy 90 = .ok (.iload_n 2, 1) := by decide +kernel
theorem dX6_isGoodBy_91 : decode cX6_isGoodBy 91 = .ok (.iconst 1, 1) := by decide +kernel
theorem dX6_isGoodBy_92 : decode cX6_isGoodBy 92 = .ok (.invokevirtual 201, 3) := by decide +kernel
theorem dX6_isGoodBy_95 : decode cX6_isGoodBy 95 = .ok (.ifCond .eq 5, 3) := by decide +kernel
theorem dX6_isGoodBy_98 : decode cX6_isGoodBy 98 = .ok (.iconst 1, 1) := by decide +kernel
theorem dX6_isGoodBy_99 : decode cX6_isGoodBy 99 = .ok (.ireturn, 1) := by decide +kernel
theorem dX6_isGoodBy_100 : decode cX6_isGoodBy 100 = .ok (.aload_n 1, 1) := by decide +kernel
theorem dX6_isGoodBy_101 : decode cX6_isGoodBy 101 = .ok (.iload_n 2, 1) := by decide +kernel
theorem dX6_isGoodBy_102 : decode cX6_isGoodBy 102 = .ok (.iconst 3, 1) := by decide +kernel
theorem dX6_isGoodBy_103 : decode cX6_isGoodBy 103 = .ok (.invokevirtual 201, 3) := by decide +kernel
theorem dX6_isGoodBy_106 : decode cX6_isGoodBy 106 = .ok (.iconst 1, 1) := by decide +kernel
theorem dX6_isGoodBy_107 : decode cX6_isGoodBy 107 = .ok (.if_icmp .ne 7, 3) := by decide +kernel
theorem dX6_isGoodBy_110 : decode cX6_isGoodBy 110 = .ok (.iconst 1, 1) := by decide +kernel
theorem dX6_isGoodBy_111 : decode cX6_isGoodBy 111 = .ok (.goto 4, 3) := by decide +kernel
theorem dX6_isGoodBy_114 : decode cX6_isGoodBy 114 = .ok (.iconst 0, 1) := by decide +kernel
theorem dX6_isGoodBy_115 : decode cX6_isGoodBy 115 = .ok (.istore 7, 2) := by decide +kernel
theorem dX6_isGoodBy_117 : decode cX6_isGoodBy 117 = .ok (.iload 7, 2) := by decide +kernel
theorem dX6_isGoodBy_119 : decode cX6_isGoodBy 119 = .ok (.ifCond .eq 17, 3) := by decide +kernel
theorem dX6_isGoodBy_122 : decode cX6_isGoodBy 122 = .ok (.aload_n 0, 1) := by decide +kernel
theorem dX6_isGoodBy_123 : decode cX6_isGoodBy 123 = .ok (.getfield 34, 3) := by decide +kernel
theorem dX6_isGoodBy_126 : decode cX6_isGoodBy 126 = .ok (.aload_n 0, 1) := by decide +kernel
theorem dX6_isGoodBy_127 : decode cX6_isGoodBy 127 = .ok (.getfield 62, 3) := by decide +kernel
theorem dX6_isGoodBy_130 : decode cX6_isGoodBy 130 = .ok (.iconst (-1), 1) := by decide +kernel
theorem dX6_isGoodBy_131 : decode cX6_isGoodBy 131 = .ok (.ixor, 1) := by decide +kernel
theorem dX6_isGoodBy_132 : decode cX6_isGoodBy 132 = .ok (.iand, 1) := by decide +kernel
theorem dX6_isGoodBy_133 : decode cX6_isGoodBy 133 = .ok (.goto 7, 3) := by decide +kernel
theorem dX6_isGoodBy_136 : decode cX6_isGoodBy 136 = .ok (.aload_n 0, 1) := by decide +kernel
theorem dX6_isGoodBy_137 : decode cX6_isGoodBy 137 = .ok (.getfield 34, 3) := by decide +kernel
theorem dX6_isGoodBy_140 : decode cX6_isGoodBy 140 = .ok (.invokestatic 157, 3) := by decide +kernel
theorem dX6_isGoodBy_143 : decode cX6_isGoodBy 143 = .ok (.istore 8, 2) := by decide +kernel
theorem dX6_isGoodBy_145 : decode cX6_isGoodBy 145 = .ok (.iload_n 3, 1) := by decide +kernel
theorem dX6_isGoodBy_146 : decode cX6_isGoodBy 146 = .ok (.bipush 8, 2) := by decide +kernel
theorem dX6_isGoodBy_148 : decode cX6_isGoodBy 148 = .ok (.iand, 1) := by decide +kernel
theorem dX6_isGoodBy_149 : decode cX6_isGoodBy 149 = .ok (.ifCond .eq 6, 3) := by decide +kernel
theorem dX6_isGoodBy_152 : decode cX6_isGoodBy 152 = .ok (.iinc 8 1, 3) := by decide +kernel
theorem dX6_isGoodBy_155 : decode cX6_isGoodBy 155 = .ok (.iload 8, 2) := by decide +kernel
theorem dX6_isGoodBy_157 : decode cX6_isGoodBy 157 = .ok (.aload_n 1, 1) := by decide +kernel
theorem dX6_isGoodBy_158 : decode cX6_isGoodBy 158 = .ok (.iload_n 2, 1) := by decide +kernel
theorem dX6_isGoodBy_159 : decode cX6_isGoodBy 159 = .ok (.iconst 0, 1) := by decide +kernel
theorem dX6_isGoodBy_160 : decode cX6_isGoodBy 160 = .ok (.invokevirtual 201, 3) := by decide +kernel
theorem dX6_isGoodBy_163 : decode cX6_isGoodBy 163 = .ok (.if_icmp .lt 7, 3) := by decide +kernel
theorem dX6_isGoodBy_166 : decode cX6_isGoodBy 166 = .ok (.iconst 1, 1) := by decide +kernel
theorem dX6_isGoodBy_167 : decode cX6_isGoodBy 167 = .ok (.goto 4, 3) := by decide +kernel
theorem dX6_isGoodBy_170 : decode cX6_isGoodBy 170 = .ok (.iconst 0, 1) := by decide +kernel
theorem dX6_isGoodBy_171 : decode cX6_isGoodBy 171 = .ok (.ireturn, 1) := by decide +kernel
def X6_isGoodBy_b155 (y2 : Int32) (y8 : Int32) (w : Wd) : Option (Int32 × Wd) :=
  cl (f_X0_ruleOf y2 0 w) fun r12 w11 =>
  if y8 < r12 then
  (some (0, w11))
  else
  some (1, w11)
set_option maxRecDepth 100000 in
set_option maxHeartbeats 4000000 in
theorem t_X6_isGoodBy_b155 {Z : Cz (Int32 × Wd)} (hZ : OKZ Z SC cX6_isGoodBy RX6 9 (some .boolean) 2) (hE : EndI Z)  (y2 : Int32) (y8 : Int32)  (w : Wd) : BW Z 9 155 [(1, .ref (ph (zY Z) 31)), (2, .int y2), (8, .int y8)] [] w (X6_isGoodBy_b155 y2 y8 w) :=
  bw_iload hZ 2 rfl dX6_isGoodBy_155 <|
  bw_aload_n hZ 0 rfl dX6_isGoodBy_157 <|
  bw_iload_n hZ 1 rfl dX6_isGoodBy_158 <|
  bw_iconst hZ 0 (by decide) dX6_isGoodBy_159 <|
  bw_callVI (As := [.int y2, .int 0]) hZ ml_RX6_201 rc_0 obC_31 (by decide) (c_X0_ruleOf (zl Z) (zY Z) (hZ_S hZ) y2 0 w) rfl rfl (Nat.le_of_ble_eq_true rfl) dX6_isGoodBy_160 fun r12 w11 =>
  bw_icmp_lt hZ (tgt := 170) (by decide) dX6_isGoodBy_163 (fun _ =>
  bw_iconst hZ 0 (by decide) dX6_isGoodBy_170 <|
  bw_zret hZ hE (by decide) dX6_isGoodBy_171) (fun _ =>
  bw_iconst hZ 1 (by decide) dX6_isGoodBy_166 <|
  bw_goto hZ (tgt := 171) (by decide) dX6_isGoodBy_167 <|
  bw_zret hZ hE (by decide) dX6_isGoodBy_171)
def X6_isGoodBy_b140 (y2 : Int32) (y3 : Int32) (t0 : Int32) (w : Wd) : Option (Int32 × Wd) :=
  cl (f_J6_bitCount_0f7a4 t0 w) fun r10 w9 =>
  if (y3 &&& 8) = 0 then
  (X6_isGoodBy_b155 y2 r10 w9)
  else
  X6_isGoodBy_b155 y2 (r10 + 1) w9
set_option maxRecDepth 100000 in
set_option maxHeartbeats 4000000 in
theorem t_X6_isGoodBy_b140 {Z : Cz (Int32 × Wd)} (hZ : OKZ Z SC cX6_isGoodBy RX6 9 (some .boolean) 2) (hE : EndI Z)  (y2 : Int32) (y3 : Int32) (t0 : Int32)  (w : Wd) : BW Z 9 140 [(1, .ref (ph (zY Z) 31)), (2, .int y2), (3, .int y3)] [.int t0] w (X6_isGoodBy_b140 y2 y3 t0 w) :=
  bw_callSI (As := [.int t0]) hZ ms_RX6_157 (by decide) (c_J6_bitCount_0f7a4 (zl Z) (zY Z) (hZ_S hZ) t0 w) rfl rfl (Nat.le_of_ble_eq_true rfl) dX6_isGoodBy_140 fun r10 w9 =>
  bw_istore hZ (by decide) rfl dX6_isGoodBy_143 <|
  bw_iload_n hZ 3 rfl dX6_isGoodBy_145 <|
  bw_bipush hZ 8 (by decide) dX6_isGoodBy_146 <|
  bw_iand hZ dX6_isGoodBy_148 <|
  bw_if_eq hZ (tgt := 155) (by decide) dX6_isGoodBy_149 (fun _ =>
  bw_sub [1, 2, 0] rfl (t_X6_isGoodBy_b155 hZ hE y2 r10 w9)) (fun _ =>
  bw_iinc hZ 1 0 rfl (by decide) (by decide) rfl dX6_isGoodBy_152 <|
  bw_sub [1, 2, 0] rfl (t_X6_isGoodBy_b155 hZ hE y2 (r10 + 1) w9))
def X6_isGoodBy_b115 (y0 : Nat) (y2 : Int32) (y3 : Int32) (t0 : Int32) (w : Wd) : Option (Int32 × Wd) :=
  if t0 = 0 then
  (X6_isGoodBy_b140 y2 y3 (w.1 y0 2) w)
  else
  X6_isGoodBy_b140 y2 y3 ((w.1 y0 2) &&& ((w.1 y0 16) ^^^ ((-1)))) w
set_option maxRecDepth 100000 in
set_option maxHeartbeats 4000000 in
theorem t_X6_isGoodBy_b115 {Z : Cz (Int32 × Wd)} (hZ : OKZ Z SC cX6_isGoodBy RX6 9 (some .boolean) 2) (hE : EndI Z)  (y0 : Nat) (y2 : Int32) (y3 : Int32) (t0 : Int32) (hy0 : IsP y0) (w : Wd) : BW Z 9 115 [(0, .ref (ph (zY Z) y0)), (1, .ref (ph (zY Z) 31)), (2, .int y2), (3, .int y3)] [.int t0] w (X6_isGoodBy_b115 y0 y2 y3 t0 w) :=
  bw_istore hZ (by decide) rfl dX6_isGoodBy_115 <|
  bw_iload hZ 0 rfl dX6_isGoodBy_117 <|
  bw_if_eq hZ (tgt := 136) (by decide) dX6_isGoodBy_119 (fun _ =>
  bw_aload_n hZ 1 rfl dX6_isGoodBy_136 <|
  bw_getI hZ fl_RX6_34 (by decide) (obP hy0) dX6_isGoodBy_137 <|
  bw_sub [2, 3, 4] rfl (t_X6_isGoodBy_b140 hZ hE y2 y3 (w.1 y0 2) w)) (fun _ =>
  bw_aload_n hZ 1 rfl dX6_isGoodBy_122 <|
  bw_getI hZ fl_RX6_34 (by decide) (obP hy0) dX6_isGoodBy_123 <|
  bw_aload_n hZ 1 rfl dX6_isGoodBy_126 <|
  bw_getI hZ fl_RX6_62 (by decide) (obP hy0) dX6_isGoodBy_127 <|
  bw_iconst hZ (-1) (by decide) dX6_isGoodBy_130 <|
  bw_ixor hZ dX6_isGoodBy_131 <|
  bw_iand hZ dX6_isGoodBy_132 <|
  bw_goto hZ (tgt := 140) (by decide) dX6_isGoodBy_133 <|
  bw_sub [2, 3, 4] rfl (t_X6_isGoodBy_b140 hZ hE y2 y3 ((w.1 y0 2) &&& ((w.1 y0 16) ^^^ ((-1)))) w))
def X6_isGoodBy_b100 (y0 : Nat) (y2 : Int32) (y3 : Int32) (w : Wd) : Option (Int32 × Wd) :=
  cl (f_X0_ruleOf y2 3 w) fun r8 w7 =>
  if r8 = 1 then
  (X6_isGoodBy_b115 y0 y2 y3 1 w7)
  else
  X6_isGoodBy_b115 y0 y2 y3 0 w7
set_option maxRecDepth 100000 in
set_option maxHeartbeats 4000000 in
theorem t_X6_isGoodBy_b100 {Z : Cz (Int32 × Wd)} (hZ : OKZ Z SC cX6_isGoodBy RX6 9 (some .boolean) 2) (hE : EndI Z)  (y0 : Nat) (y2 : Int32) (y3 : Int32) (hy0 : IsP y0) (w : Wd) : BW Z 9 100 [(0, .ref (ph (zY Z) y0)), (1, .ref (ph (zY Z) 31)), (2, .int y2), (3, .int y3)] [] w (X6_isGoodBy_b100 y0 y2 y3 w) :=
  bw_aload_n hZ 1 rfl dX6_isGoodBy_100 <|
  bw_iload_n hZ 2 rfl dX6_isGoodBy_101 <|
  bw_iconst hZ 3 (by decide) dX6_isGoodBy_102 <|
  bw_callVI (As := [.int y2, .int 3]) hZ ml_RX6_201 rc_0 obC_31 (by decide) (c_X0_ruleOf (zl Z) (zY Z) (hZ_S hZ) y2 3 w) rfl rfl (Nat.le_of_ble_eq_true rfl) dX6_isGoodBy_103 fun r8 w7 =>
  bw_iconst hZ 1 (by decide) dX6_isGoodBy_106 <|
  bw_icmp_ne hZ (tgt := 114) (by decide) dX6_isGoodBy_107 (fun _ =>
  bw_iconst hZ 0 (by decide) dX6_isGoodBy_114 <|
  bw_sub [0, 1, 2, 3] rfl (t_X6_isGoodBy_b115 hZ hE y0 y2 y3 0 hy0 w7)) (fun _ =>
  bw_iconst hZ 1 (by decide) dX6_isGoodBy_110 <|
  bw_goto hZ (tgt := 115) (by decide) dX6_isGoodBy_111 <|
  bw_sub [0, 1, 2, 3] rfl (t_X6_isGoodBy_b115 hZ hE y0 y2 y3 1 hy0 w7))
def X6_isGoodBy_b84 (y0 : Nat) (y2 : Int32) (y3 : Int32) (y5 : Int32) (w : Wd) : Option (Int32 × Wd) :=
  if y5 = 0 then
  (X6_isGoodBy_b100 y0 y2 y3 w)
  else
  cl (f_X0_ruleOf y2 1 w) fun r14 w13 =>
  if r14 = 0 then
  (X6_isGoodBy_b100 y0 y2 y3 w13)
  else
  some (1, w13)
set_option maxRecDepth 100000 in
set_option maxHeartbeats 4000000 in
theorem t_X6_isGoodBy_b84 {Z : Cz (Int32 × Wd)} (hZ : OKZ Z SC cX6_isGoodBy RX6 9 (some .boolean) 2) (hE : EndI Z)  (y0 : Nat) (y2 : Int32) (y3 : Int32) (y5 : Int32) (hy0 : IsP y0) (w : Wd) : BW Z 9 84 [(0, .ref (ph (zY Z) y0)), (1, .ref (ph (zY Z) 31)), (2, .int y2), (3, .int y3), (5, .int y5)] [] w (X6_isGoodBy_b84 y0 y2 y3 y5 w) :=
  bw_iload hZ 4 rfl dX6_isGoodBy_84 <|
  bw_if_eq hZ (tgt := 100) (by decide) dX6_isGoodBy_86 (fun _ =>
  bw_sub [0, 1, 2, 3] rfl (t_X6_isGoodBy_b100 hZ hE y0 y2 y3 hy0 w)) (fun _ =>
  bw_aload_n hZ 1 rfl dX6_isGoodBy_89 <|
  bw_iload_n hZ 2 rfl dX6_isGoodBy_90 <|
  bw_iconst hZ 1 (by decide) dX6_isGoodBy_91 <|
  bw_callVI (As := [.int y2, .int 1]) hZ ml_RX6_201 rc_0 obC_31 (by decide) (c_X0_ruleOf (zl Z) (zY Z) (hZ_S hZ) y2 1 w) rfl rfl (Nat.le_of_ble_eq_true rfl) dX6_isGoodBy_92 fun r14 w13 =>
  bw_if_eq hZ (tgt := 100) (by decide) dX6_isGoodBy_95 (fun _ =>
  bw_sub [0, 1, 2, 3] rfl (t_X6_isGoodBy_b100 hZ hE y0 y2 y3 hy0 w13)) (fun _ =>
  bw_iconst hZ 1 (by decide) dX6_isGoodBy_98 <|
  bw_zret hZ hE (by decide) dX6_isGoodBy_99))
def X6_isGoodBy_b61 (y0 : Nat) (y2 : Int32) (y3 : Int32) (y4 : Int32) (y5 : Int32) (t0 : Int32) (w : Wd) : Option (Int32 × Wd) :=
  if y4 = 0 then
  (some (0, w))
  else
  if t0 = 0 then
  (X6_isGoodBy_b84 y0 y2 y3 y5 w)
  else
  cl (f_X0_ruleOf y2 2 w) fun r16 w15 =>
  if r16 = 0 then
  (some (0, w15))
  else
  X6_isGoodBy_b84 y0 y2 y3 y5 w15
set_option maxRecDepth 100000 in
set_option maxHeartbeats 4000000 in
theorem t_X6_isGoodBy_b61 {Z : Cz (Int32 × Wd)} (hZ : OKZ Z SC cX6_isGoodBy RX6 9 (some .boolean) 2) (hE : EndI Z)  (y0 : Nat) (y2 : Int32) (y3 : Int32) (y4 : Int32) (y5 : Int32) (t0 : Int32) (hy0 : IsP y0) (w : Wd) : BW Z 9 61 [(0, .ref (ph (zY Z) y0)), (1, .ref (ph (zY Z) 31)), (2, .int y2), (3, .int y3), (4, .int y4), (5, .int y5)] [.int t0] w (X6_isGoodBy_b61 y0 y2 y3 y4 y5 t0 w) :=
  bw_istore hZ (by decide) rfl dX6_isGoodBy_61 <|
  bw_iload hZ 5 rfl dX6_isGoodBy_63 <|
  bw_if_eq hZ (tgt := 82) (by decide) dX6_isGoodBy_65 (fun _ =>
  bw_iconst hZ 0 (by decide) dX6_isGoodBy_82 <|
  bw_zret hZ hE (by decide) dX6_isGoodBy_83) (fun _ =>
  bw_iload hZ 0 rfl dX6_isGoodBy_68 <|
  bw_if_eq hZ (tgt := 84) (by decide) dX6_isGoodBy_70 (fun _ =>
  bw_sub [1, 2, 3, 4, 6] rfl (t_X6_isGoodBy_b84 hZ hE y0 y2 y3 y5 hy0 w)) (fun _ =>
  bw_aload_n hZ 2 rfl dX6_isGoodBy_73 <|
  bw_iload_n hZ 3 rfl dX6_isGoodBy_74 <|
  bw_iconst hZ 2 (by decide) dX6_isGoodBy_75 <|
  bw_callVI (As := [.int y2, .int 2]) hZ ml_RX6_201 rc_0 obC_31 (by decide) (c_X0_ruleOf (zl Z) (zY Z) (hZ_S hZ) y2 2 w) rfl rfl (Nat.le_of_ble_eq_true rfl) dX6_isGoodBy_76 fun r16 w15 =>
  bw_if_ne hZ (tgt := 84) (by decide) dX6_isGoodBy_79 (fun _ =>
  bw_sub [1, 2, 3, 4, 6] rfl (t_X6_isGoodBy_b84 hZ hE y0 y2 y3 y5 hy0 w15)) (fun _ =>
  bw_iconst hZ 0 (by decide) dX6_isGoodBy_82 <|
  bw_zret hZ hE (by decide) dX6_isGoodBy_83)))
def X6_isGoodBy_b40 (y0 : Nat) (y2 : Int32) (y3 : Int32) (y4 : Int32) (t0 : Int32) (w : Wd) : Option (Int32 × Wd) :=
  cl (f_X6_isMarked y0 2 w) fun r6 w5 =>
  if r6 = 0 then
  (X6_isGoodBy_b61 y0 y2 y3 y4 t0 0 w5)
  else
  if (y3 &&& 4) = 0 then
  (X6_isGoodBy_b61 y0 y2 y3 y4 t0 1 w5)
  else
  X6_isGoodBy_b61 y0 y2 y3 y4 t0 0 w5
set_option maxRecDepth 100000 in
set_option maxHeartbeats 4000000 in
theorem t_X6_isGoodBy_b40 {Z : Cz (Int32 × Wd)} (hZ : OKZ Z SC cX6_isGoodBy RX6 9 (some .boolean) 2) (hE : EndI Z)  (y0 : Nat) (y2 : Int32) (y3 : Int32) (y4 : Int32) (t0 : Int32) (hy0 : IsP y0) (w : Wd) : BW Z 9 40 [(0, .ref (ph (zY Z) y0)), (1, .ref (ph (zY Z) 31)), (2, .int y2), (3, .int y3), (4, .int y4)] [.int t0] w (X6_isGoodBy_b40 y0 y2 y3 y4 t0 w) :=
  bw_istore hZ (by decide) rfl dX6_isGoodBy_40 <|
  bw_aload_n hZ 1 rfl dX6_isGoodBy_42 <|
  bw_iconst hZ 2 (by decide) dX6_isGoodBy_43 <|
  bw_callVI (As := [.int 2]) hZ ml_RX6_147 rc_6 (obP hy0) (by decide) (c_X6_isMarked (zl Z) (zY Z) (hZ_S hZ) y0 2 hy0 w) rfl rfl (Nat.le_of_ble_eq_true rfl) dX6_isGoodBy_44 fun r6 w5 =>
  bw_if_eq hZ (tgt := 60) (by decide) dX6_isGoodBy_47 (fun _ =>
  bw_iconst hZ 0 (by decide) dX6_isGoodBy_60 <|
  bw_sub [1, 2, 3, 4, 5, 0] rfl (t_X6_isGoodBy_b61 hZ hE y0 y2 y3 y4 t0 0 hy0 w5)) (fun _ =>
  bw_iload_n hZ 4 rfl dX6_isGoodBy_50 <|
  bw_iconst hZ 4 (by decide) dX6_isGoodBy_51 <|
  bw_iand hZ dX6_isGoodBy_52 <|
  bw_if_ne hZ (tgt := 60) (by decide) dX6_isGoodBy_53 (fun _ =>
  bw_iconst hZ 0 (by decide) dX6_isGoodBy_60 <|
  bw_sub [1, 2, 3, 4, 5, 0] rfl (t_X6_isGoodBy_b61 hZ hE y0 y2 y3 y4 t0 0 hy0 w5)) (fun _ =>
  bw_iconst hZ 1 (by decide) dX6_isGoodBy_56 <|
  bw_goto hZ (tgt := 61) (by decide) dX6_isGoodBy_57 <|
  bw_sub [1, 2, 3, 4, 5, 0] rfl (t_X6_isGoodBy_b61 hZ hE y0 y2 y3 y4 t0 1 hy0 w5)))
def X6_isGoodBy_b19 (y0 : Nat) (y2 : Int32) (y3 : Int32) (t0 : Int32) (w : Wd) : Option (Int32 × Wd) :=
  cl (f_X6_isMarked y0 1 w) fun r4 w3 =>
  if r4 = 0 then
  (if (y3 &&& 2) = 0 then
  (X6_isGoodBy_b40 y0 y2 y3 t0 0 w3)
  else
  X6_isGoodBy_b40 y0 y2 y3 t0 1 w3)
  else
  X6_isGoodBy_b40 y0 y2 y3 t0 1 w3
set_option maxRecDepth 100000 in
set_option maxHeartbeats 4000000 in
theorem t_X6_isGoodBy_b19 {Z : Cz (Int32 × Wd)} (hZ : OKZ Z SC cX6_isGoodBy RX6 9 (some .boolean) 2) (hE : EndI Z)  (y0 : Nat) (y2 : Int32) (y3 : Int32) (t0 : Int32) (hy0 : IsP y0) (w : Wd) : BW Z 9 19 [(0, .ref (ph (zY Z) y0)), (1, .ref (ph (zY Z) 31)), (2, .int y2), (3, .int y3)] [.int t0] w (X6_isGoodBy_b19 y0 y2 y3 t0 w) :=
  bw_istore hZ (by decide) rfl dX6_isGoodBy_19 <|
  bw_aload_n hZ 1 rfl dX6_isGoodBy_21 <|
  bw_iconst hZ 1 (by decide) dX6_isGoodBy_22 <|
  bw_callVI (As := [.int 1]) hZ ml_RX6_147 rc_6 (obP hy0) (by decide) (c_X6_isMarked (zl Z) (zY Z) (hZ_S hZ) y0 1 hy0 w) rfl rfl (Nat.le_of_ble_eq_true rfl) dX6_isGoodBy_23 fun r4 w3 =>
  bw_if_ne hZ (tgt := 35) (by decide) dX6_isGoodBy_26 (fun _ =>
  bw_iconst hZ 1 (by decide) dX6_isGoodBy_35 <|
  bw_goto hZ (tgt := 40) (by decide) dX6_isGoodBy_36 <|
  bw_sub [1, 2, 3, 4, 0] rfl (t_X6_isGoodBy_b40 hZ hE y0 y2 y3 t0 1 hy0 w3)) (fun _ =>
  bw_iload_n hZ 4 rfl dX6_isGoodBy_29 <|
  bw_iconst hZ 2 (by decide) dX6_isGoodBy_30 <|
  bw_iand hZ dX6_isGoodBy_31 <|
  bw_if_eq hZ (tgt := 39) (by decide) dX6_isGoodBy_32 (fun _ =>
  bw_iconst hZ 0 (by decide) dX6_isGoodBy_39 <|
  bw_sub [1, 2, 3, 4, 0] rfl (t_X6_isGoodBy_b40 hZ hE y0 y2 y3 t0 0 hy0 w3)) (fun _ =>
  bw_iconst hZ 1 (by decide) dX6_isGoodBy_35 <|
  bw_goto hZ (tgt := 40) (by decide) dX6_isGoodBy_36 <|
  bw_sub [1, 2, 3, 4, 0] rfl (t_X6_isGoodBy_b40 hZ hE y0 y2 y3 t0 1 hy0 w3)))
def f_X6_isGoodBy (o0 : Nat) (x2 : Int32) (x3 : Int32) (w : Wd) : Option (Int32 × Wd) :=
  cl (f_X6_isMarked o0 4 w) fun r2 w1 =>
  if r2 = 0 then
  (if (x3 &&& 1) = 0 then
  (X6_isGoodBy_b19 o0 x2 x3 0 w1)
  else
  X6_isGoodBy_b19 o0 x2 x3 1 w1)
  else
  X6_isGoodBy_b19 o0 x2 x3 1 w1
set_option maxRecDepth 100000 in
set_option maxHeartbeats 4000000 in
theorem t_X6_isGoodBy {Z : Cz (Int32 × Wd)} (hZ : OKZ Z SC cX6_isGoodBy RX6 9 (some .boolean) 2) (hE : EndI Z) (o0 : Nat) (x2 : Int32) (x3 : Int32) (ho0 : IsP o0) (w : Wd) : BW Z 9 0 [(0, .ref (ph (zY Z) o0)), (1, .ref (ph (zY Z) 31)), (2, .int x2), (3, .int x3)] [] w (f_X6_isGoodBy o0 x2 x3 w) :=
  bw_aload_n hZ 0 rfl dX6_isGoodBy_0 <|
  bw_iconst hZ 4 (by decide) dX6_isGoodBy_1 <|
  bw_callVI (As := [.int 4]) hZ ml_RX6_147 rc_6 (obP ho0) (by decide) (c_X6_isMarked (zl Z) (zY Z) (hZ_S hZ) o0 4 ho0 w) rfl rfl (Nat.le_of_ble_eq_true rfl) dX6_isGoodBy_2 fun r2 w1 =>
  bw_if_ne hZ (tgt := 14) (by decide) dX6_isGoodBy_5 (fun _ =>
  bw_iconst hZ 1 (by decide) dX6_isGoodBy_14 <|
  bw_goto hZ (tgt := 19) (by decide) dX6_isGoodBy_15 <|
  bw_sub [0, 1, 2, 3] rfl (t_X6_isGoodBy_b19 hZ hE o0 x2 x3 1 ho0 w1)) (fun _ =>
  bw_iload_n hZ 3 rfl dX6_isGoodBy_8 <|
  bw_iconst hZ 1 (by decide) dX6_isGoodBy_9 <|
  bw_iand hZ dX6_isGoodBy_10 <|
  bw_if_eq hZ (tgt := 18) (by decide) dX6_isGoodBy_11 (fun _ =>
  bw_iconst hZ 0 (by decide) dX6_isGoodBy_18 <|
  bw_sub [0, 1, 2, 3] rfl (t_X6_isGoodBy_b19 hZ hE o0 x2 x3 0 ho0 w1)) (fun _ =>
  bw_iconst hZ 1 (by decide) dX6_isGoodBy_14 <|
  bw_goto hZ (tgt := 19) (by decide) dX6_isGoodBy_15 <|
  bw_sub [0, 1, 2, 3] rfl (t_X6_isGoodBy_b19 hZ hE o0 x2 x3 1 ho0 w1)))
theorem c_X6_isGoodBy (l : Launch) (Y : Ev) (hY : Y.1 = SC) (o0 : Nat) (x2 : Int32) (x3 : Int32) (ho0 : IsP o0) (w : Wd) : CI l Y yX6_isGoodBy cX6_isGoodBy 9 2 [.ref (ph Y o0), .ref (ph Y 31), .int x2, .int x3] w .boolean (f_X6_isGoodBy o0 x2 x3 w) := by
  refine CI_of (S := SC) (by decide) (Nat.le_of_ble_eq_true rfl) hY ?_
  intro Z hl hY2 hZ hE
  subst hY2
  exact t_X6_isGoodBy hZ hE o0 x2 x3 ho0 w
-- WhichWill$Standing.effectOf
theorem dX8_effectOf_0 : decode cX8_effectOf 0 = .ok (.aload_n 0, 1) := by decide +kernel
theorem dX8_effectOf_1 : decode cX8_effectOf 1 = .ok (.getfield 18, 3) := by decide +kernel
theorem dX8_effectOf_4 : decode cX8_effectOf 4 = .ok (.getfield 22, 3) := by decide +kernel
theorem dX8_effectOf_7 : decode cX8_effectOf 7 = .ok (.astore_n 3, 1) := by decide +kernel
theorem dX8_effectOf_8 : decode cX8_effectOf 8 = .ok (.iload_n 1, 1) := by decide +kernel
theorem dX8_effectOf_9 : decode cX8_effectOf 9 = .ok (.tableswitch 97 0 4 #[35, 50, 97, 65, 81], 35) := by decide +kernel
theorem dX8_effectOf_44 : decode cX8_effectOf 44 = .ok (.aload_n 3, 1) := by decide +kernel
theorem dX8_effectOf_45 : decode cX8_effectOf 45 = .ok (.iload_n 2, 1) := by decide +kernel
theorem dX8_effectOf_46 : decode cX8_effectOf 46 = .ok (.iconst 4, 1) := by decide +kernel
theorem dX8_effectOf_47 : decode cX8_effectOf 47 = .ok (.invokevirtual 30, 3) := by decide +kernel
theorem dX8_effectOf_50 : decode cX8_effectOf 50 = .ok (.ifCond .eq 7, 3) := by decide +kernel
theorem dX8_effectOf_53 : decode cX8_effectOf 53 = .ok (.iconst 1, 1) := by decide +kernel
theorem dX8_effectOf_54 : decode cX8_effectOf 54 = .ok (.goto 4, 3) := by decide +kernel
theorem dX8_effectOf_57 : decode cX8_effectOf 57 = .ok (.iconst 0, 1) := by decide +kernel
theorem dX8_effectOf_58 : decode cX8_effectOf 58 = .ok (.ireturn, 1) := by decide +kernel
theorem dX8_effectOf_59 : decode cX8_effectOf 59 = .ok (.aload_n 3, 1) := by decide +kernel
theorem dX8_effectOf_60 : decode cX8_effectOf 60 = .ok (.iload_n 2, 1) := by decide +kernel
theorem dX8_effectOf_61 : decode cX8_effectOf 61 = .ok (.iconst 5, 1) := by decide +kernel
theorem dX8_effectOf_62 : decode cX8_effectOf 62 = .ok (.invokevirtual 30, 3) := by decide +kernel
theorem dX8_effectOf_65 : decode cX8_effectOf 65 = .ok (.ifCond .eq 7, 3) := by decide +kernel
theorem dX8_effectOf_68 : decode cX8_effectOf 68 = .ok (.iconst 2, 1) := by decide +kernel
theorem dX8_effectOf_69 : decode cX8_effectOf 69 = .ok (.goto 4, 3) := by decide +kernel
theorem dX8_effectOf_72 : decode cX8_effectOf 72 = .ok (.iconst 0, 1) := by decide +kernel
theorem dX8_effectOf_73 : decode cX8_effectOf 73 = .ok (.ireturn, 1) := by decide +kernel
theorem dX8_effectOf_74 : decode cX8_effectOf 74 = .ok (.aload_n 3, 1) := by decide +kernel
theorem dX8_effectOf_75 : decode cX8_effectOf 75 = .ok (.iload_n 2, 1) := by decide +kernel
theorem dX8_effectOf_76 : decode cX8_effectOf 76 = .ok (.bipush 6, 2) := by decide +kernel
theorem dX8_effectOf_78 : decode cX8_effectOf 78 = .ok (.invokevirtual 30, 3) := by decide +kernel
theorem dX8_effectOf_81 : decode cX8_effectOf 81 = .ok (.ifCond .eq 7, 3) := by decide +kernel
theorem dX8_effectOf_84 : decode cX8_effectOf 84 = .ok (.iconst 3, 1) := by decide +kernel
theorem dX8_effectOf_85 : decode cX8_effectOf 85 = .ok (.goto 4, 3) := by decide +kernel
theorem dX8_effectOf_88 : decode cX8_effectOf 88 = .ok (.iconst 0, 1) := by decide +kernel
theorem dX8_effectOf_89 : decode cX8_effectOf 89 = .ok (.ireturn, 1) := by decide +kernel
theorem dX8_effectOf_90 : decode cX8_effectOf 90 = .ok (.aload_n 3, 1) := by decide +kernel
theorem dX8_effectOf_91 : decode cX8_effectOf 91 = .ok (.iload_n 2, 1) := by decide +kernel
theorem dX8_effectOf_92 : decode cX8_effectOf 92 = .ok (.bipush 8, 2) := by decide +kernel
theorem dX8_effectOf_94 : decode cX8_effectOf 94 = .ok (.invokevirtual 30, 3) := by decide +kernel
theorem dX8_effectOf_97 : decode cX8_effectOf 97 = .ok (.ifCond .eq 7, 3) := by decide +kernel
theorem dX8_effectOf_100 : decode cX8_effectOf 100 = .ok (.iconst 3, 1) := by decide +kernel
theorem dX8_effectOf_101 : decode cX8_effectOf 101 = .ok (.goto 4, 3) := by decide +kernel
theorem dX8_effectOf_104 : decode cX8_effectOf 104 = .ok (.iconst 0, 1) := by decide +kernel
theorem dX8_effectOf_105 : decode cX8_effectOf 105 = .ok (.ireturn, 1) := by decide +kernel
theorem dX8_effectOf_106 : decode cX8_effectOf 106 = .ok (.iconst 3, 1) := by decide +kernel
theorem dX8_effectOf_107 : decode cX8_effectOf 107 = .ok (.ireturn, 1) := by decide +kernel
def f_X8_effectOf (o0 : Nat) (x1 : Int32) (x2 : Int32) (w : Wd) : Option (Int32 × Wd) :=
  if x1 = 0 then
  (cl (f_X0_ruleOf x2 4 w) fun r8 w7 =>
  if r8 = 0 then
  (some (0, w7))
  else
  some (1, w7))
  else
  if x1 = 1 then
  (cl (f_X0_ruleOf x2 5 w) fun r6 w5 =>
  if r6 = 0 then
  (some (0, w5))
  else
  some (2, w5))
  else
  if x1 = 2 then
  (some (3, w))
  else
  if x1 = 3 then
  (cl (f_X0_ruleOf x2 6 w) fun r4 w3 =>
  if r4 = 0 then
  (some (0, w3))
  else
  some (3, w3))
  else
  if x1 = 4 then
  (cl (f_X0_ruleOf x2 8 w) fun r2 w1 =>
  if r2 = 0 then
  (some (0, w1))
  else
  some (3, w1))
  else
  some (3, w)
set_option maxRecDepth 100000 in
set_option maxHeartbeats 4000000 in
theorem t_X8_effectOf {Z : Cz (Int32 × Wd)} (hZ : OKZ Z SC cX8_effectOf RX8 4 (some .int) 2) (hE : EndI Z) (o0 : Nat) (x1 : Int32) (x2 : Int32) (ho0 : IsS o0) (w : Wd) : BW Z 4 0 [(0, .ref (ph (zY Z) o0)), (1, .int x1), (2, .int x2)] [] w (f_X8_effectOf o0 x1 x2 w) :=
  bw_aload_n hZ 0 rfl dX8_effectOf_0 <|
  bw_getR hZ fl_RX8_18 (obS ho0) (rfS2 ho0) dX8_effectOf_1 <|
  bw_getR hZ fl_RX8_22 obC_3 rfl dX8_effectOf_4 <|
  bw_astore_n hZ rfl (by decide) rfl dX8_effectOf_7 <|
  bw_iload_n hZ 2 rfl dX8_effectOf_8 <|
  bw_if (fun h => bw_tabIn hZ (tgt := 44) (off := 35) 0 (by rw [h]; decide) (by decide) (by decide) (by decide) (by decide) dX8_effectOf_9 <|
  bw_aload_n hZ 0 rfl dX8_effectOf_44 <|
  bw_iload_n hZ 3 rfl dX8_effectOf_45 <|
  bw_iconst hZ 4 (by decide) dX8_effectOf_46 <|
  bw_callVI (As := [.int x2, .int 4]) hZ ml_RX8_30 rc_0 obC_31 (by decide) (c_X0_ruleOf (zl Z) (zY Z) (hZ_S hZ) x2 4 w) rfl rfl (Nat.le_of_ble_eq_true rfl) dX8_effectOf_47 fun r8 w7 =>
  bw_if_eq hZ (tgt := 57) (by decide) dX8_effectOf_50 (fun _ =>
  bw_iconst hZ 0 (by decide) dX8_effectOf_57 <|
  bw_iret hZ hE dX8_effectOf_58) (fun _ =>
  bw_iconst hZ 1 (by decide) dX8_effectOf_53 <|
  bw_goto hZ (tgt := 58) (by decide) dX8_effectOf_54 <|
  bw_iret hZ hE dX8_effectOf_58)) (fun h0 =>
  bw_if (fun h => bw_tabIn hZ (tgt := 59) (off := 50) 1 (by rw [h]; decide) (by decide) (by decide) (by decide) (by decide) dX8_effectOf_9 <|
  bw_aload_n hZ 0 rfl dX8_effectOf_59 <|
  bw_iload_n hZ 3 rfl dX8_effectOf_60 <|
  bw_iconst hZ 5 (by decide) dX8_effectOf_61 <|
  bw_callVI (As := [.int x2, .int 5]) hZ ml_RX8_30 rc_0 obC_31 (by decide) (c_X0_ruleOf (zl Z) (zY Z) (hZ_S hZ) x2 5 w) rfl rfl (Nat.le_of_ble_eq_true rfl) dX8_effectOf_62 fun r6 w5 =>
  bw_if_eq hZ (tgt := 72) (by decide) dX8_effectOf_65 (fun _ =>
  bw_iconst hZ 0 (by decide) dX8_effectOf_72 <|
  bw_iret hZ hE dX8_effectOf_73) (fun _ =>
  bw_iconst hZ 2 (by decide) dX8_effectOf_68 <|
  bw_goto hZ (tgt := 73) (by decide) dX8_effectOf_69 <|
  bw_iret hZ hE dX8_effectOf_73)) (fun h1 =>
  bw_if (fun h => bw_tabIn hZ (tgt := 106) (off := 97) 2 (by rw [h]; decide) (by decide) (by decide) (by decide) (by decide) dX8_effectOf_9 <|
  bw_iconst hZ 3 (by decide) dX8_effectOf_106 <|
  bw_iret hZ hE dX8_effectOf_107) (fun h2 =>
  bw_if (fun h => bw_tabIn hZ (tgt := 74) (off := 65) 3 (by rw [h]; decide) (by decide) (by decide) (by decide) (by decide) dX8_effectOf_9 <|
  bw_aload_n hZ 0 rfl dX8_effectOf_74 <|
  bw_iload_n hZ 3 rfl dX8_effectOf_75 <|
  bw_bipush hZ 6 (by decide) dX8_effectOf_76 <|
  bw_callVI (As := [.int x2, .int 6]) hZ ml_RX8_30 rc_0 obC_31 (by decide) (c_X0_ruleOf (zl Z) (zY Z) (hZ_S hZ) x2 6 w) rfl rfl (Nat.le_of_ble_eq_true rfl) dX8_effectOf_78 fun r4 w3 =>
  bw_if_eq hZ (tgt := 88) (by decide) dX8_effectOf_81 (fun _ =>
  bw_iconst hZ 0 (by decide) dX8_effectOf_88 <|
  bw_iret hZ hE dX8_effectOf_89) (fun _ =>
  bw_iconst hZ 3 (by decide) dX8_effectOf_84 <|
  bw_goto hZ (tgt := 89) (by decide) dX8_effectOf_85 <|
  bw_iret hZ hE dX8_effectOf_89)) (fun h3 =>
  bw_if (fun h => bw_tabIn hZ (tgt := 90) (off := 81) 4 (by rw [h]; decide) (by decide) (by decide) (by decide) (by decide) dX8_effectOf_9 <|
  bw_aload_n hZ 0 rfl dX8_effectOf_90 <|
  bw_iload_n hZ 3 rfl dX8_effectOf_91 <|
  bw_bipush hZ 8 (by decide) dX8_effectOf_92 <|
  bw_callVI (As := [.int x2, .int 8]) hZ ml_RX8_30 rc_0 obC_31 (by decide) (c_X0_ruleOf (zl Z) (zY Z) (hZ_S hZ) x2 8 w) rfl rfl (Nat.le_of_ble_eq_true rfl) dX8_effectOf_94 fun r2 w1 =>
  bw_if_eq hZ (tgt := 104) (by decide) dX8_effectOf_97 (fun _ =>
  bw_iconst hZ 0 (by decide) dX8_effectOf_104 <|
  bw_iret hZ hE dX8_effectOf_105) (fun _ =>
  bw_iconst hZ 3 (by decide) dX8_effectOf_100 <|
  bw_goto hZ (tgt := 105) (by decide) dX8_effectOf_101 <|
  bw_iret hZ hE dX8_effectOf_105)) (fun h4 =>
  bw_tabOut hZ (tgt := 106) (by have q0 := ne_int h0 (n := 0) (by decide); have q1 := ne_int h1 (n := 1) (by decide); have q2 := ne_int h2 (n := 2) (by decide); have q3 := ne_int h3 (n := 3) (by decide); have q4 := ne_int h4 (n := 4) (by decide); omega) (by decide) dX8_effectOf_9 <|
  bw_iconst hZ 3 (by decide) dX8_effectOf_106 <|
  bw_iret hZ hE dX8_effectOf_107)))))
theorem c_X8_effectOf (l : Launch) (Y : Ev) (hY : Y.1 = SC) (o0 : Nat) (x1 : Int32) (x2 : Int32) (ho0 : IsS o0) (w : Wd) : CI l Y yX8_effectOf cX8_effectOf 4 2 [.ref (ph Y o0), .int x1, .int x2] w .int (f_X8_effectOf o0 x1 x2 w) := by
  refine CI_of (S := SC) (by decide) (Nat.le_of_ble_eq_true rfl) hY ?_
  intro Z hl hY2 hZ hE
  subst hY2
  exact t_X8_effectOf hZ hE o0 x1 x2 ho0 w
