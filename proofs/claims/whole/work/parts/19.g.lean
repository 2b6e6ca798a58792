-- WhichWillModel.event
theorem dX12_event_0 : decode cX12_event 0 = .ok (.iload_n 1, 1) := by decide +kernel
theorem dX12_event_1 : decode cX12_event 1 = .ok (.i2l, 1) := by decide +kernel
theorem dX12_event_2 : decode cX12_event 2 = .ok (.lconst 0, 1) := by decide +kernel
theorem dX12_event_3 : decode cX12_event 3 = .ok (.ldc2_w 533, 3) := by decide +kernel
theorem dX12_event_6 : decode cX12_event 6 = .ok (.invokestatic 60, 3) := by decide +kernel
theorem dX12_event_9 : decode cX12_event 9 = .ok (.ifCond .eq 57, 3) := by decide +kernel
theorem dX12_event_12 : decode cX12_event 12 = .ok (.iload_n 1, 1) := by decide +kernel
theorem dX12_event_13 : decode cX12_event 13 = .ok (.iconst 1, 1) := by decide +kernel
theorem dX12_event_14 : decode cX12_event 14 = .ok (.if_icmp .le 11, 3) := by decide +kernel
theorem dX12_event_17 : decode cX12_event 17 = .ok (.aload_n 0, 1) := by decide +kernel
theorem dX12_event_18 : decode cX12_event 18 = .ok (.iload_n 2, 1) := by decide +kernel
theorem dX12_event_19 : decode cX12_event 19 = .ok (.invokevirtual 525, 3) := by decide +kernel
theorem dX12_event_22 : decode cX12_event 22 = .ok (.ifCond .eq 44, 3) := by decide +kernel
theorem dX12_event_25 : decode cX12_event 25 = .ok (.iload_n 3, 1) := by decide +kernel
theorem dX12_event_26 : decode cX12_event 26 = .ok (.i2l, 1) := by decide +kernel
theorem dX12_event_27 : decode cX12_event 27 = .ok (.lconst 0, 1) := by decide +kernel
theorem dX12_event_28 : decode cX12_event 28 = .ok (.ldc2_w 535, 3) := by decide +kernel
theorem dX12_event_31 : decode cX12_event 31 = .ok (.invokestatic 60, 3) := by decide +kernel
theorem dX12_event_34 : decode cX12_event 34 = .ok (.ifCond .eq 32, 3) := by decide +kernel
theorem dX12_event_37 : decode cX12_event 37 = .ok (.iload 4, 2) := by decide +kernel
theorem dX12_event_39 : decode cX12_event 39 = .ok (.i2l, 1) := by decide +kernel
theorem dX12_event_40 : decode cX12_event 40 = .ok (.iload_n 3, 1) := by decide +kernel
theorem dX12_event_41 : decode cX12_event 41 = .ok (.i2l, 1) := by decide +kernel
theorem dX12_event_42 : decode cX12_event 42 = .ok (.ldc2_w 535, 3) := by decide +kernel
theorem dX12_event_45 : decode cX12_event 45 = .ok (.invokestatic 60, 3) := by decide +kernel
theorem dX12_event_48 : decode cX12_event 48 = .ok (.ifCond .eq 18, 3) := by decide +kernel
theorem dX12_event_51 : decode cX12_event 51 = .ok (.iload 5, 2) := by decide +kernel
theorem dX12_event_53 : decode cX12_event 53 = .ok (.i2l, 1) := by decide +kernel
theorem dX12_event_54 : decode cX12_event 54 = .ok (.ldc2_w 537, 3) := by decide +kernel
theorem dX12_event_57 : decode cX12_event 57 = .ok (.ldc2_w 539, 3) := by decide +kernel
theorem dX12_event_60 : decode cX12_event 60 = .ok (.invokestatic 60, 3) := by decide +kernel
theorem dX12_event_63 : decode cX12_event 63 = .ok (.ifCond .ne 6, 3) := by decide +kernel
theorem dX12_event_66 : decode cX12_event 66 = .ok (.bipush (-2), 2) := by decide +kernel
theorem dX12_event_68 : decode cX12_event 68 = .ok (.ireturn, 1) := by decide +kernel
theorem dX12_event_69 : decode cX12_event 69 = .ok (.aload_n 0, 1) := by decide +kernel
theorem dX12_event_70 : decode cX12_event 70 = .ok (.getfield 434, 3) := by decide +kernel
theorem dX12_event_73 : decode cX12_event 73 = .ok (.iconst 3, 1) := by decide +kernel
theorem dX12_event_74 : decode cX12_event 74 = .ok (.if_icmp .eq 17, 3) := by decide +kernel
theorem dX12_event_77 : decode cX12_event 77 = .ok (.aload_n 0, 1) := by decide +kernel
theorem dX12_event_78 : decode cX12_event 78 = .ok (.getfield 431, 3) := by decide +kernel
theorem dX12_event_81 : decode cX12_event 81 = .ok (.aload_n 0, 1) := by decide +kernel
theorem dX12_event_82 : decode cX12_event 82 = .ok (.getfield 434, 3) := by decide +kernel
theorem dX12_event_85 : decode cX12_event 85 = .ok (.iadd, 1) := by decide +kernel
theorem dX12_event_86 : decode cX12_event 86 = .ok (.bipush 6, 2) := by decide +kernel
theorem dX12_event_88 : decode cX12_event 88 = .ok (.if_icmp .ne 6, 3) := by decide +kernel
theorem dX12_event_91 : decode cX12_event 91 = .ok (.bipush (-3), 2) := by decide +kernel
theorem dX12_event_93 : decode cX12_event 93 = .ok (.ireturn, 1) := by decide +kernel
theorem dX12_event_94 : decode cX12_event 94 = .ok (.aload_n 0, 1) := by decide +kernel
theorem dX12_event_95 : decode cX12_event 95 = .ok (.getfield 324, 3) := by decide +kernel
theorem dX12_event_98 : decode cX12_event 98 = .ok (.aload_n 0, 1) := by decide +kernel
theorem dX12_event_99 : decode cX12_event 99 = .ok (.getfield 434, 3) := by decide +kernel
theorem dX12_event_102 : decode cX12_event 102 = .ok (.iload_n 1, 1) := by decide +kernel
theorem dX12_event_103 : decode cX12_event 103 = .ok (.iastore, 1) := by decide +kernel
theorem dX12_event_104 : decode cX12_event 104 = .ok (.aload_n 0, 1) := by decide +kernel
theorem dX12_event_105 : decode cX12_event 105 = .ok (.getfield 327, 3) := by decide +kernel
theorem dX12_event_108 : decode cX12_event 108 = .ok (.aload_n 0, 1) := by decide +kernel
theorem dX12_event_109 : decode cX12_event 109 = .ok (.getfield 434, 3) := by decide +kernel
theorem dX12_event_112 : decode cX12_event 112 = .ok (.iload_n 2, 1) := by decide +kernel
theorem dX12_event_113 : decode cX12_event 113 = .ok (.iastore, 1) := by decide +kernel
theorem dX12_event_114 : decode cX12_event 114 = .ok (.aload_n 0, 1) := by decide +kernel
theorem dX12_event_115 : decode cX12_event 115 = .ok (.getfield 330, 3) := by decide +kernel
theorem dX12_event_118 : decode cX12_event 118 = .ok (.aload_n 0, 1) := by decide +kernel
theorem dX12_event_119 : decode cX12_event 119 = .ok (.getfield 434, 3) := by decide +kernel
theorem dX12_event_122 : decode cX12_event 122 = .ok (.iload_n 3, 1) := by decide +kernel
theorem dX12_event_123 : decode cX12_event 123 = .ok (.iastore, 1) := by decide +kernel
theorem dX12_event_124 : decode cX12_event 124 = .ok (.aload_n 0, 1) := by decide +kernel
theorem dX12_event_125 : decode cX12_event 125 = .ok (.getfield 333, 3) := by decide +kernel
theorem dX12_event_128 : decode cX12_event 128 = .ok (.aload_n 0, 1) := by decide +kernel
theorem dX12_event_129 : decode cX12_event 129 = .ok (.getfield 434, 3) := by decide +kernel
theorem dX12_event_132 : decode cX12_event 132 = .ok (.iload 4, 2) := by decide +kernel
theorem dX12_event_134 : decode cX12_event 134 = .ok (.iastore, 1) := by decide +kernel
theorem dX12_event_135 : decode cX12_event 135 = .ok (.aload_n 0, 1) := by decide +kernel
theorem dX12_event_136 : decode cX12_event 136 = .ok (.getfield 336, 3) := by decide +kernel
theorem dX12_event_139 : decode cX12_event 139 = .ok (.aload_n 0, 1) := by decide +kernel
theorem dX12_event_140 : decode cX12_event 140 = .ok (.getfield 434, 3) := by decide +kernel
theorem dX12_event_143 : decode cX12_event 143 = .ok (.iload 5, 2) := by decide +kernel
theorem dX12_event_145 : decode cX12_event 145 = .ok (.iastore, 1) := by decide +kernel
theorem dX12_event_146 : decode cX12_event 146 = .ok (.aload_n 0, 1) := by decide +kernel
theorem dX12_event_147 : decode cX12_event 147 = .ok (.dup, 1) := by decide +kernel
theorem dX12_event_148 : decode cX12_event 148 = .ok (.getfield 434, 3) := by decide +kernel
theorem dX12_event_151 : decode cX12_event 151 = .ok (.iconst 1, 1) := by decide +kernel
theorem dX12_event_152 : decode cX12_event 152 = .ok (.iadd, 1) := by decide +kernel
theorem dX12_event_153 : decode cX12_event 153 = .ok (.putfield 434, 3) := by decide +kernel
theorem dX12_event_156 : decode cX12_event 156 = .ok (.aload_n 0, 1) := by decide +kernel
theorem dX12_event_157 : decode cX12_event 157 = .ok (.invokevirtual 396, 3) := by decide +kernel
theorem dX12_event_160 : decode cX12_event 160 = .ok (.aload_n 0, 1) := by decide +kernel
theorem dX12_event_161 : decode cX12_event 161 = .ok (.getfield 434, 3) := by decide +kernel
theorem dX12_event_164 : decode cX12_event 164 = .ok (.iconst 1, 1) := by decide +kernel
theorem dX12_event_165 : decode cX12_event 165 = .ok (.isub, 1) := by decide +kernel
theorem dX12_event_166 : decode cX12_event 166 = .ok (.ireturn, 1) := by decide +kernel
def X12_event_b25 (y1 : Int32) (y2 : Int32) (y3 : Int32) (y4 : Int32) (y5 : Int32) (w : Wd) : Option (Int32 × Wd) :=
  cl (f_X12_in (Int32.toInt64 y3) 0 9999 w) fun r4 w3 =>
  if r4 = 0 then
  (some ((-2), w3))
  else
  cl (f_X12_in (Int32.toInt64 y4) (Int32.toInt64 y3) 9999 w3) fun r6 w5 =>
  if r6 = 0 then
  (some ((-2), w5))
  else
  cl (f_X12_in (Int32.toInt64 y5) ((-1)) 2 w5) fun r8 w7 =>
  if r8 = 0 then
  (some ((-2), w7))
  else
  if (w7.1 0 50) = 3 then
  (some ((-3), w7))
  else
  if ((w7.1 0 49) + (w7.1 0 50)) = 6 then
  (some ((-3), w7))
  else
  if inb (w7.1 0 50) 3 = true then
  (lt (wI w7 38 (Int32.toNatClampNeg (w7.1 0 50)) y1) fun w9 =>
  if inb (w9.1 0 50) 3 = true then
  (lt (wI w9 39 (Int32.toNatClampNeg (w9.1 0 50)) y2) fun w10 =>
  if inb (w10.1 0 50) 3 = true then
  (lt (wI w10 40 (Int32.toNatClampNeg (w10.1 0 50)) y3) fun w11 =>
  if inb (w11.1 0 50) 3 = true then
  (lt (wI w11 41 (Int32.toNatClampNeg (w11.1 0 50)) y4) fun w12 =>
  if inb (w12.1 0 50) 3 = true then
  (lt (wI w12 42 (Int32.toNatClampNeg (w12.1 0 50)) y5) fun w13 =>
  lt (wI w13 0 50 ((w13.1 0 50) + 1)) fun w14 =>
  cv (f_X12_findOrders w14) fun w15 =>
  some ((w15.1 0 50) - 1, w15))
  else none)
  else none)
  else none)
  else none)
  else none
set_option maxRecDepth 100000 in
set_option maxHeartbeats 4000000 in
theorem t_X12_event_b25 {Z : Cz (Int32 × Wd)} (hZ : OKZ Z SM cX12_event RX12 6 (some .int) 12) (hE : EndI Z)  (y1 : Int32) (y2 : Int32) (y3 : Int32) (y4 : Int32) (y5 : Int32)  (w : Wd) : BW Z 6 25 [(0, .ref (ph (zY Z) 0)), (1, .int y1), (2, .int y2), (3, .int y3), (4, .int y4), (5, .int y5)] [] w (X12_event_b25 y1 y2 y3 y4 y5 w) :=
  bw_iload_n hZ 3 rfl dX12_event_25 <|
  bw_i2l hZ dX12_event_26 <|
  bw_lconst hZ 0 (by decide) dX12_event_27 <|
  bw_ldc2 hZ kk_RX12_535 dX12_event_28 <|
  bw_callSI (As := [.long (Int32.toInt64 y3), .long 0, .long 9999]) hZ ms_RX12_60 (by decide) (c_X12_in (zl Z) (zY Z) (hZ_S hZ) (Int32.toInt64 y3) 0 9999 w) rfl rfl (Nat.le_of_ble_eq_true rfl) dX12_event_31 fun r4 w3 =>
  bw_if_eq hZ (tgt := 66) (by decide) dX12_event_34 (fun _ =>
  bw_bipush hZ (-2) (by decide) dX12_event_66 <|
  bw_iret hZ hE dX12_event_68) (fun _ =>
  bw_iload hZ 4 rfl dX12_event_37 <|
  bw_i2l hZ dX12_event_39 <|
  bw_iload_n hZ 3 rfl dX12_event_40 <|
  bw_i2l hZ dX12_event_41 <|
  bw_ldc2 hZ kk_RX12_535 dX12_event_42 <|
  bw_callSI (As := [.long (Int32.toInt64 y4), .long (Int32.toInt64 y3), .long 9999]) hZ ms_RX12_60 (by decide) (c_X12_in (zl Z) (zY Z) (hZ_S hZ) (Int32.toInt64 y4) (Int32.toInt64 y3) 9999 w3) rfl rfl (Nat.le_of_ble_eq_true rfl) dX12_event_45 fun r6 w5 =>
  bw_if_eq hZ (tgt := 66) (by decide) dX12_event_48 (fun _ =>
  bw_bipush hZ (-2) (by decide) dX12_event_66 <|
  bw_iret hZ hE dX12_event_68) (fun _ =>
  bw_iload hZ 5 rfl dX12_event_51 <|
  bw_i2l hZ dX12_event_53 <|
  bw_ldc2 hZ kk_RX12_537 dX12_event_54 <|
  bw_ldc2 hZ kk_RX12_539 dX12_event_57 <|
  bw_callSI (As := [.long (Int32.toInt64 y5), .long ((-1)), .long 2]) hZ ms_RX12_60 (by decide) (c_X12_in (zl Z) (zY Z) (hZ_S hZ) (Int32.toInt64 y5) ((-1)) 2 w5) rfl rfl (Nat.le_of_ble_eq_true rfl) dX12_event_60 fun r8 w7 =>
  bw_if_ne hZ (tgt := 69) (by decide) dX12_event_63 (fun _ =>
  bw_aload_n hZ 0 rfl dX12_event_69 <|
  bw_getI hZ fl_RX12_434 (by decide) obM_0 dX12_event_70 <|
  bw_iconst hZ 3 (by decide) dX12_event_73 <|
  bw_icmp_eq hZ (tgt := 91) (by decide) dX12_event_74 (fun _ =>
  bw_bipush hZ (-3) (by decide) dX12_event_91 <|
  bw_iret hZ hE dX12_event_93) (fun _ =>
  bw_aload_n hZ 0 rfl dX12_event_77 <|
  bw_getI hZ fl_RX12_431 (by decide) obM_0 dX12_event_78 <|
  bw_aload_n hZ 0 rfl dX12_event_81 <|
  bw_getI hZ fl_RX12_434 (by decide) obM_0 dX12_event_82 <|
  bw_iadd hZ dX12_event_85 <|
  bw_bipush hZ 6 (by decide) dX12_event_86 <|
  bw_icmp_ne hZ (tgt := 94) (by decide) dX12_event_88 (fun _ =>
  bw_aload_n hZ 0 rfl dX12_event_94 <|
  bw_getR hZ fl_RX12_324 obM_0 rfl dX12_event_95 <|
  bw_aload_n hZ 0 rfl dX12_event_98 <|
  bw_getI hZ fl_RX12_434 (by decide) obM_0 dX12_event_99 <|
  bw_iload_n hZ 1 rfl dX12_event_102 <|
  bw_iast hZ (arM_38 _) dX12_event_103 fun w9 =>
  bw_aload_n hZ 0 rfl dX12_event_104 <|
  bw_getR hZ fl_RX12_327 obM_0 rfl dX12_event_105 <|
  bw_aload_n hZ 0 rfl dX12_event_108 <|
  bw_getI hZ fl_RX12_434 (by decide) obM_0 dX12_event_109 <|
  bw_iload_n hZ 2 rfl dX12_event_112 <|
  bw_iast hZ (arM_39 _) dX12_event_113 fun w10 =>
  bw_aload_n hZ 0 rfl dX12_event_114 <|
  bw_getR hZ fl_RX12_330 obM_0 rfl dX12_event_115 <|
  bw_aload_n hZ 0 rfl dX12_event_118 <|
  bw_getI hZ fl_RX12_434 (by decide) obM_0 dX12_event_119 <|
  bw_iload_n hZ 3 rfl dX12_event_122 <|
  bw_iast hZ (arM_40 _) dX12_event_123 fun w11 =>
  bw_aload_n hZ 0 rfl dX12_event_124 <|
  bw_getR hZ fl_RX12_333 obM_0 rfl dX12_event_125 <|
  bw_aload_n hZ 0 rfl dX12_event_128 <|
  bw_getI hZ fl_RX12_434 (by decide) obM_0 dX12_event_129 <|
  bw_iload hZ 4 rfl dX12_event_132 <|
  bw_iast hZ (arM_41 _) dX12_event_134 fun w12 =>
  bw_aload_n hZ 0 rfl dX12_event_135 <|
  bw_getR hZ fl_RX12_336 obM_0 rfl dX12_event_136 <|
  bw_aload_n hZ 0 rfl dX12_event_139 <|
  bw_getI hZ fl_RX12_434 (by decide) obM_0 dX12_event_140 <|
  bw_iload hZ 5 rfl dX12_event_143 <|
  bw_iast hZ (arM_42 _) dX12_event_145 fun w13 =>
  bw_aload_n hZ 0 rfl dX12_event_146 <|
  bw_dup hZ rfl dX12_event_147 <|
  bw_getI hZ fl_RX12_434 (by decide) obM_0 dX12_event_148 <|
  bw_iconst hZ 1 (by decide) dX12_event_151 <|
  bw_iadd hZ dX12_event_152 <|
  bw_putI hZ fl_RX12_434 rfl rfl (by decide) obM_0 dX12_event_153 fun w14 =>
  bw_aload_n hZ 0 rfl dX12_event_156 <|
  bw_callVV (As := []) hZ ml_RX12_396 rc_12 obM_0 (by decide) (c_X12_findOrders (zl Z) (zY Z) (hZ_S hZ) w14) rfl rfl (Nat.le_of_ble_eq_true rfl) dX12_event_157 fun w15 =>
  bw_aload_n hZ 0 rfl dX12_event_160 <|
  bw_getI hZ fl_RX12_434 (by decide) obM_0 dX12_event_161 <|
  bw_iconst hZ 1 (by decide) dX12_event_164 <|
  bw_isub hZ dX12_event_165 <|
  bw_iret hZ hE dX12_event_166) (fun _ =>
  bw_bipush hZ (-3) (by decide) dX12_event_91 <|
  bw_iret hZ hE dX12_event_93))) (fun _ =>
  bw_bipush hZ (-2) (by decide) dX12_event_66 <|
  bw_iret hZ hE dX12_event_68)))
def f_X12_event (x1 : Int32) (x2 : Int32) (x3 : Int32) (x4 : Int32) (x5 : Int32) (w : Wd) : Option (Int32 × Wd) :=
  cl (f_X12_in (Int32.toInt64 x1) 0 4 w) fun r2 w1 =>
  if r2 = 0 then
  (some ((-2), w1))
  else
  if x1 ≤ 1 then
  (X12_event_b25 x1 x2 x3 x4 x5 w1)
  else
  cl (f_X12_isPaper x2 w1) fun r17 w16 =>
  if r17 = 0 then
  (some ((-2), w16))
  else
  X12_event_b25 x1 x2 x3 x4 x5 w16
set_option maxRecDepth 100000 in
set_option maxHeartbeats 4000000 in
theorem t_X12_event {Z : Cz (Int32 × Wd)} (hZ : OKZ Z SM cX12_event RX12 6 (some .int) 12) (hE : EndI Z) (x1 : Int32) (x2 : Int32) (x3 : Int32) (x4 : Int32) (x5 : Int32)  (w : Wd) : BW Z 6 0 [(0, .ref (ph (zY Z) 0)), (1, .int x1), (2, .int x2), (3, .int x3), (4, .int x4), (5, .int x5)] [] w (f_X12_event x1 x2 x3 x4 x5 w) :=
  bw_iload_n hZ 1 rfl dX12_event_0 <|
  bw_i2l hZ dX12_event_1 <|
  bw_lconst hZ 0 (by decide) dX12_event_2 <|
  bw_ldc2 hZ kk_RX12_533 dX12_event_3 <|
  bw_callSI (As := [.long (Int32.toInt64 x1), .long 0, .long 4]) hZ ms_RX12_60 (by decide) (c_X12_in (zl Z) (zY Z) (hZ_S hZ) (Int32.toInt64 x1) 0 4 w) rfl rfl (Nat.le_of_ble_eq_true rfl) dX12_event_6 fun r2 w1 =>
  bw_if_eq hZ (tgt := 66) (by decide) dX12_event_9 (fun _ =>
  bw_bipush hZ (-2) (by decide) dX12_event_66 <|
  bw_iret hZ hE dX12_event_68) (fun _ =>
  bw_iload_n hZ 1 rfl dX12_event_12 <|
  bw_iconst hZ 1 (by decide) dX12_event_13 <|
  bw_icmp_le hZ (tgt := 25) (by decide) dX12_event_14 (fun _ =>
  bw_sub [0, 1, 2, 3, 4, 5] rfl (t_X12_event_b25 hZ hE x1 x2 x3 x4 x5 w1)) (fun _ =>
  bw_aload_n hZ 0 rfl dX12_event_17 <|
  bw_iload_n hZ 2 rfl dX12_event_18 <|
  bw_callVI (As := [.int x2]) hZ ml_RX12_525 rc_12 obM_0 (by decide) (c_X12_isPaper (zl Z) (zY Z) (hZ_S hZ) x2 w1) rfl rfl (Nat.le_of_ble_eq_true rfl) dX12_event_19 fun r17 w16 =>
  bw_if_eq hZ (tgt := 66) (by decide) dX12_event_22 (fun _ =>
  bw_bipush hZ (-2) (by decide) dX12_event_66 <|
  bw_iret hZ hE dX12_event_68) (fun _ =>
  bw_sub [0, 1, 2, 3, 4, 5] rfl (t_X12_event_b25 hZ hE x1 x2 x3 x4 x5 w16))))
theorem c_X12_event (l : Launch) (Y : Ev) (hY : Y.1 = SM) (x1 : Int32) (x2 : Int32) (x3 : Int32) (x4 : Int32) (x5 : Int32)  (w : Wd) : CI l Y yX12_event cX12_event 6 12 [.ref (ph Y 0), .int x1, .int x2, .int x3, .int x4, .int x5] w .int (f_X12_event x1 x2 x3 x4 x5 w) := by
  refine CI_of (S := SM) (by decide) (Nat.le_of_ble_eq_true rfl) hY ?_
  intro Z hl hY2 hZ hE
  subst hY2
  exact t_X12_event hZ hE x1 x2 x3 x4 x5 w
-- WhichWillModel.isOrder
theorem dX12_isOrder_0 : decode cX12_isOrder 0 = .ok (.iload_n 1, 1) := by decide +kernel
theorem dX12_isOrder_1 : decode cX12_isOrder 1 = .ok (.i2l, 1) := by decide +kernel
theorem dX12_isOrder_2 : decode cX12_isOrder 2 = .ok (.lconst 0, 1) := by decide +kernel
theorem dX12_isOrder_3 : decode cX12_isOrder 3 = .ok (.aload_n 0, 1) := by decide +kernel
theorem dX12_isOrder_4 : decode cX12_isOrder 4 = .ok (.getfield 541, 3) := by decide +kernel
theorem dX12_isOrder_7 : decode cX12_isOrder 7 = .ok (.i2l, 1) := by decide +kernel
theorem dX12_isOrder_8 : decode cX12_isOrder 8 = .ok (.lconst 1, 1) := by decide +kernel
theorem dX12_isOrder_9 : decode cX12_isOrder 9 = .ok (.lsub, 1) := by decide +kernel
theorem dX12_isOrder_10 : decode cX12_isOrder 10 = .ok (.invokestatic 60, 3) := by decide +kernel
theorem dX12_isOrder_13 : decode cX12_isOrder 13 = .ok (.ireturn, 1) := by decide +kernel
def f_X12_isOrder (x1 : Int32) (w : Wd) : Option (Int32 × Wd) :=
  cl (f_X12_in (Int32.toInt64 x1) 0 ((Int32.toInt64 (w.1 0 75)) - 1) w) fun r2 w1 =>
  if isB r2 = true then some (r2, w1) else none
set_option maxRecDepth 100000 in
set_option maxHeartbeats 4000000 in
theorem t_X12_isOrder {Z : Cz (Int32 × Wd)} (hZ : OKZ Z SM cX12_isOrder RX12 2 (some .boolean) 2) (hE : EndI Z) (x1 : Int32)  (w : Wd) : BW Z 2 0 [(0, .ref (ph (zY Z) 0)), (1, .int x1)] [] w (f_X12_isOrder x1 w) :=
  bw_iload_n hZ 1 rfl dX12_isOrder_0 <|
  bw_i2l hZ dX12_isOrder_1 <|
  bw_lconst hZ 0 (by decide) dX12_isOrder_2 <|
  bw_aload_n hZ 0 rfl dX12_isOrder_3 <|
  bw_getI hZ fl_RX12_541 (by decide) obM_0 dX12_isOrder_4 <|
  bw_i2l hZ dX12_isOrder_7 <|
  bw_lconst hZ 1 (by decide) dX12_isOrder_8 <|
  bw_lsub hZ dX12_isOrder_9 <|
  bw_callSI (As := [.long (Int32.toInt64 x1), .long 0, .long ((Int32.toInt64 (w.1 0 75)) - 1)]) hZ ms_RX12_60 (by decide) (c_X12_in (zl Z) (zY Z) (hZ_S hZ) (Int32.toInt64 x1) 0 ((Int32.toInt64 (w.1 0 75)) - 1) w) rfl rfl (Nat.le_of_ble_eq_true rfl) dX12_isOrder_10 fun r2 w1 =>
  bw_zretC hZ hE dX12_isOrder_13
theorem c_X12_isOrder (l : Launch) (Y : Ev) (hY : Y.1 = SM) (x1 : Int32)  (w : Wd) : CI l Y yX12_isOrder cX12_isOrder 2 2 [.ref (ph Y 0), .int x1] w .boolean (f_X12_isOrder x1 w) := by
  refine CI_of (S := SM) (by decide) (Nat.le_of_ble_eq_true rfl) hY ?_
  intro Z hl hY2 hZ hE
  subst hY2
  exact t_X12_isOrder hZ hE x1 w
-- WhichWillModel.isItem
theorem dX12_isItem_0 : decode cX12_isItem 0 = .ok (.iload_n 1, 1) := by decide +kernel
theorem dX12_isItem_1 : decode cX12_isItem 1 = .ok (.i2l, 1) := by decide +kernel
theorem dX12_isItem_2 : decode cX12_isItem 2 = .ok (.lconst 0, 1) := by decide +kernel
theorem dX12_isItem_3 : decode cX12_isItem 3 = .ok (.aload_n 0, 1) := by decide +kernel
theorem dX12_isItem_4 : decode cX12_isItem 4 = .ok (.invokevirtual 552, 3) := by decide +kernel
theorem dX12_isItem_7 : decode cX12_isItem 7 = .ok (.i2l, 1) := by decide +kernel
theorem dX12_isItem_8 : decode cX12_isItem 8 = .ok (.lconst 1, 1) := by decide +kernel
theorem dX12_isItem_9 : decode cX12_isItem 9 = .ok (.lsub, 1) := by decide +kernel
theorem dX12_isItem_10 : decode cX12_isItem 10 = .ok (.invokestatic 60, 3) := by decide +kernel
theorem dX12_isItem_13 : decode cX12_isItem 13 = .ok (.ireturn, 1) := by decide +kernel
def f_X12_isItem (x1 : Int32) (w : Wd) : Option (Int32 × Wd) :=
  cl (f_X12_items w) fun r2 w1 =>
  cl (f_X12_in (Int32.toInt64 x1) 0 ((Int32.toInt64 r2) - 1) w1) fun r4 w3 =>
  if isB r4 = true then some (r4, w3) else none
set_option maxRecDepth 100000 in
set_option maxHeartbeats 4000000 in
theorem t_X12_isItem {Z : Cz (Int32 × Wd)} (hZ : OKZ Z SM cX12_isItem RX12 2 (some .boolean) 2) (hE : EndI Z) (x1 : Int32)  (w : Wd) : BW Z 2 0 [(0, .ref (ph (zY Z) 0)), (1, .int x1)] [] w (f_X12_isItem x1 w) :=
  bw_iload_n hZ 1 rfl dX12_isItem_0 <|
  bw_i2l hZ dX12_isItem_1 <|
  bw_lconst hZ 0 (by decide) dX12_isItem_2 <|
  bw_aload_n hZ 0 rfl dX12_isItem_3 <|
  bw_callVI (As := []) hZ ml_RX12_552 rc_12 obM_0 (by decide) (c_X12_items (zl Z) (zY Z) (hZ_S hZ) w) rfl rfl (Nat.le_of_ble_eq_true rfl) dX12_isItem_4 fun r2 w1 =>
  bw_i2l hZ dX12_isItem_7 <|
  bw_lconst hZ 1 (by decide) dX12_isItem_8 <|
  bw_lsub hZ dX12_isItem_9 <|
  bw_callSI (As := [.long (Int32.toInt64 x1), .long 0, .long ((Int32.toInt64 r2) - 1)]) hZ ms_RX12_60 (by decide) (c_X12_in (zl Z) (zY Z) (hZ_S hZ) (Int32.toInt64 x1) 0 ((Int32.toInt64 r2) - 1) w1) rfl rfl (Nat.le_of_ble_eq_true rfl) dX12_isItem_10 fun r4 w3 =>
  bw_zretC hZ hE dX12_isItem_13
theorem c_X12_isItem (l : Launch) (Y : Ev) (hY : Y.1 = SM) (x1 : Int32)  (w : Wd) : CI l Y yX12_isItem cX12_isItem 2 2 [.ref (ph Y 0), .int x1] w .boolean (f_X12_isItem x1 w) := by
  refine CI_of (S := SM) (by decide) (Nat.le_of_ble_eq_true rfl) hY ?_
  intro Z hl hY2 hZ hE
  subst hY2
  exact t_X12_isItem hZ hE x1 w
-- WhichWillModel.orders
theorem dX12_orders_0 : decode cX12_orders 0 = .ok (.aload_n 0, 1) := by decide +kernel
theorem dX12_orders_1 : decode cX12_orders 1 = .ok (.getfield 541, 3) := by decide +kernel
theorem dX12_orders_4 : decode cX12_orders 4 = .ok (.ireturn, 1) := by decide +kernel
def f_X12_orders (w : Wd) : Option (Int32 × Wd) :=
  some (w.1 0 75, w)
set_option maxRecDepth 100000 in
set_option maxHeartbeats 4000000 in
theorem t_X12_orders {Z : Cz (Int32 × Wd)} (hZ : OKZ Z SM cX12_orders RX12 1 (some .int) 1) (hE : EndI Z)   (w : Wd) : BW Z 1 0 [(0, .ref (ph (zY Z) 0))] [] w (f_X12_orders w) :=
  bw_aload_n hZ 0 rfl dX12_orders_0 <|
  bw_getI hZ fl_RX12_541 (by decide) obM_0 dX12_orders_1 <|
  bw_iret hZ hE dX12_orders_4
theorem c_X12_orders (l : Launch) (Y : Ev) (hY : Y.1 = SM)   (w : Wd) : CI l Y yX12_orders cX12_orders 1 1 [.ref (ph Y 0)] w .int (f_X12_orders w) := by
  refine CI_of (S := SM) (by decide) (Nat.le_of_ble_eq_true rfl) hY ?_
  intro Z hl hY2 hZ hE
  subst hY2
  exact t_X12_orders hZ hE w
-- WhichWillModel.item
theorem dX12_item_0 : decode cX12_item 0 = .ok (.aload_n 0, 1) := by decide +kernel
theorem dX12_item_1 : decode cX12_item 1 = .ok (.iload_n 1, 1) := by decide +kernel
theorem dX12_item_2 : decode cX12_item 2 = .ok (.invokevirtual 567, 3) := by decide +kernel
theorem dX12_item_5 : decode cX12_item 5 = .ok (.ifCond .ne 8, 3) := by decide +kernel
theorem dX12_item_8 : decode cX12_item 8 = .ok (.bipush (-2), 2) := by decide +kernel
theorem dX12_item_10 : decode cX12_item 10 = .ok (.goto 26, 3) := by decide +kernel
theorem dX12_item_13 : decode cX12_item 13 = .ok (.aload_n 0, 1) := by decide +kernel
theorem dX12_item_14 : decode cX12_item 14 = .ok (.iload_n 2, 1) := by decide +kernel
theorem dX12_item_15 : decode cX12_item 15 = .ok (.invokevirtual 570, 3) := by decide +kernel
theorem dX12_item_18 : decode cX12_item 18 = .ok (.ifCond .eq 17, 3) := by decide +kernel
theorem dX12_item_21 : decode cX12_item 21 = .ok (.aload_n 0, 1) := by decide +kernel
theorem dX12_item_22 : decode cX12_item 22 = .ok (.getfield 339, 3) := by decide +kernel
theorem dX12_item_25 : decode cX12_item 25 = .ok (.bipush 6, 2) := by decide +kernel
theorem dX12_item_27 : decode cX12_item 27 = .ok (.iload_n 1, 1) := by decide +kernel
theorem dX12_item_28 : decode cX12_item 28 = .ok (.imul, 1) := by decide +kernel
theorem dX12_item_29 : decode cX12_item 29 = .ok (.iload_n 2, 1) := by decide +kernel
theorem dX12_item_30 : decode cX12_item 30 = .ok (.iadd, 1) := by decide +kernel
theorem dX12_item_31 : decode cX12_item 31 = .ok (.iaload, 1) := by decide +kernel
theorem dX12_item_32 : decode cX12_item 32 = .ok (.goto 4, 3) := by decide +kernel
theorem dX12_item_35 : decode cX12_item 35 = .ok (.iconst (-1), 1) := by decide +kernel
theorem dX12_item_36 : decode cX12_item 36 = .ok (.ireturn, 1) := by decide +kernel
def f_X12_item (x1 : Int32) (x2 : Int32) (w : Wd) : Option (Int32 × Wd) :=
  cl (f_X12_isOrder x1 w) fun r2 w1 =>
  if r2 = 0 then
  (some ((-2), w1))
  else
  cl (f_X12_isItem x2 w1) fun r4 w3 =>
  if r4 = 0 then
  (some ((-1), w3))
  else
  if inb ((6 * x1) + x2) 4320 = true then
  (some (w3.1 43 (Int32.toNatClampNeg ((6 * x1) + x2)), w3))
  else none
set_option maxRecDepth 100000 in
set_option maxHeartbeats 4000000 in
theorem t_X12_item {Z : Cz (Int32 × Wd)} (hZ : OKZ Z SM cX12_item RX12 3 (some .int) 3) (hE : EndI Z) (x1 : Int32) (x2 : Int32)  (w : Wd) : BW Z 3 0 [(0, .ref (ph (zY Z) 0)), (1, .int x1), (2, .int x2)] [] w (f_X12_item x1 x2 w) :=
  bw_aload_n hZ 0 rfl dX12_item_0 <|
  bw_iload_n hZ 1 rfl dX12_item_1 <|
  bw_callVI (As := [.int x1]) hZ ml_RX12_567 rc_12 obM_0 (by decide) (c_X12_isOrder (zl Z) (zY Z) (hZ_S hZ) x1 w) rfl rfl (Nat.le_of_ble_eq_true rfl) dX12_item_2 fun r2 w1 =>
  bw_if_ne hZ (tgt := 13) (by decide) dX12_item_5 (fun _ =>
  bw_aload_n hZ 0 rfl dX12_item_13 <|
  bw_iload_n hZ 2 rfl dX12_item_14 <|
  bw_callVI (As := [.int x2]) hZ ml_RX12_570 rc_12 obM_0 (by decide) (c_X12_isItem (zl Z) (zY Z) (hZ_S hZ) x2 w1) rfl rfl (Nat.le_of_ble_eq_true rfl) dX12_item_15 fun r4 w3 =>
  bw_if_eq hZ (tgt := 35) (by decide) dX12_item_18 (fun _ =>
  bw_iconst hZ (-1) (by decide) dX12_item_35 <|
  bw_iret hZ hE dX12_item_36) (fun _ =>
  bw_aload_n hZ 0 rfl dX12_item_21 <|
  bw_getR hZ fl_RX12_339 obM_0 rfl dX12_item_22 <|
  bw_bipush hZ 6 (by decide) dX12_item_25 <|
  bw_iload_n hZ 1 rfl dX12_item_27 <|
  bw_imul hZ dX12_item_28 <|
  bw_iload_n hZ 2 rfl dX12_item_29 <|
  bw_iadd hZ dX12_item_30 <|
  bw_iald hZ (arM_43 _) dX12_item_31 <|
  bw_goto hZ (tgt := 36) (by decide) dX12_item_32 <|
  bw_iret hZ hE dX12_item_36)) (fun _ =>
  bw_bipush hZ (-2) (by decide) dX12_item_8 <|
  bw_goto hZ (tgt := 36) (by decide) dX12_item_10 <|
  bw_iret hZ hE dX12_item_36)
theorem c_X12_item (l : Launch) (Y : Ev) (hY : Y.1 = SM) (x1 : Int32) (x2 : Int32)  (w : Wd) : CI l Y yX12_item cX12_item 3 3 [.ref (ph Y 0), .int x1, .int x2] w .int (f_X12_item x1 x2 w) := by
  refine CI_of (S := SM) (by decide) (Nat.le_of_ble_eq_true rfl) hY ?_
  intro Z hl hY2 hZ hE
  subst hY2
  exact t_X12_item hZ hE x1 x2 w
-- WhichWillModel.isAhead
theorem dX12_isAhead_0 : decode cX12_isAhead 0 = .ok (.iconst 0, 1) := by decide +kernel
theorem dX12_isAhead_1 : decode cX12_isAhead 1 = .ok (.istore 4, 2) := by decide +kernel
theorem dX12_isAhead_3 : decode cX12_isAhead 3 = .ok (.iload 4, 2) := by decide +kernel
theorem dX12_isAhead_5 : decode cX12_isAhead 5 = .ok (.aload_n 0, 1) := by decide +kernel
theorem dX12_isAhead_6 : decode cX12_isAhead 6 = .ok (.invokevirtual 552, 3) := by decide +kernel
theorem dX12_isAhead_9 : decode cX12_isAhead 9 = .ok (.if_icmp .ge 45, 3) := by decide +kernel
theorem dX12_isAhead_12 : decode cX12_isAhead 12 = .ok (.aload_n 0, 1) := by decide +kernel
theorem dX12_isAhead_13 : decode cX12_isAhead 13 = .ok (.getfield 339, 3) := by decide +kernel
theorem dX12_isAhead_16 : decode cX12_isAhead 16 = .ok (.bipush 6, 2) := by decide +kernel
theorem dX12_isAhead_18 : decode cX12_isAhead 18 = .ok (.iload_n 1, 1) := by decide +kernel
theorem dX12_isAhead_19 : decode cX12_isAhead 19 = .ok (.imul, 1) := by decide +kernel
theorem dX12_isAhead_20 : decode cX12_isAhead 20 = .ok (.iload 4, 2) := by decide +kernel
theorem dX12_isAhead_22 : decode cX12_isAhead 22 = .ok (.iadd, 1) := by decide +kernel
theorem dX12_isAhead_23 : decode cX12_isAhead 23 = .ok (.iaload, 1) := by decide +kernel
theorem dX12_isAhead_24 : decode cX12_isAhead 24 = .ok (.iload_n 2, 1) := by decide +kernel
theorem dX12_isAhead_25 : decode cX12_isAhead 25 = .ok (.if_icmp .ne 5, 3) := by decide +kernel
theorem dX12_isAhead_28 : decode cX12_isAhead 28 = .ok (.iconst 1, 1) := by decide +kernel
theorem dX12_isAhead_29 : decode cX12_isAhead 29 = .ok (.ireturn, 1) := by decide +kernel
theorem dX12_isAhead_30 : decode cX12_isAhead 30 = .ok (.aload_n 0, 1) := by decide +kernel
theorem dX12_isAhead_31 : decode cX12_isAhead 31 = .ok (.getfield 339, 3) := by decide +kernel
theorem dX12_isAhead_34 : decode cX12_isAhead 34 = .ok (.bipush 6, 2) := by decide +kernel
theorem dX12_isAhead_36 : decode cX12_isAhead 36 = .ok (.iload_n 1, 1) := by decide +kernel
theorem dX12_isAhead_37 : decode cX12_isAhead 37 = .ok (.imul, 1) := by decide +kernel
theorem dX12_isAhead_38 : decode cX12_isAhead 38 = .ok (.iload 4, 2) := by decide +kernel
theorem dX12_isAhead_40 : decode cX12_isAhead 40 = .ok (.iadd, 1) := by decide +kernel
theorem dX12_isAhead_41 : decode cX12_isAhead 41 = .ok (.iaload, 1) := by decide +kernel
theorem dX12_isAhead_42 : decode cX12_isAhead 42 = .ok (.iload_n 3, 1) := by decide +kernel
theorem dX12_isAhead_43 : decode cX12_isAhead 43 = .ok (.if_icmp .ne 5, 3) := by decide +kernel
theorem dX12_isAhead_46 : decode cX12_isAhead 46 = .ok (.iconst 0, 1) := by decide +kernel
theorem dX12_isAhead_47 : decode cX12_isAhead 47 = .ok (.ireturn, 1) := by decide +kernel
theorem dX12_isAhead_48 : decode cX12_isAhead 48 = .ok (.iinc 4 1, 3) := by decide +kernel
theorem dX12_isAhead_51 : decode cX12_isAhead 51 = .ok (.goto (-48), 3) := by decide +kernel
theorem dX12_isAhead_54 : decode cX12_isAhead 54 = .ok (.iconst 0, 1) := by decide +kernel
theorem dX12_isAhead_55 : decode cX12_isAhead 55 = .ok (.ireturn, 1) := by decide +kernel
def X12_isAhead_b3 (k3 : Int32 → Int32 → Int32 → Int32 → Wd → Option (Int32 × Wd)) (y1 : Int32) (y2 : Int32) (y3 : Int32) (y4 : Int32) (w : Wd) : Option (Int32 × Wd) :=
  cl (f_X12_items w) fun r2 w1 =>
  if r2 ≤ y4 then
  (some (0, w1))
  else
  if inb ((6 * y1) + y4) 4320 = true then
  (if (w1.1 43 (Int32.toNatClampNeg ((6 * y1) + y4))) = y2 then
  (some (1, w1))
  else
  if inb ((6 * y1) + y4) 4320 = true then
  (if (w1.1 43 (Int32.toNatClampNeg ((6 * y1) + y4))) = y3 then
  (some (0, w1))
  else
  k3 y1 y2 y3 (y4 + 1) w1)
  else none)
  else none
set_option maxRecDepth 100000 in
set_option maxHeartbeats 4000000 in
theorem t_X12_isAhead_b3 {Z : Cz (Int32 × Wd)} (hZ : OKZ Z SM cX12_isAhead RX12 5 (some .boolean) 2) (hE : EndI Z) (k3 : Int32 → Int32 → Int32 → Int32 → Wd → Option (Int32 × Wd)) (hk3 : ∀ (y1 : Int32) (y2 : Int32) (y3 : Int32) (y4 : Int32)  (w : Wd), BW Z 5 3 [(0, .ref (ph (zY Z) 0)), (1, .int y1), (2, .int y2), (3, .int y3), (4, .int y4)] [] w (k3 y1 y2 y3 y4 w)) (y1 : Int32) (y2 : Int32) (y3 : Int32) (y4 : Int32)  (w : Wd) : BW Z 5 3 [(0, .ref (ph (zY Z) 0)), (1, .int y1), (2, .int y2), (3, .int y3), (4, .int y4)] [] w (X12_isAhead_b3 k3 y1 y2 y3 y4 w) :=
  bw_iload hZ 4 rfl dX12_isAhead_3 <|
  bw_aload_n hZ 0 rfl dX12_isAhead_5 <|
  bw_callVI (As := []) hZ ml_RX12_552 rc_12 obM_0 (by decide) (c_X12_items (zl Z) (zY Z) (hZ_S hZ) w) rfl rfl (Nat.le_of_ble_eq_true rfl) dX12_isAhead_6 fun r2 w1 =>
  bw_icmp_ge hZ (tgt := 54) (by decide) dX12_isAhead_9 (fun _ =>
  bw_iconst hZ 0 (by decide) dX12_isAhead_54 <|
  bw_zret hZ hE (by decide) dX12_isAhead_55) (fun _ =>
  bw_aload_n hZ 0 rfl dX12_isAhead_12 <|
  bw_getR hZ fl_RX12_339 obM_0 rfl dX12_isAhead_13 <|
  bw_bipush hZ 6 (by decide) dX12_isAhead_16 <|
  bw_iload_n hZ 1 rfl dX12_isAhead_18 <|
  bw_imul hZ dX12_isAhead_19 <|
  bw_iload hZ 4 rfl dX12_isAhead_20 <|
  bw_iadd hZ dX12_isAhead_22 <|
  bw_iald hZ (arM_43 _) dX12_isAhead_23 <|
  bw_iload_n hZ 2 rfl dX12_isAhead_24 <|
  bw_icmp_ne hZ (tgt := 30) (by decide) dX12_isAhead_25 (fun _ =>
  bw_aload_n hZ 0 rfl dX12_isAhead_30 <|
  bw_getR hZ fl_RX12_339 obM_0 rfl dX12_isAhead_31 <|
  bw_bipush hZ 6 (by decide) dX12_isAhead_34 <|
  bw_iload_n hZ 1 rfl dX12_isAhead_36 <|
  bw_imul hZ dX12_isAhead_37 <|
  bw_iload hZ 4 rfl dX12_isAhead_38 <|
  bw_iadd hZ dX12_isAhead_40 <|
  bw_iald hZ (arM_43 _) dX12_isAhead_41 <|
  bw_iload_n hZ 3 rfl dX12_isAhead_42 <|
  bw_icmp_ne hZ (tgt := 48) (by decide) dX12_isAhead_43 (fun _ =>
  bw_iinc hZ 1 4 rfl (by decide) (by decide) rfl dX12_isAhead_48 <|
  bw_goto hZ (tgt := 3) (by decide) dX12_isAhead_51 <|
  bw_sub [1, 2, 3, 4, 0] rfl (hk3 y1 y2 y3 (y4 + 1) w1)) (fun _ =>
  bw_iconst hZ 0 (by decide) dX12_isAhead_46 <|
  bw_zret hZ hE (by decide) dX12_isAhead_47)) (fun _ =>
  bw_iconst hZ 1 (by decide) dX12_isAhead_28 <|
  bw_zret hZ hE (by decide) dX12_isAhead_29))
def X12_isAhead_b3_L  : Int32 → Int32 → Int32 → Int32 → Wd → Option (Int32 × Wd) :=
  lp fu (fun _ _ _ _ _ => none) (fun k3 => X12_isAhead_b3 k3)
theorem t_X12_isAhead_b3_L {Z : Cz (Int32 × Wd)} (hZ : OKZ Z SM cX12_isAhead RX12 5 (some .boolean) 2) (hE : EndI Z)  : ∀ (y1 : Int32) (y2 : Int32) (y3 : Int32) (y4 : Int32)  (w : Wd), BW Z 5 3 [(0, .ref (ph (zY Z) 0)), (1, .int y1), (2, .int y2), (3, .int y3), (4, .int y4)] [] w (X12_isAhead_b3_L y1 y2 y3 y4 w) :=
  lp_bw (fun k3 => ∀ (y1 : Int32) (y2 : Int32) (y3 : Int32) (y4 : Int32)  (w : Wd), BW Z 5 3 [(0, .ref (ph (zY Z) 0)), (1, .int y1), (2, .int y2), (3, .int y3), (4, .int y4)] [] w (k3 y1 y2 y3 y4 w)) (fun _ _ _ _ _ => bw_none) (fun k3 hk3 y1 y2 y3 y4 w => t_X12_isAhead_b3 hZ hE k3 hk3 y1 y2 y3 y4 w) fu
def f_X12_isAhead (x1 : Int32) (x2 : Int32) (x3 : Int32) (w : Wd) : Option (Int32 × Wd) :=
  X12_isAhead_b3_L x1 x2 x3 0 w
set_option maxRecDepth 100000 in
set_option maxHeartbeats 4000000 in
theorem t_X12_isAhead {Z : Cz (Int32 × Wd)} (hZ : OKZ Z SM cX12_isAhead RX12 5 (some .boolean) 2) (hE : EndI Z) (x1 : Int32) (x2 : Int32) (x3 : Int32)  (w : Wd) : BW Z 5 0 [(0, .ref (ph (zY Z) 0)), (1, .int x1), (2, .int x2), (3, .int x3)] [] w (f_X12_isAhead x1 x2 x3 w) :=
  bw_iconst hZ 0 (by decide) dX12_isAhead_0 <|
  bw_istore hZ (by decide) rfl dX12_isAhead_1 <|
  bw_sub [1, 2, 3, 4, 0] rfl (t_X12_isAhead_b3_L hZ hE x1 x2 x3 0 w)
theorem c_X12_isAhead (l : Launch) (Y : Ev) (hY : Y.1 = SM) (x1 : Int32) (x2 : Int32) (x3 : Int32)  (w : Wd) : CI l Y yX12_isAhead cX12_isAhead 5 2 [.ref (ph Y 0), .int x1, .int x2, .int x3] w .boolean (f_X12_isAhead x1 x2 x3 w) := by
  refine CI_of (S := SM) (by decide) (Nat.le_of_ble_eq_true rfl) hY ?_
  intro Z hl hY2 hZ hE
  subst hY2
  exact t_X12_isAhead hZ hE x1 x2 x3 w
-- WhichWillModel.ahead
theorem dX12_ahead_0 : decode cX12_ahead 0 = .ok (.aload_n 0, 1) := by decide +kernel
theorem dX12_ahead_1 : decode cX12_ahead 1 = .ok (.iload_n 1, 1) := by decide +kernel
theorem dX12_ahead_2 : decode cX12_ahead 2 = .ok (.invokevirtual 570, 3) := by decide +kernel
theorem dX12_ahead_5 : decode cX12_ahead 5 = .ok (.ifCond .eq 16, 3) := by decide +kernel
theorem dX12_ahead_8 : decode cX12_ahead 8 = .ok (.aload_n 0, 1) := by decide +kernel
theorem dX12_ahead_9 : decode cX12_ahead 9 = .ok (.iload_n 2, 1) := by decide +kernel
theorem dX12_ahead_10 : decode cX12_ahead 10 = .ok (.invokevirtual 570, 3) := by decide +kernel
theorem dX12_ahead_13 : decode cX12_ahead 13 = .ok (.ifCond .eq 8, 3) := by decide +kernel
theorem dX12_ahead_16 : decode cX12_ahead 16 = .ok (.iload_n 1, 1) := by decide +kernel
theorem dX12_ahead_17 : decode cX12_ahead 17 = .ok (.iload_n 2, 1) := by decide +kernel
theorem dX12_ahead_18 : decode cX12_ahead 18 = .ok (.if_icmp .ne 6, 3) := by decide +kernel
theorem dX12_ahead_21 : decode cX12_ahead 21 = .ok (.bipush (-2), 2) := by decide +kernel
theorem dX12_ahead_23 : decode cX12_ahead 23 = .ok (.ireturn, 1) := by decide +kernel
theorem dX12_ahead_24 : decode cX12_ahead 24 = .ok (.iconst 0, 1) := by decide +kernel
theorem dX12_ahead_25 : decode cX12_ahead 25 = .ok (.istore_n 3, 1) := by decide +kernel
theorem dX12_ahead_26 : decode cX12_ahead 26 = .ok (.iconst 0, 1) := by decide +kernel
theorem dX12_ahead_27 : decode cX12_ahead 27 = .ok (.istore 4, 2) := by decide +kernel
theorem dX12_ahead_29 : decode cX12_ahead 29 = .ok (.iload 4, 2) := by decide +kernel
theorem dX12_ahead_31 : decode cX12_ahead 31 = .ok (.aload_n 0, 1) := by decide +kernel
theorem dX12_ahead_32 : decode cX12_ahead 32 = .ok (.getfield 541, 3) := by decide +kernel
theorem dX12_ahead_35 : decode cX12_ahead 35 = .ok (.if_icmp .ge 28, 3) := by decide +kernel
theorem dX12_ahead_38 : decode cX12_ahead 38 = .ok (.iload_n 3, 1) := by decide +kernel
theorem dX12_ahead_39 : decode cX12_ahead 39 = .ok (.aload_n 0, 1) := by decide +kernel
theorem dX12_ahead_40 : decode cX12_ahead 40 = .ok (.iload 4, 2) := by decide +kernel
theorem dX12_ahead_42 : decode cX12_ahead 42 = .ok (.iload_n 1, 1) := by decide +kernel
theorem dX12_ahead_43 : decode cX12_ahead 43 = .ok (.iload_n 2, 1) := by decide +kernel
theorem dX12_ahead_44 : decode cX12_ahead 44 = .ok (.invokevirtual 573, 3) := by decide +kernel
theorem dX12_ahead_47 : decode cX12_ahead 47 = .ok (.ifCond .eq 7, 3) := by decide +kernel
theorem dX12_ahead_50 : decode cX12_ahead 50 = .ok (.iconst 1, 1) := by decide +kernel
theorem dX12_ahead_51 : decode cX12_ahead 51 = .ok (.goto 4, 3) := by decide +kernel
theorem dX12_ahead_54 : decode cX12_ahead 54 = .ok (.iconst 0, 1) := by decide +kernel
theorem dX12_ahead_55 : decode cX12_ahead 55 = .ok (.iadd, 1) := by decide +kernel
theorem dX12_ahead_56 : decode cX12_ahead 56 = .ok (.istore_n 3, 1) := by decide +kernel
theorem dX12_ahead_57 : decode cX12_ahead 57 = .ok (.iinc 4 1, 3) := by decide +kernel
theorem dX12_ahead_60 : decode cX12_ahead 60 = .ok (.goto (-31), 3) := by decide +kernel
theorem dX12_ahead_63 : decode cX12_ahead 63 = .ok (.aload_n 0, 1) := by decide +kernel
theorem dX12_ahead_64 : decode cX12_ahead 64 = .ok (.getfield 541, 3) := by decide +kernel
theorem dX12_ahead_67 : decode cX12_ahead 67 = .ok (.ifCond .ne 7, 3) := by decide +kernel
theorem dX12_ahead_70 : decode cX12_ahead 70 = .ok (.iconst (-1), 1) := by decide +kernel
theorem dX12_ahead_71 : decode cX12_ahead 71 = .ok (.goto 24, 3) := by decide +kernel
theorem dX12_ahead_74 : decode cX12_ahead 74 = .ok (.iload_n 3, 1) := by decide +kernel
theorem dX12_ahead_75 : decode cX12_ahead 75 = .ok (.aload_n 0, 1) := by decide +kernel
theorem dX12_ahead_76 : decode cX12_ahead 76 = .ok (.getfield 541, 3) := by decide +kernel
theorem dX12_ahead_79 : decode cX12_ahead 79 = .ok (.if_icmp .ne 7, 3) := by decide +kernel
theorem dX12_ahead_82 : decode cX12_ahead 82 = .ok (.iconst 1, 1) := by decide +kernel
theorem dX12_ahead_83 : decode cX12_ahead 83 = .ok (.goto 12, 3) := by decide +kernel
theorem dX12_ahead_86 : decode cX12_ahead 86 = .ok (.iload_n 3, 1) := by decide +kernel
theorem dX12_ahead_87 : decode cX12_ahead 87 = .ok (.ifCond .ne 7, 3) := by decide +kernel
theorem dX12_ahead_90 : decode cX12_ahead 90 = .ok (.iconst 0, 1) := by decide +kernel
theorem dX12_ahead_91 : decode cX12_ahead 91 = .ok (.goto 4, 3) := by decide +kernel
theorem dX12_ahead_94 : decode cX12_ahead 94 = .ok (.iconst 2, 1) := by decide +kernel
theorem dX12_ahead_95 : decode cX12_ahead 95 = .ok (.ireturn, 1) := by decide +kernel
def X12_ahead_b29 (k29 : Int32 → Int32 → Int32 → Int32 → Wd → Option (Int32 × Wd)) (y1 : Int32) (y2 : Int32) (y3 : Int32) (y4 : Int32) (w : Wd) : Option (Int32 × Wd) :=
  if (w.1 0 75) ≤ y4 then
  (if (w.1 0 75) = 0 then
  (some ((-1), w))
  else
  if y3 = (w.1 0 75) then
  (some (1, w))
  else
  if y3 = 0 then
  (some (0, w))
  else
  some (2, w))
  else
  cl (f_X12_isAhead y4 y1 y2 w) fun r6 w5 =>
  if r6 = 0 then
  (lt (y3 + 0) fun v7 =>
  k29 y1 y2 v7 (y4 + 1) w5)
  else
  lt (y3 + 1) fun v8 =>
  k29 y1 y2 v8 (y4 + 1) w5
set_option maxRecDepth 100000 in
set_option maxHeartbeats 4000000 in
theorem t_X12_ahead_b29 {Z : Cz (Int32 × Wd)} (hZ : OKZ Z SM cX12_ahead RX12 5 (some .int) 3) (hE : EndI Z) (k29 : Int32 → Int32 → Int32 → Int32 → Wd → Option (Int32 × Wd)) (hk29 : ∀ (y1 : Int32) (y2 : Int32) (y3 : Int32) (y4 : Int32)  (w : Wd), BW Z 5 29 [(0, .ref (ph (zY Z) 0)), (1, .int y1), (2, .int y2), (3, .int y3), (4, .int y4)] [] w (k29 y1 y2 y3 y4 w)) (y1 : Int32) (y2 : Int32) (y3 : Int32) (y4 : Int32)  (w : Wd) : BW Z 5 29 [(0, .ref (ph (zY Z) 0)), (1, .int y1), (2, .int y2), (3, .int y3), (4, .int y4)] [] w (X12_ahead_b29 k29 y1 y2 y3 y4 w) :=
  bw_iload hZ 4 rfl dX12_ahead_29 <|
  bw_aload_n hZ 0 rfl dX12_ahead_31 <|
  bw_getI hZ fl_RX12_541 (by decide) obM_0 dX12_ahead_32 <|
  bw_icmp_ge hZ (tgt := 63) (by decide) dX12_ahead_35 (fun _ =>
  bw_aload_n hZ 0 rfl dX12_ahead_63 <|
  bw_getI hZ fl_RX12_541 (by decide) obM_0 dX12_ahead_64 <|
  bw_if_ne hZ (tgt := 74) (by decide) dX12_ahead_67 (fun _ =>
  bw_iload_n hZ 3 rfl dX12_ahead_74 <|
  bw_aload_n hZ 0 rfl dX12_ahead_75 <|
  bw_getI hZ fl_RX12_541 (by decide) obM_0 dX12_ahead_76 <|
  bw_icmp_ne hZ (tgt := 86) (by decide) dX12_ahead_79 (fun _ =>
  bw_iload_n hZ 3 rfl dX12_ahead_86 <|
  bw_if_ne hZ (tgt := 94) (by decide) dX12_ahead_87 (fun _ =>
  bw_iconst hZ 2 (by decide) dX12_ahead_94 <|
  bw_iret hZ hE dX12_ahead_95) (fun _ =>
  bw_iconst hZ 0 (by decide) dX12_ahead_90 <|
  bw_goto hZ (tgt := 95) (by decide) dX12_ahead_91 <|
  bw_iret hZ hE dX12_ahead_95)) (fun _ =>
  bw_iconst hZ 1 (by decide) dX12_ahead_82 <|
  bw_goto hZ (tgt := 95) (by decide) dX12_ahead_83 <|
  bw_iret hZ hE dX12_ahead_95)) (fun _ =>
  bw_iconst hZ (-1) (by decide) dX12_ahead_70 <|
  bw_goto hZ (tgt := 95) (by decide) dX12_ahead_71 <|
  bw_iret hZ hE dX12_ahead_95)) (fun _ =>
  bw_iload_n hZ 3 rfl dX12_ahead_38 <|
  bw_aload_n hZ 0 rfl dX12_ahead_39 <|
  bw_iload hZ 4 rfl dX12_ahead_40 <|
  bw_iload_n hZ 1 rfl dX12_ahead_42 <|
  bw_iload_n hZ 2 rfl dX12_ahead_43 <|
  bw_callVI (As := [.int y4, .int y1, .int y2]) hZ ml_RX12_573 rc_12 obM_0 (by decide) (c_X12_isAhead (zl Z) (zY Z) (hZ_S hZ) y4 y1 y2 w) rfl rfl (Nat.le_of_ble_eq_true rfl) dX12_ahead_44 fun r6 w5 =>
  bw_if_eq hZ (tgt := 54) (by decide) dX12_ahead_47 (fun _ =>
  bw_iconst hZ 0 (by decide) dX12_ahead_54 <|
  bw_iadd hZ dX12_ahead_55 <|
  bw_nm fun v7 =>
  bw_istore_n hZ rfl (by decide) rfl dX12_ahead_56 <|
  bw_iinc hZ 1 4 rfl (by decide) (by decide) rfl dX12_ahead_57 <|
  bw_goto hZ (tgt := 29) (by decide) dX12_ahead_60 <|
  bw_sub [2, 3, 4, 1, 0] rfl (hk29 y1 y2 v7 (y4 + 1) w5)) (fun _ =>
  bw_iconst hZ 1 (by decide) dX12_ahead_50 <|
  bw_goto hZ (tgt := 55) (by decide) dX12_ahead_51 <|
  bw_iadd hZ dX12_ahead_55 <|
  bw_nm fun v8 =>
  bw_istore_n hZ rfl (by decide) rfl dX12_ahead_56 <|
  bw_iinc hZ 1 4 rfl (by decide) (by decide) rfl dX12_ahead_57 <|
  bw_goto hZ (tgt := 29) (by decide) dX12_ahead_60 <|
  bw_sub [2, 3, 4, 1, 0] rfl (hk29 y1 y2 v8 (y4 + 1) w5)))
def X12_ahead_b29_L  : Int32 → Int32 → Int32 → Int32 → Wd → Option (Int32 × Wd) :=
  lp fu (fun _ _ _ _ _ => none) (fun k29 => X12_ahead_b29 k29)
theorem t_X12_ahead_b29_L {Z : Cz (Int32 × Wd)} (hZ : OKZ Z SM cX12_ahead RX12 5 (some .int) 3) (hE : EndI Z)  : ∀ (y1 : Int32) (y2 : Int32) (y3 : Int32) (y4 : Int32)  (w : Wd), BW Z 5 29 [(0, .ref (ph (zY Z) 0)), (1, .int y1), (2, .int y2), (3, .int y3), (4, .int y4)] [] w (X12_ahead_b29_L y1 y2 y3 y4 w) :=
  lp_bw (fun k29 => ∀ (y1 : Int32) (y2 : Int32) (y3 : Int32) (y4 : Int32)  (w : Wd), BW Z 5 29 [(0, .ref (ph (zY Z) 0)), (1, .int y1), (2, .int y2), (3, .int y3), (4, .int y4)] [] w (k29 y1 y2 y3 y4 w)) (fun _ _ _ _ _ => bw_none) (fun k29 hk29 y1 y2 y3 y4 w => t_X12_ahead_b29 hZ hE k29 hk29 y1 y2 y3 y4 w) fu
def f_X12_ahead (x1 : Int32) (x2 : Int32) (w : Wd) : Option (Int32 × Wd) :=
  cl (f_X12_isItem x1 w) fun r2 w1 =>
  if r2 = 0 then
  (some ((-2), w1))
  else
  cl (f_X12_isItem x2 w1) fun r4 w3 =>
  if r4 = 0 then
  (some ((-2), w3))
  else
  if x1 = x2 then
  (some ((-2), w3))
  else
  X12_ahead_b29_L x1 x2 0 0 w3
set_option maxRecDepth 100000 in
set_option maxHeartbeats 4000000 in
theorem t_X12_ahead {Z : Cz (Int32 × Wd)} (hZ : OKZ Z SM cX12_ahead RX12 5 (some .int) 3) (hE : EndI Z) (x1 : Int32) (x2 : Int32)  (w : Wd) : BW Z 5 0 [(0, .ref (ph (zY Z) 0)), (1, .int x1), (2, .int x2)] [] w (f_X12_ahead x1 x2 w) :=
  bw_aload_n hZ 0 rfl dX12_ahead_0 <|
  bw_iload_n hZ 1 rfl dX12_ahead_1 <|
  bw_callVI (As := [.int x1]) hZ ml_RX12_570 rc_12 obM_0 (by decide) (c_X12_isItem (zl Z) (zY Z) (hZ_S hZ) x1 w) rfl rfl (Nat.le_of_ble_eq_true rfl) dX12_ahead_2 fun r2 w1 =>
  bw_if_eq hZ (tgt := 21) (by decide) dX12_ahead_5 (fun _ =>
  bw_bipush hZ (-2) (by decide) dX12_ahead_21 <|
  bw_iret hZ hE dX12_ahead_23) (fun _ =>
  bw_aload_n hZ 0 rfl dX12_ahead_8 <|
  bw_iload_n hZ 2 rfl dX12_ahead_9 <|
  bw_callVI (As := [.int x2]) hZ ml_RX12_570 rc_12 obM_0 (by decide) (c_X12_isItem (zl Z) (zY Z) (hZ_S hZ) x2 w1) rfl rfl (Nat.le_of_ble_eq_true rfl) dX12_ahead_10 fun r4 w3 =>
  bw_if_eq hZ (tgt := 21) (by decide) dX12_ahead_13 (fun _ =>
  bw_bipush hZ (-2) (by decide) dX12_ahead_21 <|
  bw_iret hZ hE dX12_ahead_23) (fun _ =>
  bw_iload_n hZ 1 rfl dX12_ahead_16 <|
  bw_iload_n hZ 2 rfl dX12_ahead_17 <|
  bw_icmp_ne hZ (tgt := 24) (by decide) dX12_ahead_18 (fun _ =>
  bw_iconst hZ 0 (by decide) dX12_ahead_24 <|
  bw_istore_n hZ rfl (by decide) rfl dX12_ahead_25 <|
  bw_iconst hZ 0 (by decide) dX12_ahead_26 <|
  bw_istore hZ (by decide) rfl dX12_ahead_27 <|
  bw_sub [2, 3, 4, 1, 0] rfl (t_X12_ahead_b29_L hZ hE x1 x2 0 0 w3)) (fun _ =>
  bw_bipush hZ (-2) (by decide) dX12_ahead_21 <|
  bw_iret hZ hE dX12_ahead_23)))
theorem c_X12_ahead (l : Launch) (Y : Ev) (hY : Y.1 = SM) (x1 : Int32) (x2 : Int32)  (w : Wd) : CI l Y yX12_ahead cX12_ahead 5 3 [.ref (ph Y 0), .int x1, .int x2] w .int (f_X12_ahead x1 x2 w) := by
  refine CI_of (S := SM) (by decide) (Nat.le_of_ble_eq_true rfl) hY ?_
  intro Z hl hY2 hZ hE
  subst hY2
  exact t_X12_ahead hZ hE x1 x2 w
-- WhichWillModel.lawOf
theorem dX12_lawOf_0 : decode cX12_lawOf 0 = .ok (.aload_n 0, 1) := by decide +kernel
theorem dX12_lawOf_1 : decode cX12_lawOf 1 = .ok (.getfield 422, 3) := by decide +kernel
theorem dX12_lawOf_4 : decode cX12_lawOf 4 = .ok (.istore_n 2, 1) := by decide +kernel
theorem dX12_lawOf_5 : decode cX12_lawOf 5 = .ok (.iconst 0, 1) := by decide +kernel
theorem dX12_lawOf_6 : decode cX12_lawOf 6 = .ok (.istore_n 3, 1) := by decide +kernel
theorem dX12_lawOf_7 : decode cX12_lawOf 7 = .ok (.aload_n 0, 1) := by decide +kernel
theorem dX12_lawOf_8 : decode cX12_lawOf 8 = .ok (.iconst 0, 1) := by decide +kernel
theorem dX12_lawOf_9 : decode cX12_lawOf 9 = .ok (.putfield 577, 3) := by decide +kernel
theorem dX12_lawOf_12 : decode cX12_lawOf 12 = .ok (.iload_n 3, 1) := by decide +kernel
theorem dX12_lawOf_13 : decode cX12_lawOf 13 = .ok (.iconst 1, 1) := by decide +kernel
theorem dX12_lawOf_14 : decode cX12_lawOf 14 = .ok (.iload_n 2, 1) := by decide +kernel
theorem dX12_lawOf_15 : decode cX12_lawOf 15 = .ok (.ishl, 1) := by decide +kernel
theorem dX12_lawOf_16 : decode cX12_lawOf 16 = .ok (.ior, 1) := by decide +kernel
theorem dX12_lawOf_17 : decode cX12_lawOf 17 = .ok (.istore_n 3, 1) := by decide +kernel
theorem dX12_lawOf_18 : decode cX12_lawOf 18 = .ok (.aload_n 0, 1) := by decide +kernel
theorem dX12_lawOf_19 : decode cX12_lawOf 19 = .ok (.getfield 243, 3) := by decide +kernel
theorem dX12_lawOf_22 : decode cX12_lawOf 22 = .ok (.bipush 13, 2) := by decide +kernel
theorem dX12_lawOf_24 : decode cX12_lawOf 24 = .ok (.iload_n 2, 1) := by decide +kernel
theorem dX12_lawOf_25 : decode cX12_lawOf 25 = .ok (.imul, 1) := by decide +kernel
theorem dX12_lawOf_26 : decode cX12_lawOf 26 = .ok (.iload_n 1, 1) := by decide +kernel
theorem dX12_lawOf_27 : decode cX12_lawOf 27 = .ok (.iconst (-1), 1) := by decide +kernel
theorem dX12_lawOf_28 : decode cX12_lawOf 28 = .ok (.if_icmp .ne 8, 3) := by decide +kernel
theorem dX12_lawOf_31 : decode cX12_lawOf 31 = .ok (.bipush 12, 2) := by decide +kernel
theorem dX12_lawOf_33 : decode cX12_lawOf 33 = .ok (.goto 5, 3) := by decide +kernel
theorem dX12_lawOf_36 : decode cX12_lawOf 36 = .ok (.bipush 11, 2) := by decide +kernel
theorem dX12_lawOf_38 : decode cX12_lawOf 38 = .ok (.iadd, 1) := by decide +kernel
theorem dX12_lawOf_39 : decode cX12_lawOf 39 = .ok (.iaload, 1) := by decide +kernel
theorem dX12_lawOf_40 : decode cX12_lawOf 40 = .ok (.istore 4, 2) := by decide +kernel
theorem dX12_lawOf_42 : decode cX12_lawOf 42 = .ok (.iload 4, 2) := by decide +kernel
theorem dX12_lawOf_44 : decode cX12_lawOf 44 = .ok (.ifCond .ne 7, 3) := by decide +kernel
theorem dX12_lawOf_47 : decode cX12_lawOf 47 = .ok (.iload_n 2, 1) := by decide +kernel
theorem dX12_lawOf_48 : decode cX12_lawOf 48 = .ok (.goto 30, 3) := by decide +kernel
theorem dX12_lawOf_51 : decode cX12_lawOf 51 = .ok (.iload 4, 2) := by decide +kernel
theorem dX12_lawOf_53 : decode cX12_lawOf 53 = .ok (.iconst 1, 1) := by decide +kernel
theorem dX12_lawOf_54 : decode cX12_lawOf 54 = .ok (.if_icmp .ne 7, 3) := by decide +kernel
theorem dX12_lawOf_57 : decode cX12_lawOf 57 = .ok (.iload_n 1, 1) := by decide +kernel
theorem dX12_lawOf_58 : decode cX12_lawOf 58 = .ok (.goto 20, 3) := by decide +kernel
theorem dX12_lawOf_61 : decode cX12_lawOf 61 = .ok (.iload 4, 2) := by decide +kernel
theorem dX12_lawOf_63 : decode cX12_lawOf 63 = .ok (.iconst 2, 1) := by decide +kernel
theorem dX12_lawOf_64 : decode cX12_lawOf 64 = .ok (.if_icmp .ne 10, 3) := by decide +kernel
theorem dX12_lawOf_67 : decode cX12_lawOf 67 = .ok (.aload_n 0, 1) := by decide +kernel
theorem dX12_lawOf_68 : decode cX12_lawOf 68 = .ok (.getfield 424, 3) := by decide +kernel
theorem dX12_lawOf_71 : decode cX12_lawOf 71 = .ok (.goto 7, 3) := by decide +kernel
theorem dX12_lawOf_74 : decode cX12_lawOf 74 = .ok (.aload_n 0, 1) := by decide +kernel
theorem dX12_lawOf_75 : decode cX12_lawOf 75 = .ok (.getfield 426, 3) := by decide +kernel
theorem dX12_lawOf_78 : decode cX12_lawOf 78 = .ok (.istore 5, 2) := by decide +kernel
theorem dX12_lawOf_80 : decode cX12_lawOf 80 = .ok (.iload 5, 2) := by decide +kernel
theorem dX12_lawOf_82 : decode cX12_lawOf 82 = .ok (.iload_n 2, 1) := by decide +kernel
theorem dX12_lawOf_83 : decode cX12_lawOf 83 = .ok (.if_icmp .ne 5, 3) := by decide +kernel
theorem dX12_lawOf_86 : decode cX12_lawOf 86 = .ok (.iload_n 2, 1) := by decide +kernel
theorem dX12_lawOf_87 : decode cX12_lawOf 87 = .ok (.ireturn, 1) := by decide +kernel
theorem dX12_lawOf_88 : decode cX12_lawOf 88 = .ok (.iload_n 3, 1) := by decide +kernel
theorem dX12_lawOf_89 : decode cX12_lawOf 89 = .ok (.iload 5, 2) := by decide +kernel
theorem dX12_lawOf_91 : decode cX12_lawOf 91 = .ok (.ishr, 1) := by decide +kernel
theorem dX12_lawOf_92 : decode cX12_lawOf 92 = .ok (.iconst 1, 1) := by decide +kernel
theorem dX12_lawOf_93 : decode cX12_lawOf 93 = .ok (.iand, 1) := by decide +kernel
theorem dX12_lawOf_94 : decode cX12_lawOf 94 = .ok (.iconst 1, 1) := by decide +kernel
theorem dX12_lawOf_95 : decode cX12_lawOf 95 = .ok (.if_icmp .ne 11, 3) := by decide +kernel
theorem dX12_lawOf_98 : decode cX12_lawOf 98 = .ok (.aload_n 0, 1) := by decide +kernel
theorem dX12_lawOf_99 : decode cX12_lawOf 99 = .ok (.iconst 1, 1) := by decide +kernel
theorem dX12_lawOf_100 : decode cX12_lawOf 100 = .ok (.putfield 577, 3) := by decide +kernel
theorem dX12_lawOf_103 : decode cX12_lawOf 103 = .ok (.iload 5, 2) := by decide +kernel
theorem dX12_lawOf_105 : decode cX12_lawOf 105 = .ok (.ireturn, 1) := by decide +kernel
theorem dX12_lawOf_106 : decode cX12_lawOf 106 = .ok (.iload 5, 2) := by decide +kernel
theorem dX12_lawOf_108 : decode cX12_lawOf 108 = .ok (.istore_n 2, 1) := by decide +kernel
theorem dX12_lawOf_109 : decode cX12_lawOf 109 = .ok (.goto (-97), 3) := by decide +kernel
def X12_lawOf_b78 (k12 : Int32 → Int32 → Int32 → Wd → Option (Int32 × Wd)) (y1 : Int32) (y2 : Int32) (y3 : Int32) (t0 : Int32) (w : Wd) : Option (Int32 × Wd) :=
  if t0 = y2 then
  (some (y2, w))
  else
  if ((y3 >>> (t0 &&& 31)) &&& 1) = 1 then
  (lt (wI w 0 79 1) fun w5 =>
  some (t0, w5))
  else
  k12 y1 t0 y3 w
set_option maxRecDepth 100000 in
set_option maxHeartbeats 4000000 in
theorem t_X12_lawOf_b78 {Z : Cz (Int32 × Wd)} (hZ : OKZ Z SM cX12_lawOf RX12 6 (some .int) 1) (hE : EndI Z) (k12 : Int32 → Int32 → Int32 → Wd → Option (Int32 × Wd)) (hk12 : ∀ (y1 : Int32) (y2 : Int32) (y3 : Int32)  (w : Wd), BW Z 6 12 [(0, .ref (ph (zY Z) 0)), (1, .int y1), (2, .int y2), (3, .int y3)] [] w (k12 y1 y2 y3 w)) (y1 : Int32) (y2 : Int32) (y3 : Int32) (t0 : Int32)  (w : Wd) : BW Z 6 78 [(0, .ref (ph (zY Z) 0)), (1, .int y1), (2, .int y2), (3, .int y3)] [.int t0] w (X12_lawOf_b78 k12 y1 y2 y3 t0 w) :=
  bw_istore hZ (by decide) rfl dX12_lawOf_78 <|
  bw_iload hZ 0 rfl dX12_lawOf_80 <|
  bw_iload_n hZ 3 rfl dX12_lawOf_82 <|
  bw_icmp_ne hZ (tgt := 88) (by decide) dX12_lawOf_83 (fun _ =>
  bw_iload_n hZ 4 rfl dX12_lawOf_88 <|
  bw_iload hZ 0 rfl dX12_lawOf_89 <|
  bw_ishr hZ dX12_lawOf_91 <|
  bw_iconst hZ 1 (by decide) dX12_lawOf_92 <|
  bw_iand hZ dX12_lawOf_93 <|
  bw_iconst hZ 1 (by decide) dX12_lawOf_94 <|
  bw_icmp_ne hZ (tgt := 106) (by decide) dX12_lawOf_95 (fun _ =>
  bw_iload hZ 0 rfl dX12_lawOf_106 <|
  bw_istore_n hZ rfl (by decide) rfl dX12_lawOf_108 <|
  bw_goto hZ (tgt := 12) (by decide) dX12_lawOf_109 <|
  bw_sub [2, 3, 0, 4] rfl (hk12 y1 t0 y3 w)) (fun _ =>
  bw_aload_n hZ 1 rfl dX12_lawOf_98 <|
  bw_iconst hZ 1 (by decide) dX12_lawOf_99 <|
  bw_putI hZ fl_RX12_577 rfl rfl (by decide) obM_0 dX12_lawOf_100 fun w5 =>
  bw_iload hZ 0 rfl dX12_lawOf_103 <|
  bw_iret hZ hE dX12_lawOf_105)) (fun _ =>
  bw_iload_n hZ 3 rfl dX12_lawOf_86 <|
  bw_iret hZ hE dX12_lawOf_87)
def X12_lawOf_b38 (k12 : Int32 → Int32 → Int32 → Wd → Option (Int32 × Wd)) (y1 : Int32) (y2 : Int32) (y3 : Int32) (t0 : Int32) (t1 : Int32) (w : Wd) : Option (Int32 × Wd) :=
  if inb (t1 + t0) 52 = true then
  (lt (w.1 2 (Int32.toNatClampNeg (t1 + t0))) fun v4 =>
  if v4 = 0 then
  (X12_lawOf_b78 k12 y1 y2 y3 y2 w)
  else
  if v4 = 1 then
  (X12_lawOf_b78 k12 y1 y2 y3 y1 w)
  else
  if v4 = 2 then
  (X12_lawOf_b78 k12 y1 y2 y3 (w.1 0 17) w)
  else
  X12_lawOf_b78 k12 y1 y2 y3 (w.1 0 18) w)
  else none
set_option maxRecDepth 100000 in
set_option maxHeartbeats 4000000 in
theorem t_X12_lawOf_b38 {Z : Cz (Int32 × Wd)} (hZ : OKZ Z SM cX12_lawOf RX12 6 (some .int) 1) (hE : EndI Z) (k12 : Int32 → Int32 → Int32 → Wd → Option (Int32 × Wd)) (hk12 : ∀ (y1 : Int32) (y2 : Int32) (y3 : Int32)  (w : Wd), BW Z 6 12 [(0, .ref (ph (zY Z) 0)), (1, .int y1), (2, .int y2), (3, .int y3)] [] w (k12 y1 y2 y3 w)) (y1 : Int32) (y2 : Int32) (y3 : Int32) (t0 : Int32) (t1 : Int32)  (w : Wd) : BW Z 6 38 [(0, .ref (ph (zY Z) 0)), (1, .int y1), (2, .int y2), (3, .int y3)] [.int t0, .int t1, .ref (ph (zY Z) 2)] w (X12_lawOf_b38 k12 y1 y2 y3 t0 t1 w) :=
  bw_iadd hZ dX12_lawOf_38 <|
  bw_iald hZ (arM_2 _) dX12_lawOf_39 <|
  bw_nm fun v4 =>
  bw_istore hZ (by decide) rfl dX12_lawOf_40 <|
  bw_iload hZ 0 rfl dX12_lawOf_42 <|
  bw_if_ne hZ (tgt := 51) (by decide) dX12_lawOf_44 (fun _ =>
  bw_iload hZ 0 rfl dX12_lawOf_51 <|
  bw_iconst hZ 1 (by decide) dX12_lawOf_53 <|
  bw_icmp_ne hZ (tgt := 61) (by decide) dX12_lawOf_54 (fun _ =>
  bw_iload hZ 0 rfl dX12_lawOf_61 <|
  bw_iconst hZ 2 (by decide) dX12_lawOf_63 <|
  bw_icmp_ne hZ (tgt := 74) (by decide) dX12_lawOf_64 (fun _ =>
  bw_aload_n hZ 1 rfl dX12_lawOf_74 <|
  bw_getI hZ fl_RX12_426 (by decide) obM_0 dX12_lawOf_75 <|
  bw_sub [1, 2, 3, 4] rfl (t_X12_lawOf_b78 hZ hE k12 hk12 y1 y2 y3 (w.1 0 18) w)) (fun _ =>
  bw_aload_n hZ 1 rfl dX12_lawOf_67 <|
  bw_getI hZ fl_RX12_424 (by decide) obM_0 dX12_lawOf_68 <|
  bw_goto hZ (tgt := 78) (by decide) dX12_lawOf_71 <|
  bw_sub [1, 2, 3, 4] rfl (t_X12_lawOf_b78 hZ hE k12 hk12 y1 y2 y3 (w.1 0 17) w))) (fun _ =>
  bw_iload_n hZ 2 rfl dX12_lawOf_57 <|
  bw_goto hZ (tgt := 78) (by decide) dX12_lawOf_58 <|
  bw_sub [1, 2, 3, 4] rfl (t_X12_lawOf_b78 hZ hE k12 hk12 y1 y2 y3 y1 w))) (fun _ =>
  bw_iload_n hZ 3 rfl dX12_lawOf_47 <|
  bw_goto hZ (tgt := 78) (by decide) dX12_lawOf_48 <|
  bw_sub [1, 2, 3, 4] rfl (t_X12_lawOf_b78 hZ hE k12 hk12 y1 y2 y3 y2 w))
def X12_lawOf_b12 (k12 : Int32 → Int32 → Int32 → Wd → Option (Int32 × Wd)) (y1 : Int32) (y2 : Int32) (y3 : Int32) (w : Wd) : Option (Int32 × Wd) :=
  lt (y3 ||| (1 <<< (y2 &&& 31))) fun v3 =>
  if y1 = ((-1)) then
  (X12_lawOf_b38 k12 y1 y2 v3 12 (13 * y2) w)
  else
  X12_lawOf_b38 k12 y1 y2 v3 11 (13 * y2) w
set_option maxRecDepth 100000 in
set_option maxHeartbeats 4000000 in
theorem t_X12_lawOf_b12 {Z : Cz (Int32 × Wd)} (hZ : OKZ Z SM cX12_lawOf RX12 6 (some .int) 1) (hE : EndI Z) (k12 : Int32 → Int32 → Int32 → Wd → Option (Int32 × Wd)) (hk12 : ∀ (y1 : Int32) (y2 : Int32) (y3 : Int32)  (w : Wd), BW Z 6 12 [(0, .ref (ph (zY Z) 0)), (1, .int y1), (2, .int y2), (3, .int y3)] [] w (k12 y1 y2 y3 w)) (y1 : Int32) (y2 : Int32) (y3 : Int32)  (w : Wd) : BW Z 6 12 [(0, .ref (ph (zY Z) 0)), (1, .int y1), (2, .int y2), (3, .int y3)] [] w (X12_lawOf_b12 k12 y1 y2 y3 w) :=
  bw_iload_n hZ 3 rfl dX12_lawOf_12 <|
  bw_iconst hZ 1 (by decide) dX12_lawOf_13 <|
  bw_iload_n hZ 2 rfl dX12_lawOf_14 <|
  bw_ishl hZ dX12_lawOf_15 <|
  bw_ior hZ dX12_lawOf_16 <|
  bw_nm fun v3 =>
  bw_istore_n hZ rfl (by decide) rfl dX12_lawOf_17 <|
  bw_aload_n hZ 1 rfl dX12_lawOf_18 <|
  bw_getR hZ fl_RX12_243 obM_0 rfl dX12_lawOf_19 <|
  bw_bipush hZ 13 (by decide) dX12_lawOf_22 <|
  bw_iload_n hZ 3 rfl dX12_lawOf_24 <|
  bw_imul hZ dX12_lawOf_25 <|
  bw_iload_n hZ 2 rfl dX12_lawOf_26 <|
  bw_iconst hZ (-1) (by decide) dX12_lawOf_27 <|
  bw_icmp_ne hZ (tgt := 36) (by decide) dX12_lawOf_28 (fun _ =>
  bw_bipush hZ 11 (by decide) dX12_lawOf_36 <|
  bw_sub [1, 2, 3, 0] rfl (t_X12_lawOf_b38 hZ hE k12 hk12 y1 y2 v3 11 (13 * y2) w)) (fun _ =>
  bw_bipush hZ 12 (by decide) dX12_lawOf_31 <|
  bw_goto hZ (tgt := 38) (by decide) dX12_lawOf_33 <|
  bw_sub [1, 2, 3, 0] rfl (t_X12_lawOf_b38 hZ hE k12 hk12 y1 y2 v3 12 (13 * y2) w))
def X12_lawOf_b12_L  : Int32 → Int32 → Int32 → Wd → Option (Int32 × Wd) :=
  lp fu (fun _ _ _ _ => none) (fun k12 => X12_lawOf_b12 k12)
theorem t_X12_lawOf_b12_L {Z : Cz (Int32 × Wd)} (hZ : OKZ Z SM cX12_lawOf RX12 6 (some .int) 1) (hE : EndI Z)  : ∀ (y1 : Int32) (y2 : Int32) (y3 : Int32)  (w : Wd), BW Z 6 12 [(0, .ref (ph (zY Z) 0)), (1, .int y1), (2, .int y2), (3, .int y3)] [] w (X12_lawOf_b12_L y1 y2 y3 w) :=
  lp_bw (fun k12 => ∀ (y1 : Int32) (y2 : Int32) (y3 : Int32)  (w : Wd), BW Z 6 12 [(0, .ref (ph (zY Z) 0)), (1, .int y1), (2, .int y2), (3, .int y3)] [] w (k12 y1 y2 y3 w)) (fun _ _ _ _ => bw_none) (fun k12 hk12 y1 y2 y3 w => t_X12_lawOf_b12 hZ hE k12 hk12 y1 y2 y3 w) fu
def f_X12_lawOf (x1 : Int32) (w : Wd) : Option (Int32 × Wd) :=
  lt (w.1 0 16) fun v1 =>
  lt (wI w 0 79 0) fun w2 =>
  X12_lawOf_b12_L x1 v1 0 w2
set_option maxRecDepth 100000 in
set_option maxHeartbeats 4000000 in
theorem t_X12_lawOf {Z : Cz (Int32 × Wd)} (hZ : OKZ Z SM cX12_lawOf RX12 6 (some .int) 1) (hE : EndI Z) (x1 : Int32)  (w : Wd) : BW Z 6 0 [(0, .ref (ph (zY Z) 0)), (1, .int x1)] [] w (f_X12_lawOf x1 w) :=
  bw_aload_n hZ 0 rfl dX12_lawOf_0 <|
  bw_getI hZ fl_RX12_422 (by decide) obM_0 dX12_lawOf_1 <|
  bw_nm fun v1 =>
  bw_istore_n hZ rfl (by decide) rfl dX12_lawOf_4 <|
  bw_iconst hZ 0 (by decide) dX12_lawOf_5 <|
  bw_istore_n hZ rfl (by decide) rfl dX12_lawOf_6 <|
  bw_aload_n hZ 2 rfl dX12_lawOf_7 <|
  bw_iconst hZ 0 (by decide) dX12_lawOf_8 <|
  bw_putI hZ fl_RX12_577 rfl rfl (by decide) obM_0 dX12_lawOf_9 fun w2 =>
  bw_sub [2, 3, 1, 0] rfl (t_X12_lawOf_b12_L hZ hE x1 v1 0 w2)
theorem c_X12_lawOf (l : Launch) (Y : Ev) (hY : Y.1 = SM) (x1 : Int32)  (w : Wd) : CI l Y yX12_lawOf cX12_lawOf 6 1 [.ref (ph Y 0), .int x1] w .int (f_X12_lawOf x1 w) := by
  refine CI_of (S := SM) (by decide) (Nat.le_of_ble_eq_true rfl) hY ?_
  intro Z hl hY2 hZ hE
  subst hY2
  exact t_X12_lawOf hZ hE x1 w
-- WhichWillModel.isThing
theorem dX12_isThing_0 : decode cX12_isThing 0 = .ok (.iload_n 1, 1) := by decide +kernel
theorem dX12_isThing_1 : decode cX12_isThing 1 = .ok (.i2l, 1) := by decide +kernel
theorem dX12_isThing_2 : decode cX12_isThing 2 = .ok (.lconst 0, 1) := by decide +kernel
theorem dX12_isThing_3 : decode cX12_isThing 3 = .ok (.aload_n 0, 1) := by decide +kernel
theorem dX12_isThing_4 : decode cX12_isThing 4 = .ok (.getfield 415, 3) := by decide +kernel
theorem dX12_isThing_7 : decode cX12_isThing 7 = .ok (.i2l, 1) := by decide +kernel
theorem dX12_isThing_8 : decode cX12_isThing 8 = .ok (.lconst 1, 1) := by decide +kernel
theorem dX12_isThing_9 : decode cX12_isThing 9 = .ok (.lsub, 1) := by decide +kernel
theorem dX12_isThing_10 : decode cX12_isThing 10 = .ok (.invokestatic 60, 3) := by decide +kernel
theorem dX12_isThing_13 : decode cX12_isThing 13 = .ok (.ireturn, 1) := by decide +kernel
def f_X12_isThing (x1 : Int32) (w : Wd) : Option (Int32 × Wd) :=
  cl (f_X12_in (Int32.toInt64 x1) 0 ((Int32.toInt64 (w.1 0 12)) - 1) w) fun r2 w1 =>
  if isB r2 = true then some (r2, w1) else none
set_option maxRecDepth 100000 in
set_option maxHeartbeats 4000000 in
theorem t_X12_isThing {Z : Cz (Int32 × Wd)} (hZ : OKZ Z SM cX12_isThing RX12 2 (some .boolean) 2) (hE : EndI Z) (x1 : Int32)  (w : Wd) : BW Z 2 0 [(0, .ref (ph (zY Z) 0)), (1, .int x1)] [] w (f_X12_isThing x1 w) :=
  bw_iload_n hZ 1 rfl dX12_isThing_0 <|
  bw_i2l hZ dX12_isThing_1 <|
  bw_lconst hZ 0 (by decide) dX12_isThing_2 <|
  bw_aload_n hZ 0 rfl dX12_isThing_3 <|
  bw_getI hZ fl_RX12_415 (by decide) obM_0 dX12_isThing_4 <|
  bw_i2l hZ dX12_isThing_7 <|
  bw_lconst hZ 1 (by decide) dX12_isThing_8 <|
  bw_lsub hZ dX12_isThing_9 <|
  bw_callSI (As := [.long (Int32.toInt64 x1), .long 0, .long ((Int32.toInt64 (w.1 0 12)) - 1)]) hZ ms_RX12_60 (by decide) (c_X12_in (zl Z) (zY Z) (hZ_S hZ) (Int32.toInt64 x1) 0 ((Int32.toInt64 (w.1 0 12)) - 1) w) rfl rfl (Nat.le_of_ble_eq_true rfl) dX12_isThing_10 fun r2 w1 =>
  bw_zretC hZ hE dX12_isThing_13
theorem c_X12_isThing (l : Launch) (Y : Ev) (hY : Y.1 = SM) (x1 : Int32)  (w : Wd) : CI l Y yX12_isThing cX12_isThing 2 2 [.ref (ph Y 0), .int x1] w .boolean (f_X12_isThing x1 w) := by
  refine CI_of (S := SM) (by decide) (Nat.le_of_ble_eq_true rfl) hY ?_
  intro Z hl hY2 hZ hE
  subst hY2
  exact t_X12_isThing hZ hE x1 w
-- WhichWillModel.lawFor
theorem dX12_lawFor_0 : decode cX12_lawFor 0 = .ok (.aload_n 0, 1) := by decide +kernel
theorem dX12_lawFor_1 : decode cX12_lawFor 1 = .ok (.iload_n 1, 1) := by decide +kernel
theorem dX12_lawFor_2 : decode cX12_lawFor 2 = .ok (.iconst (-1), 1) := by decide +kernel
theorem dX12_lawFor_3 : decode cX12_lawFor 3 = .ok (.if_icmp .ne 7, 3) := by decide +kernel
theorem dX12_lawFor_6 : decode cX12_lawFor 6 = .ok (.iconst (-1), 1) := by decide +kernel
theorem dX12_lawFor_7 : decode cX12_lawFor 7 = .ok (.goto 9, 3) := by decide +kernel
theorem dX12_lawFor_10 : decode cX12_lawFor 10 = .ok (.aload_n 0, 1) := by decide +kernel
theorem dX12_lawFor_11 : decode cX12_lawFor 11 = .ok (.getfield 255, 3) := by decide +kernel
theorem dX12_lawFor_14 : decode cX12_lawFor 14 = .ok (.iload_n 1, 1) := by decide +kernel
theorem dX12_lawFor_15 : decode cX12_lawFor 15 = .ok (.iaload, 1) := by decide +kernel
theorem dX12_lawFor_16 : decode cX12_lawFor 16 = .ok (.invokevirtual 580, 3) := by decide +kernel
theorem dX12_lawFor_19 : decode cX12_lawFor 19 = .ok (.ireturn, 1) := by decide +kernel
def X12_lawFor_b16 (t0 : Int32) (w : Wd) : Option (Int32 × Wd) :=
  cl (f_X12_lawOf t0 w) fun r2 w1 =>
  some (r2, w1)
set_option maxRecDepth 100000 in
set_option maxHeartbeats 4000000 in
theorem t_X12_lawFor_b16 {Z : Cz (Int32 × Wd)} (hZ : OKZ Z SM cX12_lawFor RX12 2 (some .int) 2) (hE : EndI Z)  (t0 : Int32)  (w : Wd) : BW Z 2 16 [] [.int t0, .ref (ph (zY Z) 0)] w (X12_lawFor_b16 t0 w) :=
  bw_callVI (As := [.int t0]) hZ ml_RX12_580 rc_12 obM_0 (by decide) (c_X12_lawOf (zl Z) (zY Z) (hZ_S hZ) t0 w) rfl rfl (Nat.le_of_ble_eq_true rfl) dX12_lawFor_16 fun r2 w1 =>
  bw_iret hZ hE dX12_lawFor_19
def f_X12_lawFor (x1 : Int32) (w : Wd) : Option (Int32 × Wd) :=
  if x1 = ((-1)) then
  (X12_lawFor_b16 ((-1)) w)
  else
  if inb x1 8 = true then
  (X12_lawFor_b16 (w.1 6 (Int32.toNatClampNeg x1)) w)
  else none
set_option maxRecDepth 100000 in
set_option maxHeartbeats 4000000 in
theorem t_X12_lawFor {Z : Cz (Int32 × Wd)} (hZ : OKZ Z SM cX12_lawFor RX12 2 (some .int) 2) (hE : EndI Z) (x1 : Int32)  (w : Wd) : BW Z 2 0 [(0, .ref (ph (zY Z) 0)), (1, .int x1)] [] w (f_X12_lawFor x1 w) :=
  bw_aload_n hZ 0 rfl dX12_lawFor_0 <|
  bw_iload_n hZ 1 rfl dX12_lawFor_1 <|
  bw_iconst hZ (-1) (by decide) dX12_lawFor_2 <|
  bw_icmp_ne hZ (tgt := 10) (by decide) dX12_lawFor_3 (fun _ =>
  bw_aload_n hZ 0 rfl dX12_lawFor_10 <|
  bw_getR hZ fl_RX12_255 obM_0 rfl dX12_lawFor_11 <|
  bw_iload_n hZ 1 rfl dX12_lawFor_14 <|
  bw_iald hZ (arM_6 _) dX12_lawFor_15 <|
  bw_sub [] rfl (t_X12_lawFor_b16 hZ hE (w.1 6 (Int32.toNatClampNeg x1)) w)) (fun _ =>
  bw_iconst hZ (-1) (by decide) dX12_lawFor_6 <|
  bw_goto hZ (tgt := 16) (by decide) dX12_lawFor_7 <|
  bw_sub [] rfl (t_X12_lawFor_b16 hZ hE ((-1)) w))
theorem c_X12_lawFor (l : Launch) (Y : Ev) (hY : Y.1 = SM) (x1 : Int32)  (w : Wd) : CI l Y yX12_lawFor cX12_lawFor 2 2 [.ref (ph Y 0), .int x1] w .int (f_X12_lawFor x1 w) := by
  refine CI_of (S := SM) (by decide) (Nat.le_of_ble_eq_true rfl) hY ?_
  intro Z hl hY2 hZ hE
  subst hY2
  exact t_X12_lawFor hZ hE x1 w
-- WhichWillModel.law
theorem dX12_law_0 : decode cX12_law 0 = .ok (.iload_n 1, 1) := by decide +kernel
theorem dX12_law_1 : decode cX12_law 1 = .ok (.iconst (-1), 1) := by decide +kernel
theorem dX12_law_2 : decode cX12_law 2 = .ok (.if_icmp .eq 16, 3) := by decide +kernel
theorem dX12_law_5 : decode cX12_law 5 = .ok (.aload_n 0, 1) := by decide +kernel
theorem dX12_law_6 : decode cX12_law 6 = .ok (.iload_n 1, 1) := by decide +kernel
theorem dX12_law_7 : decode cX12_law 7 = .ok (.invokevirtual 583, 3) := by decide +kernel
theorem dX12_law_10 : decode cX12_law 10 = .ok (.ifCond .ne 8, 3) := by decide +kernel
theorem dX12_law_13 : decode cX12_law 13 = .ok (.bipush (-2), 2) := by decide +kernel
theorem dX12_law_15 : decode cX12_law 15 = .ok (.goto 19, 3) := by decide +kernel
theorem dX12_law_18 : decode cX12_law 18 = .ok (.aload_n 0, 1) := by decide +kernel
theorem dX12_law_19 : decode cX12_law 19 = .ok (.getfield 409, 3) := by decide +kernel
theorem dX12_law_22 : decode cX12_law 22 = .ok (.ifCond .ne 7, 3) := by decide +kernel
theorem dX12_law_25 : decode cX12_law 25 = .ok (.iconst (-1), 1) := by decide +kernel
theorem dX12_law_26 : decode cX12_law 26 = .ok (.goto 8, 3) := by decide +kernel
theorem dX12_law_29 : decode cX12_law 29 = .ok (.aload_n 0, 1) := by decide +kernel
theorem dX12_law_30 : decode cX12_law 30 = .ok (.iload_n 1, 1) := by decide +kernel
theorem dX12_law_31 : decode cX12_law 31 = .ok (.invokevirtual 586, 3) := by decide +kernel
theorem dX12_law_34 : decode cX12_law 34 = .ok (.ireturn, 1) := by decide +kernel
def X12_law_b18 (y1 : Int32) (w : Wd) : Option (Int32 × Wd) :=
  if (w.1 0 10) = 0 then
  (some ((-1), w))
  else
  cl (f_X12_lawFor y1 w) fun r2 w1 =>
  some (r2, w1)
set_option maxRecDepth 100000 in
set_option maxHeartbeats 4000000 in
theorem t_X12_law_b18 {Z : Cz (Int32 × Wd)} (hZ : OKZ Z SM cX12_law RX12 2 (some .int) 3) (hE : EndI Z)  (y1 : Int32)  (w : Wd) : BW Z 2 18 [(0, .ref (ph (zY Z) 0)), (1, .int y1)] [] w (X12_law_b18 y1 w) :=
  bw_aload_n hZ 0 rfl dX12_law_18 <|
  bw_getI hZ fl_RX12_409 (by decide) obM_0 dX12_law_19 <|
  bw_if_ne hZ (tgt := 29) (by decide) dX12_law_22 (fun _ =>
  bw_aload_n hZ 0 rfl dX12_law_29 <|
  bw_iload_n hZ 1 rfl dX12_law_30 <|
  bw_callVI (As := [.int y1]) hZ ml_RX12_586 rc_12 obM_0 (by decide) (c_X12_lawFor (zl Z) (zY Z) (hZ_S hZ) y1 w) rfl rfl (Nat.le_of_ble_eq_true rfl) dX12_law_31 fun r2 w1 =>
  bw_iret hZ hE dX12_law_34) (fun _ =>
  bw_iconst hZ (-1) (by decide) dX12_law_25 <|
  bw_goto hZ (tgt := 34) (by decide) dX12_law_26 <|
  bw_iret hZ hE dX12_law_34)
def f_X12_law (x1 : Int32) (w : Wd) : Option (Int32 × Wd) :=
  if x1 = ((-1)) then
  (X12_law_b18 x1 w)
  else
  cl (f_X12_isThing x1 w) fun r4 w3 =>
  if r4 = 0 then
  (some ((-2), w3))
  else
  X12_law_b18 x1 w3
set_option maxRecDepth 100000 in
set_option maxHeartbeats 4000000 in
theorem t_X12_law {Z : Cz (Int32 × Wd)} (hZ : OKZ Z SM cX12_law RX12 2 (some .int) 3) (hE : EndI Z) (x1 : Int32)  (w : Wd) : BW Z 2 0 [(0, .ref (ph (zY Z) 0)), (1, .int x1)] [] w (f_X12_law x1 w) :=
  bw_iload_n hZ 1 rfl dX12_law_0 <|
  bw_iconst hZ (-1) (by decide) dX12_law_1 <|
  bw_icmp_eq hZ (tgt := 18) (by decide) dX12_law_2 (fun _ =>
  bw_sub [0, 1] rfl (t_X12_law_b18 hZ hE x1 w)) (fun _ =>
  bw_aload_n hZ 0 rfl dX12_law_5 <|
  bw_iload_n hZ 1 rfl dX12_law_6 <|
  bw_callVI (As := [.int x1]) hZ ml_RX12_583 rc_12 obM_0 (by decide) (c_X12_isThing (zl Z) (zY Z) (hZ_S hZ) x1 w) rfl rfl (Nat.le_of_ble_eq_true rfl) dX12_law_7 fun r4 w3 =>
  bw_if_ne hZ (tgt := 18) (by decide) dX12_law_10 (fun _ =>
  bw_sub [0, 1] rfl (t_X12_law_b18 hZ hE x1 w3)) (fun _ =>
  bw_bipush hZ (-2) (by decide) dX12_law_13 <|
  bw_goto hZ (tgt := 34) (by decide) dX12_law_15 <|
  bw_iret hZ hE dX12_law_34))
theorem c_X12_law (l : Launch) (Y : Ev) (hY : Y.1 = SM) (x1 : Int32)  (w : Wd) : CI l Y yX12_law cX12_law 2 3 [.ref (ph Y 0), .int x1] w .int (f_X12_law x1 w) := by
  refine CI_of (S := SM) (by decide) (Nat.le_of_ble_eq_true rfl) hY ?_
  intro Z hl hY2 hZ hE
  subst hY2
  exact t_X12_law hZ hE x1 w
-- WhichWillModel.ring
theorem dX12_ring_0 : decode cX12_ring 0 = .ok (.iload_n 1, 1) := by decide +kernel
theorem dX12_ring_1 : decode cX12_ring 1 = .ok (.iconst (-1), 1) := by decide +kernel
theorem dX12_ring_2 : decode cX12_ring 2 = .ok (.if_icmp .eq 14, 3) := by decide +kernel
theorem dX12_ring_5 : decode cX12_ring 5 = .ok (.aload_n 0, 1) := by decide +kernel
theorem dX12_ring_6 : decode cX12_ring 6 = .ok (.iload_n 1, 1) := by decide +kernel
theorem dX12_ring_7 : decode cX12_ring 7 = .ok (.invokevirtual 583, 3) := by decide +kernel
theorem dX12_ring_10 : decode cX12_ring 10 = .ok (.ifCond .ne 6, 3) := by decide +kernel
theorem dX12_ring_13 : decode cX12_ring 13 = .ok (.bipush (-2), 2) := by decide +kernel
theorem dX12_ring_15 : decode cX12_ring 15 = .ok (.ireturn, 1) := by decide +kernel
theorem dX12_ring_16 : decode cX12_ring 16 = .ok (.aload_n 0, 1) := by decide +kernel
theorem dX12_ring_17 : decode cX12_ring 17 = .ok (.getfield 409, 3) := by decide +kernel
theorem dX12_ring_20 : decode cX12_ring 20 = .ok (.ifCond .ne 5, 3) := by decide +kernel
theorem dX12_ring_23 : decode cX12_ring 23 = .ok (.iconst (-1), 1) := by decide +kernel
theorem dX12_ring_24 : decode cX12_ring 24 = .ok (.ireturn, 1) := by decide +kernel
theorem dX12_ring_25 : decode cX12_ring 25 = .ok (.aload_n 0, 1) := by decide +kernel
theorem dX12_ring_26 : decode cX12_ring 26 = .ok (.iload_n 1, 1) := by decide +kernel
theorem dX12_ring_27 : decode cX12_ring 27 = .ok (.invokevirtual 586, 3) := by decide +kernel
theorem dX12_ring_30 : decode cX12_ring 30 = .ok (.pop, 1) := by decide +kernel
theorem dX12_ring_31 : decode cX12_ring 31 = .ok (.aload_n 0, 1) := by decide +kernel
theorem dX12_ring_32 : decode cX12_ring 32 = .ok (.getfield 577, 3) := by decide +kernel
theorem dX12_ring_35 : decode cX12_ring 35 = .ok (.ifCond .eq 7, 3) := by decide +kernel
theorem dX12_ring_38 : decode cX12_ring 38 = .ok (.iconst 1, 1) := by decide +kernel
theorem dX12_ring_39 : decode cX12_ring 39 = .ok (.goto 4, 3) := by decide +kernel
theorem dX12_ring_42 : decode cX12_ring 42 = .ok (.iconst 0, 1) := by decide +kernel
theorem dX12_ring_43 : decode cX12_ring 43 = .ok (.ireturn, 1) := by decide +kernel
def X12_ring_b16 (y1 : Int32) (w : Wd) : Option (Int32 × Wd) :=
  if (w.1 0 10) = 0 then
  (some ((-1), w))
  else
  cl (f_X12_lawFor y1 w) fun r2 w1 =>
  if (w1.1 0 79) = 0 then
  (some (0, w1))
  else
  some (1, w1)
set_option maxRecDepth 100000 in
set_option maxHeartbeats 4000000 in
theorem t_X12_ring_b16 {Z : Cz (Int32 × Wd)} (hZ : OKZ Z SM cX12_ring RX12 2 (some .int) 3) (hE : EndI Z)  (y1 : Int32)  (w : Wd) : BW Z 2 16 [(0, .ref (ph (zY Z) 0)), (1, .int y1)] [] w (X12_ring_b16 y1 w) :=
  bw_aload_n hZ 0 rfl dX12_ring_16 <|
  bw_getI hZ fl_RX12_409 (by decide) obM_0 dX12_ring_17 <|
  bw_if_ne hZ (tgt := 25) (by decide) dX12_ring_20 (fun _ =>
  bw_aload_n hZ 0 rfl dX12_ring_25 <|
  bw_iload_n hZ 1 rfl dX12_ring_26 <|
  bw_callVI (As := [.int y1]) hZ ml_RX12_586 rc_12 obM_0 (by decide) (c_X12_lawFor (zl Z) (zY Z) (hZ_S hZ) y1 w) rfl rfl (Nat.le_of_ble_eq_true rfl) dX12_ring_27 fun r2 w1 =>
  bw_pop hZ rfl dX12_ring_30 <|
  bw_aload_n hZ 0 rfl dX12_ring_31 <|
  bw_getI hZ fl_RX12_577 (by decide) obM_0 dX12_ring_32 <|
  bw_if_eq hZ (tgt := 42) (by decide) dX12_ring_35 (fun _ =>
  bw_iconst hZ 0 (by decide) dX12_ring_42 <|
  bw_iret hZ hE dX12_ring_43) (fun _ =>
  bw_iconst hZ 1 (by decide) dX12_ring_38 <|
  bw_goto hZ (tgt := 43) (by decide) dX12_ring_39 <|
  bw_iret hZ hE dX12_ring_43)) (fun _ =>
  bw_iconst hZ (-1) (by decide) dX12_ring_23 <|
  bw_iret hZ hE dX12_ring_24)
def f_X12_ring (x1 : Int32) (w : Wd) : Option (Int32 × Wd) :=
  if x1 = ((-1)) then
  (X12_ring_b16 x1 w)
  else
  cl (f_X12_isThing x1 w) fun r4 w3 =>
  if r4 = 0 then
  (some ((-2), w3))
  else
  X12_ring_b16 x1 w3
set_option maxRecDepth 100000 in
set_option maxHeartbeats 4000000 in
theorem t_X12_ring {Z : Cz (Int32 × Wd)} (hZ : OKZ Z SM cX12_ring RX12 2 (some .int) 3) (hE : EndI Z) (x1 : Int32)  (w : Wd) : BW Z 2 0 [(0, .ref (ph (zY Z) 0)), (1, .int x1)] [] w (f_X12_ring x1 w) :=
  bw_iload_n hZ 1 rfl dX12_ring_0 <|
  bw_iconst hZ (-1) (by decide) dX12_ring_1 <|
  bw_icmp_eq hZ (tgt := 16) (by decide) dX12_ring_2 (fun _ =>
  bw_sub [0, 1] rfl (t_X12_ring_b16 hZ hE x1 w)) (fun _ =>
  bw_aload_n hZ 0 rfl dX12_ring_5 <|
  bw_iload_n hZ 1 rfl dX12_ring_6 <|
  bw_callVI (As := [.int x1]) hZ ml_RX12_583 rc_12 obM_0 (by decide) (c_X12_isThing (zl Z) (zY Z) (hZ_S hZ) x1 w) rfl rfl (Nat.le_of_ble_eq_true rfl) dX12_ring_7 fun r4 w3 =>
  bw_if_ne hZ (tgt := 16) (by decide) dX12_ring_10 (fun _ =>
  bw_sub [0, 1] rfl (t_X12_ring_b16 hZ hE x1 w3)) (fun _ =>
  bw_bipush hZ (-2) (by decide) dX12_ring_13 <|
  bw_iret hZ hE dX12_ring_15))
theorem c_X12_ring (l : Launch) (Y : Ev) (hY : Y.1 = SM) (x1 : Int32)  (w : Wd) : CI l Y yX12_ring cX12_ring 2 3 [.ref (ph Y 0), .int x1] w .int (f_X12_ring x1 w) := by
  refine CI_of (S := SM) (by decide) (Nat.le_of_ble_eq_true rfl) hY ?_
  intro Z hl hY2 hZ hE
  subst hY2
  exact t_X12_ring hZ hE x1 w
-- WhichWillModel.gainers
theorem dX12_gainers_0 : decode cX12_gainers 0 = .ok (.aload_n 0, 1) := by decide +kernel
theorem dX12_gainers_1 : decode cX12_gainers 1 = .ok (.iload_n 1, 1) := by decide +kernel
theorem dX12_gainers_2 : decode cX12_gainers 2 = .ok (.invokevirtual 530, 3) := by decide +kernel
theorem dX12_gainers_5 : decode cX12_gainers 5 = .ok (.istore_n 2, 1) := by decide +kernel
theorem dX12_gainers_6 : decode cX12_gainers 6 = .ok (.iconst 0, 1) := by decide +kernel
theorem dX12_gainers_7 : decode cX12_gainers 7 = .ok (.istore_n 3, 1) := by decide +kernel
theorem dX12_gainers_8 : decode cX12_gainers 8 = .ok (.iload_n 3, 1) := by decide +kernel
theorem dX12_gainers_9 : decode cX12_gainers 9 = .ok (.aload_n 0, 1) := by decide +kernel
theorem dX12_gainers_10 : decode cX12_gainers 10 = .ok (.getfield 279, 3) := by decide +kernel
theorem dX12_gainers_13 : decode cX12_gainers 13 = .ok (.iload_n 1, 1) := by decide +kernel
theorem dX12_gainers_14 : decode cX12_gainers 14 = .ok (.iaload, 1) := by decide +kernel
theorem dX12_gainers_15 : decode cX12_gainers 15 = .ok (.if_icmp .ge 25, 3) := by decide +kernel
theorem dX12_gainers_18 : decode cX12_gainers 18 = .ok (.iload_n 2, 1) := by decide +kernel
theorem dX12_gainers_19 : decode cX12_gainers 19 = .ok (.iconst 1, 1) := by decide +kernel
theorem dX12_gainers_20 : decode cX12_gainers 20 = .ok (.aload_n 0, 1) := by decide +kernel
theorem dX12_gainers_21 : decode cX12_gainers 21 = .ok (.getfield 312, 3) := by decide +kernel
theorem dX12_gainers_24 : decode cX12_gainers 24 = .ok (.bipush 8, 2) := by decide +kernel
theorem dX12_gainers_26 : decode cX12_gainers 26 = .ok (.iload_n 1, 1) := by decide +kernel
theorem dX12_gainers_27 : decode cX12_gainers 27 = .ok (.imul, 1) := by decide +kernel
theorem dX12_gainers_28 : decode cX12_gainers 28 = .ok (.iload_n 3, 1) := by decide +kernel
theorem dX12_gainers_29 : decode cX12_gainers 29 = .ok (.iadd, 1) := by decide +kernel
theorem dX12_gainers_30 : decode cX12_gainers 30 = .ok (.iaload, 1) := by decide +kernel
theorem dX12_gainers_31 : decode cX12_gainers 31 = .ok (.ishl, 1) := by decide +kernel
theorem dX12_gainers_32 : decode cX12_gainers 32 = .ok (.ior, 1) := by decide +kernel
theorem dX12_gainers_33 : decode cX12_gainers 33 = .ok (.istore_n 2, 1) := by decide +kernel
theorem dX12_gainers_34 : decode cX12_gainers 34 = .ok (.iinc 3 1, 3) := by decide +kernel
theorem dX12_gainers_37 : decode cX12_gainers 37 = .ok (.goto (-29), 3) := by decide +kernel
theorem dX12_gainers_40 : decode cX12_gainers 40 = .ok (.iload_n 2, 1) := by decide +kernel
theorem dX12_gainers_41 : decode cX12_gainers 41 = .ok (.ireturn, 1) := by decide +kernel
def X12_gainers_b8 (k8 : Int32 → Int32 → Int32 → Wd → Option (Int32 × Wd)) (y1 : Int32) (y2 : Int32) (y3 : Int32) (w : Wd) : Option (Int32 × Wd) :=
  if inb y1 4 = true then
  (if (w.1 23 (Int32.toNatClampNeg y1)) ≤ y3 then
  (some (y2, w))
  else
  if inb ((8 * y1) + y3) 32 = true then
  (lt (y2 ||| (1 <<< ((w.1 34 (Int32.toNatClampNeg ((8 * y1) + y3))) &&& 31))) fun v3 =>
  k8 y1 v3 (y3 + 1) w)
  else none)
  else none
set_option maxRecDepth 100000 in
set_option maxHeartbeats 4000000 in
theorem t_X12_gainers_b8 {Z : Cz (Int32 × Wd)} (hZ : OKZ Z SM cX12_gainers RX12 4 (some .int) 2) (hE : EndI Z) (k8 : Int32 → Int32 → Int32 → Wd → Option (Int32 × Wd)) (hk8 : ∀ (y1 : Int32) (y2 : Int32) (y3 : Int32)  (w : Wd), BW Z 4 8 [(0, .ref (ph (zY Z) 0)), (1, .int y1), (2, .int y2), (3, .int y3)] [] w (k8 y1 y2 y3 w)) (y1 : Int32) (y2 : Int32) (y3 : Int32)  (w : Wd) : BW Z 4 8 [(0, .ref (ph (zY Z) 0)), (1, .int y1), (2, .int y2), (3, .int y3)] [] w (X12_gainers_b8 k8 y1 y2 y3 w) :=
  bw_iload_n hZ 3 rfl dX12_gainers_8 <|
  bw_aload_n hZ 0 rfl dX12_gainers_9 <|
  bw_getR hZ fl_RX12_279 obM_0 rfl dX12_gainers_10 <|
  bw_iload_n hZ 1 rfl dX12_gainers_13 <|
  bw_iald hZ (arM_23 _) dX12_gainers_14 <|
  bw_icmp_ge hZ (tgt := 40) (by decide) dX12_gainers_15 (fun _ =>
  bw_iload_n hZ 2 rfl dX12_gainers_40 <|
  bw_iret hZ hE dX12_gainers_41) (fun _ =>
  bw_iload_n hZ 2 rfl dX12_gainers_18 <|
  bw_iconst hZ 1 (by decide) dX12_gainers_19 <|
  bw_aload_n hZ 0 rfl dX12_gainers_20 <|
  bw_getR hZ fl_RX12_312 obM_0 rfl dX12_gainers_21 <|
  bw_bipush hZ 8 (by decide) dX12_gainers_24 <|
  bw_iload_n hZ 1 rfl dX12_gainers_26 <|
  bw_imul hZ dX12_gainers_27 <|
  bw_iload_n hZ 3 rfl dX12_gainers_28 <|
  bw_iadd hZ dX12_gainers_29 <|
  bw_iald hZ (arM_34 _) dX12_gainers_30 <|
  bw_ishl hZ dX12_gainers_31 <|
  bw_ior hZ dX12_gainers_32 <|
  bw_nm fun v3 =>
  bw_istore_n hZ rfl (by decide) rfl dX12_gainers_33 <|
  bw_iinc hZ 1 3 rfl (by decide) (by decide) rfl dX12_gainers_34 <|
  bw_goto hZ (tgt := 8) (by decide) dX12_gainers_37 <|
  bw_sub [2, 3, 1, 0] rfl (hk8 y1 v3 (y3 + 1) w))
def X12_gainers_b8_L  : Int32 → Int32 → Int32 → Wd → Option (Int32 × Wd) :=
  lp fu (fun _ _ _ _ => none) (fun k8 => X12_gainers_b8 k8)
theorem t_X12_gainers_b8_L {Z : Cz (Int32 × Wd)} (hZ : OKZ Z SM cX12_gainers RX12 4 (some .int) 2) (hE : EndI Z)  : ∀ (y1 : Int32) (y2 : Int32) (y3 : Int32)  (w : Wd), BW Z 4 8 [(0, .ref (ph (zY Z) 0)), (1, .int y1), (2, .int y2), (3, .int y3)] [] w (X12_gainers_b8_L y1 y2 y3 w) :=
  lp_bw (fun k8 => ∀ (y1 : Int32) (y2 : Int32) (y3 : Int32)  (w : Wd), BW Z 4 8 [(0, .ref (ph (zY Z) 0)), (1, .int y1), (2, .int y2), (3, .int y3)] [] w (k8 y1 y2 y3 w)) (fun _ _ _ _ => bw_none) (fun k8 hk8 y1 y2 y3 w => t_X12_gainers_b8 hZ hE k8 hk8 y1 y2 y3 w) fu
def f_X12_gainers (x1 : Int32) (w : Wd) : Option (Int32 × Wd) :=
  cl (f_X12_heirsOf x1 w) fun r2 w1 =>
  X12_gainers_b8_L x1 r2 0 w1
set_option maxRecDepth 100000 in
set_option maxHeartbeats 4000000 in
theorem t_X12_gainers {Z : Cz (Int32 × Wd)} (hZ : OKZ Z SM cX12_gainers RX12 4 (some .int) 2) (hE : EndI Z) (x1 : Int32)  (w : Wd) : BW Z 4 0 [(0, .ref (ph (zY Z) 0)), (1, .int x1)] [] w (f_X12_gainers x1 w) :=
  bw_aload_n hZ 0 rfl dX12_gainers_0 <|
  bw_iload_n hZ 1 rfl dX12_gainers_1 <|
  bw_callVI (As := [.int x1]) hZ ml_RX12_530 rc_12 obM_0 (by decide) (c_X12_heirsOf (zl Z) (zY Z) (hZ_S hZ) x1 w) rfl rfl (Nat.le_of_ble_eq_true rfl) dX12_gainers_2 fun r2 w1 =>
  bw_istore_n hZ rfl (by decide) rfl dX12_gainers_5 <|
  bw_iconst hZ 0 (by decide) dX12_gainers_6 <|
  bw_istore_n hZ rfl (by decide) rfl dX12_gainers_7 <|
  bw_sub [2, 3, 1, 0] rfl (t_X12_gainers_b8_L hZ hE x1 r2 0 w1)
theorem c_X12_gainers (l : Launch) (Y : Ev) (hY : Y.1 = SM) (x1 : Int32)  (w : Wd) : CI l Y yX12_gainers cX12_gainers 4 2 [.ref (ph Y 0), .int x1] w .int (f_X12_gainers x1 w) := by
  refine CI_of (S := SM) (by decide) (Nat.le_of_ble_eq_true rfl) hY ?_
  intro Z hl hY2 hZ hE
  subst hY2
  exact t_X12_gainers hZ hE x1 w
-- WhichWillModel.isGood
theorem dX12_isGood_0 : decode cX12_isGood 0 = .ok (.aload_n 0, 1) := by decide +kernel
theorem dX12_isGood_1 : decode cX12_isGood 1 = .ok (.getfield 300, 3) := by decide +kernel
theorem dX12_isGood_4 : decode cX12_isGood 4 = .ok (.iload_n 1, 1) := by decide +kernel
theorem dX12_isGood_5 : decode cX12_isGood 5 = .ok (.baload, 1) := by decide +kernel
theorem dX12_isGood_6 : decode cX12_isGood 6 = .ok (.ifCond .eq 21, 3) := by decide +kernel
theorem dX12_isGood_9 : decode cX12_isGood 9 = .ok (.aload_n 0, 1) := by decide +kernel
theorem dX12_isGood_10 : decode cX12_isGood 10 = .ok (.getfield 297, 3) := by decide +kernel
theorem dX12_isGood_13 : decode cX12_isGood 13 = .ok (.iload_n 1, 1) := by decide +kernel
theorem dX12_isGood_14 : decode cX12_isGood 14 = .ok (.baload, 1) := by decide +kernel
theorem dX12_isGood_15 : decode cX12_isGood 15 = .ok (.ifCond .eq 14, 3) := by decide +kernel
theorem dX12_isGood_18 : decode cX12_isGood 18 = .ok (.aload_n 0, 1) := by decide +kernel
theorem dX12_isGood_19 : decode cX12_isGood 19 = .ok (.iload_n 2, 1) := by decide +kernel
theorem dX12_isGood_20 : decode cX12_isGood 20 = .ok (.iconst 2, 1) := by decide +kernel
theorem dX12_isGood_21 : decode cX12_isGood 21 = .ok (.invokevirtual 589, 3) := by decide +kernel
theorem dX12_isGood_24 : decode cX12_isGood 24 = .ok (.ifCond .ne 5, 3) := by decide +kernel
theorem dX12_isGood_27 : decode cX12_isGood 27 = .ok (.iconst 0, 1) := by decide +kernel
theorem dX12_isGood_28 : decode cX12_isGood 28 = .ok (.ireturn, 1) := by decide +kernel
theorem dX12_isGood_29 : decode cX12_isGood 29 = .ok (.aload_n 0, 1) := by decide +kernel
theorem dX12_isGood_30 : decode cX12_isGood 30 = .ok (.getfield 294, 3) := by decide +kernel
theorem dX12_isGood_33 : decode cX12_isGood 33 = .ok (.iload_n 1, 1) := by decide +kernel
theorem dX12_isGood_34 : decode cX12_isGood 34 = .ok (.baload, 1) := by decide +kernel
theorem dX12_isGood_35 : decode cX12_isGood 35 = .ok (.ifCond .eq 14, 3) := by decide +kernel
theorem dX12_isGood_38 : decode cX12_isGood 38 = .ok (.aload_n 0, 1) := by decide +kernel
theorem dX12_isGood_39 : decode cX12_isGood 39 = .ok (.iload_n 2, 1) := by decide +kernel
theorem dX12_isGood_40 : decode cX12_isGood 40 = .ok (.iconst 1, 1) := by decide +kernel
theorem dX12_isGood_41 : decode cX12_isGood 41 = .ok (.invokevirtual 589, 3) := by decide +kernel
theorem dX12_isGood_44 : decode cX12_isGood 44 = .ok (.ifCond .eq 5, 3) := by decide +kernel
theorem dX12_isGood_47 : decode cX12_isGood 47 = .ok (.iconst 1, 1) := by decide +kernel
theorem dX12_isGood_48 : decode cX12_isGood 48 = .ok (.ireturn, 1) := by decide +kernel
theorem dX12_isGood_49 : decode cX12_isGood 49 = .ok (.aload_n 0, 1) := by decide +kernel
theorem dX12_isGood_50 : decode cX12_isGood 50 = .ok (.getfield 276, 3) := by decide +kernel
theorem dX12_isGood_53 : decode cX12_isGood 53 = .ok (.iload_n 1, 1) := by decide +kernel
theorem dX12_isGood_54 : decode cX12_isGood 54 = .ok (.iaload, 1) := by decide +kernel
theorem dX12_isGood_55 : decode cX12_isGood 55 = .ok (.aload_n 0, 1) := by decide +kernel
theorem dX12_isGood_56 : decode cX12_isGood 56 = .ok (.getfield 243, 3) := by decide +kernel
theorem dX12_isGood_59 : decode cX12_isGood 59 = .ok (.bipush 13, 2) := by decide +kernel
theorem dX12_isGood_61 : decode cX12_isGood 61 = .ok (.iload_n 2, 1) := by decide +kernel
theorem dX12_isGood_62 : decode cX12_isGood 62 = .ok (.imul, 1) := by decide +kernel
theorem dX12_isGood_63 : decode cX12_isGood 63 = .ok (.iconst 3, 1) := by decide +kernel
theorem dX12_isGood_64 : decode cX12_isGood 64 = .ok (.iadd, 1) := by decide +kernel
theorem dX12_isGood_65 : decode cX12_isGood 65 = .ok (.iaload, 1) := by decide +kernel
theorem dX12_isGood_66 : decode cX12_isGood 66 = .ok (.iconst 1, 1) := by decide +kernel
theorem dX12_isGood_67 : decode cX12_isGood 67 = .ok (.if_icmp .ne 11, 3) := by decide +kernel
theorem dX12_isGood_70 : decode cX12_isGood 70 = .ok (.aload_n 0, 1) := by decide +kernel
theorem dX12_isGood_71 : decode cX12_isGood 71 = .ok (.iload_n 1, 1) := by decide +kernel
theorem dX12_isGood_72 : decode cX12_isGood 72 = .ok (.invokevirtual 592, 3) := by decide +kernel
theorem dX12_isGood_75 : decode cX12_isGood 75 = .ok (.goto 4, 3) := by decide +kernel
theorem dX12_isGood_78 : decode cX12_isGood 78 = .ok (.iconst 0, 1) := by decide +kernel
theorem dX12_isGood_79 : decode cX12_isGood 79 = .ok (.iconst (-1), 1) := by decide +kernel
theorem dX12_isGood_80 : decode cX12_isGood 80 = .ok (.ixor, 1) := by decide +kernel
theorem dX12_isGood_81 : decode cX12_isGood 81 = .ok (.iand, 1) := by decide +kernel
theorem dX12_isGood_82 : decode cX12_isGood 82 = .ok (.istore_n 3, 1) := by decide +kernel
theorem dX12_isGood_83 : decode cX12_isGood 83 = .ok (.iload_n 1, 1) := by decide +kernel
theorem dX12_isGood_84 : decode cX12_isGood 84 = .ok (.aload_n 0, 1) := by decide +kernel
theorem dX12_isGood_85 : decode cX12_isGood 85 = .ok (.getfield 345, 3) := by decide +kernel
theorem dX12_isGood_88 : decode cX12_isGood 88 = .ok (.if_icmp .ne 10, 3) := by decide +kernel
theorem dX12_isGood_91 : decode cX12_isGood 91 = .ok (.aload_n 0, 1) := by decide +kernel
theorem dX12_isGood_92 : decode cX12_isGood 92 = .ok (.getfield 595, 3) := by decide +kernel
theorem dX12_isGood_95 : decode cX12_isGood 95 = .ok (.goto 4, 3) := by decide +kernel
theorem dX12_isGood_98 : decode cX12_isGood 98 = .ok (.iconst 0, 1) := by decide +kernel
theorem dX12_isGood_99 : decode cX12_isGood 99 = .ok (.istore 4, 2) := by decide +kernel
theorem dX12_isGood_101 : decode cX12_isGood 101 = .ok (.iconst 0, 1) := by decide +kernel
theorem dX12_isGood_102 : decode cX12_isGood 102 = .ok (.istore 5, 2) := by decide +kernel
theorem dX12_isGood_104 : decode cX12_isGood 104 = .ok (.iload 5, 2) := by decide +kernel
theorem dX12_isGood_106 : decode cX12_isGood 106 = .ok (.aload_n 0, 1) := by decide +kernel
theorem dX12_isGood_107 : decode cX12_isGood 107 = .ok (.getfield 412, 3) := by decide +kernel
theorem dX12_isGood_110 : decode cX12_isGood 110 = .ok (.if_icmp .ge 20, 3) := by decide +kernel
theorem dX12_isGood_113 : decode cX12_isGood 113 = .ok (.iload 4, 2) := by decide +kernel
theorem dX12_isGood_115 : decode cX12_isGood 115 = .ok (.iload_n 3, 1) := by decide +kernel
theorem dX12_isGood_116 : decode cX12_isGood 116 = .ok (.iload 5, 2) := by decide +kernel
theorem dX12_isGood_118 : decode cX12_isGood 118 = .ok (.ishr, 1) := by decide +kernel
theorem dX12_isGood_119 : decode cX12_isGood 119 = .ok (.iconst 1, 1) := by decide +kernel
theorem dX12_isGood_120 : decode cX12_isGood 120 = .ok (.iand, 1) := by decide +kernel
theorem dX12_isGood_121 : decode cX12_isGood 121 = .ok (.iadd, 1) := by decide +kernel
theorem dX12_isGood_122 : decode cX12_isGood 122 = .ok (.istore 4, 2) := by decide +kernel
theorem dX12_isGood_124 : decode cX12_isGood 124 = .ok (.iinc 5 1, 3) := by decide +kernel
theorem dX12_isGood_127 : decode cX12_isGood 127 = .ok (.goto (-23), 3) := by decide +kernel
theorem dX12_isGood_130 : decode cX12_isGood 130 = .ok (.iload 4, 2) := by decide +kernel
theorem dX12_isGood_132 : decode cX12_isGood 132 = .ok (.aload_n 0, 1) := by decide +kernel
theorem dX12_isGood_133 : decode cX12_isGood 133 = .ok (.getfield 243, 3) := by decide +kernel
theorem dX12_isGood_136 : decode cX12_isGood 136 = .ok (.bipush 13, 2) := by decide +kernel
theorem dX12_isGood_138 : decode cX12_isGood 138 = .ok (.iload_n 2, 1) := by decide +kernel
theorem dX12_isGood_139 : decode cX12_isGood 139 = .ok (.imul, 1) := by decide +kernel
theorem dX12_isGood_140 : decode cX12_isGood 140 = .ok (.iconst 0, 1) := by decide +kernel
theorem dX12_isGood_141 : decode cX12_isGood 141 = .ok (.iadd, 1) := by decide +kernel
theorem dX12_isGood_142 : decode cX12_isGood 142 = .ok (.iaload, 1) := by decide +kernel
theorem dX12_isGood_143 : decode cX12_isGood 143 = .ok (.if_icmp .lt 7, 3) := by decide +kernel
theorem dX12_isGood_146 : decode cX12_isGood 146 = .ok (.iconst 1, 1) := by decide +kernel
theorem dX12_isGood_147 : decode cX12_isGood 147 = .ok (.goto 4, 3) := by decide +kernel
theorem dX12_isGood_150 : decode cX12_isGood 150 = .ok (.iconst 0, 1) := by decide +kernel
theorem dX12_isGood_151 : decode cX12_isGood 151 = .ok (.ireturn, 1) := by decide +kernel
def X12_isGood_b104 (k104 : Int32 → Int32 → Int32 → Int32 → Wd → Option (Int32 × Wd)) (y2 : Int32) (y3 : Int32) (y4 : Int32) (y5 : Int32) (w : Wd) : Option (Int32 × Wd) :=
  if (w.1 0 11) ≤ y5 then
  (if inb ((13 * y2) + 0) 52 = true then
  (if y4 < (w.1 2 (Int32.toNatClampNeg ((13 * y2) + 0))) then
  (some (0, w))
  else
  some (1, w))
  else none)
  else
  lt (y4 + ((y3 >>> (y5 &&& 31)) &&& 1)) fun v2 =>
  k104 y2 y3 v2 (y5 + 1) w
set_option maxRecDepth 100000 in
set_option maxHeartbeats 4000000 in
theorem t_X12_isGood_b104 {Z : Cz (Int32 × Wd)} (hZ : OKZ Z SM cX12_isGood RX12 6 (some .boolean) 3) (hE : EndI Z) (k104 : Int32 → Int32 → Int32 → Int32 → Wd → Option (Int32 × Wd)) (hk104 : ∀ (y2 : Int32) (y3 : Int32) (y4 : Int32) (y5 : Int32)  (w : Wd), BW Z 6 104 [(0, .ref (ph (zY Z) 0)), (2, .int y2), (3, .int y3), (4, .int y4), (5, .int y5)] [] w (k104 y2 y3 y4 y5 w)) (y2 : Int32) (y3 : Int32) (y4 : Int32) (y5 : Int32)  (w : Wd) : BW Z 6 104 [(0, .ref (ph (zY Z) 0)), (2, .int y2), (3, .int y3), (4, .int y4), (5, .int y5)] [] w (X12_isGood_b104 k104 y2 y3 y4 y5 w) :=
  bw_iload hZ 4 rfl dX12_isGood_104 <|
  bw_aload_n hZ 0 rfl dX12_isGood_106 <|
  bw_getI hZ fl_RX12_412 (by decide) obM_0 dX12_isGood_107 <|
  bw_icmp_ge hZ (tgt := 130) (by decide) dX12_isGood_110 (fun _ =>
  bw_iload hZ 3 rfl dX12_isGood_130 <|
  bw_aload_n hZ 0 rfl dX12_isGood_132 <|
  bw_getR hZ fl_RX12_243 obM_0 rfl dX12_isGood_133 <|
  bw_bipush hZ 13 (by decide) dX12_isGood_136 <|
  bw_iload_n hZ 1 rfl dX12_isGood_138 <|
  bw_imul hZ dX12_isGood_139 <|
  bw_iconst hZ 0 (by decide) dX12_isGood_140 <|
  bw_iadd hZ dX12_isGood_141 <|
  bw_iald hZ (arM_2 _) dX12_isGood_142 <|
  bw_icmp_lt hZ (tgt := 150) (by decide) dX12_isGood_143 (fun _ =>
  bw_iconst hZ 0 (by decide) dX12_isGood_150 <|
  bw_zret hZ hE (by decide) dX12_isGood_151) (fun _ =>
  bw_iconst hZ 1 (by decide) dX12_isGood_146 <|
  bw_goto hZ (tgt := 151) (by decide) dX12_isGood_147 <|
  bw_zret hZ hE (by decide) dX12_isGood_151)) (fun _ =>
  bw_iload hZ 3 rfl dX12_isGood_113 <|
  bw_iload_n hZ 2 rfl dX12_isGood_115 <|
  bw_iload hZ 4 rfl dX12_isGood_116 <|
  bw_ishr hZ dX12_isGood_118 <|
  bw_iconst hZ 1 (by decide) dX12_isGood_119 <|
  bw_iand hZ dX12_isGood_120 <|
  bw_iadd hZ dX12_isGood_121 <|
  bw_nm fun v2 =>
  bw_istore hZ (by decide) rfl dX12_isGood_122 <|
  bw_iinc hZ 1 4 rfl (by decide) (by decide) rfl dX12_isGood_124 <|
  bw_goto hZ (tgt := 104) (by decide) dX12_isGood_127 <|
  bw_sub [2, 3, 4, 1, 0] rfl (hk104 y2 y3 v2 (y5 + 1) w))
def X12_isGood_b104_L  : Int32 → Int32 → Int32 → Int32 → Wd → Option (Int32 × Wd) :=
  lp fu (fun _ _ _ _ _ => none) (fun k104 => X12_isGood_b104 k104)
theorem t_X12_isGood_b104_L {Z : Cz (Int32 × Wd)} (hZ : OKZ Z SM cX12_isGood RX12 6 (some .boolean) 3) (hE : EndI Z)  : ∀ (y2 : Int32) (y3 : Int32) (y4 : Int32) (y5 : Int32)  (w : Wd), BW Z 6 104 [(0, .ref (ph (zY Z) 0)), (2, .int y2), (3, .int y3), (4, .int y4), (5, .int y5)] [] w (X12_isGood_b104_L y2 y3 y4 y5 w) :=
  lp_bw (fun k104 => ∀ (y2 : Int32) (y3 : Int32) (y4 : Int32) (y5 : Int32)  (w : Wd), BW Z 6 104 [(0, .ref (ph (zY Z) 0)), (2, .int y2), (3, .int y3), (4, .int y4), (5, .int y5)] [] w (k104 y2 y3 y4 y5 w)) (fun _ _ _ _ _ => bw_none) (fun k104 hk104 y2 y3 y4 y5 w => t_X12_isGood_b104 hZ hE k104 hk104 y2 y3 y4 y5 w) fu
def X12_isGood_b79 (y1 : Int32) (y2 : Int32) (t0 : Int32) (t1 : Int32) (w : Wd) : Option (Int32 × Wd) :=
  lt (t1 &&& (t0 ^^^ ((-1)))) fun v1 =>
  if y1 = (w.1 0 80) then
  (lt (w.1 0 81) fun v3 =>
  X12_isGood_b104_L y2 v1 v3 0 w)
  else
  X12_isGood_b104_L y2 v1 0 0 w
set_option maxRecDepth 100000 in
set_option maxHeartbeats 4000000 in
theorem t_X12_isGood_b79 {Z : Cz (Int32 × Wd)} (hZ : OKZ Z SM cX12_isGood RX12 6 (some .boolean) 3) (hE : EndI Z)  (y1 : Int32) (y2 : Int32) (t0 : Int32) (t1 : Int32)  (w : Wd) : BW Z 6 79 [(0, .ref (ph (zY Z) 0)), (1, .int y1), (2, .int y2)] [.int t0, .int t1] w (X12_isGood_b79 y1 y2 t0 t1 w) :=
  bw_iconst hZ (-1) (by decide) dX12_isGood_79 <|
  bw_ixor hZ dX12_isGood_80 <|
  bw_iand hZ dX12_isGood_81 <|
  bw_nm fun v1 =>
  bw_istore_n hZ rfl (by decide) rfl dX12_isGood_82 <|
  bw_iload_n hZ 2 rfl dX12_isGood_83 <|
  bw_aload_n hZ 1 rfl dX12_isGood_84 <|
  bw_getI hZ fl_RX12_345 (by decide) obM_0 dX12_isGood_85 <|
  bw_icmp_ne hZ (tgt := 98) (by decide) dX12_isGood_88 (fun _ =>
  bw_iconst hZ 0 (by decide) dX12_isGood_98 <|
  bw_istore hZ (by decide) rfl dX12_isGood_99 <|
  bw_iconst hZ 0 (by decide) dX12_isGood_101 <|
  bw_istore hZ (by decide) rfl dX12_isGood_102 <|
  bw_sub [3, 5, 2, 1, 0] rfl (t_X12_isGood_b104_L hZ hE y2 v1 0 0 w)) (fun _ =>
  bw_aload_n hZ 1 rfl dX12_isGood_91 <|
  bw_getI hZ fl_RX12_595 (by decide) obM_0 dX12_isGood_92 <|
  bw_goto hZ (tgt := 99) (by decide) dX12_isGood_95 <|
  bw_nm fun v3 =>
  bw_istore hZ (by decide) rfl dX12_isGood_99 <|
  bw_iconst hZ 0 (by decide) dX12_isGood_101 <|
  bw_istore hZ (by decide) rfl dX12_isGood_102 <|
  bw_sub [3, 5, 2, 1, 0] rfl (t_X12_isGood_b104_L hZ hE y2 v1 v3 0 w))
def X12_isGood_b49 (y1 : Int32) (y2 : Int32) (w : Wd) : Option (Int32 × Wd) :=
  if inb y1 4 = true then
  (if inb ((13 * y2) + 3) 52 = true then
  (if (w.1 2 (Int32.toNatClampNeg ((13 * y2) + 3))) = 1 then
  (cl (f_X12_gainers y1 w) fun r5 w4 =>
  X12_isGood_b79 y1 y2 r5 (w.1 22 (Int32.toNatClampNeg y1)) w4)
  else
  X12_isGood_b79 y1 y2 0 (w.1 22 (Int32.toNatClampNeg y1)) w)
  else none)
  else none
set_option maxRecDepth 100000 in
set_option maxHeartbeats 4000000 in
theorem t_X12_isGood_b49 {Z : Cz (Int32 × Wd)} (hZ : OKZ Z SM cX12_isGood RX12 6 (some .boolean) 3) (hE : EndI Z)  (y1 : Int32) (y2 : Int32)  (w : Wd) : BW Z 6 49 [(0, .ref (ph (zY Z) 0)), (1, .int y1), (2, .int y2)] [] w (X12_isGood_b49 y1 y2 w) :=
  bw_aload_n hZ 0 rfl dX12_isGood_49 <|
  bw_getR hZ fl_RX12_276 obM_0 rfl dX12_isGood_50 <|
  bw_iload_n hZ 1 rfl dX12_isGood_53 <|
  bw_iald hZ (arM_22 _) dX12_isGood_54 <|
  bw_aload_n hZ 0 rfl dX12_isGood_55 <|
  bw_getR hZ fl_RX12_243 obM_0 rfl dX12_isGood_56 <|
  bw_bipush hZ 13 (by decide) dX12_isGood_59 <|
  bw_iload_n hZ 2 rfl dX12_isGood_61 <|
  bw_imul hZ dX12_isGood_62 <|
  bw_iconst hZ 3 (by decide) dX12_isGood_63 <|
  bw_iadd hZ dX12_isGood_64 <|
  bw_iald hZ (arM_2 _) dX12_isGood_65 <|
  bw_iconst hZ 1 (by decide) dX12_isGood_66 <|
  bw_icmp_ne hZ (tgt := 78) (by decide) dX12_isGood_67 (fun _ =>
  bw_iconst hZ 0 (by decide) dX12_isGood_78 <|
  bw_sub [0, 1, 2] rfl (t_X12_isGood_b79 hZ hE y1 y2 0 (w.1 22 (Int32.toNatClampNeg y1)) w)) (fun _ =>
  bw_aload_n hZ 0 rfl dX12_isGood_70 <|
  bw_iload_n hZ 1 rfl dX12_isGood_71 <|
  bw_callVI (As := [.int y1]) hZ ml_RX12_592 rc_12 obM_0 (by decide) (c_X12_gainers (zl Z) (zY Z) (hZ_S hZ) y1 w) rfl rfl (Nat.le_of_ble_eq_true rfl) dX12_isGood_72 fun r5 w4 =>
  bw_goto hZ (tgt := 79) (by decide) dX12_isGood_75 <|
  bw_sub [0, 1, 2] rfl (t_X12_isGood_b79 hZ hE y1 y2 r5 (w.1 22 (Int32.toNatClampNeg y1)) w4))
def X12_isGood_b29 (y1 : Int32) (y2 : Int32) (w : Wd) : Option (Int32 × Wd) :=
  if inb y1 4 = true then
  (if (w.1 28 (Int32.toNatClampNeg y1)) = 0 then
  (X12_isGood_b49 y1 y2 w)
  else
  cl (f_X12_has y2 1 w) fun r7 w6 =>
  if r7 = 0 then
  (X12_isGood_b49 y1 y2 w6)
  else
  some (1, w6))
  else none
set_option maxRecDepth 100000 in
set_option maxHeartbeats 4000000 in
theorem t_X12_isGood_b29 {Z : Cz (Int32 × Wd)} (hZ : OKZ Z SM cX12_isGood RX12 6 (some .boolean) 3) (hE : EndI Z)  (y1 : Int32) (y2 : Int32)  (w : Wd) : BW Z 6 29 [(0, .ref (ph (zY Z) 0)), (1, .int y1), (2, .int y2)] [] w (X12_isGood_b29 y1 y2 w) :=
  bw_aload_n hZ 0 rfl dX12_isGood_29 <|
  bw_getR hZ fl_RX12_294 obM_0 rfl dX12_isGood_30 <|
  bw_iload_n hZ 1 rfl dX12_isGood_33 <|
  bw_zald hZ (arM_28 _) dX12_isGood_34 <|
  bw_if_eq hZ (tgt := 49) (by decide) dX12_isGood_35 (fun _ =>
  bw_sub [0, 1, 2] rfl (t_X12_isGood_b49 hZ hE y1 y2 w)) (fun _ =>
  bw_aload_n hZ 0 rfl dX12_isGood_38 <|
  bw_iload_n hZ 2 rfl dX12_isGood_39 <|
  bw_iconst hZ 1 (by decide) dX12_isGood_40 <|
  bw_callVI (As := [.int y2, .int 1]) hZ ml_RX12_589 rc_12 obM_0 (by decide) (c_X12_has (zl Z) (zY Z) (hZ_S hZ) y2 1 w) rfl rfl (Nat.le_of_ble_eq_true rfl) dX12_isGood_41 fun r7 w6 =>
  bw_if_eq hZ (tgt := 49) (by decide) dX12_isGood_44 (fun _ =>
  bw_sub [0, 1, 2] rfl (t_X12_isGood_b49 hZ hE y1 y2 w6)) (fun _ =>
  bw_iconst hZ 1 (by decide) dX12_isGood_47 <|
  bw_zret hZ hE (by decide) dX12_isGood_48))
def f_X12_isGood (x1 : Int32) (x2 : Int32) (w : Wd) : Option (Int32 × Wd) :=
  if inb x1 4 = true then
  (if (w.1 30 (Int32.toNatClampNeg x1)) = 0 then
  (some (0, w))
  else
  if inb x1 4 = true then
  (if (w.1 29 (Int32.toNatClampNeg x1)) = 0 then
  (X12_isGood_b29 x1 x2 w)
  else
  cl (f_X12_has x2 2 w) fun r9 w8 =>
  if r9 = 0 then
  (some (0, w8))
  else
  X12_isGood_b29 x1 x2 w8)
  else none)
  else none
set_option maxRecDepth 100000 in
set_option maxHeartbeats 4000000 in
theorem t_X12_isGood {Z : Cz (Int32 × Wd)} (hZ : OKZ Z SM cX12_isGood RX12 6 (some .boolean) 3) (hE : EndI Z) (x1 : Int32) (x2 : Int32)  (w : Wd) : BW Z 6 0 [(0, .ref (ph (zY Z) 0)), (1, .int x1), (2, .int x2)] [] w (f_X12_isGood x1 x2 w) :=
  bw_aload_n hZ 0 rfl dX12_isGood_0 <|
  bw_getR hZ fl_RX12_300 obM_0 rfl dX12_isGood_1 <|
  bw_iload_n hZ 1 rfl dX12_isGood_4 <|
  bw_zald hZ (arM_30 _) dX12_isGood_5 <|
  bw_if_eq hZ (tgt := 27) (by decide) dX12_isGood_6 (fun _ =>
  bw_iconst hZ 0 (by decide) dX12_isGood_27 <|
  bw_zret hZ hE (by decide) dX12_isGood_28) (fun _ =>
  bw_aload_n hZ 0 rfl dX12_isGood_9 <|
  bw_getR hZ fl_RX12_297 obM_0 rfl dX12_isGood_10 <|
  bw_iload_n hZ 1 rfl dX12_isGood_13 <|
  bw_zald hZ (arM_29 _) dX12_isGood_14 <|
  bw_if_eq hZ (tgt := 29) (by decide) dX12_isGood_15 (fun _ =>
  bw_sub [0, 1, 2] rfl (t_X12_isGood_b29 hZ hE x1 x2 w)) (fun _ =>
  bw_aload_n hZ 0 rfl dX12_isGood_18 <|
  bw_iload_n hZ 2 rfl dX12_isGood_19 <|
  bw_iconst hZ 2 (by decide) dX12_isGood_20 <|
  bw_callVI (As := [.int x2, .int 2]) hZ ml_RX12_589 rc_12 obM_0 (by decide) (c_X12_has (zl Z) (zY Z) (hZ_S hZ) x2 2 w) rfl rfl (Nat.le_of_ble_eq_true rfl) dX12_isGood_21 fun r9 w8 =>
  bw_if_ne hZ (tgt := 29) (by decide) dX12_isGood_24 (fun _ =>
  bw_sub [0, 1, 2] rfl (t_X12_isGood_b29 hZ hE x1 x2 w8)) (fun _ =>
  bw_iconst hZ 0 (by decide) dX12_isGood_27 <|
  bw_zret hZ hE (by decide) dX12_isGood_28)))
theorem c_X12_isGood (l : Launch) (Y : Ev) (hY : Y.1 = SM) (x1 : Int32) (x2 : Int32)  (w : Wd) : CI l Y yX12_isGood cX12_isGood 6 3 [.ref (ph Y 0), .int x1, .int x2] w .boolean (f_X12_isGood x1 x2 w) := by
  refine CI_of (S := SM) (by decide) (Nat.le_of_ble_eq_true rfl) hY ?_
  intro Z hl hY2 hZ hE
  subst hY2
  exact t_X12_isGood hZ hE x1 x2 w
-- WhichWillModel.good
theorem dX12_good_0 : decode cX12_good 0 = .ok (.aload_n 0, 1) := by decide +kernel
theorem dX12_good_1 : decode cX12_good 1 = .ok (.iload_n 1, 1) := by decide +kernel
theorem dX12_good_2 : decode cX12_good 2 = .ok (.invokevirtual 525, 3) := by decide +kernel
theorem dX12_good_5 : decode cX12_good 5 = .ok (.ifCond .eq 11, 3) := by decide +kernel
theorem dX12_good_8 : decode cX12_good 8 = .ok (.aload_n 0, 1) := by decide +kernel
theorem dX12_good_9 : decode cX12_good 9 = .ok (.iload_n 2, 1) := by decide +kernel
theorem dX12_good_10 : decode cX12_good 10 = .ok (.invokevirtual 452, 3) := by decide +kernel
theorem dX12_good_13 : decode cX12_good 13 = .ok (.ifCond .ne 8, 3) := by decide +kernel
theorem dX12_good_16 : decode cX12_good 16 = .ok (.bipush (-2), 2) := by decide +kernel
theorem dX12_good_18 : decode cX12_good 18 = .ok (.goto 17, 3) := by decide +kernel
theorem dX12_good_21 : decode cX12_good 21 = .ok (.aload_n 0, 1) := by decide +kernel
theorem dX12_good_22 : decode cX12_good 22 = .ok (.iload_n 1, 1) := by decide +kernel
theorem dX12_good_23 : decode cX12_good 23 = .ok (.iload_n 2, 1) := by decide +kernel
theorem dX12_good_24 : decode cX12_good 24 = .ok (.invokevirtual 598, 3) := by decide +kernel
theorem dX12_good_27 : decode cX12_good 27 = .ok (.ifCond .eq 7, 3) := by decide +kernel
theorem dX12_good_30 : decode cX12_good 30 = .ok (.iconst 1, 1) := by decide +kernel
theorem dX12_good_31 : decode cX12_good 31 = .ok (.goto 4, 3) := by decide +kernel
theorem dX12_good_34 : decode cX12_good 34 = .ok (.iconst 0, 1) := by decide +kernel
theorem dX12_good_35 : decode cX12_good 35 = .ok (.ireturn, 1) := by decide +kernel
def f_X12_good (x1 : Int32) (x2 : Int32) (w : Wd) : Option (Int32 × Wd) :=
  cl (f_X12_isPaper x1 w) fun r2 w1 =>
  if r2 = 0 then
  (some ((-2), w1))
  else
  cl (f_X12_isLand x2 w1) fun r4 w3 =>
  if r4 = 0 then
  (some ((-2), w3))
  else
  cl (f_X12_isGood x1 x2 w3) fun r6 w5 =>
  if r6 = 0 then
  (some (0, w5))
  else
  some (1, w5)
set_option maxRecDepth 100000 in
set_option maxHeartbeats 4000000 in
theorem t_X12_good {Z : Cz (Int32 × Wd)} (hZ : OKZ Z SM cX12_good RX12 3 (some .int) 4) (hE : EndI Z) (x1 : Int32) (x2 : Int32)  (w : Wd) : BW Z 3 0 [(0, .ref (ph (zY Z) 0)), (1, .int x1), (2, .int x2)] [] w (f_X12_good x1 x2 w) :=
  bw_aload_n hZ 0 rfl dX12_good_0 <|
  bw_iload_n hZ 1 rfl dX12_good_1 <|
  bw_callVI (As := [.int x1]) hZ ml_RX12_525 rc_12 obM_0 (by decide) (c_X12_isPaper (zl Z) (zY Z) (hZ_S hZ) x1 w) rfl rfl (Nat.le_of_ble_eq_true rfl) dX12_good_2 fun r2 w1 =>
  bw_if_eq hZ (tgt := 16) (by decide) dX12_good_5 (fun _ =>
  bw_bipush hZ (-2) (by decide) dX12_good_16 <|
  bw_goto hZ (tgt := 35) (by decide) dX12_good_18 <|
  bw_iret hZ hE dX12_good_35) (fun _ =>
  bw_aload_n hZ 0 rfl dX12_good_8 <|
  bw_iload_n hZ 2 rfl dX12_good_9 <|
  bw_callVI (As := [.int x2]) hZ ml_RX12_452 rc_12 obM_0 (by decide) (c_X12_isLand (zl Z) (zY Z) (hZ_S hZ) x2 w1) rfl rfl (Nat.le_of_ble_eq_true rfl) dX12_good_10 fun r4 w3 =>
  bw_if_ne hZ (tgt := 21) (by decide) dX12_good_13 (fun _ =>
  bw_aload_n hZ 0 rfl dX12_good_21 <|
  bw_iload_n hZ 1 rfl dX12_good_22 <|
  bw_iload_n hZ 2 rfl dX12_good_23 <|
  bw_callVI (As := [.int x1, .int x2]) hZ ml_RX12_598 rc_12 obM_0 (by decide) (c_X12_isGood (zl Z) (zY Z) (hZ_S hZ) x1 x2 w3) rfl rfl (Nat.le_of_ble_eq_true rfl) dX12_good_24 fun r6 w5 =>
  bw_if_eq hZ (tgt := 34) (by decide) dX12_good_27 (fun _ =>
  bw_iconst hZ 0 (by decide) dX12_good_34 <|
  bw_iret hZ hE dX12_good_35) (fun _ =>
  bw_iconst hZ 1 (by decide) dX12_good_30 <|
  bw_goto hZ (tgt := 35) (by decide) dX12_good_31 <|
  bw_iret hZ hE dX12_good_35)) (fun _ =>
  bw_bipush hZ (-2) (by decide) dX12_good_16 <|
  bw_goto hZ (tgt := 35) (by decide) dX12_good_18 <|
  bw_iret hZ hE dX12_good_35))
theorem c_X12_good (l : Launch) (Y : Ev) (hY : Y.1 = SM) (x1 : Int32) (x2 : Int32)  (w : Wd) : CI l Y yX12_good cX12_good 3 4 [.ref (ph Y 0), .int x1, .int x2] w .int (f_X12_good x1 x2 w) := by
  refine CI_of (S := SM) (by decide) (Nat.le_of_ble_eq_true rfl) hY ?_
  intro Z hl hY2 hZ hE
  subst hY2
  exact t_X12_good hZ hE x1 x2 w
-- WhichWillModel.undo
theorem dX12_undo_0 : decode cX12_undo 0 = .ok (.iconst 0, 1) := by decide +kernel
theorem dX12_undo_1 : decode cX12_undo 1 = .ok (.istore_n 3, 1) := by decide +kernel
theorem dX12_undo_2 : decode cX12_undo 2 = .ok (.iload_n 3, 1) := by decide +kernel
theorem dX12_undo_3 : decode cX12_undo 3 = .ok (.aload_n 0, 1) := by decide +kernel
theorem dX12_undo_4 : decode cX12_undo 4 = .ok (.getfield 431, 3) := by decide +kernel
theorem dX12_undo_7 : decode cX12_undo 7 = .ok (.if_icmp .ge 29, 3) := by decide +kernel
theorem dX12_undo_10 : decode cX12_undo 10 = .ok (.iload_n 1, 1) := by decide +kernel
theorem dX12_undo_11 : decode cX12_undo 11 = .ok (.aload_n 0, 1) := by decide +kernel
theorem dX12_undo_12 : decode cX12_undo 12 = .ok (.getfield 601, 3) := by decide +kernel
theorem dX12_undo_15 : decode cX12_undo 15 = .ok (.iand, 1) := by decide +kernel
theorem dX12_undo_16 : decode cX12_undo 16 = .ok (.iconst 1, 1) := by decide +kernel
theorem dX12_undo_17 : decode cX12_undo 17 = .ok (.iload_n 3, 1) := by decide +kernel
theorem dX12_undo_18 : decode cX12_undo 18 = .ok (.ishl, 1) := by decide +kernel
theorem dX12_undo_19 : decode cX12_undo 19 = .ok (.iand, 1) := by decide +kernel
theorem dX12_undo_20 : decode cX12_undo 20 = .ok (.ifCond .eq 10, 3) := by decide +kernel
theorem dX12_undo_23 : decode cX12_undo 23 = .ok (.aload_n 0, 1) := by decide +kernel
theorem dX12_undo_24 : decode cX12_undo 24 = .ok (.getfield 348, 3) := by decide +kernel
theorem dX12_undo_27 : decode cX12_undo 27 = .ok (.iload_n 3, 1) := by decide +kernel
theorem dX12_undo_28 : decode cX12_undo 28 = .ok (.iload_n 2, 1) := by decide +kernel
theorem dX12_undo_29 : decode cX12_undo 29 = .ok (.iastore, 1) := by decide +kernel
theorem dX12_undo_30 : decode cX12_undo 30 = .ok (.iinc 3 1, 3) := by decide +kernel
theorem dX12_undo_33 : decode cX12_undo 33 = .ok (.goto (-31), 3) := by decide +kernel
theorem dX12_undo_36 : decode cX12_undo 36 = .ok (.aload_n 0, 1) := by decide +kernel
theorem dX12_undo_37 : decode cX12_undo 37 = .ok (.dup, 1) := by decide +kernel
theorem dX12_undo_38 : decode cX12_undo 38 = .ok (.getfield 601, 3) := by decide +kernel
theorem dX12_undo_41 : decode cX12_undo 41 = .ok (.iload_n 1, 1) := by decide +kernel
theorem dX12_undo_42 : decode cX12_undo 42 = .ok (.iconst (-1), 1) := by decide +kernel
theorem dX12_undo_43 : decode cX12_undo 43 = .ok (.ixor, 1) := by decide +kernel
theorem dX12_undo_44 : decode cX12_undo 44 = .ok (.iand, 1) := by decide +kernel
theorem dX12_undo_45 : decode cX12_undo 45 = .ok (.putfield 601, 3) := by decide +kernel
theorem dX12_undo_48 : decode cX12_undo 48 = .ok (.return_, 1) := by decide +kernel
def X12_undo_b2 (k2 : Int32 → Int32 → Int32 → Wd → Option (Wd)) (y1 : Int32) (y2 : Int32) (y3 : Int32) (w : Wd) : Option (Wd) :=
  if (w.1 0 49) ≤ y3 then
  (lt (wI w 0 82 ((w.1 0 82) &&& (y1 ^^^ ((-1))))) fun w1 =>
  some w1)
  else
  if ((y1 &&& (w.1 0 82)) &&& (1 <<< (y3 &&& 31))) = 0 then
  (k2 y1 y2 (y3 + 1) w)
  else
  if inb y3 4 = true then
  (lt (wI w 45 (Int32.toNatClampNeg y3) y2) fun w2 =>
  k2 y1 y2 (y3 + 1) w2)
  else none
set_option maxRecDepth 100000 in
set_option maxHeartbeats 4000000 in
theorem t_X12_undo_b2 {Z : Cz (Wd)} (hZ : OKZ Z SM cX12_undo RX12 4 none 1) (hE : EndV Z) (k2 : Int32 → Int32 → Int32 → Wd → Option (Wd)) (hk2 : ∀ (y1 : Int32) (y2 : Int32) (y3 : Int32)  (w : Wd), BW Z 4 2 [(0, .ref (ph (zY Z) 0)), (1, .int y1), (2, .int y2), (3, .int y3)] [] w (k2 y1 y2 y3 w)) (y1 : Int32) (y2 : Int32) (y3 : Int32)  (w : Wd) : BW Z 4 2 [(0, .ref (ph (zY Z) 0)), (1, .int y1), (2, .int y2), (3, .int y3)] [] w (X12_undo_b2 k2 y1 y2 y3 w) :=
  bw_iload_n hZ 3 rfl dX12_undo_2 <|
  bw_aload_n hZ 0 rfl dX12_undo_3 <|
  bw_getI hZ fl_RX12_431 (by decide) obM_0 dX12_undo_4 <|
  bw_icmp_ge hZ (tgt := 36) (by decide) dX12_undo_7 (fun _ =>
  bw_aload_n hZ 0 rfl dX12_undo_36 <|
  bw_dup hZ rfl dX12_undo_37 <|
  bw_getI hZ fl_RX12_601 (by decide) obM_0 dX12_undo_38 <|
  bw_iload_n hZ 1 rfl dX12_undo_41 <|
  bw_iconst hZ (-1) (by decide) dX12_undo_42 <|
  bw_ixor hZ dX12_undo_43 <|
  bw_iand hZ dX12_undo_44 <|
  bw_putI hZ fl_RX12_601 rfl rfl (by decide) obM_0 dX12_undo_45 fun w1 =>
  bw_vret hZ hE dX12_undo_48) (fun _ =>
  bw_iload_n hZ 1 rfl dX12_undo_10 <|
  bw_aload_n hZ 0 rfl dX12_undo_11 <|
  bw_getI hZ fl_RX12_601 (by decide) obM_0 dX12_undo_12 <|
  bw_iand hZ dX12_undo_15 <|
  bw_iconst hZ 1 (by decide) dX12_undo_16 <|
  bw_iload_n hZ 3 rfl dX12_undo_17 <|
  bw_ishl hZ dX12_undo_18 <|
  bw_iand hZ dX12_undo_19 <|
  bw_if_eq hZ (tgt := 30) (by decide) dX12_undo_20 (fun _ =>
  bw_iinc hZ 1 3 rfl (by decide) (by decide) rfl dX12_undo_30 <|
  bw_goto hZ (tgt := 2) (by decide) dX12_undo_33 <|
  bw_sub [1, 2, 3, 0] rfl (hk2 y1 y2 (y3 + 1) w)) (fun _ =>
  bw_aload_n hZ 0 rfl dX12_undo_23 <|
  bw_getR hZ fl_RX12_348 obM_0 rfl dX12_undo_24 <|
  bw_iload_n hZ 3 rfl dX12_undo_27 <|
  bw_iload_n hZ 2 rfl dX12_undo_28 <|
  bw_iast hZ (arM_45 _) dX12_undo_29 fun w2 =>
  bw_iinc hZ 1 3 rfl (by decide) (by decide) rfl dX12_undo_30 <|
  bw_goto hZ (tgt := 2) (by decide) dX12_undo_33 <|
  bw_sub [1, 2, 3, 0] rfl (hk2 y1 y2 (y3 + 1) w2)))
def X12_undo_b2_L  : Int32 → Int32 → Int32 → Wd → Option (Wd) :=
  lp fu (fun _ _ _ _ => none) (fun k2 => X12_undo_b2 k2)
theorem t_X12_undo_b2_L {Z : Cz (Wd)} (hZ : OKZ Z SM cX12_undo RX12 4 none 1) (hE : EndV Z)  : ∀ (y1 : Int32) (y2 : Int32) (y3 : Int32)  (w : Wd), BW Z 4 2 [(0, .ref (ph (zY Z) 0)), (1, .int y1), (2, .int y2), (3, .int y3)] [] w (X12_undo_b2_L y1 y2 y3 w) :=
  lp_bw (fun k2 => ∀ (y1 : Int32) (y2 : Int32) (y3 : Int32)  (w : Wd), BW Z 4 2 [(0, .ref (ph (zY Z) 0)), (1, .int y1), (2, .int y2), (3, .int y3)] [] w (k2 y1 y2 y3 w)) (fun _ _ _ _ => bw_none) (fun k2 hk2 y1 y2 y3 w => t_X12_undo_b2 hZ hE k2 hk2 y1 y2 y3 w) fu
def f_X12_undo (x1 : Int32) (x2 : Int32) (w : Wd) : Option (Wd) :=
  X12_undo_b2_L x1 x2 0 w
set_option maxRecDepth 100000 in
set_option maxHeartbeats 4000000 in
theorem t_X12_undo {Z : Cz (Wd)} (hZ : OKZ Z SM cX12_undo RX12 4 none 1) (hE : EndV Z) (x1 : Int32) (x2 : Int32)  (w : Wd) : BW Z 4 0 [(0, .ref (ph (zY Z) 0)), (1, .int x1), (2, .int x2)] [] w (f_X12_undo x1 x2 w) :=
  bw_iconst hZ 0 (by decide) dX12_undo_0 <|
  bw_istore_n hZ rfl (by decide) rfl dX12_undo_1 <|
  bw_sub [1, 2, 3, 0] rfl (t_X12_undo_b2_L hZ hE x1 x2 0 w)
theorem c_X12_undo (l : Launch) (Y : Ev) (hY : Y.1 = SM) (x1 : Int32) (x2 : Int32)  (w : Wd) : CV l Y yX12_undo cX12_undo 4 1 [.ref (ph Y 0), .int x1, .int x2] w (f_X12_undo x1 x2 w) := by
  refine CV_of (S := SM) (by decide) (Nat.le_of_ble_eq_true rfl) hY ?_
  intro Z hl hY2 hZ hE
  subst hY2
  exact t_X12_undo hZ hE x1 x2 w
-- WhichWillModel.rise
theorem dX12_rise_0 : decode cX12_rise 0 = .ok (.aload_n 0, 1) := by decide +kernel
theorem dX12_rise_1 : decode cX12_rise 1 = .ok (.dup, 1) := by decide +kernel
theorem dX12_rise_2 : decode cX12_rise 2 = .ok (.getfield 601, 3) := by decide +kernel
theorem dX12_rise_5 : decode cX12_rise 5 = .ok (.iconst 1, 1) := by decide +kernel
theorem dX12_rise_6 : decode cX12_rise 6 = .ok (.iload_n 1, 1) := by decide +kernel
theorem dX12_rise_7 : decode cX12_rise 7 = .ok (.ishl, 1) := by decide +kernel
theorem dX12_rise_8 : decode cX12_rise 8 = .ok (.ior, 1) := by decide +kernel
theorem dX12_rise_9 : decode cX12_rise 9 = .ok (.putfield 601, 3) := by decide +kernel
theorem dX12_rise_12 : decode cX12_rise 12 = .ok (.aload_n 0, 1) := by decide +kernel
theorem dX12_rise_13 : decode cX12_rise 13 = .ok (.getfield 348, 3) := by decide +kernel
theorem dX12_rise_16 : decode cX12_rise 16 = .ok (.iload_n 1, 1) := by decide +kernel
theorem dX12_rise_17 : decode cX12_rise 17 = .ok (.iconst (-1), 1) := by decide +kernel
theorem dX12_rise_18 : decode cX12_rise 18 = .ok (.iastore, 1) := by decide +kernel
theorem dX12_rise_19 : decode cX12_rise 19 = .ok (.return_, 1) := by decide +kernel
def f_X12_rise (x1 : Int32) (w : Wd) : Option (Wd) :=
  lt (wI w 0 82 ((w.1 0 82) ||| (1 <<< (x1 &&& 31)))) fun w1 =>
  if inb x1 4 = true then
  (lt (wI w1 45 (Int32.toNatClampNeg x1) ((-1))) fun w2 =>
  some w2)
  else none
set_option maxRecDepth 100000 in
set_option maxHeartbeats 4000000 in
theorem t_X12_rise {Z : Cz (Wd)} (hZ : OKZ Z SM cX12_rise RX12 2 none 1) (hE : EndV Z) (x1 : Int32)  (w : Wd) : BW Z 2 0 [(0, .ref (ph (zY Z) 0)), (1, .int x1)] [] w (f_X12_rise x1 w) :=
  bw_aload_n hZ 0 rfl dX12_rise_0 <|
  bw_dup hZ rfl dX12_rise_1 <|
  bw_getI hZ fl_RX12_601 (by decide) obM_0 dX12_rise_2 <|
  bw_iconst hZ 1 (by decide) dX12_rise_5 <|
  bw_iload_n hZ 1 rfl dX12_rise_6 <|
  bw_ishl hZ dX12_rise_7 <|
  bw_ior hZ dX12_rise_8 <|
  bw_putI hZ fl_RX12_601 rfl rfl (by decide) obM_0 dX12_rise_9 fun w1 =>
  bw_aload_n hZ 0 rfl dX12_rise_12 <|
  bw_getR hZ fl_RX12_348 obM_0 rfl dX12_rise_13 <|
  bw_iload_n hZ 1 rfl dX12_rise_16 <|
  bw_iconst hZ (-1) (by decide) dX12_rise_17 <|
  bw_iast hZ (arM_45 _) dX12_rise_18 fun w2 =>
  bw_vret hZ hE dX12_rise_19
theorem c_X12_rise (l : Launch) (Y : Ev) (hY : Y.1 = SM) (x1 : Int32)  (w : Wd) : CV l Y yX12_rise cX12_rise 2 1 [.ref (ph Y 0), .int x1] w (f_X12_rise x1 w) := by
  refine CV_of (S := SM) (by decide) (Nat.le_of_ble_eq_true rfl) hY ?_
  intro Z hl hY2 hZ hE
  subst hY2
  exact t_X12_rise hZ hE x1 w
-- WhichWillModel.bringPaper
theorem dX12_bringPaper_0 : decode cX12_bringPaper 0 = .ok (.aload_n 0, 1) := by decide +kernel
theorem dX12_bringPaper_1 : decode cX12_bringPaper 1 = .ok (.dup, 1) := by decide +kernel
theorem dX12_bringPaper_2 : decode cX12_bringPaper 2 = .ok (.getfield 604, 3) := by decide +kernel
theorem dX12_bringPaper_5 : decode cX12_bringPaper 5 = .ok (.iconst 1, 1) := by decide +kernel
theorem dX12_bringPaper_6 : decode cX12_bringPaper 6 = .ok (.iload_n 1, 1) := by decide +kernel
theorem dX12_bringPaper_7 : decode cX12_bringPaper 7 = .ok (.ishl, 1) := by decide +kernel
theorem dX12_bringPaper_8 : decode cX12_bringPaper 8 = .ok (.ior, 1) := by decide +kernel
theorem dX12_bringPaper_9 : decode cX12_bringPaper 9 = .ok (.putfield 604, 3) := by decide +kernel
theorem dX12_bringPaper_12 : decode cX12_bringPaper 12 = .ok (.aload_n 0, 1) := by decide +kernel
theorem dX12_bringPaper_13 : decode cX12_bringPaper 13 = .ok (.iload_n 1, 1) := by decide +kernel
theorem dX12_bringPaper_14 : decode cX12_bringPaper 14 = .ok (.iload_n 2, 1) := by decide +kernel
theorem dX12_bringPaper_15 : decode cX12_bringPaper 15 = .ok (.invokevirtual 598, 3) := by decide +kernel
theorem dX12_bringPaper_18 : decode cX12_bringPaper 18 = .ok (.ifCond .ne 4, 3) := by decide +kernel
theorem dX12_bringPaper_21 : decode cX12_bringPaper 21 = .ok (.return_, 1) := by decide +kernel
theorem dX12_bringPaper_22 : decode cX12_bringPaper 22 = .ok (.aload_n 0, 1) := by decide +kernel
theorem dX12_bringPaper_23 : decode cX12_bringPaper 23 = .ok (.dup, 1) := by decide +kernel
theorem dX12_bringPaper_24 : decode cX12_bringPaper 24 = .ok (.getfield 601, 3) := by decide +kernel
theorem dX12_bringPaper_27 : decode cX12_bringPaper 27 = .ok (.iconst 1, 1) := by decide +kernel
theorem dX12_bringPaper_28 : decode cX12_bringPaper 28 = .ok (.iload_n 1, 1) := by decide +kernel
theorem dX12_bringPaper_29 : decode cX12_bringPaper 29 = .ok (.ishl, 1) := by decide +kernel
theorem dX12_bringPaper_30 : decode cX12_bringPaper 30 = .ok (.ior, 1) := by decide +kernel
theorem dX12_bringPaper_31 : decode cX12_bringPaper 31 = .ok (.putfield 601, 3) := by decide +kernel
theorem dX12_bringPaper_34 : decode cX12_bringPaper 34 = .ok (.aload_n 0, 1) := by decide +kernel
theorem dX12_bringPaper_35 : decode cX12_bringPaper 35 = .ok (.getfield 348, 3) := by decide +kernel
theorem dX12_bringPaper_38 : decode cX12_bringPaper 38 = .ok (.iload_n 1, 1) := by decide +kernel
theorem dX12_bringPaper_39 : decode cX12_bringPaper 39 = .ok (.iconst (-1), 1) := by decide +kernel
theorem dX12_bringPaper_40 : decode cX12_bringPaper 40 = .ok (.iastore, 1) := by decide +kernel
theorem dX12_bringPaper_41 : decode cX12_bringPaper 41 = .ok (.aload_n 0, 1) := by decide +kernel
theorem dX12_bringPaper_42 : decode cX12_bringPaper 42 = .ok (.aload_n 0, 1) := by decide +kernel
theorem dX12_bringPaper_43 : decode cX12_bringPaper 43 = .ok (.getfield 303, 3) := by decide +kernel
theorem dX12_bringPaper_46 : decode cX12_bringPaper 46 = .ok (.iload_n 1, 1) := by decide +kernel
theorem dX12_bringPaper_47 : decode cX12_bringPaper 47 = .ok (.baload, 1) := by decide +kernel
theorem dX12_bringPaper_48 : decode cX12_bringPaper 48 = .ok (.ifCond .eq 16, 3) := by decide +kernel
theorem dX12_bringPaper_51 : decode cX12_bringPaper 51 = .ok (.aload_n 0, 1) := by decide +kernel
theorem dX12_bringPaper_52 : decode cX12_bringPaper 52 = .ok (.getfield 601, 3) := by decide +kernel
theorem dX12_bringPaper_55 : decode cX12_bringPaper 55 = .ok (.iconst 1, 1) := by decide +kernel
theorem dX12_bringPaper_56 : decode cX12_bringPaper 56 = .ok (.iload_n 1, 1) := by decide +kernel
theorem dX12_bringPaper_57 : decode cX12_bringPaper 57 = .ok (.ishl, 1) := by decide +kernel
theorem dX12_bringPaper_58 : decode cX12_bringPaper 58 = .ok (.iconst (-1), 1) := by decide +kernel
theorem dX12_bringPaper_59 : decode cX12_bringPaper 59 = .ok (.ixor, 1) := by decide +kernel
theorem dX12_bringPaper_60 : decode cX12_bringPaper 60 = .ok (.iand, 1) := by decide +kernel
theorem dX12_bringPaper_61 : decode cX12_bringPaper 61 = .ok (.goto 9, 3) := by decide +kernel
theorem dX12_bringPaper_64 : decode cX12_bringPaper 64 = .ok (.aload_n 0, 1) := by decide +kernel
theorem dX12_bringPaper_65 : decode cX12_bringPaper 65 = .ok (.getfield 285, 3) := by decide +kernel
theorem dX12_bringPaper_68 : decode cX12_bringPaper 68 = .ok (.iload_n 1, 1) := by decide +kernel
theorem dX12_bringPaper_69 : decode cX12_bringPaper 69 = .ok (.iaload, 1) := by decide +kernel
theorem dX12_bringPaper_70 : decode cX12_bringPaper 70 = .ok (.iload_n 1, 1) := by decide +kernel
theorem dX12_bringPaper_71 : decode cX12_bringPaper 71 = .ok (.invokevirtual 607, 3) := by decide +kernel
theorem dX12_bringPaper_74 : decode cX12_bringPaper 74 = .ok (.iconst 0, 1) := by decide +kernel
theorem dX12_bringPaper_75 : decode cX12_bringPaper 75 = .ok (.istore_n 3, 1) := by decide +kernel
theorem dX12_bringPaper_76 : decode cX12_bringPaper 76 = .ok (.iload_n 3, 1) := by decide +kernel
theorem dX12_bringPaper_77 : decode cX12_bringPaper 77 = .ok (.aload_n 0, 1) := by decide +kernel
theorem dX12_bringPaper_78 : decode cX12_bringPaper 78 = .ok (.getfield 431, 3) := by decide +kernel
theorem dX12_bringPaper_81 : decode cX12_bringPaper 81 = .ok (.if_icmp .ge 41, 3) := by decide +kernel
theorem dX12_bringPaper_84 : decode cX12_bringPaper 84 = .ok (.aload_n 0, 1) := by decide +kernel
theorem dX12_bringPaper_85 : decode cX12_bringPaper 85 = .ok (.getfield 288, 3) := by decide +kernel
theorem dX12_bringPaper_88 : decode cX12_bringPaper 88 = .ok (.iload_n 1, 1) := by decide +kernel
theorem dX12_bringPaper_89 : decode cX12_bringPaper 89 = .ok (.iaload, 1) := by decide +kernel
theorem dX12_bringPaper_90 : decode cX12_bringPaper 90 = .ok (.aload_n 0, 1) := by decide +kernel
theorem dX12_bringPaper_91 : decode cX12_bringPaper 91 = .ok (.getfield 604, 3) := by decide +kernel
theorem dX12_bringPaper_94 : decode cX12_bringPaper 94 = .ok (.iand, 1) := by decide +kernel
theorem dX12_bringPaper_95 : decode cX12_bringPaper 95 = .ok (.iconst 1, 1) := by decide +kernel
theorem dX12_bringPaper_96 : decode cX12_bringPaper 96 = .ok (.iload_n 3, 1) := by decide +kernel
theorem dX12_bringPaper_97 : decode cX12_bringPaper 97 = .ok (.ishl, 1) := by decide +kernel
theorem dX12_bringPaper_98 : decode cX12_bringPaper 98 = .ok (.iand, 1) := by decide +kernel
theorem dX12_bringPaper_99 : decode cX12_bringPaper 99 = .ok (.ifCond .eq 17, 3) := by decide +kernel
theorem dX12_bringPaper_102 : decode cX12_bringPaper 102 = .ok (.aload_n 0, 1) := by decide +kernel
theorem dX12_bringPaper_103 : decode cX12_bringPaper 103 = .ok (.iload_n 3, 1) := by decide +kernel
theorem dX12_bringPaper_104 : decode cX12_bringPaper 104 = .ok (.iload_n 2, 1) := by decide +kernel
theorem dX12_bringPaper_105 : decode cX12_bringPaper 105 = .ok (.invokevirtual 598, 3) := by decide +kernel
theorem dX12_bringPaper_108 : decode cX12_bringPaper 108 = .ok (.ifCond .eq 8, 3) := by decide +kernel
theorem dX12_bringPaper_111 : decode cX12_bringPaper 111 = .ok (.aload_n 0, 1) := by decide +kernel
theorem dX12_bringPaper_112 : decode cX12_bringPaper 112 = .ok (.iload_n 3, 1) := by decide +kernel
theorem dX12_bringPaper_113 : decode cX12_bringPaper 113 = .ok (.invokevirtual 610, 3) := by decide +kernel
theorem dX12_bringPaper_116 : decode cX12_bringPaper 116 = .ok (.iinc 3 1, 3) := by decide +kernel
theorem dX12_bringPaper_119 : decode cX12_bringPaper 119 = .ok (.goto (-43), 3) := by decide +kernel
theorem dX12_bringPaper_122 : decode cX12_bringPaper 122 = .ok (.return_, 1) := by decide +kernel
def X12_bringPaper_b76 (k76 : Int32 → Int32 → Int32 → Wd → Option (Wd)) (y1 : Int32) (y2 : Int32) (y3 : Int32) (w : Wd) : Option (Wd) :=
  if (w.1 0 49) ≤ y3 then
  (some w)
  else
  if inb y1 4 = true then
  (if (((w.1 26 (Int32.toNatClampNeg y1)) &&& (w.1 0 83)) &&& (1 <<< (y3 &&& 31))) = 0 then
  (k76 y1 y2 (y3 + 1) w)
  else
  cl (f_X12_isGood y3 y2 w) fun r8 w7 =>
  if r8 = 0 then
  (k76 y1 y2 (y3 + 1) w7)
  else
  cv (f_X12_rise y3 w7) fun w9 =>
  k76 y1 y2 (y3 + 1) w9)
  else none
set_option maxRecDepth 100000 in
set_option maxHeartbeats 4000000 in
theorem t_X12_bringPaper_b76 {Z : Cz (Wd)} (hZ : OKZ Z SM cX12_bringPaper RX12 4 none 4) (hE : EndV Z) (k76 : Int32 → Int32 → Int32 → Wd → Option (Wd)) (hk76 : ∀ (y1 : Int32) (y2 : Int32) (y3 : Int32)  (w : Wd), BW Z 4 76 [(0, .ref (ph (zY Z) 0)), (1, .int y1), (2, .int y2), (3, .int y3)] [] w (k76 y1 y2 y3 w)) (y1 : Int32) (y2 : Int32) (y3 : Int32)  (w : Wd) : BW Z 4 76 [(0, .ref (ph (zY Z) 0)), (1, .int y1), (2, .int y2), (3, .int y3)] [] w (X12_bringPaper_b76 k76 y1 y2 y3 w) :=
  bw_iload_n hZ 3 rfl dX12_bringPaper_76 <|
  bw_aload_n hZ 0 rfl dX12_bringPaper_77 <|
  bw_getI hZ fl_RX12_431 (by decide) obM_0 dX12_bringPaper_78 <|
  bw_icmp_ge hZ (tgt := 122) (by decide) dX12_bringPaper_81 (fun _ =>
  bw_vret hZ hE dX12_bringPaper_122) (fun _ =>
  bw_aload_n hZ 0 rfl dX12_bringPaper_84 <|
  bw_getR hZ fl_RX12_288 obM_0 rfl dX12_bringPaper_85 <|
  bw_iload_n hZ 1 rfl dX12_bringPaper_88 <|
  bw_iald hZ (arM_26 _) dX12_bringPaper_89 <|
  bw_aload_n hZ 0 rfl dX12_bringPaper_90 <|
  bw_getI hZ fl_RX12_604 (by decide) obM_0 dX12_bringPaper_91 <|
  bw_iand hZ dX12_bringPaper_94 <|
  bw_iconst hZ 1 (by decide) dX12_bringPaper_95 <|
  bw_iload_n hZ 3 rfl dX12_bringPaper_96 <|
  bw_ishl hZ dX12_bringPaper_97 <|
  bw_iand hZ dX12_bringPaper_98 <|
  bw_if_eq hZ (tgt := 116) (by decide) dX12_bringPaper_99 (fun _ =>
  bw_iinc hZ 1 3 rfl (by decide) (by decide) rfl dX12_bringPaper_116 <|
  bw_goto hZ (tgt := 76) (by decide) dX12_bringPaper_119 <|
  bw_sub [1, 2, 3, 0] rfl (hk76 y1 y2 (y3 + 1) w)) (fun _ =>
  bw_aload_n hZ 0 rfl dX12_bringPaper_102 <|
  bw_iload_n hZ 3 rfl dX12_bringPaper_103 <|
  bw_iload_n hZ 2 rfl dX12_bringPaper_104 <|
  bw_callVI (As := [.int y3, .int y2]) hZ ml_RX12_598 rc_12 obM_0 (by decide) (c_X12_isGood (zl Z) (zY Z) (hZ_S hZ) y3 y2 w) rfl rfl (Nat.le_of_ble_eq_true rfl) dX12_bringPaper_105 fun r8 w7 =>
  bw_if_eq hZ (tgt := 116) (by decide) dX12_bringPaper_108 (fun _ =>
  bw_iinc hZ 1 3 rfl (by decide) (by decide) rfl dX12_bringPaper_116 <|
  bw_goto hZ (tgt := 76) (by decide) dX12_bringPaper_119 <|
  bw_sub [1, 2, 3, 0] rfl (hk76 y1 y2 (y3 + 1) w7)) (fun _ =>
  bw_aload_n hZ 0 rfl dX12_bringPaper_111 <|
  bw_iload_n hZ 3 rfl dX12_bringPaper_112 <|
  bw_callVV (As := [.int y3]) hZ ml_RX12_610 rc_12 obM_0 (by decide) (c_X12_rise (zl Z) (zY Z) (hZ_S hZ) y3 w7) rfl rfl (Nat.le_of_ble_eq_true rfl) dX12_bringPaper_113 fun w9 =>
  bw_iinc hZ 1 3 rfl (by decide) (by decide) rfl dX12_bringPaper_116 <|
  bw_goto hZ (tgt := 76) (by decide) dX12_bringPaper_119 <|
  bw_sub [1, 2, 3, 0] rfl (hk76 y1 y2 (y3 + 1) w9))))
def X12_bringPaper_b76_L  : Int32 → Int32 → Int32 → Wd → Option (Wd) :=
  lp fu (fun _ _ _ _ => none) (fun k76 => X12_bringPaper_b76 k76)
theorem t_X12_bringPaper_b76_L {Z : Cz (Wd)} (hZ : OKZ Z SM cX12_bringPaper RX12 4 none 4) (hE : EndV Z)  : ∀ (y1 : Int32) (y2 : Int32) (y3 : Int32)  (w : Wd), BW Z 4 76 [(0, .ref (ph (zY Z) 0)), (1, .int y1), (2, .int y2), (3, .int y3)] [] w (X12_bringPaper_b76_L y1 y2 y3 w) :=
  lp_bw (fun k76 => ∀ (y1 : Int32) (y2 : Int32) (y3 : Int32)  (w : Wd), BW Z 4 76 [(0, .ref (ph (zY Z) 0)), (1, .int y1), (2, .int y2), (3, .int y3)] [] w (k76 y1 y2 y3 w)) (fun _ _ _ _ => bw_none) (fun k76 hk76 y1 y2 y3 w => t_X12_bringPaper_b76 hZ hE k76 hk76 y1 y2 y3 w) fu
def X12_bringPaper_b70 (y1 : Int32) (y2 : Int32) (t0 : Int32) (w : Wd) : Option (Wd) :=
  cv (f_X12_undo t0 y1 w) fun w6 =>
  X12_bringPaper_b76_L y1 y2 0 w6
set_option maxRecDepth 100000 in
set_option maxHeartbeats 4000000 in
theorem t_X12_bringPaper_b70 {Z : Cz (Wd)} (hZ : OKZ Z SM cX12_bringPaper RX12 4 none 4) (hE : EndV Z)  (y1 : Int32) (y2 : Int32) (t0 : Int32)  (w : Wd) : BW Z 4 70 [(0, .ref (ph (zY Z) 0)), (1, .int y1), (2, .int y2)] [.int t0, .ref (ph (zY Z) 0)] w (X12_bringPaper_b70 y1 y2 t0 w) :=
  bw_iload_n hZ 1 rfl dX12_bringPaper_70 <|
  bw_callVV (As := [.int t0, .int y1]) hZ ml_RX12_607 rc_12 obM_0 (by decide) (c_X12_undo (zl Z) (zY Z) (hZ_S hZ) t0 y1 w) rfl rfl (Nat.le_of_ble_eq_true rfl) dX12_bringPaper_71 fun w6 =>
  bw_iconst hZ 0 (by decide) dX12_bringPaper_74 <|
  bw_istore_n hZ rfl (by decide) rfl dX12_bringPaper_75 <|
  bw_sub [1, 2, 3, 0] rfl (t_X12_bringPaper_b76_L hZ hE y1 y2 0 w6)
def f_X12_bringPaper (x1 : Int32) (x2 : Int32) (w : Wd) : Option (Wd) :=
  lt (wI w 0 83 ((w.1 0 83) ||| (1 <<< (x1 &&& 31)))) fun w1 =>
  cl (f_X12_isGood x1 x2 w1) fun r3 w2 =>
  if r3 = 0 then
  (some w2)
  else
  lt (wI w2 0 82 ((w2.1 0 82) ||| (1 <<< (x1 &&& 31)))) fun w4 =>
  if inb x1 4 = true then
  (lt (wI w4 45 (Int32.toNatClampNeg x1) ((-1))) fun w5 =>
  if inb x1 4 = true then
  (if (w5.1 31 (Int32.toNatClampNeg x1)) = 0 then
  (if inb x1 4 = true then
  (X12_bringPaper_b70 x1 x2 (w5.1 25 (Int32.toNatClampNeg x1)) w5)
  else none)
  else
  X12_bringPaper_b70 x1 x2 ((w5.1 0 82) &&& ((1 <<< (x1 &&& 31)) ^^^ ((-1)))) w5)
  else none)
  else none
set_option maxRecDepth 100000 in
set_option maxHeartbeats 4000000 in
theorem t_X12_bringPaper {Z : Cz (Wd)} (hZ : OKZ Z SM cX12_bringPaper RX12 4 none 4) (hE : EndV Z) (x1 : Int32) (x2 : Int32)  (w : Wd) : BW Z 4 0 [(0, .ref (ph (zY Z) 0)), (1, .int x1), (2, .int x2)] [] w (f_X12_bringPaper x1 x2 w) :=
  bw_aload_n hZ 0 rfl dX12_bringPaper_0 <|
  bw_dup hZ rfl dX12_bringPaper_1 <|
  bw_getI hZ fl_RX12_604 (by decide) obM_0 dX12_bringPaper_2 <|
  bw_iconst hZ 1 (by decide) dX12_bringPaper_5 <|
  bw_iload_n hZ 1 rfl dX12_bringPaper_6 <|
  bw_ishl hZ dX12_bringPaper_7 <|
  bw_ior hZ dX12_bringPaper_8 <|
  bw_putI hZ fl_RX12_604 rfl rfl (by decide) obM_0 dX12_bringPaper_9 fun w1 =>
  bw_aload_n hZ 0 rfl dX12_bringPaper_12 <|
  bw_iload_n hZ 1 rfl dX12_bringPaper_13 <|
  bw_iload_n hZ 2 rfl dX12_bringPaper_14 <|
  bw_callVI (As := [.int x1, .int x2]) hZ ml_RX12_598 rc_12 obM_0 (by decide) (c_X12_isGood (zl Z) (zY Z) (hZ_S hZ) x1 x2 w1) rfl rfl (Nat.le_of_ble_eq_true rfl) dX12_bringPaper_15 fun r3 w2 =>
  bw_if_ne hZ (tgt := 22) (by decide) dX12_bringPaper_18 (fun _ =>
  bw_aload_n hZ 0 rfl dX12_bringPaper_22 <|
  bw_dup hZ rfl dX12_bringPaper_23 <|
  bw_getI hZ fl_RX12_601 (by decide) obM_0 dX12_bringPaper_24 <|
  bw_iconst hZ 1 (by decide) dX12_bringPaper_27 <|
  bw_iload_n hZ 1 rfl dX12_bringPaper_28 <|
  bw_ishl hZ dX12_bringPaper_29 <|
  bw_ior hZ dX12_bringPaper_30 <|
  bw_putI hZ fl_RX12_601 rfl rfl (by decide) obM_0 dX12_bringPaper_31 fun w4 =>
  bw_aload_n hZ 0 rfl dX12_bringPaper_34 <|
  bw_getR hZ fl_RX12_348 obM_0 rfl dX12_bringPaper_35 <|
  bw_iload_n hZ 1 rfl dX12_bringPaper_38 <|
  bw_iconst hZ (-1) (by decide) dX12_bringPaper_39 <|
  bw_iast hZ (arM_45 _) dX12_bringPaper_40 fun w5 =>
  bw_aload_n hZ 0 rfl dX12_bringPaper_41 <|
  bw_aload_n hZ 0 rfl dX12_bringPaper_42 <|
  bw_getR hZ fl_RX12_303 obM_0 rfl dX12_bringPaper_43 <|
  bw_iload_n hZ 1 rfl dX12_bringPaper_46 <|
  bw_zald hZ (arM_31 _) dX12_bringPaper_47 <|
  bw_if_eq hZ (tgt := 64) (by decide) dX12_bringPaper_48 (fun _ =>
  bw_aload_n hZ 0 rfl dX12_bringPaper_64 <|
  bw_getR hZ fl_RX12_285 obM_0 rfl dX12_bringPaper_65 <|
  bw_iload_n hZ 1 rfl dX12_bringPaper_68 <|
  bw_iald hZ (arM_25 _) dX12_bringPaper_69 <|
  bw_sub [0, 1, 2] rfl (t_X12_bringPaper_b70 hZ hE x1 x2 (w5.1 25 (Int32.toNatClampNeg x1)) w5)) (fun _ =>
  bw_aload_n hZ 0 rfl dX12_bringPaper_51 <|
  bw_getI hZ fl_RX12_601 (by decide) obM_0 dX12_bringPaper_52 <|
  bw_iconst hZ 1 (by decide) dX12_bringPaper_55 <|
  bw_iload_n hZ 1 rfl dX12_bringPaper_56 <|
  bw_ishl hZ dX12_bringPaper_57 <|
  bw_iconst hZ (-1) (by decide) dX12_bringPaper_58 <|
  bw_ixor hZ dX12_bringPaper_59 <|
  bw_iand hZ dX12_bringPaper_60 <|
  bw_goto hZ (tgt := 70) (by decide) dX12_bringPaper_61 <|
  bw_sub [0, 1, 2] rfl (t_X12_bringPaper_b70 hZ hE x1 x2 ((w5.1 0 82) &&& ((1 <<< (x1 &&& 31)) ^^^ ((-1)))) w5))) (fun _ =>
  bw_vret hZ hE dX12_bringPaper_21)
theorem c_X12_bringPaper (l : Launch) (Y : Ev) (hY : Y.1 = SM) (x1 : Int32) (x2 : Int32)  (w : Wd) : CV l Y yX12_bringPaper cX12_bringPaper 4 4 [.ref (ph Y 0), .int x1, .int x2] w (f_X12_bringPaper x1 x2 w) := by
  refine CV_of (S := SM) (by decide) (Nat.le_of_ble_eq_true rfl) hY ?_
  intro Z hl hY2 hZ hE
  subst hY2
  exact t_X12_bringPaper hZ hE x1 x2 w
-- WhichWillModel.bringEvent
theorem dX12_bringEvent_0 : decode cX12_bringEvent 0 = .ok (.aload_n 0, 1) := by decide +kernel
theorem dX12_bringEvent_1 : decode cX12_bringEvent 1 = .ok (.getfield 327, 3) := by decide +kernel
theorem dX12_bringEvent_4 : decode cX12_bringEvent 4 = .ok (.iload_n 1, 1) := by decide +kernel
theorem dX12_bringEvent_5 : decode cX12_bringEvent 5 = .ok (.iaload, 1) := by decide +kernel
theorem dX12_bringEvent_6 : decode cX12_bringEvent 6 = .ok (.istore_n 3, 1) := by decide +kernel
theorem dX12_bringEvent_7 : decode cX12_bringEvent 7 = .ok (.aload_n 0, 1) := by decide +kernel
theorem dX12_bringEvent_8 : decode cX12_bringEvent 8 = .ok (.getfield 431, 3) := by decide +kernel
theorem dX12_bringEvent_11 : decode cX12_bringEvent 11 = .ok (.iload_n 1, 1) := by decide +kernel
theorem dX12_bringEvent_12 : decode cX12_bringEvent 12 = .ok (.iadd, 1) := by decide +kernel
theorem dX12_bringEvent_13 : decode cX12_bringEvent 13 = .ok (.istore 4, 2) := by decide +kernel
theorem dX12_bringEvent_15 : decode cX12_bringEvent 15 = .ok (.aload_n 0, 1) := by decide +kernel
theorem dX12_bringEvent_16 : decode cX12_bringEvent 16 = .ok (.getfield 324, 3) := by decide +kernel
theorem dX12_bringEvent_19 : decode cX12_bringEvent 19 = .ok (.iload_n 1, 1) := by decide +kernel
theorem dX12_bringEvent_20 : decode cX12_bringEvent 20 = .ok (.iaload, 1) := by decide +kernel
theorem dX12_bringEvent_21 : decode cX12_bringEvent 21 = .ok (.lookupswitch 74 #[(0, 27), (1, 49)], 27) := by decide +kernel
theorem dX12_bringEvent_48 : decode cX12_bringEvent 48 = .ok (.aload_n 0, 1) := by decide +kernel
theorem dX12_bringEvent_49 : decode cX12_bringEvent 49 = .ok (.iload_n 2, 1) := by decide +kernel
theorem dX12_bringEvent_50 : decode cX12_bringEvent 50 = .ok (.iconst 4, 1) := by decide +kernel
theorem dX12_bringEvent_51 : decode cX12_bringEvent 51 = .ok (.invokevirtual 589, 3) := by decide +kernel
theorem dX12_bringEvent_54 : decode cX12_bringEvent 54 = .ok (.ifCond .eq 166, 3) := by decide +kernel
theorem dX12_bringEvent_57 : decode cX12_bringEvent 57 = .ok (.aload_n 0, 1) := by decide +kernel
theorem dX12_bringEvent_58 : decode cX12_bringEvent 58 = .ok (.aload_n 0, 1) := by decide +kernel
theorem dX12_bringEvent_59 : decode cX12_bringEvent 59 = .ok (.getfield 601, 3) := by decide +kernel
theorem dX12_bringEvent_62 : decode cX12_bringEvent 62 = .ok (.iload 4, 2) := by decide +kernel
theorem dX12_bringEvent_64 : decode cX12_bringEvent 64 = .ok (.invokevirtual 607, 3) := by decide +kernel
theorem dX12_bringEvent_67 : decode cX12_bringEvent 67 = .ok (.goto 153, 3) := by decide +kernel
theorem dX12_bringEvent_70 : decode cX12_bringEvent 70 = .ok (.aload_n 0, 1) := by decide +kernel
theorem dX12_bringEvent_71 : decode cX12_bringEvent 71 = .ok (.iload_n 2, 1) := by decide +kernel
theorem dX12_bringEvent_72 : decode cX12_bringEvent 72 = .ok (.iconst 5, 1) := by decide +kernel
theorem dX12_bringEvent_73 : decode cX12_bringEvent 73 = .ok (.invokevirtual 589, 3) := by decide +kernel
theorem dX12_bringEvent_76 : decode cX12_bringEvent 76 = .ok (.ifCond .eq 144, 3) := by decide +kernel
theorem dX12_bringEvent_79 : decode cX12_bringEvent 79 = .ok (.aload_n 0, 1) := by decide +kernel
theorem dX12_bringEvent_80 : decode cX12_bringEvent 80 = .ok (.dup, 1) := by decide +kernel
theorem dX12_bringEvent_81 : decode cX12_bringEvent 81 = .ok (.getfield 613, 3) := by decide +kernel
theorem dX12_bringEvent_84 : decode cX12_bringEvent 84 = .ok (.aload_n 0, 1) := by decide +kernel
theorem dX12_bringEvent_85 : decode cX12_bringEvent 85 = .ok (.getfield 601, 3) := by decide +kernel
theorem dX12_bringEvent_88 : decode cX12_bringEvent 88 = .ok (.ior, 1) := by decide +kernel
theorem dX12_bringEvent_89 : decode cX12_bringEvent 89 = .ok (.putfield 613, 3) := by decide +kernel
theorem dX12_bringEvent_92 : decode cX12_bringEvent 92 = .ok (.goto 128, 3) := by decide +kernel
theorem dX12_bringEvent_95 : decode cX12_bringEvent 95 = .ok (.aload_n 0, 1) := by decide +kernel
theorem dX12_bringEvent_96 : decode cX12_bringEvent 96 = .ok (.getfield 324, 3) := by decide +kernel
theorem dX12_bringEvent_99 : decode cX12_bringEvent 99 = .ok (.iload_n 1, 1) := by decide +kernel
theorem dX12_bringEvent_100 : decode cX12_bringEvent 100 = .ok (.iaload, 1) := by decide +kernel
theorem dX12_bringEvent_101 : decode cX12_bringEvent 101 = .ok (.iconst 2, 1) := by decide +kernel
theorem dX12_bringEvent_102 : decode cX12_bringEvent 102 = .ok (.if_icmp .eq 28, 3) := by decide +kernel
theorem dX12_bringEvent_105 : decode cX12_bringEvent 105 = .ok (.aload_n 0, 1) := by decide +kernel
theorem dX12_bringEvent_106 : decode cX12_bringEvent 106 = .ok (.iload_n 2, 1) := by decide +kernel
theorem dX12_bringEvent_107 : decode cX12_bringEvent 107 = .ok (.aload_n 0, 1) := by decide +kernel
theorem dX12_bringEvent_108 : decode cX12_bringEvent 108 = .ok (.getfield 324, 3) := by decide +kernel
theorem dX12_bringEvent_111 : decode cX12_bringEvent 111 = .ok (.iload_n 1, 1) := by decide +kernel
theorem dX12_bringEvent_112 : decode cX12_bringEvent 112 = .ok (.iaload, 1) := by decide +kernel
theorem dX12_bringEvent_113 : decode cX12_bringEvent 113 = .ok (.iconst 3, 1) := by decide +kernel
theorem dX12_bringEvent_114 : decode cX12_bringEvent 114 = .ok (.if_icmp .ne 8, 3) := by decide +kernel
theorem dX12_bringEvent_117 : decode cX12_bringEvent 117 = .ok (.bipush 6, 2) := by decide +kernel
theorem dX12_bringEvent_119 : decode cX12_bringEvent 119 = .ok (.goto 5, 3) := by decide +kernel
theorem dX12_bringEvent_122 : decode cX12_bringEvent 122 = .ok (.bipush 8, 2) := by decide +kernel
theorem dX12_bringEvent_124 : decode cX12_bringEvent 124 = .ok (.invokevirtual 589, 3) := by decide +kernel
theorem dX12_bringEvent_127 : decode cX12_bringEvent 127 = .ok (.ifCond .eq 7, 3) := by decide +kernel
theorem dX12_bringEvent_130 : decode cX12_bringEvent 130 = .ok (.iconst 1, 1) := by decide +kernel
theorem dX12_bringEvent_131 : decode cX12_bringEvent 131 = .ok (.goto 4, 3) := by decide +kernel
theorem dX12_bringEvent_134 : decode cX12_bringEvent 134 = .ok (.iconst 0, 1) := by decide +kernel
theorem dX12_bringEvent_135 : decode cX12_bringEvent 135 = .ok (.istore 5, 2) := by decide +kernel
theorem dX12_bringEvent_137 : decode cX12_bringEvent 137 = .ok (.iload 5, 2) := by decide +kernel
theorem dX12_bringEvent_139 : decode cX12_bringEvent 139 = .ok (.ifCond .eq 14, 3) := by decide +kernel
theorem dX12_bringEvent_142 : decode cX12_bringEvent 142 = .ok (.aload_n 0, 1) := by decide +kernel
theorem dX12_bringEvent_143 : decode cX12_bringEvent 143 = .ok (.getfield 601, 3) := by decide +kernel
theorem dX12_bringEvent_146 : decode cX12_bringEvent 146 = .ok (.iload_n 3, 1) := by decide +kernel
theorem dX12_bringEvent_147 : decode cX12_bringEvent 147 = .ok (.ishr, 1) := by decide +kernel
theorem dX12_bringEvent_148 : decode cX12_bringEvent 148 = .ok (.iconst 1, 1) := by decide +kernel
theorem dX12_bringEvent_149 : decode cX12_bringEvent 149 = .ok (.iand, 1) := by decide +kernel
theorem dX12_bringEvent_150 : decode cX12_bringEvent 150 = .ok (.ifCond .ne 4, 3) := by decide +kernel
theorem dX12_bringEvent_153 : decode cX12_bringEvent 153 = .ok (.return_, 1) := by decide +kernel
theorem dX12_bringEvent_154 : decode cX12_bringEvent 154 = .ok (.aload_n 0, 1) := by decide +kernel
theorem dX12_bringEvent_155 : decode cX12_bringEvent 155 = .ok (.iconst 1, 1) := by decide +kernel
theorem dX12_bringEvent_156 : decode cX12_bringEvent 156 = .ok (.iload_n 3, 1) := by decide +kernel
theorem dX12_bringEvent_157 : decode cX12_bringEvent 157 = .ok (.ishl, 1) := by decide +kernel
theorem dX12_bringEvent_158 : decode cX12_bringEvent 158 = .ok (.iload 4, 2) := by decide +kernel
theorem dX12_bringEvent_160 : decode cX12_bringEvent 160 = .ok (.invokevirtual 607, 3) := by decide +kernel
theorem dX12_bringEvent_163 : decode cX12_bringEvent 163 = .ok (.iconst 0, 1) := by decide +kernel
theorem dX12_bringEvent_164 : decode cX12_bringEvent 164 = .ok (.istore 6, 2) := by decide +kernel
theorem dX12_bringEvent_166 : decode cX12_bringEvent 166 = .ok (.iload 6, 2) := by decide +kernel
theorem dX12_bringEvent_168 : decode cX12_bringEvent 168 = .ok (.aload_n 0, 1) := by decide +kernel
theorem dX12_bringEvent_169 : decode cX12_bringEvent 169 = .ok (.getfield 431, 3) := by decide +kernel
theorem dX12_bringEvent_172 : decode cX12_bringEvent 172 = .ok (.if_icmp .ge 48, 3) := by decide +kernel
theorem dX12_bringEvent_175 : decode cX12_bringEvent 175 = .ok (.aload_n 0, 1) := by decide +kernel
theorem dX12_bringEvent_176 : decode cX12_bringEvent 176 = .ok (.iload_n 2, 1) := by decide +kernel
theorem dX12_bringEvent_177 : decode cX12_bringEvent 177 = .ok (.bipush 7, 2) := by decide +kernel
theorem dX12_bringEvent_179 : decode cX12_bringEvent 179 = .ok (.invokevirtual 589, 3) := by decide +kernel
theorem dX12_bringEvent_182 : decode cX12_bringEvent 182 = .ok (.ifCond .eq 38, 3) := by decide +kernel
theorem dX12_bringEvent_185 : decode cX12_bringEvent 185 = .ok (.aload_n 0, 1) := by decide +kernel
theorem dX12_bringEvent_186 : decode cX12_bringEvent 186 = .ok (.getfield 601, 3) := by decide +kernel
theorem dX12_bringEvent_189 : decode cX12_bringEvent 189 = .ok (.iload 6, 2) := by decide +kernel
theorem dX12_bringEvent_191 : decode cX12_bringEvent 191 = .ok (.ishr, 1) := by decide +kernel
theorem dX12_bringEvent_192 : decode cX12_bringEvent 192 = .ok (.iconst 1, 1) := by decide +kernel
theorem dX12_bringEvent_193 : decode cX12_bringEvent 193 = .ok (.iand, 1) := by decide +kernel
theorem dX12_bringEvent_194 : decode cX12_bringEvent 194 = .ok (.ifCond .ne 20, 3) := by decide +kernel
theorem dX12_bringEvent_197 : decode cX12_bringEvent 197 = .ok (.aload_n 0, 1) := by decide +kernel
theorem dX12_bringEvent_198 : decode cX12_bringEvent 198 = .ok (.getfield 348, 3) := by decide +kernel
theorem dX12_bringEvent_201 : decode cX12_bringEvent 201 = .ok (.iload 6, 2) := by decide +kernel
theorem dX12_bringEvent_203 : decode cX12_bringEvent 203 = .ok (.iaload, 1) := by decide +kernel
theorem dX12_bringEvent_204 : decode cX12_bringEvent 204 = .ok (.iload_n 3, 1) := by decide +kernel
theorem dX12_bringEvent_205 : decode cX12_bringEvent 205 = .ok (.if_icmp .ne 9, 3) := by decide +kernel
theorem dX12_bringEvent_208 : decode cX12_bringEvent 208 = .ok (.aload_n 0, 1) := by decide +kernel
theorem dX12_bringEvent_209 : decode cX12_bringEvent 209 = .ok (.iload 6, 2) := by decide +kernel
theorem dX12_bringEvent_211 : decode cX12_bringEvent 211 = .ok (.invokevirtual 610, 3) := by decide +kernel
theorem dX12_bringEvent_214 : decode cX12_bringEvent 214 = .ok (.iinc 6 1, 3) := by decide +kernel
theorem dX12_bringEvent_217 : decode cX12_bringEvent 217 = .ok (.goto (-51), 3) := by decide +kernel
theorem dX12_bringEvent_220 : decode cX12_bringEvent 220 = .ok (.return_, 1) := by decide +kernel
def X12_bringEvent_b166 (k166 : Int32 → Int32 → Int32 → Wd → Option (Wd)) (y2 : Int32) (y3 : Int32) (y6 : Int32) (w : Wd) : Option (Wd) :=
  if (w.1 0 49) ≤ y6 then
  (some w)
  else
  cl (f_X12_has y2 7 w) fun r6 w5 =>
  if r6 = 0 then
  (some w5)
  else
  if (((w5.1 0 82) >>> (y6 &&& 31)) &&& 1) = 0 then
  (if inb y6 4 = true then
  (if (w5.1 45 (Int32.toNatClampNeg y6)) = y3 then
  (cv (f_X12_rise y6 w5) fun w7 =>
  k166 y2 y3 (y6 + 1) w7)
  else
  k166 y2 y3 (y6 + 1) w5)
  else none)
  else
  k166 y2 y3 (y6 + 1) w5
set_option maxRecDepth 100000 in
set_option maxHeartbeats 4000000 in
theorem t_X12_bringEvent_b166 {Z : Cz (Wd)} (hZ : OKZ Z SM cX12_bringEvent RX12 7 none 2) (hE : EndV Z) (k166 : Int32 → Int32 → Int32 → Wd → Option (Wd)) (hk166 : ∀ (y2 : Int32) (y3 : Int32) (y6 : Int32)  (w : Wd), BW Z 7 166 [(0, .ref (ph (zY Z) 0)), (2, .int y2), (3, .int y3), (6, .int y6)] [] w (k166 y2 y3 y6 w)) (y2 : Int32) (y3 : Int32) (y6 : Int32)  (w : Wd) : BW Z 7 166 [(0, .ref (ph (zY Z) 0)), (2, .int y2), (3, .int y3), (6, .int y6)] [] w (X12_bringEvent_b166 k166 y2 y3 y6 w) :=
  bw_iload hZ 3 rfl dX12_bringEvent_166 <|
  bw_aload_n hZ 0 rfl dX12_bringEvent_168 <|
  bw_getI hZ fl_RX12_431 (by decide) obM_0 dX12_bringEvent_169 <|
  bw_icmp_ge hZ (tgt := 220) (by decide) dX12_bringEvent_172 (fun _ =>
  bw_vret hZ hE dX12_bringEvent_220) (fun _ =>
  bw_aload_n hZ 0 rfl dX12_bringEvent_175 <|
  bw_iload_n hZ 1 rfl dX12_bringEvent_176 <|
  bw_bipush hZ 7 (by decide) dX12_bringEvent_177 <|
  bw_callVI (As := [.int y2, .int 7]) hZ ml_RX12_589 rc_12 obM_0 (by decide) (c_X12_has (zl Z) (zY Z) (hZ_S hZ) y2 7 w) rfl rfl (Nat.le_of_ble_eq_true rfl) dX12_bringEvent_179 fun r6 w5 =>
  bw_if_eq hZ (tgt := 220) (by decide) dX12_bringEvent_182 (fun _ =>
  bw_vret hZ hE dX12_bringEvent_220) (fun _ =>
  bw_aload_n hZ 0 rfl dX12_bringEvent_185 <|
  bw_getI hZ fl_RX12_601 (by decide) obM_0 dX12_bringEvent_186 <|
  bw_iload hZ 3 rfl dX12_bringEvent_189 <|
  bw_ishr hZ dX12_bringEvent_191 <|
  bw_iconst hZ 1 (by decide) dX12_bringEvent_192 <|
  bw_iand hZ dX12_bringEvent_193 <|
  bw_if_ne hZ (tgt := 214) (by decide) dX12_bringEvent_194 (fun _ =>
  bw_iinc hZ 1 3 rfl (by decide) (by decide) rfl dX12_bringEvent_214 <|
  bw_goto hZ (tgt := 166) (by decide) dX12_bringEvent_217 <|
  bw_sub [1, 2, 3, 0] rfl (hk166 y2 y3 (y6 + 1) w5)) (fun _ =>
  bw_aload_n hZ 0 rfl dX12_bringEvent_197 <|
  bw_getR hZ fl_RX12_348 obM_0 rfl dX12_bringEvent_198 <|
  bw_iload hZ 3 rfl dX12_bringEvent_201 <|
  bw_iald hZ (arM_45 _) dX12_bringEvent_203 <|
  bw_iload_n hZ 2 rfl dX12_bringEvent_204 <|
  bw_icmp_ne hZ (tgt := 214) (by decide) dX12_bringEvent_205 (fun _ =>
  bw_iinc hZ 1 3 rfl (by decide) (by decide) rfl dX12_bringEvent_214 <|
  bw_goto hZ (tgt := 166) (by decide) dX12_bringEvent_217 <|
  bw_sub [1, 2, 3, 0] rfl (hk166 y2 y3 (y6 + 1) w5)) (fun _ =>
  bw_aload_n hZ 0 rfl dX12_bringEvent_208 <|
  bw_iload hZ 3 rfl dX12_bringEvent_209 <|
  bw_callVV (As := [.int y6]) hZ ml_RX12_610 rc_12 obM_0 (by decide) (c_X12_rise (zl Z) (zY Z) (hZ_S hZ) y6 w5) rfl rfl (Nat.le_of_ble_eq_true rfl) dX12_bringEvent_211 fun w7 =>
  bw_iinc hZ 1 3 rfl (by decide) (by decide) rfl dX12_bringEvent_214 <|
  bw_goto hZ (tgt := 166) (by decide) dX12_bringEvent_217 <|
  bw_sub [1, 2, 3, 0] rfl (hk166 y2 y3 (y6 + 1) w7)))))
def X12_bringEvent_b166_L  : Int32 → Int32 → Int32 → Wd → Option (Wd) :=
  lp fu (fun _ _ _ _ => none) (fun k166 => X12_bringEvent_b166 k166)
theorem t_X12_bringEvent_b166_L {Z : Cz (Wd)} (hZ : OKZ Z SM cX12_bringEvent RX12 7 none 2) (hE : EndV Z)  : ∀ (y2 : Int32) (y3 : Int32) (y6 : Int32)  (w : Wd), BW Z 7 166 [(0, .ref (ph (zY Z) 0)), (2, .int y2), (3, .int y3), (6, .int y6)] [] w (X12_bringEvent_b166_L y2 y3 y6 w) :=
  lp_bw (fun k166 => ∀ (y2 : Int32) (y3 : Int32) (y6 : Int32)  (w : Wd), BW Z 7 166 [(0, .ref (ph (zY Z) 0)), (2, .int y2), (3, .int y3), (6, .int y6)] [] w (k166 y2 y3 y6 w)) (fun _ _ _ _ => bw_none) (fun k166 hk166 y2 y3 y6 w => t_X12_bringEvent_b166 hZ hE k166 hk166 y2 y3 y6 w) fu
def X12_bringEvent_b135 (y2 : Int32) (y3 : Int32) (y4 : Int32) (t0 : Int32) (w : Wd) : Option (Wd) :=
  if t0 = 0 then
  (some w)
  else
  if (((w.1 0 82) >>> (y3 &&& 31)) &&& 1) = 0 then
  (some w)
  else
  cv (f_X12_undo (1 <<< (y3 &&& 31)) y4 w) fun w4 =>
  X12_bringEvent_b166_L y2 y3 0 w4
set_option maxRecDepth 100000 in
set_option maxHeartbeats 4000000 in
theorem t_X12_bringEvent_b135 {Z : Cz (Wd)} (hZ : OKZ Z SM cX12_bringEvent RX12 7 none 2) (hE : EndV Z)  (y2 : Int32) (y3 : Int32) (y4 : Int32) (t0 : Int32)  (w : Wd) : BW Z 7 135 [(0, .ref (ph (zY Z) 0)), (2, .int y2), (3, .int y3), (4, .int y4)] [.int t0] w (X12_bringEvent_b135 y2 y3 y4 t0 w) :=
  bw_istore hZ (by decide) rfl dX12_bringEvent_135 <|
  bw_iload hZ 0 rfl dX12_bringEvent_137 <|
  bw_if_eq hZ (tgt := 153) (by decide) dX12_bringEvent_139 (fun _ =>
  bw_vret hZ hE dX12_bringEvent_153) (fun _ =>
  bw_aload_n hZ 1 rfl dX12_bringEvent_142 <|
  bw_getI hZ fl_RX12_601 (by decide) obM_0 dX12_bringEvent_143 <|
  bw_iload_n hZ 3 rfl dX12_bringEvent_146 <|
  bw_ishr hZ dX12_bringEvent_147 <|
  bw_iconst hZ 1 (by decide) dX12_bringEvent_148 <|
  bw_iand hZ dX12_bringEvent_149 <|
  bw_if_ne hZ (tgt := 154) (by decide) dX12_bringEvent_150 (fun _ =>
  bw_aload_n hZ 1 rfl dX12_bringEvent_154 <|
  bw_iconst hZ 1 (by decide) dX12_bringEvent_155 <|
  bw_iload_n hZ 3 rfl dX12_bringEvent_156 <|
  bw_ishl hZ dX12_bringEvent_157 <|
  bw_iload hZ 4 rfl dX12_bringEvent_158 <|
  bw_callVV (As := [.int (1 <<< (y3 &&& 31)), .int y4]) hZ ml_RX12_607 rc_12 obM_0 (by decide) (c_X12_undo (zl Z) (zY Z) (hZ_S hZ) (1 <<< (y3 &&& 31)) y4 w) rfl rfl (Nat.le_of_ble_eq_true rfl) dX12_bringEvent_160 fun w4 =>
  bw_iconst hZ 0 (by decide) dX12_bringEvent_163 <|
  bw_istore hZ (by decide) rfl dX12_bringEvent_164 <|
  bw_sub [2, 3, 4, 0] rfl (t_X12_bringEvent_b166_L hZ hE y2 y3 0 w4)) (fun _ =>
  bw_vret hZ hE dX12_bringEvent_153))
def X12_bringEvent_b124 (y2 : Int32) (y3 : Int32) (y4 : Int32) (t0 : Int32) (t1 : Int32) (w : Wd) : Option (Wd) :=
  cl (f_X12_has t1 t0 w) fun r9 w8 =>
  if r9 = 0 then
  (X12_bringEvent_b135 y2 y3 y4 0 w8)
  else
  X12_bringEvent_b135 y2 y3 y4 1 w8
set_option maxRecDepth 100000 in
set_option maxHeartbeats 4000000 in
theorem t_X12_bringEvent_b124 {Z : Cz (Wd)} (hZ : OKZ Z SM cX12_bringEvent RX12 7 none 2) (hE : EndV Z)  (y2 : Int32) (y3 : Int32) (y4 : Int32) (t0 : Int32) (t1 : Int32)  (w : Wd) : BW Z 7 124 [(0, .ref (ph (zY Z) 0)), (2, .int y2), (3, .int y3), (4, .int y4)] [.int t0, .int t1, .ref (ph (zY Z) 0)] w (X12_bringEvent_b124 y2 y3 y4 t0 t1 w) :=
  bw_callVI (As := [.int t1, .int t0]) hZ ml_RX12_589 rc_12 obM_0 (by decide) (c_X12_has (zl Z) (zY Z) (hZ_S hZ) t1 t0 w) rfl rfl (Nat.le_of_ble_eq_true rfl) dX12_bringEvent_124 fun r9 w8 =>
  bw_if_eq hZ (tgt := 134) (by decide) dX12_bringEvent_127 (fun _ =>
  bw_iconst hZ 0 (by decide) dX12_bringEvent_134 <|
  bw_sub [0, 1, 2, 3] rfl (t_X12_bringEvent_b135 hZ hE y2 y3 y4 0 w8)) (fun _ =>
  bw_iconst hZ 1 (by decide) dX12_bringEvent_130 <|
  bw_goto hZ (tgt := 135) (by decide) dX12_bringEvent_131 <|
  bw_sub [0, 1, 2, 3] rfl (t_X12_bringEvent_b135 hZ hE y2 y3 y4 1 w8))
def f_X12_bringEvent (x1 : Int32) (x2 : Int32) (w : Wd) : Option (Wd) :=
  if inb x1 3 = true then
  (lt (w.1 39 (Int32.toNatClampNeg x1)) fun v1 =>
  lt ((w.1 0 49) + x1) fun v2 =>
  if inb x1 3 = true then
  (lt (w.1 38 (Int32.toNatClampNeg x1)) fun v3 =>
  if v3 = 0 then
  (cl (f_X12_has x2 4 w) fun r14 w13 =>
  if r14 = 0 then
  (some w13)
  else
  cv (f_X12_undo (w13.1 0 82) v2 w13) fun w15 =>
  some w15)
  else
  if v3 = 1 then
  (cl (f_X12_has x2 5 w) fun r11 w10 =>
  if r11 = 0 then
  (some w10)
  else
  lt (wI w10 0 84 ((w10.1 0 84) ||| (w10.1 0 82))) fun w12 =>
  some w12)
  else
  if inb x1 3 = true then
  (if (w.1 38 (Int32.toNatClampNeg x1)) = 2 then
  (X12_bringEvent_b135 x2 v1 v2 1 w)
  else
  if inb x1 3 = true then
  (if (w.1 38 (Int32.toNatClampNeg x1)) = 3 then
  (X12_bringEvent_b124 x2 v1 v2 6 x2 w)
  else
  X12_bringEvent_b124 x2 v1 v2 8 x2 w)
  else none)
  else none)
  else none)
  else none
set_option maxRecDepth 100000 in
set_option maxHeartbeats 4000000 in
theorem t_X12_bringEvent {Z : Cz (Wd)} (hZ : OKZ Z SM cX12_bringEvent RX12 7 none 2) (hE : EndV Z) (x1 : Int32) (x2 : Int32)  (w : Wd) : BW Z 7 0 [(0, .ref (ph (zY Z) 0)), (1, .int x1), (2, .int x2)] [] w (f_X12_bringEvent x1 x2 w) :=
  bw_aload_n hZ 0 rfl dX12_bringEvent_0 <|
  bw_getR hZ fl_RX12_327 obM_0 rfl dX12_bringEvent_1 <|
  bw_iload_n hZ 1 rfl dX12_bringEvent_4 <|
  bw_iald hZ (arM_39 _) dX12_bringEvent_5 <|
  bw_nm fun v1 =>
  bw_istore_n hZ rfl (by decide) rfl dX12_bringEvent_6 <|
  bw_aload_n hZ 1 rfl dX12_bringEvent_7 <|
  bw_getI hZ fl_RX12_431 (by decide) obM_0 dX12_bringEvent_8 <|
  bw_iload_n hZ 2 rfl dX12_bringEvent_11 <|
  bw_iadd hZ dX12_bringEvent_12 <|
  bw_nm fun v2 =>
  bw_istore hZ (by decide) rfl dX12_bringEvent_13 <|
  bw_aload_n hZ 2 rfl dX12_bringEvent_15 <|
  bw_getR hZ fl_RX12_324 obM_0 rfl dX12_bringEvent_16 <|
  bw_iload_n hZ 3 rfl dX12_bringEvent_19 <|
  bw_iald hZ (arM_38 _) dX12_bringEvent_20 <|
  bw_nm fun v3 =>
  bw_if (fun h => bw_look hZ (tgt := 48) (off := 27) (by decide) (by rw [h]; decide) (by decide) dX12_bringEvent_21 <|
  bw_aload_n hZ 2 rfl dX12_bringEvent_48 <|
  bw_iload_n hZ 4 rfl dX12_bringEvent_49 <|
  bw_iconst hZ 4 (by decide) dX12_bringEvent_50 <|
  bw_callVI (As := [.int x2, .int 4]) hZ ml_RX12_589 rc_12 obM_0 (by decide) (c_X12_has (zl Z) (zY Z) (hZ_S hZ) x2 4 w) rfl rfl (Nat.le_of_ble_eq_true rfl) dX12_bringEvent_51 fun r14 w13 =>
  bw_if_eq hZ (tgt := 220) (by decide) dX12_bringEvent_54 (fun _ =>
  bw_vret hZ hE dX12_bringEvent_220) (fun _ =>
  bw_aload_n hZ 2 rfl dX12_bringEvent_57 <|
  bw_aload_n hZ 2 rfl dX12_bringEvent_58 <|
  bw_getI hZ fl_RX12_601 (by decide) obM_0 dX12_bringEvent_59 <|
  bw_iload hZ 0 rfl dX12_bringEvent_62 <|
  bw_callVV (As := [.int (w13.1 0 82), .int v2]) hZ ml_RX12_607 rc_12 obM_0 (by decide) (c_X12_undo (zl Z) (zY Z) (hZ_S hZ) (w13.1 0 82) v2 w13) rfl rfl (Nat.le_of_ble_eq_true rfl) dX12_bringEvent_64 fun w15 =>
  bw_goto hZ (tgt := 220) (by decide) dX12_bringEvent_67 <|
  bw_vret hZ hE dX12_bringEvent_220)) (fun h0 =>
  bw_if (fun h => bw_look hZ (tgt := 70) (off := 49) (by decide) (by rw [h]; decide) (by decide) dX12_bringEvent_21 <|
  bw_aload_n hZ 2 rfl dX12_bringEvent_70 <|
  bw_iload_n hZ 4 rfl dX12_bringEvent_71 <|
  bw_iconst hZ 5 (by decide) dX12_bringEvent_72 <|
  bw_callVI (As := [.int x2, .int 5]) hZ ml_RX12_589 rc_12 obM_0 (by decide) (c_X12_has (zl Z) (zY Z) (hZ_S hZ) x2 5 w) rfl rfl (Nat.le_of_ble_eq_true rfl) dX12_bringEvent_73 fun r11 w10 =>
  bw_if_eq hZ (tgt := 220) (by decide) dX12_bringEvent_76 (fun _ =>
  bw_vret hZ hE dX12_bringEvent_220) (fun _ =>
  bw_aload_n hZ 2 rfl dX12_bringEvent_79 <|
  bw_dup hZ rfl dX12_bringEvent_80 <|
  bw_getI hZ fl_RX12_613 (by decide) obM_0 dX12_bringEvent_81 <|
  bw_aload_n hZ 2 rfl dX12_bringEvent_84 <|
  bw_getI hZ fl_RX12_601 (by decide) obM_0 dX12_bringEvent_85 <|
  bw_ior hZ dX12_bringEvent_88 <|
  bw_putI hZ fl_RX12_613 rfl rfl (by decide) obM_0 dX12_bringEvent_89 fun w12 =>
  bw_goto hZ (tgt := 220) (by decide) dX12_bringEvent_92 <|
  bw_vret hZ hE dX12_bringEvent_220)) (fun h1 =>
  bw_look hZ (tgt := 95) (off := 74) (by decide) (by have q0 := ne_int h0 (n := 0) (by decide); have q1 := ne_int h1 (n := 1) (by decide); simp [Op.lookupswitch.offset, q0, Ne.symm q0, q1, Ne.symm q1]) (by decide) dX12_bringEvent_21 <|
  bw_aload_n hZ 2 rfl dX12_bringEvent_95 <|
  bw_getR hZ fl_RX12_324 obM_0 rfl dX12_bringEvent_96 <|
  bw_iload_n hZ 3 rfl dX12_bringEvent_99 <|
  bw_iald hZ (arM_38 _) dX12_bringEvent_100 <|
  bw_iconst hZ 2 (by decide) dX12_bringEvent_101 <|
  bw_icmp_eq hZ (tgt := 130) (by decide) dX12_bringEvent_102 (fun _ =>
  bw_iconst hZ 1 (by decide) dX12_bringEvent_130 <|
  bw_goto hZ (tgt := 135) (by decide) dX12_bringEvent_131 <|
  bw_sub [2, 4, 1, 0] rfl (t_X12_bringEvent_b135 hZ hE x2 v1 v2 1 w)) (fun _ =>
  bw_aload_n hZ 2 rfl dX12_bringEvent_105 <|
  bw_iload_n hZ 4 rfl dX12_bringEvent_106 <|
  bw_aload_n hZ 2 rfl dX12_bringEvent_107 <|
  bw_getR hZ fl_RX12_324 obM_0 rfl dX12_bringEvent_108 <|
  bw_iload_n hZ 3 rfl dX12_bringEvent_111 <|
  bw_iald hZ (arM_38 _) dX12_bringEvent_112 <|
  bw_iconst hZ 3 (by decide) dX12_bringEvent_113 <|
  bw_icmp_ne hZ (tgt := 122) (by decide) dX12_bringEvent_114 (fun _ =>
  bw_bipush hZ 8 (by decide) dX12_bringEvent_122 <|
  bw_sub [2, 4, 1, 0] rfl (t_X12_bringEvent_b124 hZ hE x2 v1 v2 8 x2 w)) (fun _ =>
  bw_bipush hZ 6 (by decide) dX12_bringEvent_117 <|
  bw_goto hZ (tgt := 124) (by decide) dX12_bringEvent_119 <|
  bw_sub [2, 4, 1, 0] rfl (t_X12_bringEvent_b124 hZ hE x2 v1 v2 6 x2 w)))))
theorem c_X12_bringEvent (l : Launch) (Y : Ev) (hY : Y.1 = SM) (x1 : Int32) (x2 : Int32)  (w : Wd) : CV l Y yX12_bringEvent cX12_bringEvent 7 2 [.ref (ph Y 0), .int x1, .int x2] w (f_X12_bringEvent x1 x2 w) := by
  refine CV_of (S := SM) (by decide) (Nat.le_of_ble_eq_true rfl) hY ?_
  intro Z hl hY2 hZ hE
  subst hY2
  exact t_X12_bringEvent hZ hE x1 x2 w
-- WhichWillModel.bringAll
theorem dX12_bringAll_0 : decode cX12_bringAll 0 = .ok (.aload_n 0, 1) := by decide +kernel
theorem dX12_bringAll_1 : decode cX12_bringAll 1 = .ok (.iconst 0, 1) := by decide +kernel
theorem dX12_bringAll_2 : decode cX12_bringAll 2 = .ok (.putfield 601, 3) := by decide +kernel
theorem dX12_bringAll_5 : decode cX12_bringAll 5 = .ok (.aload_n 0, 1) := by decide +kernel
theorem dX12_bringAll_6 : decode cX12_bringAll 6 = .ok (.iconst 0, 1) := by decide +kernel
theorem dX12_bringAll_7 : decode cX12_bringAll 7 = .ok (.putfield 604, 3) := by decide +kernel
theorem dX12_bringAll_10 : decode cX12_bringAll 10 = .ok (.aload_n 0, 1) := by decide +kernel
theorem dX12_bringAll_11 : decode cX12_bringAll 11 = .ok (.iconst 0, 1) := by decide +kernel
theorem dX12_bringAll_12 : decode cX12_bringAll 12 = .ok (.putfield 613, 3) := by decide +kernel
theorem dX12_bringAll_15 : decode cX12_bringAll 15 = .ok (.iconst 0, 1) := by decide +kernel
theorem dX12_bringAll_16 : decode cX12_bringAll 16 = .ok (.istore 4, 2) := by decide +kernel
theorem dX12_bringAll_18 : decode cX12_bringAll 18 = .ok (.iload 4, 2) := by decide +kernel
theorem dX12_bringAll_20 : decode cX12_bringAll 20 = .ok (.aload_n 0, 1) := by decide +kernel
theorem dX12_bringAll_21 : decode cX12_bringAll 21 = .ok (.getfield 431, 3) := by decide +kernel
theorem dX12_bringAll_24 : decode cX12_bringAll 24 = .ok (.if_icmp .ge 17, 3) := by decide +kernel
theorem dX12_bringAll_27 : decode cX12_bringAll 27 = .ok (.aload_n 0, 1) := by decide +kernel
theorem dX12_bringAll_28 : decode cX12_bringAll 28 = .ok (.getfield 348, 3) := by decide +kernel
theorem dX12_bringAll_31 : decode cX12_bringAll 31 = .ok (.iload 4, 2) := by decide +kernel
theorem dX12_bringAll_33 : decode cX12_bringAll 33 = .ok (.iconst (-1), 1) := by decide +kernel
theorem dX12_bringAll_34 : decode cX12_bringAll 34 = .ok (.iastore, 1) := by decide +kernel
theorem dX12_bringAll_35 : decode cX12_bringAll 35 = .ok (.iinc 4 1, 3) := by decide +kernel
theorem dX12_bringAll_38 : decode cX12_bringAll 38 = .ok (.goto (-20), 3) := by decide +kernel
theorem dX12_bringAll_41 : decode cX12_bringAll 41 = .ok (.iconst 0, 1) := by decide +kernel
theorem dX12_bringAll_42 : decode cX12_bringAll 42 = .ok (.istore 4, 2) := by decide +kernel
theorem dX12_bringAll_44 : decode cX12_bringAll 44 = .ok (.iload 4, 2) := by decide +kernel
theorem dX12_bringAll_46 : decode cX12_bringAll 46 = .ok (.aload_n 0, 1) := by decide +kernel
theorem dX12_bringAll_47 : decode cX12_bringAll 47 = .ok (.invokevirtual 552, 3) := by decide +kernel
theorem dX12_bringAll_50 : decode cX12_bringAll 50 = .ok (.if_icmp .ge 90, 3) := by decide +kernel
theorem dX12_bringAll_53 : decode cX12_bringAll 53 = .ok (.aload_n 0, 1) := by decide +kernel
theorem dX12_bringAll_54 : decode cX12_bringAll 54 = .ok (.getfield 339, 3) := by decide +kernel
theorem dX12_bringAll_57 : decode cX12_bringAll 57 = .ok (.bipush 6, 2) := by decide +kernel
theorem dX12_bringAll_59 : decode cX12_bringAll 59 = .ok (.iload_n 1, 1) := by decide +kernel
theorem dX12_bringAll_60 : decode cX12_bringAll 60 = .ok (.imul, 1) := by decide +kernel
theorem dX12_bringAll_61 : decode cX12_bringAll 61 = .ok (.iload 4, 2) := by decide +kernel
theorem dX12_bringAll_63 : decode cX12_bringAll 63 = .ok (.iadd, 1) := by decide +kernel
theorem dX12_bringAll_64 : decode cX12_bringAll 64 = .ok (.iaload, 1) := by decide +kernel
theorem dX12_bringAll_65 : decode cX12_bringAll 65 = .ok (.istore 5, 2) := by decide +kernel
theorem dX12_bringAll_67 : decode cX12_bringAll 67 = .ok (.iload 5, 2) := by decide +kernel
theorem dX12_bringAll_69 : decode cX12_bringAll 69 = .ok (.aload_n 0, 1) := by decide +kernel
theorem dX12_bringAll_70 : decode cX12_bringAll 70 = .ok (.getfield 431, 3) := by decide +kernel
theorem dX12_bringAll_73 : decode cX12_bringAll 73 = .ok (.if_icmp .ge 13, 3) := by decide +kernel
theorem dX12_bringAll_76 : decode cX12_bringAll 76 = .ok (.aload_n 0, 1) := by decide +kernel
theorem dX12_bringAll_77 : decode cX12_bringAll 77 = .ok (.iload 5, 2) := by decide +kernel
theorem dX12_bringAll_79 : decode cX12_bringAll 79 = .ok (.iload_n 3, 1) := by decide +kernel
theorem dX12_bringAll_80 : decode cX12_bringAll 80 = .ok (.invokevirtual 616, 3) := by decide +kernel
theorem dX12_bringAll_83 : decode cX12_bringAll 83 = .ok (.goto 51, 3) := by decide +kernel
theorem dX12_bringAll_86 : decode cX12_bringAll 86 = .ok (.aload_n 0, 1) := by decide +kernel
theorem dX12_bringAll_87 : decode cX12_bringAll 87 = .ok (.getfield 336, 3) := by decide +kernel
theorem dX12_bringAll_90 : decode cX12_bringAll 90 = .ok (.iload 5, 2) := by decide +kernel
theorem dX12_bringAll_92 : decode cX12_bringAll 92 = .ok (.aload_n 0, 1) := by decide +kernel
theorem dX12_bringAll_93 : decode cX12_bringAll 93 = .ok (.getfield 431, 3) := by decide +kernel
theorem dX12_bringAll_96 : decode cX12_bringAll 96 = .ok (.isub, 1) := by decide +kernel
theorem dX12_bringAll_97 : decode cX12_bringAll 97 = .ok (.iaload, 1) := by decide +kernel
theorem dX12_bringAll_98 : decode cX12_bringAll 98 = .ok (.iconst (-1), 1) := by decide +kernel
theorem dX12_bringAll_99 : decode cX12_bringAll 99 = .ok (.if_icmp .eq 23, 3) := by decide +kernel
theorem dX12_bringAll_102 : decode cX12_bringAll 102 = .ok (.iload_n 2, 1) := by decide +kernel
theorem dX12_bringAll_103 : decode cX12_bringAll 103 = .ok (.aload_n 0, 1) := by decide +kernel
theorem dX12_bringAll_104 : decode cX12_bringAll 104 = .ok (.getfield 336, 3) := by decide +kernel
theorem dX12_bringAll_107 : decode cX12_bringAll 107 = .ok (.iload 5, 2) := by decide +kernel
theorem dX12_bringAll_109 : decode cX12_bringAll 109 = .ok (.aload_n 0, 1) := by decide +kernel
theorem dX12_bringAll_110 : decode cX12_bringAll 110 = .ok (.getfield 431, 3) := by decide +kernel
theorem dX12_bringAll_113 : decode cX12_bringAll 113 = .ok (.isub, 1) := by decide +kernel
theorem dX12_bringAll_114 : decode cX12_bringAll 114 = .ok (.iaload, 1) := by decide +kernel
theorem dX12_bringAll_115 : decode cX12_bringAll 115 = .ok (.ishr, 1) := by decide +kernel
theorem dX12_bringAll_116 : decode cX12_bringAll 116 = .ok (.iconst 1, 1) := by decide +kernel
theorem dX12_bringAll_117 : decode cX12_bringAll 117 = .ok (.iand, 1) := by decide +kernel
theorem dX12_bringAll_118 : decode cX12_bringAll 118 = .ok (.iconst 1, 1) := by decide +kernel
theorem dX12_bringAll_119 : decode cX12_bringAll 119 = .ok (.if_icmp .ne 15, 3) := by decide +kernel
theorem dX12_bringAll_122 : decode cX12_bringAll 122 = .ok (.aload_n 0, 1) := by decide +kernel
theorem dX12_bringAll_123 : decode cX12_bringAll 123 = .ok (.iload 5, 2) := by decide +kernel
theorem dX12_bringAll_125 : decode cX12_bringAll 125 = .ok (.aload_n 0, 1) := by decide +kernel
theorem dX12_bringAll_126 : decode cX12_bringAll 126 = .ok (.getfield 431, 3) := by decide +kernel
theorem dX12_bringAll_129 : decode cX12_bringAll 129 = .ok (.isub, 1) := by decide +kernel
theorem dX12_bringAll_130 : decode cX12_bringAll 130 = .ok (.iload_n 3, 1) := by decide +kernel
theorem dX12_bringAll_131 : decode cX12_bringAll 131 = .ok (.invokevirtual 619, 3) := by decide +kernel
theorem dX12_bringAll_134 : decode cX12_bringAll 134 = .ok (.iinc 4 1, 3) := by decide +kernel
theorem dX12_bringAll_137 : decode cX12_bringAll 137 = .ok (.goto (-93), 3) := by decide +kernel
theorem dX12_bringAll_140 : decode cX12_bringAll 140 = .ok (.return_, 1) := by decide +kernel
def X12_bringAll_b122 (k44 : Int32 → Int32 → Int32 → Int32 → Wd → Option (Wd)) (y1 : Int32) (y2 : Int32) (y3 : Int32) (y4 : Int32) (y5 : Int32) (w : Wd) : Option (Wd) :=
  cv (f_X12_bringEvent (y5 - (w.1 0 49)) y3 w) fun w7 =>
  k44 y1 y2 y3 (y4 + 1) w7
set_option maxRecDepth 100000 in
set_option maxHeartbeats 4000000 in
theorem t_X12_bringAll_b122 {Z : Cz (Wd)} (hZ : OKZ Z SM cX12_bringAll RX12 6 none 5) (hE : EndV Z) (k44 : Int32 → Int32 → Int32 → Int32 → Wd → Option (Wd)) (hk44 : ∀ (y1 : Int32) (y2 : Int32) (y3 : Int32) (y4 : Int32)  (w : Wd), BW Z 6 44 [(0, .ref (ph (zY Z) 0)), (1, .int y1), (2, .int y2), (3, .int y3), (4, .int y4)] [] w (k44 y1 y2 y3 y4 w)) (y1 : Int32) (y2 : Int32) (y3 : Int32) (y4 : Int32) (y5 : Int32)  (w : Wd) : BW Z 6 122 [(0, .ref (ph (zY Z) 0)), (1, .int y1), (2, .int y2), (3, .int y3), (4, .int y4), (5, .int y5)] [] w (X12_bringAll_b122 k44 y1 y2 y3 y4 y5 w) :=
  bw_aload_n hZ 0 rfl dX12_bringAll_122 <|
  bw_iload hZ 5 rfl dX12_bringAll_123 <|
  bw_aload_n hZ 0 rfl dX12_bringAll_125 <|
  bw_getI hZ fl_RX12_431 (by decide) obM_0 dX12_bringAll_126 <|
  bw_isub hZ dX12_bringAll_129 <|
  bw_iload_n hZ 3 rfl dX12_bringAll_130 <|
  bw_callVV (As := [.int (y5 - (w.1 0 49)), .int y3]) hZ ml_RX12_619 rc_12 obM_0 (by decide) (c_X12_bringEvent (zl Z) (zY Z) (hZ_S hZ) (y5 - (w.1 0 49)) y3 w) rfl rfl (Nat.le_of_ble_eq_true rfl) dX12_bringAll_131 fun w7 =>
  bw_iinc hZ 1 4 rfl (by decide) (by decide) rfl dX12_bringAll_134 <|
  bw_goto hZ (tgt := 44) (by decide) dX12_bringAll_137 <|
  bw_sub [1, 2, 3, 4, 0] rfl (hk44 y1 y2 y3 (y4 + 1) w7)
def X12_bringAll_b44 (k44 : Int32 → Int32 → Int32 → Int32 → Wd → Option (Wd)) (y1 : Int32) (y2 : Int32) (y3 : Int32) (y4 : Int32) (w : Wd) : Option (Wd) :=
  cl (f_X12_items w) fun r5 w4 =>
  if r5 ≤ y4 then
  (some w4)
  else
  if inb ((6 * y1) + y4) 4320 = true then
  (lt (w4.1 43 (Int32.toNatClampNeg ((6 * y1) + y4))) fun v6 =>
  if (w4.1 0 49) ≤ v6 then
  (if inb (v6 - (w4.1 0 49)) 3 = true then
  (if (w4.1 42 (Int32.toNatClampNeg (v6 - (w4.1 0 49)))) = ((-1)) then
  (X12_bringAll_b122 k44 y1 y2 y3 y4 v6 w4)
  else
  if inb (v6 - (w4.1 0 49)) 3 = true then
  (if ((y2 >>> ((w4.1 42 (Int32.toNatClampNeg (v6 - (w4.1 0 49)))) &&& 31)) &&& 1) = 1 then
  (X12_bringAll_b122 k44 y1 y2 y3 y4 v6 w4)
  else
  k44 y1 y2 y3 (y4 + 1) w4)
  else none)
  else none)
  else
  cv (f_X12_bringPaper v6 y3 w4) fun w8 =>
  k44 y1 y2 y3 (y4 + 1) w8)
  else none
set_option maxRecDepth 100000 in
set_option maxHeartbeats 4000000 in
theorem t_X12_bringAll_b44 {Z : Cz (Wd)} (hZ : OKZ Z SM cX12_bringAll RX12 6 none 5) (hE : EndV Z) (k44 : Int32 → Int32 → Int32 → Int32 → Wd → Option (Wd)) (hk44 : ∀ (y1 : Int32) (y2 : Int32) (y3 : Int32) (y4 : Int32)  (w : Wd), BW Z 6 44 [(0, .ref (ph (zY Z) 0)), (1, .int y1), (2, .int y2), (3, .int y3), (4, .int y4)] [] w (k44 y1 y2 y3 y4 w)) (y1 : Int32) (y2 : Int32) (y3 : Int32) (y4 : Int32)  (w : Wd) : BW Z 6 44 [(0, .ref (ph (zY Z) 0)), (1, .int y1), (2, .int y2), (3, .int y3), (4, .int y4)] [] w (X12_bringAll_b44 k44 y1 y2 y3 y4 w) :=
  bw_iload hZ 4 rfl dX12_bringAll_44 <|
  bw_aload_n hZ 0 rfl dX12_bringAll_46 <|
  bw_callVI (As := []) hZ ml_RX12_552 rc_12 obM_0 (by decide) (c_X12_items (zl Z) (zY Z) (hZ_S hZ) w) rfl rfl (Nat.le_of_ble_eq_true rfl) dX12_bringAll_47 fun r5 w4 =>
  bw_icmp_ge hZ (tgt := 140) (by decide) dX12_bringAll_50 (fun _ =>
  bw_vret hZ hE dX12_bringAll_140) (fun _ =>
  bw_aload_n hZ 0 rfl dX12_bringAll_53 <|
  bw_getR hZ fl_RX12_339 obM_0 rfl dX12_bringAll_54 <|
  bw_bipush hZ 6 (by decide) dX12_bringAll_57 <|
  bw_iload_n hZ 1 rfl dX12_bringAll_59 <|
  bw_imul hZ dX12_bringAll_60 <|
  bw_iload hZ 4 rfl dX12_bringAll_61 <|
  bw_iadd hZ dX12_bringAll_63 <|
  bw_iald hZ (arM_43 _) dX12_bringAll_64 <|
  bw_nm fun v6 =>
  bw_istore hZ (by decide) rfl dX12_bringAll_65 <|
  bw_iload hZ 0 rfl dX12_bringAll_67 <|
  bw_aload_n hZ 1 rfl dX12_bringAll_69 <|
  bw_getI hZ fl_RX12_431 (by decide) obM_0 dX12_bringAll_70 <|
  bw_icmp_ge hZ (tgt := 86) (by decide) dX12_bringAll_73 (fun _ =>
  bw_aload_n hZ 1 rfl dX12_bringAll_86 <|
  bw_getR hZ fl_RX12_336 obM_0 rfl dX12_bringAll_87 <|
  bw_iload hZ 0 rfl dX12_bringAll_90 <|
  bw_aload_n hZ 1 rfl dX12_bringAll_92 <|
  bw_getI hZ fl_RX12_431 (by decide) obM_0 dX12_bringAll_93 <|
  bw_isub hZ dX12_bringAll_96 <|
  bw_iald hZ (arM_42 _) dX12_bringAll_97 <|
  bw_iconst hZ (-1) (by decide) dX12_bringAll_98 <|
  bw_icmp_eq hZ (tgt := 122) (by decide) dX12_bringAll_99 (fun _ =>
  bw_sub [1, 2, 3, 4, 5, 0] rfl (t_X12_bringAll_b122 hZ hE k44 hk44 y1 y2 y3 y4 v6 w4)) (fun _ =>
  bw_iload_n hZ 3 rfl dX12_bringAll_102 <|
  bw_aload_n hZ 1 rfl dX12_bringAll_103 <|
  bw_getR hZ fl_RX12_336 obM_0 rfl dX12_bringAll_104 <|
  bw_iload hZ 0 rfl dX12_bringAll_107 <|
  bw_aload_n hZ 1 rfl dX12_bringAll_109 <|
  bw_getI hZ fl_RX12_431 (by decide) obM_0 dX12_bringAll_110 <|
  bw_isub hZ dX12_bringAll_113 <|
  bw_iald hZ (arM_42 _) dX12_bringAll_114 <|
  bw_ishr hZ dX12_bringAll_115 <|
  bw_iconst hZ 1 (by decide) dX12_bringAll_116 <|
  bw_iand hZ dX12_bringAll_117 <|
  bw_iconst hZ 1 (by decide) dX12_bringAll_118 <|
  bw_icmp_ne hZ (tgt := 134) (by decide) dX12_bringAll_119 (fun _ =>
  bw_iinc hZ 1 5 rfl (by decide) (by decide) rfl dX12_bringAll_134 <|
  bw_goto hZ (tgt := 44) (by decide) dX12_bringAll_137 <|
  bw_sub [2, 3, 4, 5, 0] rfl (hk44 y1 y2 y3 (y4 + 1) w4)) (fun _ =>
  bw_sub [1, 2, 3, 4, 5, 0] rfl (t_X12_bringAll_b122 hZ hE k44 hk44 y1 y2 y3 y4 v6 w4)))) (fun _ =>
  bw_aload_n hZ 1 rfl dX12_bringAll_76 <|
  bw_iload hZ 0 rfl dX12_bringAll_77 <|
  bw_iload_n hZ 4 rfl dX12_bringAll_79 <|
  bw_callVV (As := [.int v6, .int y3]) hZ ml_RX12_616 rc_12 obM_0 (by decide) (c_X12_bringPaper (zl Z) (zY Z) (hZ_S hZ) v6 y3 w4) rfl rfl (Nat.le_of_ble_eq_true rfl) dX12_bringAll_80 fun w8 =>
  bw_goto hZ (tgt := 134) (by decide) dX12_bringAll_83 <|
  bw_iinc hZ 1 5 rfl (by decide) (by decide) rfl dX12_bringAll_134 <|
  bw_goto hZ (tgt := 44) (by decide) dX12_bringAll_137 <|
  bw_sub [2, 3, 4, 5, 0] rfl (hk44 y1 y2 y3 (y4 + 1) w8)))
def X12_bringAll_b44_L  : Int32 → Int32 → Int32 → Int32 → Wd → Option (Wd) :=
  lp fu (fun _ _ _ _ _ => none) (fun k44 => X12_bringAll_b44 k44)
theorem t_X12_bringAll_b44_L {Z : Cz (Wd)} (hZ : OKZ Z SM cX12_bringAll RX12 6 none 5) (hE : EndV Z)  : ∀ (y1 : Int32) (y2 : Int32) (y3 : Int32) (y4 : Int32)  (w : Wd), BW Z 6 44 [(0, .ref (ph (zY Z) 0)), (1, .int y1), (2, .int y2), (3, .int y3), (4, .int y4)] [] w (X12_bringAll_b44_L y1 y2 y3 y4 w) :=
  lp_bw (fun k44 => ∀ (y1 : Int32) (y2 : Int32) (y3 : Int32) (y4 : Int32)  (w : Wd), BW Z 6 44 [(0, .ref (ph (zY Z) 0)), (1, .int y1), (2, .int y2), (3, .int y3), (4, .int y4)] [] w (k44 y1 y2 y3 y4 w)) (fun _ _ _ _ _ => bw_none) (fun k44 hk44 y1 y2 y3 y4 w => t_X12_bringAll_b44 hZ hE k44 hk44 y1 y2 y3 y4 w) fu
def X12_bringAll_b18 (k18 : Int32 → Int32 → Int32 → Int32 → Wd → Option (Wd)) (y1 : Int32) (y2 : Int32) (y3 : Int32) (y4 : Int32) (w : Wd) : Option (Wd) :=
  if (w.1 0 49) ≤ y4 then
  (X12_bringAll_b44_L y1 y2 y3 0 w)
  else
  if inb y4 4 = true then
  (lt (wI w 45 (Int32.toNatClampNeg y4) ((-1))) fun w9 =>
  k18 y1 y2 y3 (y4 + 1) w9)
  else none
set_option maxRecDepth 100000 in
set_option maxHeartbeats 4000000 in
theorem t_X12_bringAll_b18 {Z : Cz (Wd)} (hZ : OKZ Z SM cX12_bringAll RX12 6 none 5) (hE : EndV Z) (k18 : Int32 → Int32 → Int32 → Int32 → Wd → Option (Wd)) (hk18 : ∀ (y1 : Int32) (y2 : Int32) (y3 : Int32) (y4 : Int32)  (w : Wd), BW Z 6 18 [(0, .ref (ph (zY Z) 0)), (1, .int y1), (2, .int y2), (3, .int y3), (4, .int y4)] [] w (k18 y1 y2 y3 y4 w)) (y1 : Int32) (y2 : Int32) (y3 : Int32) (y4 : Int32)  (w : Wd) : BW Z 6 18 [(0, .ref (ph (zY Z) 0)), (1, .int y1), (2, .int y2), (3, .int y3), (4, .int y4)] [] w (X12_bringAll_b18 k18 y1 y2 y3 y4 w) :=
  bw_iload hZ 4 rfl dX12_bringAll_18 <|
  bw_aload_n hZ 0 rfl dX12_bringAll_20 <|
  bw_getI hZ fl_RX12_431 (by decide) obM_0 dX12_bringAll_21 <|
  bw_icmp_ge hZ (tgt := 41) (by decide) dX12_bringAll_24 (fun _ =>
  bw_iconst hZ 0 (by decide) dX12_bringAll_41 <|
  bw_istore hZ (by decide) rfl dX12_bringAll_42 <|
  bw_sub [1, 2, 3, 4, 0] rfl (t_X12_bringAll_b44_L hZ hE y1 y2 y3 0 w)) (fun _ =>
  bw_aload_n hZ 0 rfl dX12_bringAll_27 <|
  bw_getR hZ fl_RX12_348 obM_0 rfl dX12_bringAll_28 <|
  bw_iload hZ 4 rfl dX12_bringAll_31 <|
  bw_iconst hZ (-1) (by decide) dX12_bringAll_33 <|
  bw_iast hZ (arM_45 _) dX12_bringAll_34 fun w9 =>
  bw_iinc hZ 1 4 rfl (by decide) (by decide) rfl dX12_bringAll_35 <|
  bw_goto hZ (tgt := 18) (by decide) dX12_bringAll_38 <|
  bw_sub [1, 2, 3, 4, 0] rfl (hk18 y1 y2 y3 (y4 + 1) w9))
def X12_bringAll_b18_L  : Int32 → Int32 → Int32 → Int32 → Wd → Option (Wd) :=
  lp fu (fun _ _ _ _ _ => none) (fun k18 => X12_bringAll_b18 k18)
theorem t_X12_bringAll_b18_L {Z : Cz (Wd)} (hZ : OKZ Z SM cX12_bringAll RX12 6 none 5) (hE : EndV Z)  : ∀ (y1 : Int32) (y2 : Int32) (y3 : Int32) (y4 : Int32)  (w : Wd), BW Z 6 18 [(0, .ref (ph (zY Z) 0)), (1, .int y1), (2, .int y2), (3, .int y3), (4, .int y4)] [] w (X12_bringAll_b18_L y1 y2 y3 y4 w) :=
  lp_bw (fun k18 => ∀ (y1 : Int32) (y2 : Int32) (y3 : Int32) (y4 : Int32)  (w : Wd), BW Z 6 18 [(0, .ref (ph (zY Z) 0)), (1, .int y1), (2, .int y2), (3, .int y3), (4, .int y4)] [] w (k18 y1 y2 y3 y4 w)) (fun _ _ _ _ _ => bw_none) (fun k18 hk18 y1 y2 y3 y4 w => t_X12_bringAll_b18 hZ hE k18 hk18 y1 y2 y3 y4 w) fu
def f_X12_bringAll (x1 : Int32) (x2 : Int32) (x3 : Int32) (w : Wd) : Option (Wd) :=
  lt (wI w 0 82 0) fun w1 =>
  lt (wI w1 0 83 0) fun w2 =>
  lt (wI w2 0 84 0) fun w3 =>
  X12_bringAll_b18_L x1 x2 x3 0 w3
set_option maxRecDepth 100000 in
set_option maxHeartbeats 4000000 in
theorem t_X12_bringAll {Z : Cz (Wd)} (hZ : OKZ Z SM cX12_bringAll RX12 6 none 5) (hE : EndV Z) (x1 : Int32) (x2 : Int32) (x3 : Int32)  (w : Wd) : BW Z 6 0 [(0, .ref (ph (zY Z) 0)), (1, .int x1), (2, .int x2), (3, .int x3)] [] w (f_X12_bringAll x1 x2 x3 w) :=
  bw_aload_n hZ 0 rfl dX12_bringAll_0 <|
  bw_iconst hZ 0 (by decide) dX12_bringAll_1 <|
  bw_putI hZ fl_RX12_601 rfl rfl (by decide) obM_0 dX12_bringAll_2 fun w1 =>
  bw_aload_n hZ 0 rfl dX12_bringAll_5 <|
  bw_iconst hZ 0 (by decide) dX12_bringAll_6 <|
  bw_putI hZ fl_RX12_604 rfl rfl (by decide) obM_0 dX12_bringAll_7 fun w2 =>
  bw_aload_n hZ 0 rfl dX12_bringAll_10 <|
  bw_iconst hZ 0 (by decide) dX12_bringAll_11 <|
  bw_putI hZ fl_RX12_613 rfl rfl (by decide) obM_0 dX12_bringAll_12 fun w3 =>
  bw_iconst hZ 0 (by decide) dX12_bringAll_15 <|
  bw_istore hZ (by decide) rfl dX12_bringAll_16 <|
  bw_sub [1, 2, 3, 4, 0] rfl (t_X12_bringAll_b18_L hZ hE x1 x2 x3 0 w3)
theorem c_X12_bringAll (l : Launch) (Y : Ev) (hY : Y.1 = SM) (x1 : Int32) (x2 : Int32) (x3 : Int32)  (w : Wd) : CV l Y yX12_bringAll cX12_bringAll 6 5 [.ref (ph Y 0), .int x1, .int x2, .int x3] w (f_X12_bringAll x1 x2 x3 w) := by
  refine CV_of (S := SM) (by decide) (Nat.le_of_ble_eq_true rfl) hY ?_
  intro Z hl hY2 hZ hE
  subst hY2
  exact t_X12_bringAll hZ hE x1 x2 x3 w
-- WhichWillModel.counting
theorem dX12_counting_0 : decode cX12_counting 0 = .ok (.iconst 0, 1) := by decide +kernel
theorem dX12_counting_1 : decode cX12_counting 1 = .ok (.istore_n 1, 1) := by decide +kernel
theorem dX12_counting_2 : decode cX12_counting 2 = .ok (.iconst 0, 1) := by decide +kernel
theorem dX12_counting_3 : decode cX12_counting 3 = .ok (.istore_n 2, 1) := by decide +kernel
theorem dX12_counting_4 : decode cX12_counting 4 = .ok (.iload_n 2, 1) := by decide +kernel
theorem dX12_counting_5 : decode cX12_counting 5 = .ok (.aload_n 0, 1) := by decide +kernel
theorem dX12_counting_6 : decode cX12_counting 6 = .ok (.getfield 431, 3) := by decide +kernel
theorem dX12_counting_9 : decode cX12_counting 9 = .ok (.if_icmp .ge 51, 3) := by decide +kernel
theorem dX12_counting_12 : decode cX12_counting 12 = .ok (.aload_n 0, 1) := by decide +kernel
theorem dX12_counting_13 : decode cX12_counting 13 = .ok (.getfield 601, 3) := by decide +kernel
theorem dX12_counting_16 : decode cX12_counting 16 = .ok (.iload_n 2, 1) := by decide +kernel
theorem dX12_counting_17 : decode cX12_counting 17 = .ok (.ishr, 1) := by decide +kernel
theorem dX12_counting_18 : decode cX12_counting 18 = .ok (.iconst 1, 1) := by decide +kernel
theorem dX12_counting_19 : decode cX12_counting 19 = .ok (.iand, 1) := by decide +kernel
theorem dX12_counting_20 : decode cX12_counting 20 = .ok (.iconst 1, 1) := by decide +kernel
theorem dX12_counting_21 : decode cX12_counting 21 = .ok (.if_icmp .ne 33, 3) := by decide +kernel
theorem dX12_counting_24 : decode cX12_counting 24 = .ok (.aload_n 0, 1) := by decide +kernel
theorem dX12_counting_25 : decode cX12_counting 25 = .ok (.getfield 291, 3) := by decide +kernel
theorem dX12_counting_28 : decode cX12_counting 28 = .ok (.iload_n 2, 1) := by decide +kernel
theorem dX12_counting_29 : decode cX12_counting 29 = .ok (.iaload, 1) := by decide +kernel
theorem dX12_counting_30 : decode cX12_counting 30 = .ok (.iconst (-1), 1) := by decide +kernel
theorem dX12_counting_31 : decode cX12_counting 31 = .ok (.if_icmp .eq 17, 3) := by decide +kernel
theorem dX12_counting_34 : decode cX12_counting 34 = .ok (.iload_n 1, 1) := by decide +kernel
theorem dX12_counting_35 : decode cX12_counting 35 = .ok (.aload_n 0, 1) := by decide +kernel
theorem dX12_counting_36 : decode cX12_counting 36 = .ok (.getfield 291, 3) := by decide +kernel
theorem dX12_counting_39 : decode cX12_counting 39 = .ok (.iload_n 2, 1) := by decide +kernel
theorem dX12_counting_40 : decode cX12_counting 40 = .ok (.iaload, 1) := by decide +kernel
theorem dX12_counting_41 : decode cX12_counting 41 = .ok (.ishr, 1) := by decide +kernel
theorem dX12_counting_42 : decode cX12_counting 42 = .ok (.iconst 1, 1) := by decide +kernel
theorem dX12_counting_43 : decode cX12_counting 43 = .ok (.iand, 1) := by decide +kernel
theorem dX12_counting_44 : decode cX12_counting 44 = .ok (.iconst 1, 1) := by decide +kernel
theorem dX12_counting_45 : decode cX12_counting 45 = .ok (.if_icmp .ne 9, 3) := by decide +kernel
theorem dX12_counting_48 : decode cX12_counting 48 = .ok (.iload_n 1, 1) := by decide +kernel
theorem dX12_counting_49 : decode cX12_counting 49 = .ok (.iconst 1, 1) := by decide +kernel
theorem dX12_counting_50 : decode cX12_counting 50 = .ok (.iload_n 2, 1) := by decide +kernel
theorem dX12_counting_51 : decode cX12_counting 51 = .ok (.ishl, 1) := by decide +kernel
theorem dX12_counting_52 : decode cX12_counting 52 = .ok (.ior, 1) := by decide +kernel
theorem dX12_counting_53 : decode cX12_counting 53 = .ok (.istore_n 1, 1) := by decide +kernel
theorem dX12_counting_54 : decode cX12_counting 54 = .ok (.iinc 2 1, 3) := by decide +kernel
theorem dX12_counting_57 : decode cX12_counting 57 = .ok (.goto (-53), 3) := by decide +kernel
theorem dX12_counting_60 : decode cX12_counting 60 = .ok (.iload_n 1, 1) := by decide +kernel
theorem dX12_counting_61 : decode cX12_counting 61 = .ok (.ireturn, 1) := by decide +kernel
def X12_counting_b48 (k4 : Int32 → Int32 → Wd → Option (Int32 × Wd)) (y1 : Int32) (y2 : Int32) (w : Wd) : Option (Int32 × Wd) :=
  lt (y1 ||| (1 <<< (y2 &&& 31))) fun v1 =>
  k4 v1 (y2 + 1) w
set_option maxRecDepth 100000 in
set_option maxHeartbeats 4000000 in
theorem t_X12_counting_b48 {Z : Cz (Int32 × Wd)} (hZ : OKZ Z SM cX12_counting RX12 3 (some .int) 1) (hE : EndI Z) (k4 : Int32 → Int32 → Wd → Option (Int32 × Wd)) (hk4 : ∀ (y1 : Int32) (y2 : Int32)  (w : Wd), BW Z 3 4 [(0, .ref (ph (zY Z) 0)), (1, .int y1), (2, .int y2)] [] w (k4 y1 y2 w)) (y1 : Int32) (y2 : Int32)  (w : Wd) : BW Z 3 48 [(0, .ref (ph (zY Z) 0)), (1, .int y1), (2, .int y2)] [] w (X12_counting_b48 k4 y1 y2 w) :=
  bw_iload_n hZ 1 rfl dX12_counting_48 <|
  bw_iconst hZ 1 (by decide) dX12_counting_49 <|
  bw_iload_n hZ 2 rfl dX12_counting_50 <|
  bw_ishl hZ dX12_counting_51 <|
  bw_ior hZ dX12_counting_52 <|
  bw_nm fun v1 =>
  bw_istore_n hZ rfl (by decide) rfl dX12_counting_53 <|
  bw_iinc hZ 1 2 rfl (by decide) (by decide) rfl dX12_counting_54 <|
  bw_goto hZ (tgt := 4) (by decide) dX12_counting_57 <|
  bw_sub [2, 1, 0] rfl (hk4 v1 (y2 + 1) w)
def X12_counting_b4 (k4 : Int32 → Int32 → Wd → Option (Int32 × Wd)) (y1 : Int32) (y2 : Int32) (w : Wd) : Option (Int32 × Wd) :=
  if (w.1 0 49) ≤ y2 then
  (some (y1, w))
  else
  if (((w.1 0 82) >>> (y2 &&& 31)) &&& 1) = 1 then
  (if inb y2 4 = true then
  (if (w.1 27 (Int32.toNatClampNeg y2)) = ((-1)) then
  (X12_counting_b48 k4 y1 y2 w)
  else
  if inb y2 4 = true then
  (if ((y1 >>> ((w.1 27 (Int32.toNatClampNeg y2)) &&& 31)) &&& 1) = 1 then
  (X12_counting_b48 k4 y1 y2 w)
  else
  k4 y1 (y2 + 1) w)
  else none)
  else none)
  else
  k4 y1 (y2 + 1) w
set_option maxRecDepth 100000 in
set_option maxHeartbeats 4000000 in
theorem t_X12_counting_b4 {Z : Cz (Int32 × Wd)} (hZ : OKZ Z SM cX12_counting RX12 3 (some .int) 1) (hE : EndI Z) (k4 : Int32 → Int32 → Wd → Option (Int32 × Wd)) (hk4 : ∀ (y1 : Int32) (y2 : Int32)  (w : Wd), BW Z 3 4 [(0, .ref (ph (zY Z) 0)), (1, .int y1), (2, .int y2)] [] w (k4 y1 y2 w)) (y1 : Int32) (y2 : Int32)  (w : Wd) : BW Z 3 4 [(0, .ref (ph (zY Z) 0)), (1, .int y1), (2, .int y2)] [] w (X12_counting_b4 k4 y1 y2 w) :=
  bw_iload_n hZ 2 rfl dX12_counting_4 <|
  bw_aload_n hZ 0 rfl dX12_counting_5 <|
  bw_getI hZ fl_RX12_431 (by decide) obM_0 dX12_counting_6 <|
  bw_icmp_ge hZ (tgt := 60) (by decide) dX12_counting_9 (fun _ =>
  bw_iload_n hZ 1 rfl dX12_counting_60 <|
  bw_iret hZ hE dX12_counting_61) (fun _ =>
  bw_aload_n hZ 0 rfl dX12_counting_12 <|
  bw_getI hZ fl_RX12_601 (by decide) obM_0 dX12_counting_13 <|
  bw_iload_n hZ 2 rfl dX12_counting_16 <|
  bw_ishr hZ dX12_counting_17 <|
  bw_iconst hZ 1 (by decide) dX12_counting_18 <|
  bw_iand hZ dX12_counting_19 <|
  bw_iconst hZ 1 (by decide) dX12_counting_20 <|
  bw_icmp_ne hZ (tgt := 54) (by decide) dX12_counting_21 (fun _ =>
  bw_iinc hZ 1 2 rfl (by decide) (by decide) rfl dX12_counting_54 <|
  bw_goto hZ (tgt := 4) (by decide) dX12_counting_57 <|
  bw_sub [1, 2, 0] rfl (hk4 y1 (y2 + 1) w)) (fun _ =>
  bw_aload_n hZ 0 rfl dX12_counting_24 <|
  bw_getR hZ fl_RX12_291 obM_0 rfl dX12_counting_25 <|
  bw_iload_n hZ 2 rfl dX12_counting_28 <|
  bw_iald hZ (arM_27 _) dX12_counting_29 <|
  bw_iconst hZ (-1) (by decide) dX12_counting_30 <|
  bw_icmp_eq hZ (tgt := 48) (by decide) dX12_counting_31 (fun _ =>
  bw_sub [0, 1, 2] rfl (t_X12_counting_b48 hZ hE k4 hk4 y1 y2 w)) (fun _ =>
  bw_iload_n hZ 1 rfl dX12_counting_34 <|
  bw_aload_n hZ 0 rfl dX12_counting_35 <|
  bw_getR hZ fl_RX12_291 obM_0 rfl dX12_counting_36 <|
  bw_iload_n hZ 2 rfl dX12_counting_39 <|
  bw_iald hZ (arM_27 _) dX12_counting_40 <|
  bw_ishr hZ dX12_counting_41 <|
  bw_iconst hZ 1 (by decide) dX12_counting_42 <|
  bw_iand hZ dX12_counting_43 <|
  bw_iconst hZ 1 (by decide) dX12_counting_44 <|
  bw_icmp_ne hZ (tgt := 54) (by decide) dX12_counting_45 (fun _ =>
  bw_iinc hZ 1 2 rfl (by decide) (by decide) rfl dX12_counting_54 <|
  bw_goto hZ (tgt := 4) (by decide) dX12_counting_57 <|
  bw_sub [1, 2, 0] rfl (hk4 y1 (y2 + 1) w)) (fun _ =>
  bw_sub [0, 1, 2] rfl (t_X12_counting_b48 hZ hE k4 hk4 y1 y2 w)))))
def X12_counting_b4_L  : Int32 → Int32 → Wd → Option (Int32 × Wd) :=
  lp fu (fun _ _ _ => none) (fun k4 => X12_counting_b4 k4)
theorem t_X12_counting_b4_L {Z : Cz (Int32 × Wd)} (hZ : OKZ Z SM cX12_counting RX12 3 (some .int) 1) (hE : EndI Z)  : ∀ (y1 : Int32) (y2 : Int32)  (w : Wd), BW Z 3 4 [(0, .ref (ph (zY Z) 0)), (1, .int y1), (2, .int y2)] [] w (X12_counting_b4_L y1 y2 w) :=
  lp_bw (fun k4 => ∀ (y1 : Int32) (y2 : Int32)  (w : Wd), BW Z 3 4 [(0, .ref (ph (zY Z) 0)), (1, .int y1), (2, .int y2)] [] w (k4 y1 y2 w)) (fun _ _ _ => bw_none) (fun k4 hk4 y1 y2 w => t_X12_counting_b4 hZ hE k4 hk4 y1 y2 w) fu
def f_X12_counting (w : Wd) : Option (Int32 × Wd) :=
  X12_counting_b4_L 0 0 w
set_option maxRecDepth 100000 in
set_option maxHeartbeats 4000000 in
theorem t_X12_counting {Z : Cz (Int32 × Wd)} (hZ : OKZ Z SM cX12_counting RX12 3 (some .int) 1) (hE : EndI Z)   (w : Wd) : BW Z 3 0 [(0, .ref (ph (zY Z) 0))] [] w (f_X12_counting w) :=
  bw_iconst hZ 0 (by decide) dX12_counting_0 <|
  bw_istore_n hZ rfl (by decide) rfl dX12_counting_1 <|
  bw_iconst hZ 0 (by decide) dX12_counting_2 <|
  bw_istore_n hZ rfl (by decide) rfl dX12_counting_3 <|
  bw_sub [2, 1, 0] rfl (t_X12_counting_b4_L hZ hE 0 0 w)
theorem c_X12_counting (l : Launch) (Y : Ev) (hY : Y.1 = SM)   (w : Wd) : CI l Y yX12_counting cX12_counting 3 1 [.ref (ph Y 0)] w .int (f_X12_counting w) := by
  refine CI_of (S := SM) (by decide) (Nat.le_of_ble_eq_true rfl) hY ?_
  intro Z hl hY2 hZ hE
  subst hY2
  exact t_X12_counting hZ hE w
-- WhichWillModel.allWays
theorem dX12_allWays_0 : decode cX12_allWays 0 = .ok (.aload_n 0, 1) := by decide +kernel
theorem dX12_allWays_1 : decode cX12_allWays 1 = .ok (.getfield 409, 3) := by decide +kernel
theorem dX12_allWays_4 : decode cX12_allWays 4 = .ok (.ifCond .ne 7, 3) := by decide +kernel
theorem dX12_allWays_7 : decode cX12_allWays 7 = .ok (.iconst 0, 1) := by decide +kernel
theorem dX12_allWays_8 : decode cX12_allWays 8 = .ok (.goto 10, 3) := by decide +kernel
theorem dX12_allWays_11 : decode cX12_allWays 11 = .ok (.bipush 8, 2) := by decide +kernel
theorem dX12_allWays_13 : decode cX12_allWays 13 = .ok (.aload_n 0, 1) := by decide +kernel
theorem dX12_allWays_14 : decode cX12_allWays 14 = .ok (.getfield 541, 3) := by decide +kernel
theorem dX12_allWays_17 : decode cX12_allWays 17 = .ok (.imul, 1) := by decide +kernel
theorem dX12_allWays_18 : decode cX12_allWays 18 = .ok (.ireturn, 1) := by decide +kernel
def f_X12_allWays (w : Wd) : Option (Int32 × Wd) :=
  if (w.1 0 10) = 0 then
  (some (0, w))
  else
  some (8 * (w.1 0 75), w)
set_option maxRecDepth 100000 in
set_option maxHeartbeats 4000000 in
theorem t_X12_allWays {Z : Cz (Int32 × Wd)} (hZ : OKZ Z SM cX12_allWays RX12 1 (some .int) 1) (hE : EndI Z)   (w : Wd) : BW Z 1 0 [(0, .ref (ph (zY Z) 0))] [] w (f_X12_allWays w) :=
  bw_aload_n hZ 0 rfl dX12_allWays_0 <|
  bw_getI hZ fl_RX12_409 (by decide) obM_0 dX12_allWays_1 <|
  bw_if_ne hZ (tgt := 11) (by decide) dX12_allWays_4 (fun _ =>
  bw_bipush hZ 8 (by decide) dX12_allWays_11 <|
  bw_aload_n hZ 0 rfl dX12_allWays_13 <|
  bw_getI hZ fl_RX12_541 (by decide) obM_0 dX12_allWays_14 <|
  bw_imul hZ dX12_allWays_17 <|
  bw_iret hZ hE dX12_allWays_18) (fun _ =>
  bw_iconst hZ 0 (by decide) dX12_allWays_7 <|
  bw_goto hZ (tgt := 18) (by decide) dX12_allWays_8 <|
  bw_iret hZ hE dX12_allWays_18)
theorem c_X12_allWays (l : Launch) (Y : Ev) (hY : Y.1 = SM)   (w : Wd) : CI l Y yX12_allWays cX12_allWays 1 1 [.ref (ph Y 0)] w .int (f_X12_allWays w) := by
  refine CI_of (S := SM) (by decide) (Nat.le_of_ble_eq_true rfl) hY ?_
  intro Z hl hY2 hZ hE
  subst hY2
  exact t_X12_allWays hZ hE w
-- WhichWillModel.isWay
theorem dX12_isWay_0 : decode cX12_isWay 0 = .ok (.iload_n 1, 1) := by decide +kernel
theorem dX12_isWay_1 : decode cX12_isWay 1 = .ok (.i2l, 1) := by decide +kernel
theorem dX12_isWay_2 : decode cX12_isWay 2 = .ok (.lconst 0, 1) := by decide +kernel
theorem dX12_isWay_3 : decode cX12_isWay 3 = .ok (.aload_n 0, 1) := by decide +kernel
theorem dX12_isWay_4 : decode cX12_isWay 4 = .ok (.invokevirtual 622, 3) := by decide +kernel
theorem dX12_isWay_7 : decode cX12_isWay 7 = .ok (.i2l, 1) := by decide +kernel
theorem dX12_isWay_8 : decode cX12_isWay 8 = .ok (.lconst 1, 1) := by decide +kernel
theorem dX12_isWay_9 : decode cX12_isWay 9 = .ok (.lsub, 1) := by decide +kernel
theorem dX12_isWay_10 : decode cX12_isWay 10 = .ok (.invokestatic 60, 3) := by decide +kernel
theorem dX12_isWay_13 : decode cX12_isWay 13 = .ok (.ireturn, 1) := by decide +kernel
def f_X12_isWay (x1 : Int32) (w : Wd) : Option (Int32 × Wd) :=
  cl (f_X12_allWays w) fun r2 w1 =>
  cl (f_X12_in (Int32.toInt64 x1) 0 ((Int32.toInt64 r2) - 1) w1) fun r4 w3 =>
  if isB r4 = true then some (r4, w3) else none
set_option maxRecDepth 100000 in
set_option maxHeartbeats 4000000 in
theorem t_X12_isWay {Z : Cz (Int32 × Wd)} (hZ : OKZ Z SM cX12_isWay RX12 2 (some .boolean) 2) (hE : EndI Z) (x1 : Int32)  (w : Wd) : BW Z 2 0 [(0, .ref (ph (zY Z) 0)), (1, .int x1)] [] w (f_X12_isWay x1 w) :=
  bw_iload_n hZ 1 rfl dX12_isWay_0 <|
  bw_i2l hZ dX12_isWay_1 <|
  bw_lconst hZ 0 (by decide) dX12_isWay_2 <|
  bw_aload_n hZ 0 rfl dX12_isWay_3 <|
  bw_callVI (As := []) hZ ml_RX12_622 rc_12 obM_0 (by decide) (c_X12_allWays (zl Z) (zY Z) (hZ_S hZ) w) rfl rfl (Nat.le_of_ble_eq_true rfl) dX12_isWay_4 fun r2 w1 =>
  bw_i2l hZ dX12_isWay_7 <|
  bw_lconst hZ 1 (by decide) dX12_isWay_8 <|
  bw_lsub hZ dX12_isWay_9 <|
  bw_callSI (As := [.long (Int32.toInt64 x1), .long 0, .long ((Int32.toInt64 r2) - 1)]) hZ ms_RX12_60 (by decide) (c_X12_in (zl Z) (zY Z) (hZ_S hZ) (Int32.toInt64 x1) 0 ((Int32.toInt64 r2) - 1) w1) rfl rfl (Nat.le_of_ble_eq_true rfl) dX12_isWay_10 fun r4 w3 =>
  bw_zretC hZ hE dX12_isWay_13
theorem c_X12_isWay (l : Launch) (Y : Ev) (hY : Y.1 = SM) (x1 : Int32)  (w : Wd) : CI l Y yX12_isWay cX12_isWay 2 2 [.ref (ph Y 0), .int x1] w .boolean (f_X12_isWay x1 w) := by
  refine CI_of (S := SM) (by decide) (Nat.le_of_ble_eq_true rfl) hY ?_
  intro Z hl hY2 hZ hE
  subst hY2
  exact t_X12_isWay hZ hE x1 w
-- WhichWillModel.counts
theorem dX12_counts_0 : decode cX12_counts 0 = .ok (.aload_n 0, 1) := by decide +kernel
theorem dX12_counts_1 : decode cX12_counts 1 = .ok (.iload_n 1, 1) := by decide +kernel
theorem dX12_counts_2 : decode cX12_counts 2 = .ok (.invokevirtual 625, 3) := by decide +kernel
theorem dX12_counts_5 : decode cX12_counts 5 = .ok (.ifCond .eq 11, 3) := by decide +kernel
theorem dX12_counts_8 : decode cX12_counts 8 = .ok (.aload_n 0, 1) := by decide +kernel
theorem dX12_counts_9 : decode cX12_counts 9 = .ok (.iload_n 2, 1) := by decide +kernel
theorem dX12_counts_10 : decode cX12_counts 10 = .ok (.invokevirtual 452, 3) := by decide +kernel
theorem dX12_counts_13 : decode cX12_counts 13 = .ok (.ifCond .ne 6, 3) := by decide +kernel
theorem dX12_counts_16 : decode cX12_counts 16 = .ok (.bipush (-2), 2) := by decide +kernel
theorem dX12_counts_18 : decode cX12_counts 18 = .ok (.ireturn, 1) := by decide +kernel
theorem dX12_counts_19 : decode cX12_counts 19 = .ok (.aload_n 0, 1) := by decide +kernel
theorem dX12_counts_20 : decode cX12_counts 20 = .ok (.iload_n 1, 1) := by decide +kernel
theorem dX12_counts_21 : decode cX12_counts 21 = .ok (.bipush 8, 2) := by decide +kernel
theorem dX12_counts_23 : decode cX12_counts 23 = .ok (.idiv, 1) := by decide +kernel
theorem dX12_counts_24 : decode cX12_counts 24 = .ok (.iload_n 1, 1) := by decide +kernel
theorem dX12_counts_25 : decode cX12_counts 25 = .ok (.bipush 8, 2) := by decide +kernel
theorem dX12_counts_27 : decode cX12_counts 27 = .ok (.irem, 1) := by decide +kernel
theorem dX12_counts_28 : decode cX12_counts 28 = .ok (.iload_n 2, 1) := by decide +kernel
theorem dX12_counts_29 : decode cX12_counts 29 = .ok (.invokevirtual 628, 3) := by decide +kernel
theorem dX12_counts_32 : decode cX12_counts 32 = .ok (.aload_n 0, 1) := by decide +kernel
theorem dX12_counts_33 : decode cX12_counts 33 = .ok (.invokevirtual 631, 3) := by decide +kernel
theorem dX12_counts_36 : decode cX12_counts 36 = .ok (.ireturn, 1) := by decide +kernel
def f_X12_counts (x1 : Int32) (x2 : Int32) (w : Wd) : Option (Int32 × Wd) :=
  cl (f_X12_isWay x1 w) fun r2 w1 =>
  if r2 = 0 then
  (some ((-2), w1))
  else
  cl (f_X12_isLand x2 w1) fun r4 w3 =>
  if r4 = 0 then
  (some ((-2), w3))
  else
  cv (f_X12_bringAll (x1 / 8) (x1 - x1 / 8 * 8) x2 w3) fun w5 =>
  cl (f_X12_counting w5) fun r7 w6 =>
  some (r7, w6)
set_option maxRecDepth 100000 in
set_option maxHeartbeats 4000000 in
theorem t_X12_counts {Z : Cz (Int32 × Wd)} (hZ : OKZ Z SM cX12_counts RX12 3 (some .int) 6) (hE : EndI Z) (x1 : Int32) (x2 : Int32)  (w : Wd) : BW Z 3 0 [(0, .ref (ph (zY Z) 0)), (1, .int x1), (2, .int x2)] [] w (f_X12_counts x1 x2 w) :=
  bw_aload_n hZ 0 rfl dX12_counts_0 <|
  bw_iload_n hZ 1 rfl dX12_counts_1 <|
  bw_callVI (As := [.int x1]) hZ ml_RX12_625 rc_12 obM_0 (by decide) (c_X12_isWay (zl Z) (zY Z) (hZ_S hZ) x1 w) rfl rfl (Nat.le_of_ble_eq_true rfl) dX12_counts_2 fun r2 w1 =>
  bw_if_eq hZ (tgt := 16) (by decide) dX12_counts_5 (fun _ =>
  bw_bipush hZ (-2) (by decide) dX12_counts_16 <|
  bw_iret hZ hE dX12_counts_18) (fun _ =>
  bw_aload_n hZ 0 rfl dX12_counts_8 <|
  bw_iload_n hZ 2 rfl dX12_counts_9 <|
  bw_callVI (As := [.int x2]) hZ ml_RX12_452 rc_12 obM_0 (by decide) (c_X12_isLand (zl Z) (zY Z) (hZ_S hZ) x2 w1) rfl rfl (Nat.le_of_ble_eq_true rfl) dX12_counts_10 fun r4 w3 =>
  bw_if_ne hZ (tgt := 19) (by decide) dX12_counts_13 (fun _ =>
  bw_aload_n hZ 0 rfl dX12_counts_19 <|
  bw_iload_n hZ 1 rfl dX12_counts_20 <|
  bw_bipush hZ 8 (by decide) dX12_counts_21 <|
  bw_idivN hZ (by decide) dX12_counts_23 <|
  bw_iload_n hZ 1 rfl dX12_counts_24 <|
  bw_bipush hZ 8 (by decide) dX12_counts_25 <|
  bw_iremN hZ (by decide) dX12_counts_27 <|
  bw_iload_n hZ 2 rfl dX12_counts_28 <|
  bw_callVV (As := [.int (x1 / 8), .int (x1 - x1 / 8 * 8), .int x2]) hZ ml_RX12_628 rc_12 obM_0 (by decide) (c_X12_bringAll (zl Z) (zY Z) (hZ_S hZ) (x1 / 8) (x1 - x1 / 8 * 8) x2 w3) rfl rfl (Nat.le_of_ble_eq_true rfl) dX12_counts_29 fun w5 =>
  bw_aload_n hZ 0 rfl dX12_counts_32 <|
  bw_callVI (As := []) hZ ml_RX12_631 rc_12 obM_0 (by decide) (c_X12_counting (zl Z) (zY Z) (hZ_S hZ) w5) rfl rfl (Nat.le_of_ble_eq_true rfl) dX12_counts_33 fun r7 w6 =>
  bw_iret hZ hE dX12_counts_36) (fun _ =>
  bw_bipush hZ (-2) (by decide) dX12_counts_16 <|
  bw_iret hZ hE dX12_counts_18))
theorem c_X12_counts (l : Launch) (Y : Ev) (hY : Y.1 = SM) (x1 : Int32) (x2 : Int32)  (w : Wd) : CI l Y yX12_counts cX12_counts 3 6 [.ref (ph Y 0), .int x1, .int x2] w .int (f_X12_counts x1 x2 w) := by
  refine CI_of (S := SM) (by decide) (Nat.le_of_ble_eq_true rfl) hY ?_
  intro Z hl hY2 hZ hE
  subst hY2
  exact t_X12_counts hZ hE x1 x2 w
-- WhichWillModel.undone
theorem dX12_undone_0 : decode cX12_undone 0 = .ok (.aload_n 0, 1) := by decide +kernel
theorem dX12_undone_1 : decode cX12_undone 1 = .ok (.iload_n 1, 1) := by decide +kernel
theorem dX12_undone_2 : decode cX12_undone 2 = .ok (.invokevirtual 525, 3) := by decide +kernel
theorem dX12_undone_5 : decode cX12_undone 5 = .ok (.ifCond .eq 19, 3) := by decide +kernel
theorem dX12_undone_8 : decode cX12_undone 8 = .ok (.aload_n 0, 1) := by decide +kernel
theorem dX12_undone_9 : decode cX12_undone 9 = .ok (.iload_n 2, 1) := by decide +kernel
theorem dX12_undone_10 : decode cX12_undone 10 = .ok (.invokevirtual 625, 3) := by decide +kernel
theorem dX12_undone_13 : decode cX12_undone 13 = .ok (.ifCond .eq 11, 3) := by decide +kernel
theorem dX12_undone_16 : decode cX12_undone 16 = .ok (.aload_n 0, 1) := by decide +kernel
theorem dX12_undone_17 : decode cX12_undone 17 = .ok (.iload_n 3, 1) := by decide +kernel
theorem dX12_undone_18 : decode cX12_undone 18 = .ok (.invokevirtual 452, 3) := by decide +kernel
theorem dX12_undone_21 : decode cX12_undone 21 = .ok (.ifCond .ne 6, 3) := by decide +kernel
theorem dX12_undone_24 : decode cX12_undone 24 = .ok (.bipush (-2), 2) := by decide +kernel
theorem dX12_undone_26 : decode cX12_undone 26 = .ok (.ireturn, 1) := by decide +kernel
theorem dX12_undone_27 : decode cX12_undone 27 = .ok (.aload_n 0, 1) := by decide +kernel
theorem dX12_undone_28 : decode cX12_undone 28 = .ok (.iload_n 2, 1) := by decide +kernel
theorem dX12_undone_29 : decode cX12_undone 29 = .ok (.bipush 8, 2) := by decide +kernel
theorem dX12_undone_31 : decode cX12_undone 31 = .ok (.idiv, 1) := by decide +kernel
theorem dX12_undone_32 : decode cX12_undone 32 = .ok (.iload_n 2, 1) := by decide +kernel
theorem dX12_undone_33 : decode cX12_undone 33 = .ok (.bipush 8, 2) := by decide +kernel
theorem dX12_undone_35 : decode cX12_undone 35 = .ok (.irem, 1) := by decide +kernel
theorem dX12_undone_36 : decode cX12_undone 36 = .ok (.iload_n 3, 1) := by decide +kernel
theorem dX12_undone_37 : decode cX12_undone 37 = .ok (.invokevirtual 628, 3) := by decide +kernel
theorem dX12_undone_40 : decode cX12_undone 40 = .ok (.aload_n 0, 1) := by decide +kernel
theorem dX12_undone_41 : decode cX12_undone 41 = .ok (.getfield 348, 3) := by decide +kernel
theorem dX12_undone_44 : decode cX12_undone 44 = .ok (.iload_n 1, 1) := by decide +kernel
theorem dX12_undone_45 : decode cX12_undone 45 = .ok (.iaload, 1) := by decide +kernel
theorem dX12_undone_46 : decode cX12_undone 46 = .ok (.ireturn, 1) := by decide +kernel
def f_X12_undone (x1 : Int32) (x2 : Int32) (x3 : Int32) (w : Wd) : Option (Int32 × Wd) :=
  cl (f_X12_isPaper x1 w) fun r2 w1 =>
  if r2 = 0 then
  (some ((-2), w1))
  else
  cl (f_X12_isWay x2 w1) fun r4 w3 =>
  if r4 = 0 then
  (some ((-2), w3))
  else
  cl (f_X12_isLand x3 w3) fun r6 w5 =>
  if r6 = 0 then
  (some ((-2), w5))
  else
  cv (f_X12_bringAll (x2 / 8) (x2 - x2 / 8 * 8) x3 w5) fun w7 =>
  if inb x1 4 = true then
  (some (w7.1 45 (Int32.toNatClampNeg x1), w7))
  else none
set_option maxRecDepth 100000 in
set_option maxHeartbeats 4000000 in
theorem t_X12_undone {Z : Cz (Int32 × Wd)} (hZ : OKZ Z SM cX12_undone RX12 4 (some .int) 6) (hE : EndI Z) (x1 : Int32) (x2 : Int32) (x3 : Int32)  (w : Wd) : BW Z 4 0 [(0, .ref (ph (zY Z) 0)), (1, .int x1), (2, .int x2), (3, .int x3)] [] w (f_X12_undone x1 x2 x3 w) :=
  bw_aload_n hZ 0 rfl dX12_undone_0 <|
  bw_iload_n hZ 1 rfl dX12_undone_1 <|
  bw_callVI (As := [.int x1]) hZ ml_RX12_525 rc_12 obM_0 (by decide) (c_X12_isPaper (zl Z) (zY Z) (hZ_S hZ) x1 w) rfl rfl (Nat.le_of_ble_eq_true rfl) dX12_undone_2 fun r2 w1 =>
  bw_if_eq hZ (tgt := 24) (by decide) dX12_undone_5 (fun _ =>
  bw_bipush hZ (-2) (by decide) dX12_undone_24 <|
  bw_iret hZ hE dX12_undone_26) (fun _ =>
  bw_aload_n hZ 0 rfl dX12_undone_8 <|
  bw_iload_n hZ 2 rfl dX12_undone_9 <|
  bw_callVI (As := [.int x2]) hZ ml_RX12_625 rc_12 obM_0 (by decide) (c_X12_isWay (zl Z) (zY Z) (hZ_S hZ) x2 w1) rfl rfl (Nat.le_of_ble_eq_true rfl) dX12_undone_10 fun r4 w3 =>
  bw_if_eq hZ (tgt := 24) (by decide) dX12_undone_13 (fun _ =>
  bw_bipush hZ (-2) (by decide) dX12_undone_24 <|
  bw_iret hZ hE dX12_undone_26) (fun _ =>
  bw_aload_n hZ 0 rfl dX12_undone_16 <|
  bw_iload_n hZ 3 rfl dX12_undone_17 <|
  bw_callVI (As := [.int x3]) hZ ml_RX12_452 rc_12 obM_0 (by decide) (c_X12_isLand (zl Z) (zY Z) (hZ_S hZ) x3 w3) rfl rfl (Nat.le_of_ble_eq_true rfl) dX12_undone_18 fun r6 w5 =>
  bw_if_ne hZ (tgt := 27) (by decide) dX12_undone_21 (fun _ =>
  bw_aload_n hZ 0 rfl dX12_undone_27 <|
  bw_iload_n hZ 2 rfl dX12_undone_28 <|
  bw_bipush hZ 8 (by decide) dX12_undone_29 <|
  bw_idivN hZ (by decide) dX12_undone_31 <|
  bw_iload_n hZ 2 rfl dX12_undone_32 <|
  bw_bipush hZ 8 (by decide) dX12_undone_33 <|
  bw_iremN hZ (by decide) dX12_undone_35 <|
  bw_iload_n hZ 3 rfl dX12_undone_36 <|
  bw_callVV (As := [.int (x2 / 8), .int (x2 - x2 / 8 * 8), .int x3]) hZ ml_RX12_628 rc_12 obM_0 (by decide) (c_X12_bringAll (zl Z) (zY Z) (hZ_S hZ) (x2 / 8) (x2 - x2 / 8 * 8) x3 w5) rfl rfl (Nat.le_of_ble_eq_true rfl) dX12_undone_37 fun w7 =>
  bw_aload_n hZ 0 rfl dX12_undone_40 <|
  bw_getR hZ fl_RX12_348 obM_0 rfl dX12_undone_41 <|
  bw_iload_n hZ 1 rfl dX12_undone_44 <|
  bw_iald hZ (arM_45 _) dX12_undone_45 <|
  bw_iret hZ hE dX12_undone_46) (fun _ =>
  bw_bipush hZ (-2) (by decide) dX12_undone_24 <|
  bw_iret hZ hE dX12_undone_26)))
theorem c_X12_undone (l : Launch) (Y : Ev) (hY : Y.1 = SM) (x1 : Int32) (x2 : Int32) (x3 : Int32)  (w : Wd) : CI l Y yX12_undone cX12_undone 4 6 [.ref (ph Y 0), .int x1, .int x2, .int x3] w .int (f_X12_undone x1 x2 x3 w) := by
  refine CI_of (S := SM) (by decide) (Nat.le_of_ble_eq_true rfl) hY ?_
  intro Z hl hY2 hZ hE
  subst hY2
  exact t_X12_undone hZ hE x1 x2 x3 w
