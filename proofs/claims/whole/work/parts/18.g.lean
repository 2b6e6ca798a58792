-- WhichWillModel.has
theorem dX12_has_0 : decode cX12_has 0 = .ok (.aload_n 0, 1) := by decide +kernel
theorem dX12_has_1 : decode cX12_has 1 = .ok (.getfield 243, 3) := by decide +kernel
theorem dX12_has_4 : decode cX12_has 4 = .ok (.bipush 13, 2) := by decide +kernel
theorem dX12_has_6 : decode cX12_has 6 = .ok (.iload_n 1, 1) := by decide +kernel
theorem dX12_has_7 : decode cX12_has 7 = .ok (.imul, 1) := by decide +kernel
theorem dX12_has_8 : decode cX12_has 8 = .ok (.iload_n 2, 1) := by decide +kernel
theorem dX12_has_9 : decode cX12_has 9 = .ok (.iadd, 1) := by decide +kernel
theorem dX12_has_10 : decode cX12_has 10 = .ok (.iaload, 1) := by decide +kernel
theorem dX12_has_11 : decode cX12_has 11 = .ok (.ifCond .eq 7, 3) := by decide +kernel
theorem dX12_has_14 : decode cX12_has 14 = .ok (.iconst 1, 1) := by decide +kernel
theorem dX12_has_15 : decode cX12_has 15 = .ok (.goto 4, 3) := by decide +kernel
theorem dX12_has_18 : decode cX12_has 18 = .ok (.iconst 0, 1) := by decide +kernel
theorem dX12_has_19 : decode cX12_has 19 = .ok (.ireturn, 1) := by decide +kernel
def f_X12_has (x1 : Int32) (x2 : Int32) (w : Wd) : Option (Int32 × Wd) :=
  if inb ((13 * x1) + x2) 52 = true then
  (if (w.1 2 (Int32.toNatClampNeg ((13 * x1) + x2))) = 0 then
  (some (0, w))
  else
  some (1, w))
  else none
set_option maxRecDepth 100000 in
set_option maxHeartbeats 4000000 in
theorem t_X12_has {Z : Cz (Int32 × Wd)} (hZ : OKZ Z SM cX12_has RX12 3 (some .boolean) 1) (hE : EndI Z) (x1 : Int32) (x2 : Int32)  (w : Wd) : BW Z 3 0 [(0, .ref (ph (zY Z) 0)), (1, .int x1), (2, .int x2)] [] w (f_X12_has x1 x2 w) :=
  bw_aload_n hZ 0 rfl dX12_has_0 <|
  bw_getR hZ fl_RX12_243 obM_0 rfl dX12_has_1 <|
  bw_bipush hZ 13 (by decide) dX12_has_4 <|
  bw_iload_n hZ 1 rfl dX12_has_6 <|
  bw_imul hZ dX12_has_7 <|
  bw_iload_n hZ 2 rfl dX12_has_8 <|
  bw_iadd hZ dX12_has_9 <|
  bw_iald hZ (arM_2 _) dX12_has_10 <|
  bw_if_eq hZ (tgt := 18) (by decide) dX12_has_11 (fun _ =>
  bw_iconst hZ 0 (by decide) dX12_has_18 <|
  bw_zret hZ hE (by decide) dX12_has_19) (fun _ =>
  bw_iconst hZ 1 (by decide) dX12_has_14 <|
  bw_goto hZ (tgt := 19) (by decide) dX12_has_15 <|
  bw_zret hZ hE (by decide) dX12_has_19)
theorem c_X12_has (l : Launch) (Y : Ev) (hY : Y.1 = SM) (x1 : Int32) (x2 : Int32)  (w : Wd) : CI l Y yX12_has cX12_has 3 1 [.ref (ph Y 0), .int x1, .int x2] w .boolean (f_X12_has x1 x2 w) := by
  refine CI_of (S := SM) (by decide) (Nat.le_of_ble_eq_true rfl) hY ?_
  intro Z hl hY2 hZ hE
  subst hY2
  exact t_X12_has hZ hE x1 x2 w
-- WhichWillModel.readIf
theorem dX12_readIf_0 : decode cX12_readIf 0 = .ok (.aload_n 0, 1) := by decide +kernel
theorem dX12_readIf_1 : decode cX12_readIf 1 = .ok (.getfield 315, 3) := by decide +kernel
theorem dX12_readIf_4 : decode cX12_readIf 4 = .ok (.iload_n 1, 1) := by decide +kernel
theorem dX12_readIf_5 : decode cX12_readIf 5 = .ok (.iconst (-1), 1) := by decide +kernel
theorem dX12_readIf_6 : decode cX12_readIf 6 = .ok (.iastore, 1) := by decide +kernel
theorem dX12_readIf_7 : decode cX12_readIf 7 = .ok (.aload_n 0, 1) := by decide +kernel
theorem dX12_readIf_8 : decode cX12_readIf 8 = .ok (.ldc_w 457, 3) := by decide +kernel
theorem dX12_readIf_11 : decode cX12_readIf 11 = .ok (.invokevirtual 49, 3) := by decide +kernel
theorem dX12_readIf_14 : decode cX12_readIf 14 = .ok (.ifCond .ne 5, 3) := by decide +kernel
theorem dX12_readIf_17 : decode cX12_readIf 17 = .ok (.iconst 1, 1) := by decide +kernel
theorem dX12_readIf_18 : decode cX12_readIf 18 = .ok (.ireturn, 1) := by decide +kernel
theorem dX12_readIf_19 : decode cX12_readIf 19 = .ok (.aload_n 0, 1) := by decide +kernel
theorem dX12_readIf_20 : decode cX12_readIf 20 = .ok (.invokevirtual 56, 3) := by decide +kernel
theorem dX12_readIf_23 : decode cX12_readIf 23 = .ok (.aload_n 0, 1) := by decide +kernel
theorem dX12_readIf_24 : decode cX12_readIf 24 = .ok (.ldc_w 459, 3) := by decide +kernel
theorem dX12_readIf_27 : decode cX12_readIf 27 = .ok (.invokevirtual 49, 3) := by decide +kernel
theorem dX12_readIf_30 : decode cX12_readIf 30 = .ok (.ifCond .eq 68, 3) := by decide +kernel
theorem dX12_readIf_33 : decode cX12_readIf 33 = .ok (.aload_n 0, 1) := by decide +kernel
theorem dX12_readIf_34 : decode cX12_readIf 34 = .ok (.invokevirtual 56, 3) := by decide +kernel
theorem dX12_readIf_37 : decode cX12_readIf 37 = .ok (.aload_n 0, 1) := by decide +kernel
theorem dX12_readIf_38 : decode cX12_readIf 38 = .ok (.iconst 0, 1) := by decide +kernel
theorem dX12_readIf_39 : decode cX12_readIf 39 = .ok (.iconst 2, 1) := by decide +kernel
theorem dX12_readIf_40 : decode cX12_readIf 40 = .ok (.invokevirtual 119, 3) := by decide +kernel
theorem dX12_readIf_43 : decode cX12_readIf 43 = .ok (.ifCond .ne 5, 3) := by decide +kernel
theorem dX12_readIf_46 : decode cX12_readIf 46 = .ok (.iconst 0, 1) := by decide +kernel
theorem dX12_readIf_47 : decode cX12_readIf 47 = .ok (.ireturn, 1) := by decide +kernel
theorem dX12_readIf_48 : decode cX12_readIf 48 = .ok (.aload_n 0, 1) := by decide +kernel
theorem dX12_readIf_49 : decode cX12_readIf 49 = .ok (.getfield 315, 3) := by decide +kernel
theorem dX12_readIf_52 : decode cX12_readIf 52 = .ok (.iload_n 1, 1) := by decide +kernel
theorem dX12_readIf_53 : decode cX12_readIf 53 = .ok (.bipush 10, 2) := by decide +kernel
theorem dX12_readIf_55 : decode cX12_readIf 55 = .ok (.aload_n 0, 1) := by decide +kernel
theorem dX12_readIf_56 : decode cX12_readIf 56 = .ok (.getfield 64, 3) := by decide +kernel
theorem dX12_readIf_59 : decode cX12_readIf 59 = .ok (.iadd, 1) := by decide +kernel
theorem dX12_readIf_60 : decode cX12_readIf 60 = .ok (.iastore, 1) := by decide +kernel
theorem dX12_readIf_61 : decode cX12_readIf 61 = .ok (.aload_n 0, 1) := by decide +kernel
theorem dX12_readIf_62 : decode cX12_readIf 62 = .ok (.getfield 321, 3) := by decide +kernel
theorem dX12_readIf_65 : decode cX12_readIf 65 = .ok (.iload_n 1, 1) := by decide +kernel
theorem dX12_readIf_66 : decode cX12_readIf 66 = .ok (.aload_n 0, 1) := by decide +kernel
theorem dX12_readIf_67 : decode cX12_readIf 67 = .ok (.ldc_w 461, 3) := by decide +kernel
theorem dX12_readIf_70 : decode cX12_readIf 70 = .ok (.invokevirtual 49, 3) := by decide +kernel
theorem dX12_readIf_73 : decode cX12_readIf 73 = .ok (.ifCond .ne 7, 3) := by decide +kernel
theorem dX12_readIf_76 : decode cX12_readIf 76 = .ok (.iconst 1, 1) := by decide +kernel
theorem dX12_readIf_77 : decode cX12_readIf 77 = .ok (.goto 4, 3) := by decide +kernel
theorem dX12_readIf_80 : decode cX12_readIf 80 = .ok (.iconst 0, 1) := by decide +kernel
theorem dX12_readIf_81 : decode cX12_readIf 81 = .ok (.bastore, 1) := by decide +kernel
theorem dX12_readIf_82 : decode cX12_readIf 82 = .ok (.aload_n 0, 1) := by decide +kernel
theorem dX12_readIf_83 : decode cX12_readIf 83 = .ok (.ldc_w 461, 3) := by decide +kernel
theorem dX12_readIf_86 : decode cX12_readIf 86 = .ok (.invokevirtual 49, 3) := by decide +kernel
theorem dX12_readIf_89 : decode cX12_readIf 89 = .ok (.ifCond .eq 7, 3) := by decide +kernel
theorem dX12_readIf_92 : decode cX12_readIf 92 = .ok (.aload_n 0, 1) := by decide +kernel
theorem dX12_readIf_93 : decode cX12_readIf 93 = .ok (.invokevirtual 56, 3) := by decide +kernel
theorem dX12_readIf_96 : decode cX12_readIf 96 = .ok (.iconst 1, 1) := by decide +kernel
theorem dX12_readIf_97 : decode cX12_readIf 97 = .ok (.ireturn, 1) := by decide +kernel
theorem dX12_readIf_98 : decode cX12_readIf 98 = .ok (.aload_n 0, 1) := by decide +kernel
theorem dX12_readIf_99 : decode cX12_readIf 99 = .ok (.aload_n 0, 1) := by decide +kernel
theorem dX12_readIf_100 : decode cX12_readIf 100 = .ok (.getfield 264, 3) := by decide +kernel
theorem dX12_readIf_103 : decode cX12_readIf 103 = .ok (.aload_n 0, 1) := by decide +kernel
theorem dX12_readIf_104 : decode cX12_readIf 104 = .ok (.getfield 412, 3) := by decide +kernel
theorem dX12_readIf_107 : decode cX12_readIf 107 = .ok (.invokevirtual 164, 3) := by decide +kernel
theorem dX12_readIf_110 : decode cX12_readIf 110 = .ok (.ifCond .ne 5, 3) := by decide +kernel
theorem dX12_readIf_113 : decode cX12_readIf 113 = .ok (.iconst 0, 1) := by decide +kernel
theorem dX12_readIf_114 : decode cX12_readIf 114 = .ok (.ireturn, 1) := by decide +kernel
theorem dX12_readIf_115 : decode cX12_readIf 115 = .ok (.aload_n 0, 1) := by decide +kernel
theorem dX12_readIf_116 : decode cX12_readIf 116 = .ok (.getfield 315, 3) := by decide +kernel
theorem dX12_readIf_119 : decode cX12_readIf 119 = .ok (.iload_n 1, 1) := by decide +kernel
theorem dX12_readIf_120 : decode cX12_readIf 120 = .ok (.aload_n 0, 1) := by decide +kernel
theorem dX12_readIf_121 : decode cX12_readIf 121 = .ok (.getfield 64, 3) := by decide +kernel
theorem dX12_readIf_124 : decode cX12_readIf 124 = .ok (.iastore, 1) := by decide +kernel
theorem dX12_readIf_125 : decode cX12_readIf 125 = .ok (.aload_n 0, 1) := by decide +kernel
theorem dX12_readIf_126 : decode cX12_readIf 126 = .ok (.ldc 174, 2) := by decide +kernel
theorem dX12_readIf_128 : decode cX12_readIf 128 = .ok (.invokevirtual 49, 3) := by decide +kernel
theorem dX12_readIf_131 : decode cX12_readIf 131 = .ok (.ifCond .ne 19, 3) := by decide +kernel
theorem dX12_readIf_134 : decode cX12_readIf 134 = .ok (.aload_n 0, 1) := by decide +kernel
theorem dX12_readIf_135 : decode cX12_readIf 135 = .ok (.ldc_w 463, 3) := by decide +kernel
theorem dX12_readIf_138 : decode cX12_readIf 138 = .ok (.invokevirtual 49, 3) := by decide +kernel
theorem dX12_readIf_141 : decode cX12_readIf 141 = .ok (.ifCond .ne 9, 3) := by decide +kernel
theorem dX12_readIf_144 : decode cX12_readIf 144 = .ok (.aload_n 0, 1) := by decide +kernel
theorem dX12_readIf_145 : decode cX12_readIf 145 = .ok (.iconst 1, 1) := by decide +kernel
theorem dX12_readIf_146 : decode cX12_readIf 146 = .ok (.invokevirtual 53, 3) := by decide +kernel
theorem dX12_readIf_149 : decode cX12_readIf 149 = .ok (.ireturn, 1) := by decide +kernel
theorem dX12_readIf_150 : decode cX12_readIf 150 = .ok (.aload_n 0, 1) := by decide +kernel
theorem dX12_readIf_151 : decode cX12_readIf 151 = .ok (.getfield 321, 3) := by decide +kernel
theorem dX12_readIf_154 : decode cX12_readIf 154 = .ok (.iload_n 1, 1) := by decide +kernel
theorem dX12_readIf_155 : decode cX12_readIf 155 = .ok (.aload_n 0, 1) := by decide +kernel
theorem dX12_readIf_156 : decode cX12_readIf 156 = .ok (.ldc 174, 2) := by decide +kernel
theorem dX12_readIf_158 : decode cX12_readIf 158 = .ok (.invokevirtual 49, 3) := by decide +kernel
theorem dX12_readIf_161 : decode cX12_readIf 161 = .ok (.bastore, 1) := by decide +kernel
theorem dX12_readIf_162 : decode cX12_readIf 162 = .ok (.aload_n 0, 1) := by decide +kernel
theorem dX12_readIf_163 : decode cX12_readIf 163 = .ok (.invokevirtual 56, 3) := by decide +kernel
theorem dX12_readIf_166 : decode cX12_readIf 166 = .ok (.iconst 1, 1) := by decide +kernel
theorem dX12_readIf_167 : decode cX12_readIf 167 = .ok (.ireturn, 1) := by decide +kernel
def X12_readIf_b150 (y1 : Int32) (w : Wd) : Option (Int32 × Wd) :=
  cl (f_X12_is 26 w) fun r13 w12 =>
  if inb y1 32 = true then
  (lt (wI w12 37 (Int32.toNatClampNeg y1) (vp_nar .boolean r13)) fun w14 =>
  cv (f_X12_scan w14) fun w15 =>
  some (1, w15))
  else none
set_option maxRecDepth 100000 in
set_option maxHeartbeats 4000000 in
theorem t_X12_readIf_b150 {Z : Cz (Int32 × Wd)} (hZ : OKZ Z SM cX12_readIf RX12 2 (some .boolean) 6) (hE : EndI Z)  (y1 : Int32)  (w : Wd) : BW Z 2 150 [(0, .ref (ph (zY Z) 0)), (1, .int y1)] [] w (X12_readIf_b150 y1 w) :=
  bw_aload_n hZ 0 rfl dX12_readIf_150 <|
  bw_getR hZ fl_RX12_321 obM_0 rfl dX12_readIf_151 <|
  bw_iload_n hZ 1 rfl dX12_readIf_154 <|
  bw_aload_n hZ 0 rfl dX12_readIf_155 <|
  bw_ldcS hZ 74 rfl dX12_readIf_156 <|
  bw_callVI (As := [.ref (sK (zY Z) 26)]) hZ ml_RX12_49 rc_12 obM_0 (by decide) (c_X12_is (zl Z) (zY Z) (hZ_S hZ) 26 (by decide) w) rfl rfl (Nat.le_of_ble_eq_true rfl) dX12_readIf_158 fun r13 w12 =>
  bw_zast hZ (arM_37 _) dX12_readIf_161 fun w14 =>
  bw_aload_n hZ 0 rfl dX12_readIf_162 <|
  bw_callVV (As := []) hZ ml_RX12_56 rc_12 obM_0 (by decide) (c_X12_scan (zl Z) (zY Z) (hZ_S hZ) w14) rfl rfl (Nat.le_of_ble_eq_true rfl) dX12_readIf_163 fun w15 =>
  bw_iconst hZ 1 (by decide) dX12_readIf_166 <|
  bw_zret hZ hE (by decide) dX12_readIf_167
def X12_readIf_b81 (t0 : Int32) (t1 : Int32) (w : Wd) : Option (Int32 × Wd) :=
  if inb t1 32 = true then
  (lt (wI w 37 (Int32.toNatClampNeg t1) (vp_nar .boolean t0)) fun w26 =>
  cl (f_X12_is 39 w26) fun r28 w27 =>
  if r28 = 0 then
  (some (1, w27))
  else
  cv (f_X12_scan w27) fun w29 =>
  some (1, w29))
  else none
set_option maxRecDepth 100000 in
set_option maxHeartbeats 4000000 in
theorem t_X12_readIf_b81 {Z : Cz (Int32 × Wd)} (hZ : OKZ Z SM cX12_readIf RX12 2 (some .boolean) 6) (hE : EndI Z)  (t0 : Int32) (t1 : Int32)  (w : Wd) : BW Z 2 81 [(0, .ref (ph (zY Z) 0))] [.int t0, .int t1, .ref (ph (zY Z) 37)] w (X12_readIf_b81 t0 t1 w) :=
  bw_zast hZ (arM_37 _) dX12_readIf_81 fun w26 =>
  bw_aload_n hZ 0 rfl dX12_readIf_82 <|
  bw_ldcSW hZ 84 rfl dX12_readIf_83 <|
  bw_callVI (As := [.ref (sK (zY Z) 39)]) hZ ml_RX12_49 rc_12 obM_0 (by decide) (c_X12_is (zl Z) (zY Z) (hZ_S hZ) 39 (by decide) w26) rfl rfl (Nat.le_of_ble_eq_true rfl) dX12_readIf_86 fun r28 w27 =>
  bw_if_eq hZ (tgt := 96) (by decide) dX12_readIf_89 (fun _ =>
  bw_iconst hZ 1 (by decide) dX12_readIf_96 <|
  bw_zret hZ hE (by decide) dX12_readIf_97) (fun _ =>
  bw_aload_n hZ 0 rfl dX12_readIf_92 <|
  bw_callVV (As := []) hZ ml_RX12_56 rc_12 obM_0 (by decide) (c_X12_scan (zl Z) (zY Z) (hZ_S hZ) w27) rfl rfl (Nat.le_of_ble_eq_true rfl) dX12_readIf_93 fun w29 =>
  bw_iconst hZ 1 (by decide) dX12_readIf_96 <|
  bw_zret hZ hE (by decide) dX12_readIf_97)
def f_X12_readIf (x1 : Int32) (w : Wd) : Option (Int32 × Wd) :=
  if inb x1 32 = true then
  (lt (wI w 35 (Int32.toNatClampNeg x1) ((-1))) fun w1 =>
  cl (f_X12_is 37 w1) fun r3 w2 =>
  if r3 = 0 then
  (some (1, w2))
  else
  cv (f_X12_scan w2) fun w4 =>
  cl (f_X12_is 38 w4) fun r6 w5 =>
  if r6 = 0 then
  (cl (f_X12_known 9 8 (w5.1 0 11) w5) fun r8 w7 =>
  if r8 = 0 then
  (some (0, w7))
  else
  if inb x1 32 = true then
  (lt (wI w7 35 (Int32.toNatClampNeg x1) (w7.1 0 7)) fun w9 =>
  cl (f_X12_is 26 w9) fun r11 w10 =>
  if r11 = 0 then
  (cl (f_X12_is 40 w10) fun r17 w16 =>
  if r17 = 0 then
  (cl (f_X12_bad 1 w16) fun r19 w18 =>
  if isB r19 = true then some (r19, w18) else none)
  else
  X12_readIf_b150 x1 w16)
  else
  X12_readIf_b150 x1 w10)
  else none)
  else
  cv (f_X12_scan w5) fun w20 =>
  cl (f_X12_number 0 2 w20) fun r22 w21 =>
  if r22 = 0 then
  (some (0, w21))
  else
  if inb x1 32 = true then
  (lt (wI w21 35 (Int32.toNatClampNeg x1) (10 + (w21.1 0 7))) fun w23 =>
  cl (f_X12_is 39 w23) fun r25 w24 =>
  if r25 = 0 then
  (X12_readIf_b81 1 x1 w24)
  else
  X12_readIf_b81 0 x1 w24)
  else none)
  else none
set_option maxRecDepth 100000 in
set_option maxHeartbeats 4000000 in
theorem t_X12_readIf {Z : Cz (Int32 × Wd)} (hZ : OKZ Z SM cX12_readIf RX12 2 (some .boolean) 6) (hE : EndI Z) (x1 : Int32)  (w : Wd) : BW Z 2 0 [(0, .ref (ph (zY Z) 0)), (1, .int x1)] [] w (f_X12_readIf x1 w) :=
  bw_aload_n hZ 0 rfl dX12_readIf_0 <|
  bw_getR hZ fl_RX12_315 obM_0 rfl dX12_readIf_1 <|
  bw_iload_n hZ 1 rfl dX12_readIf_4 <|
  bw_iconst hZ (-1) (by decide) dX12_readIf_5 <|
  bw_iast hZ (arM_35 _) dX12_readIf_6 fun w1 =>
  bw_aload_n hZ 0 rfl dX12_readIf_7 <|
  bw_ldcSW hZ 82 rfl dX12_readIf_8 <|
  bw_callVI (As := [.ref (sK (zY Z) 37)]) hZ ml_RX12_49 rc_12 obM_0 (by decide) (c_X12_is (zl Z) (zY Z) (hZ_S hZ) 37 (by decide) w1) rfl rfl (Nat.le_of_ble_eq_true rfl) dX12_readIf_11 fun r3 w2 =>
  bw_if_ne hZ (tgt := 19) (by decide) dX12_readIf_14 (fun _ =>
  bw_aload_n hZ 0 rfl dX12_readIf_19 <|
  bw_callVV (As := []) hZ ml_RX12_56 rc_12 obM_0 (by decide) (c_X12_scan (zl Z) (zY Z) (hZ_S hZ) w2) rfl rfl (Nat.le_of_ble_eq_true rfl) dX12_readIf_20 fun w4 =>
  bw_aload_n hZ 0 rfl dX12_readIf_23 <|
  bw_ldcSW hZ 83 rfl dX12_readIf_24 <|
  bw_callVI (As := [.ref (sK (zY Z) 38)]) hZ ml_RX12_49 rc_12 obM_0 (by decide) (c_X12_is (zl Z) (zY Z) (hZ_S hZ) 38 (by decide) w4) rfl rfl (Nat.le_of_ble_eq_true rfl) dX12_readIf_27 fun r6 w5 =>
  bw_if_eq hZ (tgt := 98) (by decide) dX12_readIf_30 (fun _ =>
  bw_aload_n hZ 0 rfl dX12_readIf_98 <|
  bw_aload_n hZ 0 rfl dX12_readIf_99 <|
  bw_getR hZ fl_RX12_264 obM_0 rfl dX12_readIf_100 <|
  bw_aload_n hZ 0 rfl dX12_readIf_103 <|
  bw_getI hZ fl_RX12_412 (by decide) obM_0 dX12_readIf_104 <|
  bw_callVI (As := [.ref (ph (zY Z) 9), .int (w5.1 0 11)]) hZ ml_RX12_164 rc_12 obM_0 (by decide) (c_X12_known (zl Z) (zY Z) (hZ_S hZ) 9 8 (w5.1 0 11) arM_9 w5) rfl rfl (Nat.le_of_ble_eq_true rfl) dX12_readIf_107 fun r8 w7 =>
  bw_if_ne hZ (tgt := 115) (by decide) dX12_readIf_110 (fun _ =>
  bw_aload_n hZ 0 rfl dX12_readIf_115 <|
  bw_getR hZ fl_RX12_315 obM_0 rfl dX12_readIf_116 <|
  bw_iload_n hZ 1 rfl dX12_readIf_119 <|
  bw_aload_n hZ 0 rfl dX12_readIf_120 <|
  bw_getI hZ fl_RX12_64 (by decide) obM_0 dX12_readIf_121 <|
  bw_iast hZ (arM_35 _) dX12_readIf_124 fun w9 =>
  bw_aload_n hZ 0 rfl dX12_readIf_125 <|
  bw_ldcS hZ 74 rfl dX12_readIf_126 <|
  bw_callVI (As := [.ref (sK (zY Z) 26)]) hZ ml_RX12_49 rc_12 obM_0 (by decide) (c_X12_is (zl Z) (zY Z) (hZ_S hZ) 26 (by decide) w9) rfl rfl (Nat.le_of_ble_eq_true rfl) dX12_readIf_128 fun r11 w10 =>
  bw_if_ne hZ (tgt := 150) (by decide) dX12_readIf_131 (fun _ =>
  bw_sub [0, 1] rfl (t_X12_readIf_b150 hZ hE x1 w10)) (fun _ =>
  bw_aload_n hZ 0 rfl dX12_readIf_134 <|
  bw_ldcSW hZ 85 rfl dX12_readIf_135 <|
  bw_callVI (As := [.ref (sK (zY Z) 40)]) hZ ml_RX12_49 rc_12 obM_0 (by decide) (c_X12_is (zl Z) (zY Z) (hZ_S hZ) 40 (by decide) w10) rfl rfl (Nat.le_of_ble_eq_true rfl) dX12_readIf_138 fun r17 w16 =>
  bw_if_ne hZ (tgt := 150) (by decide) dX12_readIf_141 (fun _ =>
  bw_sub [0, 1] rfl (t_X12_readIf_b150 hZ hE x1 w16)) (fun _ =>
  bw_aload_n hZ 0 rfl dX12_readIf_144 <|
  bw_iconst hZ 1 (by decide) dX12_readIf_145 <|
  bw_callVI (As := [.int 1]) hZ ml_RX12_53 rc_12 obM_0 (by decide) (c_X12_bad (zl Z) (zY Z) (hZ_S hZ) 1 w16) rfl rfl (Nat.le_of_ble_eq_true rfl) dX12_readIf_146 fun r19 w18 =>
  bw_zretC hZ hE dX12_readIf_149))) (fun _ =>
  bw_iconst hZ 0 (by decide) dX12_readIf_113 <|
  bw_zret hZ hE (by decide) dX12_readIf_114)) (fun _ =>
  bw_aload_n hZ 0 rfl dX12_readIf_33 <|
  bw_callVV (As := []) hZ ml_RX12_56 rc_12 obM_0 (by decide) (c_X12_scan (zl Z) (zY Z) (hZ_S hZ) w5) rfl rfl (Nat.le_of_ble_eq_true rfl) dX12_readIf_34 fun w20 =>
  bw_aload_n hZ 0 rfl dX12_readIf_37 <|
  bw_iconst hZ 0 (by decide) dX12_readIf_38 <|
  bw_iconst hZ 2 (by decide) dX12_readIf_39 <|
  bw_callVI (As := [.int 0, .int 2]) hZ ml_RX12_119 rc_12 obM_0 (by decide) (c_X12_number (zl Z) (zY Z) (hZ_S hZ) 0 2 w20) rfl rfl (Nat.le_of_ble_eq_true rfl) dX12_readIf_40 fun r22 w21 =>
  bw_if_ne hZ (tgt := 48) (by decide) dX12_readIf_43 (fun _ =>
  bw_aload_n hZ 0 rfl dX12_readIf_48 <|
  bw_getR hZ fl_RX12_315 obM_0 rfl dX12_readIf_49 <|
  bw_iload_n hZ 1 rfl dX12_readIf_52 <|
  bw_bipush hZ 10 (by decide) dX12_readIf_53 <|
  bw_aload_n hZ 0 rfl dX12_readIf_55 <|
  bw_getI hZ fl_RX12_64 (by decide) obM_0 dX12_readIf_56 <|
  bw_iadd hZ dX12_readIf_59 <|
  bw_iast hZ (arM_35 _) dX12_readIf_60 fun w23 =>
  bw_aload_n hZ 0 rfl dX12_readIf_61 <|
  bw_getR hZ fl_RX12_321 obM_0 rfl dX12_readIf_62 <|
  bw_iload_n hZ 1 rfl dX12_readIf_65 <|
  bw_aload_n hZ 0 rfl dX12_readIf_66 <|
  bw_ldcSW hZ 84 rfl dX12_readIf_67 <|
  bw_callVI (As := [.ref (sK (zY Z) 39)]) hZ ml_RX12_49 rc_12 obM_0 (by decide) (c_X12_is (zl Z) (zY Z) (hZ_S hZ) 39 (by decide) w23) rfl rfl (Nat.le_of_ble_eq_true rfl) dX12_readIf_70 fun r25 w24 =>
  bw_if_ne hZ (tgt := 80) (by decide) dX12_readIf_73 (fun _ =>
  bw_iconst hZ 0 (by decide) dX12_readIf_80 <|
  bw_sub [0] rfl (t_X12_readIf_b81 hZ hE 0 x1 w24)) (fun _ =>
  bw_iconst hZ 1 (by decide) dX12_readIf_76 <|
  bw_goto hZ (tgt := 81) (by decide) dX12_readIf_77 <|
  bw_sub [0] rfl (t_X12_readIf_b81 hZ hE 1 x1 w24))) (fun _ =>
  bw_iconst hZ 0 (by decide) dX12_readIf_46 <|
  bw_zret hZ hE (by decide) dX12_readIf_47))) (fun _ =>
  bw_iconst hZ 1 (by decide) dX12_readIf_17 <|
  bw_zret hZ hE (by decide) dX12_readIf_18)
theorem c_X12_readIf (l : Launch) (Y : Ev) (hY : Y.1 = SM) (x1 : Int32)  (w : Wd) : CI l Y yX12_readIf cX12_readIf 2 6 [.ref (ph Y 0), .int x1] w .boolean (f_X12_readIf x1 w) := by
  refine CI_of (S := SM) (by decide) (Nat.le_of_ble_eq_true rfl) hY ?_
  intro Z hl hY2 hZ hE
  subst hY2
  exact t_X12_readIf hZ hE x1 w
-- WhichWillModel.readGift
theorem dX12_readGift_0 : decode cX12_readGift 0 = .ok (.aload_n 0, 1) := by decide +kernel
theorem dX12_readGift_1 : decode cX12_readGift 1 = .ok (.getfield 431, 3) := by decide +kernel
theorem dX12_readGift_4 : decode cX12_readGift 4 = .ok (.istore_n 2, 1) := by decide +kernel
theorem dX12_readGift_5 : decode cX12_readGift 5 = .ok (.aload_n 0, 1) := by decide +kernel
theorem dX12_readGift_6 : decode cX12_readGift 6 = .ok (.getfield 279, 3) := by decide +kernel
theorem dX12_readGift_9 : decode cX12_readGift 9 = .ok (.iload_n 2, 1) := by decide +kernel
theorem dX12_readGift_10 : decode cX12_readGift 10 = .ok (.iaload, 1) := by decide +kernel
theorem dX12_readGift_11 : decode cX12_readGift 11 = .ok (.bipush 8, 2) := by decide +kernel
theorem dX12_readGift_13 : decode cX12_readGift 13 = .ok (.if_icmp .ne 9, 3) := by decide +kernel
theorem dX12_readGift_16 : decode cX12_readGift 16 = .ok (.aload_n 0, 1) := by decide +kernel
theorem dX12_readGift_17 : decode cX12_readGift 17 = .ok (.iconst 4, 1) := by decide +kernel
theorem dX12_readGift_18 : decode cX12_readGift 18 = .ok (.invokevirtual 53, 3) := by decide +kernel
theorem dX12_readGift_21 : decode cX12_readGift 21 = .ok (.ireturn, 1) := by decide +kernel
theorem dX12_readGift_22 : decode cX12_readGift 22 = .ok (.bipush 8, 2) := by decide +kernel
theorem dX12_readGift_24 : decode cX12_readGift 24 = .ok (.iload_n 2, 1) := by decide +kernel
theorem dX12_readGift_25 : decode cX12_readGift 25 = .ok (.imul, 1) := by decide +kernel
theorem dX12_readGift_26 : decode cX12_readGift 26 = .ok (.aload_n 0, 1) := by decide +kernel
theorem dX12_readGift_27 : decode cX12_readGift 27 = .ok (.getfield 279, 3) := by decide +kernel
theorem dX12_readGift_30 : decode cX12_readGift 30 = .ok (.iload_n 2, 1) := by decide +kernel
theorem dX12_readGift_31 : decode cX12_readGift 31 = .ok (.iaload, 1) := by decide +kernel
theorem dX12_readGift_32 : decode cX12_readGift 32 = .ok (.iadd, 1) := by decide +kernel
theorem dX12_readGift_33 : decode cX12_readGift 33 = .ok (.istore_n 3, 1) := by decide +kernel
theorem dX12_readGift_34 : decode cX12_readGift 34 = .ok (.aload_n 0, 1) := by decide +kernel
theorem dX12_readGift_35 : decode cX12_readGift 35 = .ok (.invokevirtual 56, 3) := by decide +kernel
theorem dX12_readGift_38 : decode cX12_readGift 38 = .ok (.aload_n 0, 1) := by decide +kernel
theorem dX12_readGift_39 : decode cX12_readGift 39 = .ok (.getfield 306, 3) := by decide +kernel
theorem dX12_readGift_42 : decode cX12_readGift 42 = .ok (.iload_n 3, 1) := by decide +kernel
theorem dX12_readGift_43 : decode cX12_readGift 43 = .ok (.iconst (-1), 1) := by decide +kernel
theorem dX12_readGift_44 : decode cX12_readGift 44 = .ok (.iastore, 1) := by decide +kernel
theorem dX12_readGift_45 : decode cX12_readGift 45 = .ok (.aload_n 0, 1) := by decide +kernel
theorem dX12_readGift_46 : decode cX12_readGift 46 = .ok (.getfield 309, 3) := by decide +kernel
theorem dX12_readGift_49 : decode cX12_readGift 49 = .ok (.iload_n 3, 1) := by decide +kernel
theorem dX12_readGift_50 : decode cX12_readGift 50 = .ok (.iconst 0, 1) := by decide +kernel
theorem dX12_readGift_51 : decode cX12_readGift 51 = .ok (.iastore, 1) := by decide +kernel
theorem dX12_readGift_52 : decode cX12_readGift 52 = .ok (.iload_n 1, 1) := by decide +kernel
theorem dX12_readGift_53 : decode cX12_readGift 53 = .ok (.ifCond .eq 28, 3) := by decide +kernel
theorem dX12_readGift_56 : decode cX12_readGift 56 = .ok (.aload_n 0, 1) := by decide +kernel
theorem dX12_readGift_57 : decode cX12_readGift 57 = .ok (.iconst 1, 1) := by decide +kernel
theorem dX12_readGift_58 : decode cX12_readGift 58 = .ok (.ldc 198, 2) := by decide +kernel
theorem dX12_readGift_60 : decode cX12_readGift 60 = .ok (.invokevirtual 119, 3) := by decide +kernel
theorem dX12_readGift_63 : decode cX12_readGift 63 = .ok (.ifCond .ne 5, 3) := by decide +kernel
theorem dX12_readGift_66 : decode cX12_readGift 66 = .ok (.iconst 0, 1) := by decide +kernel
theorem dX12_readGift_67 : decode cX12_readGift 67 = .ok (.ireturn, 1) := by decide +kernel
theorem dX12_readGift_68 : decode cX12_readGift 68 = .ok (.aload_n 0, 1) := by decide +kernel
theorem dX12_readGift_69 : decode cX12_readGift 69 = .ok (.getfield 309, 3) := by decide +kernel
theorem dX12_readGift_72 : decode cX12_readGift 72 = .ok (.iload_n 3, 1) := by decide +kernel
theorem dX12_readGift_73 : decode cX12_readGift 73 = .ok (.aload_n 0, 1) := by decide +kernel
theorem dX12_readGift_74 : decode cX12_readGift 74 = .ok (.getfield 64, 3) := by decide +kernel
theorem dX12_readGift_77 : decode cX12_readGift 77 = .ok (.iastore, 1) := by decide +kernel
theorem dX12_readGift_78 : decode cX12_readGift 78 = .ok (.goto 97, 3) := by decide +kernel
theorem dX12_readGift_81 : decode cX12_readGift 81 = .ok (.aload_n 0, 1) := by decide +kernel
theorem dX12_readGift_82 : decode cX12_readGift 82 = .ok (.getfield 27, 3) := by decide +kernel
theorem dX12_readGift_85 : decode cX12_readGift 85 = .ok (.iconst 1, 1) := by decide +kernel
theorem dX12_readGift_86 : decode cX12_readGift 86 = .ok (.if_icmp .eq 9, 3) := by decide +kernel
theorem dX12_readGift_89 : decode cX12_readGift 89 = .ok (.aload_n 0, 1) := by decide +kernel
theorem dX12_readGift_90 : decode cX12_readGift 90 = .ok (.iconst 1, 1) := by decide +kernel
theorem dX12_readGift_91 : decode cX12_readGift 91 = .ok (.invokevirtual 53, 3) := by decide +kernel
theorem dX12_readGift_94 : decode cX12_readGift 94 = .ok (.ireturn, 1) := by decide +kernel
theorem dX12_readGift_95 : decode cX12_readGift 95 = .ok (.aload_n 0, 1) := by decide +kernel
theorem dX12_readGift_96 : decode cX12_readGift 96 = .ok (.aload_n 0, 1) := by decide +kernel
theorem dX12_readGift_97 : decode cX12_readGift 97 = .ok (.getfield 267, 3) := by decide +kernel
theorem dX12_readGift_100 : decode cX12_readGift 100 = .ok (.aload_n 0, 1) := by decide +kernel
theorem dX12_readGift_101 : decode cX12_readGift 101 = .ok (.getfield 415, 3) := by decide +kernel
theorem dX12_readGift_104 : decode cX12_readGift 104 = .ok (.invokevirtual 75, 3) := by decide +kernel
theorem dX12_readGift_107 : decode cX12_readGift 107 = .ok (.istore 4, 2) := by decide +kernel
theorem dX12_readGift_109 : decode cX12_readGift 109 = .ok (.bipush 8, 2) := by decide +kernel
theorem dX12_readGift_111 : decode cX12_readGift 111 = .ok (.iload_n 2, 1) := by decide +kernel
theorem dX12_readGift_112 : decode cX12_readGift 112 = .ok (.imul, 1) := by decide +kernel
theorem dX12_readGift_113 : decode cX12_readGift 113 = .ok (.istore 5, 2) := by decide +kernel
theorem dX12_readGift_115 : decode cX12_readGift 115 = .ok (.iload 5, 2) := by decide +kernel
theorem dX12_readGift_117 : decode cX12_readGift 117 = .ok (.iload_n 3, 1) := by decide +kernel
theorem dX12_readGift_118 : decode cX12_readGift 118 = .ok (.if_icmp .ge 33, 3) := by decide +kernel
theorem dX12_readGift_121 : decode cX12_readGift 121 = .ok (.iload 4, 2) := by decide +kernel
theorem dX12_readGift_123 : decode cX12_readGift 123 = .ok (.iconst (-1), 1) := by decide +kernel
theorem dX12_readGift_124 : decode cX12_readGift 124 = .ok (.if_icmp .eq 21, 3) := by decide +kernel
theorem dX12_readGift_127 : decode cX12_readGift 127 = .ok (.aload_n 0, 1) := by decide +kernel
theorem dX12_readGift_128 : decode cX12_readGift 128 = .ok (.getfield 306, 3) := by decide +kernel
theorem dX12_readGift_131 : decode cX12_readGift 131 = .ok (.iload 5, 2) := by decide +kernel
theorem dX12_readGift_133 : decode cX12_readGift 133 = .ok (.iaload, 1) := by decide +kernel
theorem dX12_readGift_134 : decode cX12_readGift 134 = .ok (.iload 4, 2) := by decide +kernel
theorem dX12_readGift_136 : decode cX12_readGift 136 = .ok (.if_icmp .ne 9, 3) := by decide +kernel
theorem dX12_readGift_139 : decode cX12_readGift 139 = .ok (.aload_n 0, 1) := by decide +kernel
theorem dX12_readGift_140 : decode cX12_readGift 140 = .ok (.iconst 3, 1) := by decide +kernel
theorem dX12_readGift_141 : decode cX12_readGift 141 = .ok (.invokevirtual 53, 3) := by decide +kernel
theorem dX12_readGift_144 : decode cX12_readGift 144 = .ok (.ireturn, 1) := by decide +kernel
theorem dX12_readGift_145 : decode cX12_readGift 145 = .ok (.iinc 5 1, 3) := by decide +kernel
theorem dX12_readGift_148 : decode cX12_readGift 148 = .ok (.goto (-33), 3) := by decide +kernel
theorem dX12_readGift_151 : decode cX12_readGift 151 = .ok (.iload 4, 2) := by decide +kernel
theorem dX12_readGift_153 : decode cX12_readGift 153 = .ok (.iconst (-1), 1) := by decide +kernel
theorem dX12_readGift_154 : decode cX12_readGift 154 = .ok (.if_icmp .ne 9, 3) := by decide +kernel
theorem dX12_readGift_157 : decode cX12_readGift 157 = .ok (.aload_n 0, 1) := by decide +kernel
theorem dX12_readGift_158 : decode cX12_readGift 158 = .ok (.iconst 5, 1) := by decide +kernel
theorem dX12_readGift_159 : decode cX12_readGift 159 = .ok (.invokevirtual 53, 3) := by decide +kernel
theorem dX12_readGift_162 : decode cX12_readGift 162 = .ok (.ireturn, 1) := by decide +kernel
theorem dX12_readGift_163 : decode cX12_readGift 163 = .ok (.aload_n 0, 1) := by decide +kernel
theorem dX12_readGift_164 : decode cX12_readGift 164 = .ok (.getfield 306, 3) := by decide +kernel
theorem dX12_readGift_167 : decode cX12_readGift 167 = .ok (.iload_n 3, 1) := by decide +kernel
theorem dX12_readGift_168 : decode cX12_readGift 168 = .ok (.iload 4, 2) := by decide +kernel
theorem dX12_readGift_170 : decode cX12_readGift 170 = .ok (.iastore, 1) := by decide +kernel
theorem dX12_readGift_171 : decode cX12_readGift 171 = .ok (.aload_n 0, 1) := by decide +kernel
theorem dX12_readGift_172 : decode cX12_readGift 172 = .ok (.invokevirtual 56, 3) := by decide +kernel
theorem dX12_readGift_175 : decode cX12_readGift 175 = .ok (.aload_n 0, 1) := by decide +kernel
theorem dX12_readGift_176 : decode cX12_readGift 176 = .ok (.ldc_w 465, 3) := by decide +kernel
theorem dX12_readGift_179 : decode cX12_readGift 179 = .ok (.invokevirtual 467, 3) := by decide +kernel
theorem dX12_readGift_182 : decode cX12_readGift 182 = .ok (.ifCond .eq 18, 3) := by decide +kernel
theorem dX12_readGift_185 : decode cX12_readGift 185 = .ok (.aload_n 0, 1) := by decide +kernel
theorem dX12_readGift_186 : decode cX12_readGift 186 = .ok (.aload_n 0, 1) := by decide +kernel
theorem dX12_readGift_187 : decode cX12_readGift 187 = .ok (.getfield 264, 3) := by decide +kernel
theorem dX12_readGift_190 : decode cX12_readGift 190 = .ok (.aload_n 0, 1) := by decide +kernel
theorem dX12_readGift_191 : decode cX12_readGift 191 = .ok (.getfield 412, 3) := by decide +kernel
theorem dX12_readGift_194 : decode cX12_readGift 194 = .ok (.invokevirtual 164, 3) := by decide +kernel
theorem dX12_readGift_197 : decode cX12_readGift 197 = .ok (.ifCond .ne 5, 3) := by decide +kernel
theorem dX12_readGift_200 : decode cX12_readGift 200 = .ok (.iconst 0, 1) := by decide +kernel
theorem dX12_readGift_201 : decode cX12_readGift 201 = .ok (.ireturn, 1) := by decide +kernel
theorem dX12_readGift_202 : decode cX12_readGift 202 = .ok (.aload_n 0, 1) := by decide +kernel
theorem dX12_readGift_203 : decode cX12_readGift 203 = .ok (.getfield 312, 3) := by decide +kernel
theorem dX12_readGift_206 : decode cX12_readGift 206 = .ok (.iload_n 3, 1) := by decide +kernel
theorem dX12_readGift_207 : decode cX12_readGift 207 = .ok (.aload_n 0, 1) := by decide +kernel
theorem dX12_readGift_208 : decode cX12_readGift 208 = .ok (.getfield 64, 3) := by decide +kernel
theorem dX12_readGift_211 : decode cX12_readGift 211 = .ok (.iastore, 1) := by decide +kernel
theorem dX12_readGift_212 : decode cX12_readGift 212 = .ok (.aload_n 0, 1) := by decide +kernel
theorem dX12_readGift_213 : decode cX12_readGift 213 = .ok (.iload_n 3, 1) := by decide +kernel
theorem dX12_readGift_214 : decode cX12_readGift 214 = .ok (.invokevirtual 470, 3) := by decide +kernel
theorem dX12_readGift_217 : decode cX12_readGift 217 = .ok (.ifCond .ne 5, 3) := by decide +kernel
theorem dX12_readGift_220 : decode cX12_readGift 220 = .ok (.iconst 0, 1) := by decide +kernel
theorem dX12_readGift_221 : decode cX12_readGift 221 = .ok (.ireturn, 1) := by decide +kernel
theorem dX12_readGift_222 : decode cX12_readGift 222 = .ok (.aload_n 0, 1) := by decide +kernel
theorem dX12_readGift_223 : decode cX12_readGift 223 = .ok (.getfield 279, 3) := by decide +kernel
theorem dX12_readGift_226 : decode cX12_readGift 226 = .ok (.iload_n 2, 1) := by decide +kernel
theorem dX12_readGift_227 : decode cX12_readGift 227 = .ok (.dup2, 1) := by decide +kernel
theorem dX12_readGift_228 : decode cX12_readGift 228 = .ok (.iaload, 1) := by decide +kernel
theorem dX12_readGift_229 : decode cX12_readGift 229 = .ok (.iconst 1, 1) := by decide +kernel
theorem dX12_readGift_230 : decode cX12_readGift 230 = .ok (.iadd, 1) := by decide +kernel
theorem dX12_readGift_231 : decode cX12_readGift 231 = .ok (.iastore, 1) := by decide +kernel
theorem dX12_readGift_232 : decode cX12_readGift 232 = .ok (.iconst 1, 1) := by decide +kernel
theorem dX12_readGift_233 : decode cX12_readGift 233 = .ok (.ireturn, 1) := by decide +kernel
def X12_readGift_b175 (y2 : Int32) (y3 : Int32) (w : Wd) : Option (Int32 × Wd) :=
  cl (f_X12_expect 36 w) fun r12 w11 =>
  if r12 = 0 then
  (some (0, w11))
  else
  cl (f_X12_known 9 8 (w11.1 0 11) w11) fun r14 w13 =>
  if r14 = 0 then
  (some (0, w13))
  else
  if inb y3 32 = true then
  (lt (wI w13 34 (Int32.toNatClampNeg y3) (w13.1 0 7)) fun w15 =>
  cl (f_X12_readIf y3 w15) fun r17 w16 =>
  if r17 = 0 then
  (some (0, w16))
  else
  if inb y2 4 = true then
  (if inb y2 4 = true then
  (lt (wI w16 23 (Int32.toNatClampNeg y2) ((w16.1 23 (Int32.toNatClampNeg y2)) + 1)) fun w18 =>
  some (1, w18))
  else none)
  else none)
  else none
set_option maxRecDepth 100000 in
set_option maxHeartbeats 4000000 in
theorem t_X12_readGift_b175 {Z : Cz (Int32 × Wd)} (hZ : OKZ Z SM cX12_readGift RX12 6 (some .boolean) 7) (hE : EndI Z)  (y2 : Int32) (y3 : Int32)  (w : Wd) : BW Z 6 175 [(0, .ref (ph (zY Z) 0)), (2, .int y2), (3, .int y3)] [] w (X12_readGift_b175 y2 y3 w) :=
  bw_aload_n hZ 0 rfl dX12_readGift_175 <|
  bw_ldcSW hZ 81 rfl dX12_readGift_176 <|
  bw_callVI (As := [.ref (sK (zY Z) 36)]) hZ ml_RX12_467 rc_12 obM_0 (by decide) (c_X12_expect (zl Z) (zY Z) (hZ_S hZ) 36 (by decide) w) rfl rfl (Nat.le_of_ble_eq_true rfl) dX12_readGift_179 fun r12 w11 =>
  bw_if_eq hZ (tgt := 200) (by decide) dX12_readGift_182 (fun _ =>
  bw_iconst hZ 0 (by decide) dX12_readGift_200 <|
  bw_zret hZ hE (by decide) dX12_readGift_201) (fun _ =>
  bw_aload_n hZ 0 rfl dX12_readGift_185 <|
  bw_aload_n hZ 0 rfl dX12_readGift_186 <|
  bw_getR hZ fl_RX12_264 obM_0 rfl dX12_readGift_187 <|
  bw_aload_n hZ 0 rfl dX12_readGift_190 <|
  bw_getI hZ fl_RX12_412 (by decide) obM_0 dX12_readGift_191 <|
  bw_callVI (As := [.ref (ph (zY Z) 9), .int (w11.1 0 11)]) hZ ml_RX12_164 rc_12 obM_0 (by decide) (c_X12_known (zl Z) (zY Z) (hZ_S hZ) 9 8 (w11.1 0 11) arM_9 w11) rfl rfl (Nat.le_of_ble_eq_true rfl) dX12_readGift_194 fun r14 w13 =>
  bw_if_ne hZ (tgt := 202) (by decide) dX12_readGift_197 (fun _ =>
  bw_aload_n hZ 0 rfl dX12_readGift_202 <|
  bw_getR hZ fl_RX12_312 obM_0 rfl dX12_readGift_203 <|
  bw_iload_n hZ 2 rfl dX12_readGift_206 <|
  bw_aload_n hZ 0 rfl dX12_readGift_207 <|
  bw_getI hZ fl_RX12_64 (by decide) obM_0 dX12_readGift_208 <|
  bw_iast hZ (arM_34 _) dX12_readGift_211 fun w15 =>
  bw_aload_n hZ 0 rfl dX12_readGift_212 <|
  bw_iload_n hZ 2 rfl dX12_readGift_213 <|
  bw_callVI (As := [.int y3]) hZ ml_RX12_470 rc_12 obM_0 (by decide) (c_X12_readIf (zl Z) (zY Z) (hZ_S hZ) y3 w15) rfl rfl (Nat.le_of_ble_eq_true rfl) dX12_readGift_214 fun r17 w16 =>
  bw_if_ne hZ (tgt := 222) (by decide) dX12_readGift_217 (fun _ =>
  bw_aload_n hZ 0 rfl dX12_readGift_222 <|
  bw_getR hZ fl_RX12_279 obM_0 rfl dX12_readGift_223 <|
  bw_iload_n hZ 1 rfl dX12_readGift_226 <|
  bw_dup2 hZ rfl rfl dX12_readGift_227 <|
  bw_iald hZ (arM_23 _) dX12_readGift_228 <|
  bw_iconst hZ 1 (by decide) dX12_readGift_229 <|
  bw_iadd hZ dX12_readGift_230 <|
  bw_iast hZ (arM_23 _) dX12_readGift_231 fun w18 =>
  bw_iconst hZ 1 (by decide) dX12_readGift_232 <|
  bw_zret hZ hE (by decide) dX12_readGift_233) (fun _ =>
  bw_iconst hZ 0 (by decide) dX12_readGift_220 <|
  bw_zret hZ hE (by decide) dX12_readGift_221)) (fun _ =>
  bw_iconst hZ 0 (by decide) dX12_readGift_200 <|
  bw_zret hZ hE (by decide) dX12_readGift_201))
def X12_readGift_b115 (k115 : Int32 → Int32 → Int32 → Int32 → Wd → Option (Int32 × Wd)) (y2 : Int32) (y3 : Int32) (y4 : Int32) (y5 : Int32) (w : Wd) : Option (Int32 × Wd) :=
  if y3 ≤ y5 then
  (if y4 = ((-1)) then
  (cl (f_X12_bad 5 w) fun r20 w19 =>
  if isB r20 = true then some (r20, w19) else none)
  else
  if inb y3 32 = true then
  (lt (wI w 32 (Int32.toNatClampNeg y3) y4) fun w9 =>
  cv (f_X12_scan w9) fun w10 =>
  X12_readGift_b175 y2 y3 w10)
  else none)
  else
  if y4 = ((-1)) then
  (k115 y2 y3 y4 (y5 + 1) w)
  else
  if inb y5 32 = true then
  (if (w.1 32 (Int32.toNatClampNeg y5)) = y4 then
  (cl (f_X12_bad 3 w) fun r22 w21 =>
  if isB r22 = true then some (r22, w21) else none)
  else
  k115 y2 y3 y4 (y5 + 1) w)
  else none
set_option maxRecDepth 100000 in
set_option maxHeartbeats 4000000 in
theorem t_X12_readGift_b115 {Z : Cz (Int32 × Wd)} (hZ : OKZ Z SM cX12_readGift RX12 6 (some .boolean) 7) (hE : EndI Z) (k115 : Int32 → Int32 → Int32 → Int32 → Wd → Option (Int32 × Wd)) (hk115 : ∀ (y2 : Int32) (y3 : Int32) (y4 : Int32) (y5 : Int32)  (w : Wd), BW Z 6 115 [(0, .ref (ph (zY Z) 0)), (2, .int y2), (3, .int y3), (4, .int y4), (5, .int y5)] [] w (k115 y2 y3 y4 y5 w)) (y2 : Int32) (y3 : Int32) (y4 : Int32) (y5 : Int32)  (w : Wd) : BW Z 6 115 [(0, .ref (ph (zY Z) 0)), (2, .int y2), (3, .int y3), (4, .int y4), (5, .int y5)] [] w (X12_readGift_b115 k115 y2 y3 y4 y5 w) :=
  bw_iload hZ 4 rfl dX12_readGift_115 <|
  bw_iload_n hZ 2 rfl dX12_readGift_117 <|
  bw_icmp_ge hZ (tgt := 151) (by decide) dX12_readGift_118 (fun _ =>
  bw_iload hZ 3 rfl dX12_readGift_151 <|
  bw_iconst hZ (-1) (by decide) dX12_readGift_153 <|
  bw_icmp_ne hZ (tgt := 163) (by decide) dX12_readGift_154 (fun _ =>
  bw_aload_n hZ 0 rfl dX12_readGift_163 <|
  bw_getR hZ fl_RX12_306 obM_0 rfl dX12_readGift_164 <|
  bw_iload_n hZ 2 rfl dX12_readGift_167 <|
  bw_iload hZ 3 rfl dX12_readGift_168 <|
  bw_iast hZ (arM_32 _) dX12_readGift_170 fun w9 =>
  bw_aload_n hZ 0 rfl dX12_readGift_171 <|
  bw_callVV (As := []) hZ ml_RX12_56 rc_12 obM_0 (by decide) (c_X12_scan (zl Z) (zY Z) (hZ_S hZ) w9) rfl rfl (Nat.le_of_ble_eq_true rfl) dX12_readGift_172 fun w10 =>
  bw_sub [0, 1, 2] rfl (t_X12_readGift_b175 hZ hE y2 y3 w10)) (fun _ =>
  bw_aload_n hZ 0 rfl dX12_readGift_157 <|
  bw_iconst hZ 5 (by decide) dX12_readGift_158 <|
  bw_callVI (As := [.int 5]) hZ ml_RX12_53 rc_12 obM_0 (by decide) (c_X12_bad (zl Z) (zY Z) (hZ_S hZ) 5 w) rfl rfl (Nat.le_of_ble_eq_true rfl) dX12_readGift_159 fun r20 w19 =>
  bw_zretC hZ hE dX12_readGift_162)) (fun _ =>
  bw_iload hZ 3 rfl dX12_readGift_121 <|
  bw_iconst hZ (-1) (by decide) dX12_readGift_123 <|
  bw_icmp_eq hZ (tgt := 145) (by decide) dX12_readGift_124 (fun _ =>
  bw_iinc hZ 1 4 rfl (by decide) (by decide) rfl dX12_readGift_145 <|
  bw_goto hZ (tgt := 115) (by decide) dX12_readGift_148 <|
  bw_sub [1, 2, 3, 4, 0] rfl (hk115 y2 y3 y4 (y5 + 1) w)) (fun _ =>
  bw_aload_n hZ 0 rfl dX12_readGift_127 <|
  bw_getR hZ fl_RX12_306 obM_0 rfl dX12_readGift_128 <|
  bw_iload hZ 4 rfl dX12_readGift_131 <|
  bw_iald hZ (arM_32 _) dX12_readGift_133 <|
  bw_iload hZ 3 rfl dX12_readGift_134 <|
  bw_icmp_ne hZ (tgt := 145) (by decide) dX12_readGift_136 (fun _ =>
  bw_iinc hZ 1 4 rfl (by decide) (by decide) rfl dX12_readGift_145 <|
  bw_goto hZ (tgt := 115) (by decide) dX12_readGift_148 <|
  bw_sub [1, 2, 3, 4, 0] rfl (hk115 y2 y3 y4 (y5 + 1) w)) (fun _ =>
  bw_aload_n hZ 0 rfl dX12_readGift_139 <|
  bw_iconst hZ 3 (by decide) dX12_readGift_140 <|
  bw_callVI (As := [.int 3]) hZ ml_RX12_53 rc_12 obM_0 (by decide) (c_X12_bad (zl Z) (zY Z) (hZ_S hZ) 3 w) rfl rfl (Nat.le_of_ble_eq_true rfl) dX12_readGift_141 fun r22 w21 =>
  bw_zretC hZ hE dX12_readGift_144)))
def X12_readGift_b115_L  : Int32 → Int32 → Int32 → Int32 → Wd → Option (Int32 × Wd) :=
  lp fu (fun _ _ _ _ _ => none) (fun k115 => X12_readGift_b115 k115)
theorem t_X12_readGift_b115_L {Z : Cz (Int32 × Wd)} (hZ : OKZ Z SM cX12_readGift RX12 6 (some .boolean) 7) (hE : EndI Z)  : ∀ (y2 : Int32) (y3 : Int32) (y4 : Int32) (y5 : Int32)  (w : Wd), BW Z 6 115 [(0, .ref (ph (zY Z) 0)), (2, .int y2), (3, .int y3), (4, .int y4), (5, .int y5)] [] w (X12_readGift_b115_L y2 y3 y4 y5 w) :=
  lp_bw (fun k115 => ∀ (y2 : Int32) (y3 : Int32) (y4 : Int32) (y5 : Int32)  (w : Wd), BW Z 6 115 [(0, .ref (ph (zY Z) 0)), (2, .int y2), (3, .int y3), (4, .int y4), (5, .int y5)] [] w (k115 y2 y3 y4 y5 w)) (fun _ _ _ _ _ => bw_none) (fun k115 hk115 y2 y3 y4 y5 w => t_X12_readGift_b115 hZ hE k115 hk115 y2 y3 y4 y5 w) fu
def f_X12_readGift (x1 : Int32) (w : Wd) : Option (Int32 × Wd) :=
  lt (w.1 0 49) fun v1 =>
  if inb v1 4 = true then
  (if (w.1 23 (Int32.toNatClampNeg v1)) = 8 then
  (cl (f_X12_bad 4 w) fun r29 w28 =>
  if isB r29 = true then some (r29, w28) else none)
  else
  if inb v1 4 = true then
  (lt ((8 * v1) + (w.1 23 (Int32.toNatClampNeg v1))) fun v2 =>
  cv (f_X12_scan w) fun w3 =>
  if inb v2 32 = true then
  (lt (wI w3 32 (Int32.toNatClampNeg v2) ((-1))) fun w4 =>
  if inb v2 32 = true then
  (lt (wI w4 33 (Int32.toNatClampNeg v2) 0) fun w5 =>
  if x1 = 0 then
  (if (w5.1 0 5) = 1 then
  (cl (f_X12_find 10 8 (w5.1 0 12) w5) fun r7 w6 =>
  lt (8 * v1) fun v8 =>
  X12_readGift_b115_L v1 v2 r7 v8 w6)
  else
  cl (f_X12_bad 1 w5) fun r24 w23 =>
  if isB r24 = true then some (r24, w23) else none)
  else
  cl (f_X12_number 1 99999 w5) fun r26 w25 =>
  if r26 = 0 then
  (some (0, w25))
  else
  if inb v2 32 = true then
  (lt (wI w25 33 (Int32.toNatClampNeg v2) (w25.1 0 7)) fun w27 =>
  X12_readGift_b175 v1 v2 w27)
  else none)
  else none)
  else none)
  else none)
  else none
set_option maxRecDepth 100000 in
set_option maxHeartbeats 4000000 in
theorem t_X12_readGift {Z : Cz (Int32 × Wd)} (hZ : OKZ Z SM cX12_readGift RX12 6 (some .boolean) 7) (hE : EndI Z) (x1 : Int32)  (w : Wd) : BW Z 6 0 [(0, .ref (ph (zY Z) 0)), (1, .int x1)] [] w (f_X12_readGift x1 w) :=
  bw_aload_n hZ 0 rfl dX12_readGift_0 <|
  bw_getI hZ fl_RX12_431 (by decide) obM_0 dX12_readGift_1 <|
  bw_nm fun v1 =>
  bw_istore_n hZ rfl (by decide) rfl dX12_readGift_4 <|
  bw_aload_n hZ 1 rfl dX12_readGift_5 <|
  bw_getR hZ fl_RX12_279 obM_0 rfl dX12_readGift_6 <|
  bw_iload_n hZ 0 rfl dX12_readGift_9 <|
  bw_iald hZ (arM_23 _) dX12_readGift_10 <|
  bw_bipush hZ 8 (by decide) dX12_readGift_11 <|
  bw_icmp_ne hZ (tgt := 22) (by decide) dX12_readGift_13 (fun _ =>
  bw_bipush hZ 8 (by decide) dX12_readGift_22 <|
  bw_iload_n hZ 0 rfl dX12_readGift_24 <|
  bw_imul hZ dX12_readGift_25 <|
  bw_aload_n hZ 1 rfl dX12_readGift_26 <|
  bw_getR hZ fl_RX12_279 obM_0 rfl dX12_readGift_27 <|
  bw_iload_n hZ 0 rfl dX12_readGift_30 <|
  bw_iald hZ (arM_23 _) dX12_readGift_31 <|
  bw_iadd hZ dX12_readGift_32 <|
  bw_nm fun v2 =>
  bw_istore_n hZ rfl (by decide) rfl dX12_readGift_33 <|
  bw_aload_n hZ 2 rfl dX12_readGift_34 <|
  bw_callVV (As := []) hZ ml_RX12_56 rc_12 obM_0 (by decide) (c_X12_scan (zl Z) (zY Z) (hZ_S hZ) w) rfl rfl (Nat.le_of_ble_eq_true rfl) dX12_readGift_35 fun w3 =>
  bw_aload_n hZ 2 rfl dX12_readGift_38 <|
  bw_getR hZ fl_RX12_306 obM_0 rfl dX12_readGift_39 <|
  bw_iload_n hZ 0 rfl dX12_readGift_42 <|
  bw_iconst hZ (-1) (by decide) dX12_readGift_43 <|
  bw_iast hZ (arM_32 _) dX12_readGift_44 fun w4 =>
  bw_aload_n hZ 2 rfl dX12_readGift_45 <|
  bw_getR hZ fl_RX12_309 obM_0 rfl dX12_readGift_46 <|
  bw_iload_n hZ 0 rfl dX12_readGift_49 <|
  bw_iconst hZ 0 (by decide) dX12_readGift_50 <|
  bw_iast hZ (arM_33 _) dX12_readGift_51 fun w5 =>
  bw_iload_n hZ 3 rfl dX12_readGift_52 <|
  bw_if_eq hZ (tgt := 81) (by decide) dX12_readGift_53 (fun _ =>
  bw_aload_n hZ 2 rfl dX12_readGift_81 <|
  bw_getI hZ fl_RX12_27 (by decide) obM_0 dX12_readGift_82 <|
  bw_iconst hZ 1 (by decide) dX12_readGift_85 <|
  bw_icmp_eq hZ (tgt := 95) (by decide) dX12_readGift_86 (fun _ =>
  bw_aload_n hZ 2 rfl dX12_readGift_95 <|
  bw_aload_n hZ 2 rfl dX12_readGift_96 <|
  bw_getR hZ fl_RX12_267 obM_0 rfl dX12_readGift_97 <|
  bw_aload_n hZ 2 rfl dX12_readGift_100 <|
  bw_getI hZ fl_RX12_415 (by decide) obM_0 dX12_readGift_101 <|
  bw_callVI (As := [.ref (ph (zY Z) 10), .int (w5.1 0 12)]) hZ ml_RX12_75 rc_12 obM_0 (by decide) (c_X12_find (zl Z) (zY Z) (hZ_S hZ) 10 8 (w5.1 0 12) arM_10 w5) rfl rfl (Nat.le_of_ble_eq_true rfl) dX12_readGift_104 fun r7 w6 =>
  bw_istore hZ (by decide) rfl dX12_readGift_107 <|
  bw_bipush hZ 8 (by decide) dX12_readGift_109 <|
  bw_iload_n hZ 2 rfl dX12_readGift_111 <|
  bw_imul hZ dX12_readGift_112 <|
  bw_nm fun v8 =>
  bw_istore hZ (by decide) rfl dX12_readGift_113 <|
  bw_sub [4, 3, 2, 1, 0] rfl (t_X12_readGift_b115_L hZ hE v1 v2 r7 v8 w6)) (fun _ =>
  bw_aload_n hZ 2 rfl dX12_readGift_89 <|
  bw_iconst hZ 1 (by decide) dX12_readGift_90 <|
  bw_callVI (As := [.int 1]) hZ ml_RX12_53 rc_12 obM_0 (by decide) (c_X12_bad (zl Z) (zY Z) (hZ_S hZ) 1 w5) rfl rfl (Nat.le_of_ble_eq_true rfl) dX12_readGift_91 fun r24 w23 =>
  bw_zretC hZ hE dX12_readGift_94)) (fun _ =>
  bw_aload_n hZ 2 rfl dX12_readGift_56 <|
  bw_iconst hZ 1 (by decide) dX12_readGift_57 <|
  bw_ldc hZ kk_RX12_198 dX12_readGift_58 <|
  bw_callVI (As := [.int 1, .int 99999]) hZ ml_RX12_119 rc_12 obM_0 (by decide) (c_X12_number (zl Z) (zY Z) (hZ_S hZ) 1 99999 w5) rfl rfl (Nat.le_of_ble_eq_true rfl) dX12_readGift_60 fun r26 w25 =>
  bw_if_ne hZ (tgt := 68) (by decide) dX12_readGift_63 (fun _ =>
  bw_aload_n hZ 2 rfl dX12_readGift_68 <|
  bw_getR hZ fl_RX12_309 obM_0 rfl dX12_readGift_69 <|
  bw_iload_n hZ 0 rfl dX12_readGift_72 <|
  bw_aload_n hZ 2 rfl dX12_readGift_73 <|
  bw_getI hZ fl_RX12_64 (by decide) obM_0 dX12_readGift_74 <|
  bw_iast hZ (arM_33 _) dX12_readGift_77 fun w27 =>
  bw_goto hZ (tgt := 175) (by decide) dX12_readGift_78 <|
  bw_sub [2, 1, 0] rfl (t_X12_readGift_b175 hZ hE v1 v2 w27)) (fun _ =>
  bw_iconst hZ 0 (by decide) dX12_readGift_66 <|
  bw_zret hZ hE (by decide) dX12_readGift_67))) (fun _ =>
  bw_aload_n hZ 1 rfl dX12_readGift_16 <|
  bw_iconst hZ 4 (by decide) dX12_readGift_17 <|
  bw_callVI (As := [.int 4]) hZ ml_RX12_53 rc_12 obM_0 (by decide) (c_X12_bad (zl Z) (zY Z) (hZ_S hZ) 4 w) rfl rfl (Nat.le_of_ble_eq_true rfl) dX12_readGift_18 fun r29 w28 =>
  bw_zretC hZ hE dX12_readGift_21)
theorem c_X12_readGift (l : Launch) (Y : Ev) (hY : Y.1 = SM) (x1 : Int32)  (w : Wd) : CI l Y yX12_readGift cX12_readGift 6 7 [.ref (ph Y 0), .int x1] w .boolean (f_X12_readGift x1 w) := by
  refine CI_of (S := SM) (by decide) (Nat.le_of_ble_eq_true rfl) hY ?_
  intro Z hl hY2 hZ hE
  subst hY2
  exact t_X12_readGift hZ hE x1 w
-- WhichWillModel.readHeir
theorem dX12_readHeir_0 : decode cX12_readHeir 0 = .ok (.aload_n 0, 1) := by decide +kernel
theorem dX12_readHeir_1 : decode cX12_readHeir 1 = .ok (.getfield 431, 3) := by decide +kernel
theorem dX12_readHeir_4 : decode cX12_readHeir 4 = .ok (.istore_n 1, 1) := by decide +kernel
theorem dX12_readHeir_5 : decode cX12_readHeir 5 = .ok (.aload_n 0, 1) := by decide +kernel
theorem dX12_readHeir_6 : decode cX12_readHeir 6 = .ok (.getfield 27, 3) := by decide +kernel
theorem dX12_readHeir_9 : decode cX12_readHeir 9 = .ok (.iconst 1, 1) := by decide +kernel
theorem dX12_readHeir_10 : decode cX12_readHeir 10 = .ok (.if_icmp .eq 9, 3) := by decide +kernel
theorem dX12_readHeir_13 : decode cX12_readHeir 13 = .ok (.aload_n 0, 1) := by decide +kernel
theorem dX12_readHeir_14 : decode cX12_readHeir 14 = .ok (.iconst 1, 1) := by decide +kernel
theorem dX12_readHeir_15 : decode cX12_readHeir 15 = .ok (.invokevirtual 53, 3) := by decide +kernel
theorem dX12_readHeir_18 : decode cX12_readHeir 18 = .ok (.ireturn, 1) := by decide +kernel
theorem dX12_readHeir_19 : decode cX12_readHeir 19 = .ok (.aload_n 0, 1) := by decide +kernel
theorem dX12_readHeir_20 : decode cX12_readHeir 20 = .ok (.aload_n 0, 1) := by decide +kernel
theorem dX12_readHeir_21 : decode cX12_readHeir 21 = .ok (.getfield 264, 3) := by decide +kernel
theorem dX12_readHeir_24 : decode cX12_readHeir 24 = .ok (.aload_n 0, 1) := by decide +kernel
theorem dX12_readHeir_25 : decode cX12_readHeir 25 = .ok (.getfield 412, 3) := by decide +kernel
theorem dX12_readHeir_28 : decode cX12_readHeir 28 = .ok (.invokevirtual 75, 3) := by decide +kernel
theorem dX12_readHeir_31 : decode cX12_readHeir 31 = .ok (.istore_n 2, 1) := by decide +kernel
theorem dX12_readHeir_32 : decode cX12_readHeir 32 = .ok (.iconst 0, 1) := by decide +kernel
theorem dX12_readHeir_33 : decode cX12_readHeir 33 = .ok (.istore_n 3, 1) := by decide +kernel
theorem dX12_readHeir_34 : decode cX12_readHeir 34 = .ok (.iload_n 3, 1) := by decide +kernel
theorem dX12_readHeir_35 : decode cX12_readHeir 35 = .ok (.aload_n 0, 1) := by decide +kernel
theorem dX12_readHeir_36 : decode cX12_readHeir 36 = .ok (.getfield 282, 3) := by decide +kernel
theorem dX12_readHeir_39 : decode cX12_readHeir 39 = .ok (.iload_n 1, 1) := by decide +kernel
theorem dX12_readHeir_40 : decode cX12_readHeir 40 = .ok (.iaload, 1) := by decide +kernel
theorem dX12_readHeir_41 : decode cX12_readHeir 41 = .ok (.if_icmp .ge 34, 3) := by decide +kernel
theorem dX12_readHeir_44 : decode cX12_readHeir 44 = .ok (.iload_n 2, 1) := by decide +kernel
theorem dX12_readHeir_45 : decode cX12_readHeir 45 = .ok (.iconst (-1), 1) := by decide +kernel
theorem dX12_readHeir_46 : decode cX12_readHeir 46 = .ok (.if_icmp .eq 23, 3) := by decide +kernel
theorem dX12_readHeir_49 : decode cX12_readHeir 49 = .ok (.aload_n 0, 1) := by decide +kernel
theorem dX12_readHeir_50 : decode cX12_readHeir 50 = .ok (.getfield 318, 3) := by decide +kernel
theorem dX12_readHeir_53 : decode cX12_readHeir 53 = .ok (.iconst 4, 1) := by decide +kernel
theorem dX12_readHeir_54 : decode cX12_readHeir 54 = .ok (.iload_n 1, 1) := by decide +kernel
theorem dX12_readHeir_55 : decode cX12_readHeir 55 = .ok (.imul, 1) := by decide +kernel
theorem dX12_readHeir_56 : decode cX12_readHeir 56 = .ok (.iload_n 3, 1) := by decide +kernel
theorem dX12_readHeir_57 : decode cX12_readHeir 57 = .ok (.iadd, 1) := by decide +kernel
theorem dX12_readHeir_58 : decode cX12_readHeir 58 = .ok (.iaload, 1) := by decide +kernel
theorem dX12_readHeir_59 : decode cX12_readHeir 59 = .ok (.iload_n 2, 1) := by decide +kernel
theorem dX12_readHeir_60 : decode cX12_readHeir 60 = .ok (.if_icmp .ne 9, 3) := by decide +kernel
theorem dX12_readHeir_63 : decode cX12_readHeir 63 = .ok (.aload_n 0, 1) := by decide +kernel
theorem dX12_readHeir_64 : decode cX12_readHeir 64 = .ok (.iconst 3, 1) := by decide +kernel
theorem dX12_readHeir_65 : decode cX12_readHeir 65 = .ok (.invokevirtual 53, 3) := by decide +kernel
theorem dX12_readHeir_68 : decode cX12_readHeir 68 = .ok (.ireturn, 1) := by decide +kernel
theorem dX12_readHeir_69 : decode cX12_readHeir 69 = .ok (.iinc 3 1, 3) := by decide +kernel
theorem dX12_readHeir_72 : decode cX12_readHeir 72 = .ok (.goto (-38), 3) := by decide +kernel
theorem dX12_readHeir_75 : decode cX12_readHeir 75 = .ok (.iload_n 2, 1) := by decide +kernel
theorem dX12_readHeir_76 : decode cX12_readHeir 76 = .ok (.iconst (-1), 1) := by decide +kernel
theorem dX12_readHeir_77 : decode cX12_readHeir 77 = .ok (.if_icmp .ne 9, 3) := by decide +kernel
theorem dX12_readHeir_80 : decode cX12_readHeir 80 = .ok (.aload_n 0, 1) := by decide +kernel
theorem dX12_readHeir_81 : decode cX12_readHeir 81 = .ok (.iconst 5, 1) := by decide +kernel
theorem dX12_readHeir_82 : decode cX12_readHeir 82 = .ok (.invokevirtual 53, 3) := by decide +kernel
theorem dX12_readHeir_85 : decode cX12_readHeir 85 = .ok (.ireturn, 1) := by decide +kernel
theorem dX12_readHeir_86 : decode cX12_readHeir 86 = .ok (.aload_n 0, 1) := by decide +kernel
theorem dX12_readHeir_87 : decode cX12_readHeir 87 = .ok (.getfield 318, 3) := by decide +kernel
theorem dX12_readHeir_90 : decode cX12_readHeir 90 = .ok (.iconst 4, 1) := by decide +kernel
theorem dX12_readHeir_91 : decode cX12_readHeir 91 = .ok (.iload_n 1, 1) := by decide +kernel
theorem dX12_readHeir_92 : decode cX12_readHeir 92 = .ok (.imul, 1) := by decide +kernel
theorem dX12_readHeir_93 : decode cX12_readHeir 93 = .ok (.aload_n 0, 1) := by decide +kernel
theorem dX12_readHeir_94 : decode cX12_readHeir 94 = .ok (.getfield 282, 3) := by decide +kernel
theorem dX12_readHeir_97 : decode cX12_readHeir 97 = .ok (.iload_n 1, 1) := by decide +kernel
theorem dX12_readHeir_98 : decode cX12_readHeir 98 = .ok (.iaload, 1) := by decide +kernel
theorem dX12_readHeir_99 : decode cX12_readHeir 99 = .ok (.iadd, 1) := by decide +kernel
theorem dX12_readHeir_100 : decode cX12_readHeir 100 = .ok (.iload_n 2, 1) := by decide +kernel
theorem dX12_readHeir_101 : decode cX12_readHeir 101 = .ok (.iastore, 1) := by decide +kernel
theorem dX12_readHeir_102 : decode cX12_readHeir 102 = .ok (.aload_n 0, 1) := by decide +kernel
theorem dX12_readHeir_103 : decode cX12_readHeir 103 = .ok (.getfield 282, 3) := by decide +kernel
theorem dX12_readHeir_106 : decode cX12_readHeir 106 = .ok (.iload_n 1, 1) := by decide +kernel
theorem dX12_readHeir_107 : decode cX12_readHeir 107 = .ok (.dup2, 1) := by decide +kernel
theorem dX12_readHeir_108 : decode cX12_readHeir 108 = .ok (.iaload, 1) := by decide +kernel
theorem dX12_readHeir_109 : decode cX12_readHeir 109 = .ok (.iconst 1, 1) := by decide +kernel
theorem dX12_readHeir_110 : decode cX12_readHeir 110 = .ok (.iadd, 1) := by decide +kernel
theorem dX12_readHeir_111 : decode cX12_readHeir 111 = .ok (.iastore, 1) := by decide +kernel
theorem dX12_readHeir_112 : decode cX12_readHeir 112 = .ok (.aload_n 0, 1) := by decide +kernel
theorem dX12_readHeir_113 : decode cX12_readHeir 113 = .ok (.invokevirtual 56, 3) := by decide +kernel
theorem dX12_readHeir_116 : decode cX12_readHeir 116 = .ok (.iconst 1, 1) := by decide +kernel
theorem dX12_readHeir_117 : decode cX12_readHeir 117 = .ok (.ireturn, 1) := by decide +kernel
def X12_readHeir_b34 (k34 : Int32 → Int32 → Int32 → Wd → Option (Int32 × Wd)) (y1 : Int32) (y2 : Int32) (y3 : Int32) (w : Wd) : Option (Int32 × Wd) :=
  if inb y1 4 = true then
  (if (w.1 24 (Int32.toNatClampNeg y1)) ≤ y3 then
  (if y2 = ((-1)) then
  (cl (f_X12_bad 5 w) fun r8 w7 =>
  if isB r8 = true then some (r8, w7) else none)
  else
  if inb y1 4 = true then
  (if inb ((4 * y1) + (w.1 24 (Int32.toNatClampNeg y1))) 16 = true then
  (lt (wI w 36 (Int32.toNatClampNeg ((4 * y1) + (w.1 24 (Int32.toNatClampNeg y1)))) y2) fun w4 =>
  if inb y1 4 = true then
  (if inb y1 4 = true then
  (lt (wI w4 24 (Int32.toNatClampNeg y1) ((w4.1 24 (Int32.toNatClampNeg y1)) + 1)) fun w5 =>
  cv (f_X12_scan w5) fun w6 =>
  some (1, w6))
  else none)
  else none)
  else none)
  else none)
  else
  if y2 = ((-1)) then
  (k34 y1 y2 (y3 + 1) w)
  else
  if inb ((4 * y1) + y3) 16 = true then
  (if (w.1 36 (Int32.toNatClampNeg ((4 * y1) + y3))) = y2 then
  (cl (f_X12_bad 3 w) fun r10 w9 =>
  if isB r10 = true then some (r10, w9) else none)
  else
  k34 y1 y2 (y3 + 1) w)
  else none)
  else none
set_option maxRecDepth 100000 in
set_option maxHeartbeats 4000000 in
theorem t_X12_readHeir_b34 {Z : Cz (Int32 × Wd)} (hZ : OKZ Z SM cX12_readHeir RX12 4 (some .boolean) 4) (hE : EndI Z) (k34 : Int32 → Int32 → Int32 → Wd → Option (Int32 × Wd)) (hk34 : ∀ (y1 : Int32) (y2 : Int32) (y3 : Int32)  (w : Wd), BW Z 4 34 [(0, .ref (ph (zY Z) 0)), (1, .int y1), (2, .int y2), (3, .int y3)] [] w (k34 y1 y2 y3 w)) (y1 : Int32) (y2 : Int32) (y3 : Int32)  (w : Wd) : BW Z 4 34 [(0, .ref (ph (zY Z) 0)), (1, .int y1), (2, .int y2), (3, .int y3)] [] w (X12_readHeir_b34 k34 y1 y2 y3 w) :=
  bw_iload_n hZ 3 rfl dX12_readHeir_34 <|
  bw_aload_n hZ 0 rfl dX12_readHeir_35 <|
  bw_getR hZ fl_RX12_282 obM_0 rfl dX12_readHeir_36 <|
  bw_iload_n hZ 1 rfl dX12_readHeir_39 <|
  bw_iald hZ (arM_24 _) dX12_readHeir_40 <|
  bw_icmp_ge hZ (tgt := 75) (by decide) dX12_readHeir_41 (fun _ =>
  bw_iload_n hZ 2 rfl dX12_readHeir_75 <|
  bw_iconst hZ (-1) (by decide) dX12_readHeir_76 <|
  bw_icmp_ne hZ (tgt := 86) (by decide) dX12_readHeir_77 (fun _ =>
  bw_aload_n hZ 0 rfl dX12_readHeir_86 <|
  bw_getR hZ fl_RX12_318 obM_0 rfl dX12_readHeir_87 <|
  bw_iconst hZ 4 (by decide) dX12_readHeir_90 <|
  bw_iload_n hZ 1 rfl dX12_readHeir_91 <|
  bw_imul hZ dX12_readHeir_92 <|
  bw_aload_n hZ 0 rfl dX12_readHeir_93 <|
  bw_getR hZ fl_RX12_282 obM_0 rfl dX12_readHeir_94 <|
  bw_iload_n hZ 1 rfl dX12_readHeir_97 <|
  bw_iald hZ (arM_24 _) dX12_readHeir_98 <|
  bw_iadd hZ dX12_readHeir_99 <|
  bw_iload_n hZ 2 rfl dX12_readHeir_100 <|
  bw_iast hZ (arM_36 _) dX12_readHeir_101 fun w4 =>
  bw_aload_n hZ 0 rfl dX12_readHeir_102 <|
  bw_getR hZ fl_RX12_282 obM_0 rfl dX12_readHeir_103 <|
  bw_iload_n hZ 1 rfl dX12_readHeir_106 <|
  bw_dup2 hZ rfl rfl dX12_readHeir_107 <|
  bw_iald hZ (arM_24 _) dX12_readHeir_108 <|
  bw_iconst hZ 1 (by decide) dX12_readHeir_109 <|
  bw_iadd hZ dX12_readHeir_110 <|
  bw_iast hZ (arM_24 _) dX12_readHeir_111 fun w5 =>
  bw_aload_n hZ 0 rfl dX12_readHeir_112 <|
  bw_callVV (As := []) hZ ml_RX12_56 rc_12 obM_0 (by decide) (c_X12_scan (zl Z) (zY Z) (hZ_S hZ) w5) rfl rfl (Nat.le_of_ble_eq_true rfl) dX12_readHeir_113 fun w6 =>
  bw_iconst hZ 1 (by decide) dX12_readHeir_116 <|
  bw_zret hZ hE (by decide) dX12_readHeir_117) (fun _ =>
  bw_aload_n hZ 0 rfl dX12_readHeir_80 <|
  bw_iconst hZ 5 (by decide) dX12_readHeir_81 <|
  bw_callVI (As := [.int 5]) hZ ml_RX12_53 rc_12 obM_0 (by decide) (c_X12_bad (zl Z) (zY Z) (hZ_S hZ) 5 w) rfl rfl (Nat.le_of_ble_eq_true rfl) dX12_readHeir_82 fun r8 w7 =>
  bw_zretC hZ hE dX12_readHeir_85)) (fun _ =>
  bw_iload_n hZ 2 rfl dX12_readHeir_44 <|
  bw_iconst hZ (-1) (by decide) dX12_readHeir_45 <|
  bw_icmp_eq hZ (tgt := 69) (by decide) dX12_readHeir_46 (fun _ =>
  bw_iinc hZ 1 3 rfl (by decide) (by decide) rfl dX12_readHeir_69 <|
  bw_goto hZ (tgt := 34) (by decide) dX12_readHeir_72 <|
  bw_sub [1, 2, 3, 0] rfl (hk34 y1 y2 (y3 + 1) w)) (fun _ =>
  bw_aload_n hZ 0 rfl dX12_readHeir_49 <|
  bw_getR hZ fl_RX12_318 obM_0 rfl dX12_readHeir_50 <|
  bw_iconst hZ 4 (by decide) dX12_readHeir_53 <|
  bw_iload_n hZ 1 rfl dX12_readHeir_54 <|
  bw_imul hZ dX12_readHeir_55 <|
  bw_iload_n hZ 3 rfl dX12_readHeir_56 <|
  bw_iadd hZ dX12_readHeir_57 <|
  bw_iald hZ (arM_36 _) dX12_readHeir_58 <|
  bw_iload_n hZ 2 rfl dX12_readHeir_59 <|
  bw_icmp_ne hZ (tgt := 69) (by decide) dX12_readHeir_60 (fun _ =>
  bw_iinc hZ 1 3 rfl (by decide) (by decide) rfl dX12_readHeir_69 <|
  bw_goto hZ (tgt := 34) (by decide) dX12_readHeir_72 <|
  bw_sub [1, 2, 3, 0] rfl (hk34 y1 y2 (y3 + 1) w)) (fun _ =>
  bw_aload_n hZ 0 rfl dX12_readHeir_63 <|
  bw_iconst hZ 3 (by decide) dX12_readHeir_64 <|
  bw_callVI (As := [.int 3]) hZ ml_RX12_53 rc_12 obM_0 (by decide) (c_X12_bad (zl Z) (zY Z) (hZ_S hZ) 3 w) rfl rfl (Nat.le_of_ble_eq_true rfl) dX12_readHeir_65 fun r10 w9 =>
  bw_zretC hZ hE dX12_readHeir_68)))
def X12_readHeir_b34_L  : Int32 → Int32 → Int32 → Wd → Option (Int32 × Wd) :=
  lp fu (fun _ _ _ _ => none) (fun k34 => X12_readHeir_b34 k34)
theorem t_X12_readHeir_b34_L {Z : Cz (Int32 × Wd)} (hZ : OKZ Z SM cX12_readHeir RX12 4 (some .boolean) 4) (hE : EndI Z)  : ∀ (y1 : Int32) (y2 : Int32) (y3 : Int32)  (w : Wd), BW Z 4 34 [(0, .ref (ph (zY Z) 0)), (1, .int y1), (2, .int y2), (3, .int y3)] [] w (X12_readHeir_b34_L y1 y2 y3 w) :=
  lp_bw (fun k34 => ∀ (y1 : Int32) (y2 : Int32) (y3 : Int32)  (w : Wd), BW Z 4 34 [(0, .ref (ph (zY Z) 0)), (1, .int y1), (2, .int y2), (3, .int y3)] [] w (k34 y1 y2 y3 w)) (fun _ _ _ _ => bw_none) (fun k34 hk34 y1 y2 y3 w => t_X12_readHeir_b34 hZ hE k34 hk34 y1 y2 y3 w) fu
def f_X12_readHeir (w : Wd) : Option (Int32 × Wd) :=
  lt (w.1 0 49) fun v1 =>
  if (w.1 0 5) = 1 then
  (cl (f_X12_find 9 8 (w.1 0 11) w) fun r3 w2 =>
  X12_readHeir_b34_L v1 r3 0 w2)
  else
  cl (f_X12_bad 1 w) fun r12 w11 =>
  if isB r12 = true then some (r12, w11) else none
set_option maxRecDepth 100000 in
set_option maxHeartbeats 4000000 in
theorem t_X12_readHeir {Z : Cz (Int32 × Wd)} (hZ : OKZ Z SM cX12_readHeir RX12 4 (some .boolean) 4) (hE : EndI Z)   (w : Wd) : BW Z 4 0 [(0, .ref (ph (zY Z) 0))] [] w (f_X12_readHeir w) :=
  bw_aload_n hZ 0 rfl dX12_readHeir_0 <|
  bw_getI hZ fl_RX12_431 (by decide) obM_0 dX12_readHeir_1 <|
  bw_nm fun v1 =>
  bw_istore_n hZ rfl (by decide) rfl dX12_readHeir_4 <|
  bw_aload_n hZ 1 rfl dX12_readHeir_5 <|
  bw_getI hZ fl_RX12_27 (by decide) obM_0 dX12_readHeir_6 <|
  bw_iconst hZ 1 (by decide) dX12_readHeir_9 <|
  bw_icmp_eq hZ (tgt := 19) (by decide) dX12_readHeir_10 (fun _ =>
  bw_aload_n hZ 1 rfl dX12_readHeir_19 <|
  bw_aload_n hZ 1 rfl dX12_readHeir_20 <|
  bw_getR hZ fl_RX12_264 obM_0 rfl dX12_readHeir_21 <|
  bw_aload_n hZ 1 rfl dX12_readHeir_24 <|
  bw_getI hZ fl_RX12_412 (by decide) obM_0 dX12_readHeir_25 <|
  bw_callVI (As := [.ref (ph (zY Z) 9), .int (w.1 0 11)]) hZ ml_RX12_75 rc_12 obM_0 (by decide) (c_X12_find (zl Z) (zY Z) (hZ_S hZ) 9 8 (w.1 0 11) arM_9 w) rfl rfl (Nat.le_of_ble_eq_true rfl) dX12_readHeir_28 fun r3 w2 =>
  bw_istore_n hZ rfl (by decide) rfl dX12_readHeir_31 <|
  bw_iconst hZ 0 (by decide) dX12_readHeir_32 <|
  bw_istore_n hZ rfl (by decide) rfl dX12_readHeir_33 <|
  bw_sub [3, 2, 1, 0] rfl (t_X12_readHeir_b34_L hZ hE v1 r3 0 w2)) (fun _ =>
  bw_aload_n hZ 1 rfl dX12_readHeir_13 <|
  bw_iconst hZ 1 (by decide) dX12_readHeir_14 <|
  bw_callVI (As := [.int 1]) hZ ml_RX12_53 rc_12 obM_0 (by decide) (c_X12_bad (zl Z) (zY Z) (hZ_S hZ) 1 w) rfl rfl (Nat.le_of_ble_eq_true rfl) dX12_readHeir_15 fun r12 w11 =>
  bw_zretC hZ hE dX12_readHeir_18)
theorem c_X12_readHeir (l : Launch) (Y : Ev) (hY : Y.1 = SM)   (w : Wd) : CI l Y yX12_readHeir cX12_readHeir 4 4 [.ref (ph Y 0)] w .boolean (f_X12_readHeir w) := by
  refine CI_of (S := SM) (by decide) (Nat.le_of_ble_eq_true rfl) hY ?_
  intro Z hl hY2 hZ hE
  subst hY2
  exact t_X12_readHeir hZ hE w
-- WhichWillModel.readRest
theorem dX12_readRest_0 : decode cX12_readRest 0 = .ok (.aload_n 0, 1) := by decide +kernel
theorem dX12_readRest_1 : decode cX12_readRest 1 = .ok (.invokevirtual 56, 3) := by decide +kernel
theorem dX12_readRest_4 : decode cX12_readRest 4 = .ok (.aload_n 0, 1) := by decide +kernel
theorem dX12_readRest_5 : decode cX12_readRest 5 = .ok (.ldc_w 465, 3) := by decide +kernel
theorem dX12_readRest_8 : decode cX12_readRest 8 = .ok (.invokevirtual 467, 3) := by decide +kernel
theorem dX12_readRest_11 : decode cX12_readRest 11 = .ok (.ifCond .eq 10, 3) := by decide +kernel
theorem dX12_readRest_14 : decode cX12_readRest 14 = .ok (.aload_n 0, 1) := by decide +kernel
theorem dX12_readRest_15 : decode cX12_readRest 15 = .ok (.invokevirtual 473, 3) := by decide +kernel
theorem dX12_readRest_18 : decode cX12_readRest 18 = .ok (.ifCond .ne 5, 3) := by decide +kernel
theorem dX12_readRest_21 : decode cX12_readRest 21 = .ok (.iconst 0, 1) := by decide +kernel
theorem dX12_readRest_22 : decode cX12_readRest 22 = .ok (.ireturn, 1) := by decide +kernel
theorem dX12_readRest_23 : decode cX12_readRest 23 = .ok (.aload_n 0, 1) := by decide +kernel
theorem dX12_readRest_24 : decode cX12_readRest 24 = .ok (.ldc_w 476, 3) := by decide +kernel
theorem dX12_readRest_27 : decode cX12_readRest 27 = .ok (.invokevirtual 49, 3) := by decide +kernel
theorem dX12_readRest_30 : decode cX12_readRest 30 = .ok (.ifCond .eq 35, 3) := by decide +kernel
theorem dX12_readRest_33 : decode cX12_readRest 33 = .ok (.aload_n 0, 1) := by decide +kernel
theorem dX12_readRest_34 : decode cX12_readRest 34 = .ok (.getfield 282, 3) := by decide +kernel
theorem dX12_readRest_37 : decode cX12_readRest 37 = .ok (.aload_n 0, 1) := by decide +kernel
theorem dX12_readRest_38 : decode cX12_readRest 38 = .ok (.getfield 431, 3) := by decide +kernel
theorem dX12_readRest_41 : decode cX12_readRest 41 = .ok (.iaload, 1) := by decide +kernel
theorem dX12_readRest_42 : decode cX12_readRest 42 = .ok (.iconst 4, 1) := by decide +kernel
theorem dX12_readRest_43 : decode cX12_readRest 43 = .ok (.if_icmp .ne 9, 3) := by decide +kernel
theorem dX12_readRest_46 : decode cX12_readRest 46 = .ok (.aload_n 0, 1) := by decide +kernel
theorem dX12_readRest_47 : decode cX12_readRest 47 = .ok (.iconst 4, 1) := by decide +kernel
theorem dX12_readRest_48 : decode cX12_readRest 48 = .ok (.invokevirtual 53, 3) := by decide +kernel
theorem dX12_readRest_51 : decode cX12_readRest 51 = .ok (.ireturn, 1) := by decide +kernel
theorem dX12_readRest_52 : decode cX12_readRest 52 = .ok (.aload_n 0, 1) := by decide +kernel
theorem dX12_readRest_53 : decode cX12_readRest 53 = .ok (.invokevirtual 56, 3) := by decide +kernel
theorem dX12_readRest_56 : decode cX12_readRest 56 = .ok (.aload_n 0, 1) := by decide +kernel
theorem dX12_readRest_57 : decode cX12_readRest 57 = .ok (.invokevirtual 473, 3) := by decide +kernel
theorem dX12_readRest_60 : decode cX12_readRest 60 = .ok (.ifCond .ne (-37), 3) := by decide +kernel
theorem dX12_readRest_63 : decode cX12_readRest 63 = .ok (.iconst 0, 1) := by decide +kernel
theorem dX12_readRest_64 : decode cX12_readRest 64 = .ok (.ireturn, 1) := by decide +kernel
theorem dX12_readRest_65 : decode cX12_readRest 65 = .ok (.iconst 1, 1) := by decide +kernel
theorem dX12_readRest_66 : decode cX12_readRest 66 = .ok (.ireturn, 1) := by decide +kernel
def X12_readRest_b23 (k23 : Wd → Option (Int32 × Wd)) (w : Wd) : Option (Int32 × Wd) :=
  cl (f_X12_is 42 w) fun r7 w6 =>
  if r7 = 0 then
  (some (1, w6))
  else
  if inb (w6.1 0 49) 4 = true then
  (if (w6.1 24 (Int32.toNatClampNeg (w6.1 0 49))) = 4 then
  (cl (f_X12_bad 4 w6) fun r12 w11 =>
  if isB r12 = true then some (r12, w11) else none)
  else
  cv (f_X12_scan w6) fun w8 =>
  cl (f_X12_readHeir w8) fun r10 w9 =>
  if r10 = 0 then
  (some (0, w9))
  else
  k23 w9)
  else none
set_option maxRecDepth 100000 in
set_option maxHeartbeats 4000000 in
theorem t_X12_readRest_b23 {Z : Cz (Int32 × Wd)} (hZ : OKZ Z SM cX12_readRest RX12 1 (some .boolean) 7) (hE : EndI Z) (k23 : Wd → Option (Int32 × Wd)) (hk23 : ∀   (w : Wd), BW Z 1 23 [(0, .ref (ph (zY Z) 0))] [] w (k23 w))   (w : Wd) : BW Z 1 23 [(0, .ref (ph (zY Z) 0))] [] w (X12_readRest_b23 k23 w) :=
  bw_aload_n hZ 0 rfl dX12_readRest_23 <|
  bw_ldcSW hZ 95 rfl dX12_readRest_24 <|
  bw_callVI (As := [.ref (sK (zY Z) 42)]) hZ ml_RX12_49 rc_12 obM_0 (by decide) (c_X12_is (zl Z) (zY Z) (hZ_S hZ) 42 (by decide) w) rfl rfl (Nat.le_of_ble_eq_true rfl) dX12_readRest_27 fun r7 w6 =>
  bw_if_eq hZ (tgt := 65) (by decide) dX12_readRest_30 (fun _ =>
  bw_iconst hZ 1 (by decide) dX12_readRest_65 <|
  bw_zret hZ hE (by decide) dX12_readRest_66) (fun _ =>
  bw_aload_n hZ 0 rfl dX12_readRest_33 <|
  bw_getR hZ fl_RX12_282 obM_0 rfl dX12_readRest_34 <|
  bw_aload_n hZ 0 rfl dX12_readRest_37 <|
  bw_getI hZ fl_RX12_431 (by decide) obM_0 dX12_readRest_38 <|
  bw_iald hZ (arM_24 _) dX12_readRest_41 <|
  bw_iconst hZ 4 (by decide) dX12_readRest_42 <|
  bw_icmp_ne hZ (tgt := 52) (by decide) dX12_readRest_43 (fun _ =>
  bw_aload_n hZ 0 rfl dX12_readRest_52 <|
  bw_callVV (As := []) hZ ml_RX12_56 rc_12 obM_0 (by decide) (c_X12_scan (zl Z) (zY Z) (hZ_S hZ) w6) rfl rfl (Nat.le_of_ble_eq_true rfl) dX12_readRest_53 fun w8 =>
  bw_aload_n hZ 0 rfl dX12_readRest_56 <|
  bw_callVI (As := []) hZ ml_RX12_473 rc_12 obM_0 (by decide) (c_X12_readHeir (zl Z) (zY Z) (hZ_S hZ) w8) rfl rfl (Nat.le_of_ble_eq_true rfl) dX12_readRest_57 fun r10 w9 =>
  bw_if_ne hZ (tgt := 23) (by decide) dX12_readRest_60 (fun _ =>
  bw_sub [0] rfl (hk23 w9)) (fun _ =>
  bw_iconst hZ 0 (by decide) dX12_readRest_63 <|
  bw_zret hZ hE (by decide) dX12_readRest_64)) (fun _ =>
  bw_aload_n hZ 0 rfl dX12_readRest_46 <|
  bw_iconst hZ 4 (by decide) dX12_readRest_47 <|
  bw_callVI (As := [.int 4]) hZ ml_RX12_53 rc_12 obM_0 (by decide) (c_X12_bad (zl Z) (zY Z) (hZ_S hZ) 4 w6) rfl rfl (Nat.le_of_ble_eq_true rfl) dX12_readRest_48 fun r12 w11 =>
  bw_zretC hZ hE dX12_readRest_51))
def X12_readRest_b23_L  : Wd → Option (Int32 × Wd) :=
  lp fu (fun _ => none) (fun k23 => X12_readRest_b23 k23)
theorem t_X12_readRest_b23_L {Z : Cz (Int32 × Wd)} (hZ : OKZ Z SM cX12_readRest RX12 1 (some .boolean) 7) (hE : EndI Z)  : ∀   (w : Wd), BW Z 1 23 [(0, .ref (ph (zY Z) 0))] [] w (X12_readRest_b23_L w) :=
  lp_bw (fun k23 => ∀   (w : Wd), BW Z 1 23 [(0, .ref (ph (zY Z) 0))] [] w (k23 w)) (fun _ => bw_none) (fun k23 hk23 w => t_X12_readRest_b23 hZ hE k23 hk23 w) fu
def f_X12_readRest (w : Wd) : Option (Int32 × Wd) :=
  cv (f_X12_scan w) fun w1 =>
  cl (f_X12_expect 36 w1) fun r3 w2 =>
  if r3 = 0 then
  (some (0, w2))
  else
  cl (f_X12_readHeir w2) fun r5 w4 =>
  if r5 = 0 then
  (some (0, w4))
  else
  X12_readRest_b23_L w4
set_option maxRecDepth 100000 in
set_option maxHeartbeats 4000000 in
theorem t_X12_readRest {Z : Cz (Int32 × Wd)} (hZ : OKZ Z SM cX12_readRest RX12 1 (some .boolean) 7) (hE : EndI Z)   (w : Wd) : BW Z 1 0 [(0, .ref (ph (zY Z) 0))] [] w (f_X12_readRest w) :=
  bw_aload_n hZ 0 rfl dX12_readRest_0 <|
  bw_callVV (As := []) hZ ml_RX12_56 rc_12 obM_0 (by decide) (c_X12_scan (zl Z) (zY Z) (hZ_S hZ) w) rfl rfl (Nat.le_of_ble_eq_true rfl) dX12_readRest_1 fun w1 =>
  bw_aload_n hZ 0 rfl dX12_readRest_4 <|
  bw_ldcSW hZ 81 rfl dX12_readRest_5 <|
  bw_callVI (As := [.ref (sK (zY Z) 36)]) hZ ml_RX12_467 rc_12 obM_0 (by decide) (c_X12_expect (zl Z) (zY Z) (hZ_S hZ) 36 (by decide) w1) rfl rfl (Nat.le_of_ble_eq_true rfl) dX12_readRest_8 fun r3 w2 =>
  bw_if_eq hZ (tgt := 21) (by decide) dX12_readRest_11 (fun _ =>
  bw_iconst hZ 0 (by decide) dX12_readRest_21 <|
  bw_zret hZ hE (by decide) dX12_readRest_22) (fun _ =>
  bw_aload_n hZ 0 rfl dX12_readRest_14 <|
  bw_callVI (As := []) hZ ml_RX12_473 rc_12 obM_0 (by decide) (c_X12_readHeir (zl Z) (zY Z) (hZ_S hZ) w2) rfl rfl (Nat.le_of_ble_eq_true rfl) dX12_readRest_15 fun r5 w4 =>
  bw_if_ne hZ (tgt := 23) (by decide) dX12_readRest_18 (fun _ =>
  bw_sub [0] rfl (t_X12_readRest_b23_L hZ hE w4)) (fun _ =>
  bw_iconst hZ 0 (by decide) dX12_readRest_21 <|
  bw_zret hZ hE (by decide) dX12_readRest_22))
theorem c_X12_readRest (l : Launch) (Y : Ev) (hY : Y.1 = SM)   (w : Wd) : CI l Y yX12_readRest cX12_readRest 1 7 [.ref (ph Y 0)] w .boolean (f_X12_readRest w) := by
  refine CI_of (S := SM) (by decide) (Nat.le_of_ble_eq_true rfl) hY ?_
  intro Z hl hY2 hZ hE
  subst hY2
  exact t_X12_readRest hZ hE w
-- WhichWillModel.paperNot
theorem dX12_paperNot_0 : decode cX12_paperNot 0 = .ok (.aload_n 0, 1) := by decide +kernel
theorem dX12_paperNot_1 : decode cX12_paperNot 1 = .ok (.iconst 0, 1) := by decide +kernel
theorem dX12_paperNot_2 : decode cX12_paperNot 2 = .ok (.aload_n 0, 1) := by decide +kernel
theorem dX12_paperNot_3 : decode cX12_paperNot 3 = .ok (.getfield 431, 3) := by decide +kernel
theorem dX12_paperNot_6 : decode cX12_paperNot 6 = .ok (.iconst 1, 1) := by decide +kernel
theorem dX12_paperNot_7 : decode cX12_paperNot 7 = .ok (.isub, 1) := by decide +kernel
theorem dX12_paperNot_8 : decode cX12_paperNot 8 = .ok (.invokevirtual 67, 3) := by decide +kernel
theorem dX12_paperNot_11 : decode cX12_paperNot 11 = .ok (.ifCond .ne 5, 3) := by decide +kernel
theorem dX12_paperNot_14 : decode cX12_paperNot 14 = .ok (.iconst 0, 1) := by decide +kernel
theorem dX12_paperNot_15 : decode cX12_paperNot 15 = .ok (.ireturn, 1) := by decide +kernel
theorem dX12_paperNot_16 : decode cX12_paperNot 16 = .ok (.iload_n 1, 1) := by decide +kernel
theorem dX12_paperNot_17 : decode cX12_paperNot 17 = .ok (.aload_n 0, 1) := by decide +kernel
theorem dX12_paperNot_18 : decode cX12_paperNot 18 = .ok (.getfield 64, 3) := by decide +kernel
theorem dX12_paperNot_21 : decode cX12_paperNot 21 = .ok (.ishr, 1) := by decide +kernel
theorem dX12_paperNot_22 : decode cX12_paperNot 22 = .ok (.iconst 1, 1) := by decide +kernel
theorem dX12_paperNot_23 : decode cX12_paperNot 23 = .ok (.iand, 1) := by decide +kernel
theorem dX12_paperNot_24 : decode cX12_paperNot 24 = .ok (.iconst 1, 1) := by decide +kernel
theorem dX12_paperNot_25 : decode cX12_paperNot 25 = .ok (.if_icmp .ne 9, 3) := by decide +kernel
theorem dX12_paperNot_28 : decode cX12_paperNot 28 = .ok (.aload_n 0, 1) := by decide +kernel
theorem dX12_paperNot_29 : decode cX12_paperNot 29 = .ok (.iconst 3, 1) := by decide +kernel
theorem dX12_paperNot_30 : decode cX12_paperNot 30 = .ok (.invokevirtual 53, 3) := by decide +kernel
theorem dX12_paperNot_33 : decode cX12_paperNot 33 = .ok (.ireturn, 1) := by decide +kernel
theorem dX12_paperNot_34 : decode cX12_paperNot 34 = .ok (.aload_n 0, 1) := by decide +kernel
theorem dX12_paperNot_35 : decode cX12_paperNot 35 = .ok (.invokevirtual 56, 3) := by decide +kernel
theorem dX12_paperNot_38 : decode cX12_paperNot 38 = .ok (.iconst 1, 1) := by decide +kernel
theorem dX12_paperNot_39 : decode cX12_paperNot 39 = .ok (.ireturn, 1) := by decide +kernel
def f_X12_paperNot (x1 : Int32) (w : Wd) : Option (Int32 × Wd) :=
  cl (f_X12_peek 0 ((w.1 0 49) - 1) w) fun r2 w1 =>
  if r2 = 0 then
  (some (0, w1))
  else
  if ((x1 >>> ((w1.1 0 7) &&& 31)) &&& 1) = 1 then
  (cl (f_X12_bad 3 w1) fun r5 w4 =>
  if isB r5 = true then some (r5, w4) else none)
  else
  cv (f_X12_scan w1) fun w3 =>
  some (1, w3)
set_option maxRecDepth 100000 in
set_option maxHeartbeats 4000000 in
theorem t_X12_paperNot {Z : Cz (Int32 × Wd)} (hZ : OKZ Z SM cX12_paperNot RX12 2 (some .boolean) 3) (hE : EndI Z) (x1 : Int32)  (w : Wd) : BW Z 2 0 [(0, .ref (ph (zY Z) 0)), (1, .int x1)] [] w (f_X12_paperNot x1 w) :=
  bw_aload_n hZ 0 rfl dX12_paperNot_0 <|
  bw_iconst hZ 0 (by decide) dX12_paperNot_1 <|
  bw_aload_n hZ 0 rfl dX12_paperNot_2 <|
  bw_getI hZ fl_RX12_431 (by decide) obM_0 dX12_paperNot_3 <|
  bw_iconst hZ 1 (by decide) dX12_paperNot_6 <|
  bw_isub hZ dX12_paperNot_7 <|
  bw_callVI (As := [.int 0, .int ((w.1 0 49) - 1)]) hZ ml_RX12_67 rc_12 obM_0 (by decide) (c_X12_peek (zl Z) (zY Z) (hZ_S hZ) 0 ((w.1 0 49) - 1) w) rfl rfl (Nat.le_of_ble_eq_true rfl) dX12_paperNot_8 fun r2 w1 =>
  bw_if_ne hZ (tgt := 16) (by decide) dX12_paperNot_11 (fun _ =>
  bw_iload_n hZ 1 rfl dX12_paperNot_16 <|
  bw_aload_n hZ 0 rfl dX12_paperNot_17 <|
  bw_getI hZ fl_RX12_64 (by decide) obM_0 dX12_paperNot_18 <|
  bw_ishr hZ dX12_paperNot_21 <|
  bw_iconst hZ 1 (by decide) dX12_paperNot_22 <|
  bw_iand hZ dX12_paperNot_23 <|
  bw_iconst hZ 1 (by decide) dX12_paperNot_24 <|
  bw_icmp_ne hZ (tgt := 34) (by decide) dX12_paperNot_25 (fun _ =>
  bw_aload_n hZ 0 rfl dX12_paperNot_34 <|
  bw_callVV (As := []) hZ ml_RX12_56 rc_12 obM_0 (by decide) (c_X12_scan (zl Z) (zY Z) (hZ_S hZ) w1) rfl rfl (Nat.le_of_ble_eq_true rfl) dX12_paperNot_35 fun w3 =>
  bw_iconst hZ 1 (by decide) dX12_paperNot_38 <|
  bw_zret hZ hE (by decide) dX12_paperNot_39) (fun _ =>
  bw_aload_n hZ 0 rfl dX12_paperNot_28 <|
  bw_iconst hZ 3 (by decide) dX12_paperNot_29 <|
  bw_callVI (As := [.int 3]) hZ ml_RX12_53 rc_12 obM_0 (by decide) (c_X12_bad (zl Z) (zY Z) (hZ_S hZ) 3 w1) rfl rfl (Nat.le_of_ble_eq_true rfl) dX12_paperNot_30 fun r5 w4 =>
  bw_zretC hZ hE dX12_paperNot_33)) (fun _ =>
  bw_iconst hZ 0 (by decide) dX12_paperNot_14 <|
  bw_zret hZ hE (by decide) dX12_paperNot_15)
theorem c_X12_paperNot (l : Launch) (Y : Ev) (hY : Y.1 = SM) (x1 : Int32)  (w : Wd) : CI l Y yX12_paperNot cX12_paperNot 2 3 [.ref (ph Y 0), .int x1] w .boolean (f_X12_paperNot x1 w) := by
  refine CI_of (S := SM) (by decide) (Nat.le_of_ble_eq_true rfl) hY ?_
  intro Z hl hY2 hZ hE
  subst hY2
  exact t_X12_paperNot hZ hE x1 w
-- WhichWillModel.readUndo
theorem dX12_readUndo_0 : decode cX12_readUndo 0 = .ok (.aload_n 0, 1) := by decide +kernel
theorem dX12_readUndo_1 : decode cX12_readUndo 1 = .ok (.getfield 431, 3) := by decide +kernel
theorem dX12_readUndo_4 : decode cX12_readUndo 4 = .ok (.istore_n 1, 1) := by decide +kernel
theorem dX12_readUndo_5 : decode cX12_readUndo 5 = .ok (.aload_n 0, 1) := by decide +kernel
theorem dX12_readUndo_6 : decode cX12_readUndo 6 = .ok (.invokevirtual 56, 3) := by decide +kernel
theorem dX12_readUndo_9 : decode cX12_readUndo 9 = .ok (.aload_n 0, 1) := by decide +kernel
theorem dX12_readUndo_10 : decode cX12_readUndo 10 = .ok (.ldc_w 478, 3) := by decide +kernel
theorem dX12_readUndo_13 : decode cX12_readUndo 13 = .ok (.invokevirtual 49, 3) := by decide +kernel
theorem dX12_readUndo_16 : decode cX12_readUndo 16 = .ok (.ifCond .ne 12, 3) := by decide +kernel
theorem dX12_readUndo_19 : decode cX12_readUndo 19 = .ok (.aload_n 0, 1) := by decide +kernel
theorem dX12_readUndo_20 : decode cX12_readUndo 20 = .ok (.getfield 303, 3) := by decide +kernel
theorem dX12_readUndo_23 : decode cX12_readUndo 23 = .ok (.iload_n 1, 1) := by decide +kernel
theorem dX12_readUndo_24 : decode cX12_readUndo 24 = .ok (.iconst 1, 1) := by decide +kernel
theorem dX12_readUndo_25 : decode cX12_readUndo 25 = .ok (.bastore, 1) := by decide +kernel
theorem dX12_readUndo_26 : decode cX12_readUndo 26 = .ok (.iconst 1, 1) := by decide +kernel
theorem dX12_readUndo_27 : decode cX12_readUndo 27 = .ok (.ireturn, 1) := by decide +kernel
theorem dX12_readUndo_28 : decode cX12_readUndo 28 = .ok (.aload_n 0, 1) := by decide +kernel
theorem dX12_readUndo_29 : decode cX12_readUndo 29 = .ok (.invokevirtual 56, 3) := by decide +kernel
theorem dX12_readUndo_32 : decode cX12_readUndo 32 = .ok (.aload_n 0, 1) := by decide +kernel
theorem dX12_readUndo_33 : decode cX12_readUndo 33 = .ok (.aload_n 0, 1) := by decide +kernel
theorem dX12_readUndo_34 : decode cX12_readUndo 34 = .ok (.getfield 285, 3) := by decide +kernel
theorem dX12_readUndo_37 : decode cX12_readUndo 37 = .ok (.iload_n 1, 1) := by decide +kernel
theorem dX12_readUndo_38 : decode cX12_readUndo 38 = .ok (.iaload, 1) := by decide +kernel
theorem dX12_readUndo_39 : decode cX12_readUndo 39 = .ok (.invokevirtual 480, 3) := by decide +kernel
theorem dX12_readUndo_42 : decode cX12_readUndo 42 = .ok (.ifCond .ne 5, 3) := by decide +kernel
theorem dX12_readUndo_45 : decode cX12_readUndo 45 = .ok (.iconst 0, 1) := by decide +kernel
theorem dX12_readUndo_46 : decode cX12_readUndo 46 = .ok (.ireturn, 1) := by decide +kernel
theorem dX12_readUndo_47 : decode cX12_readUndo 47 = .ok (.aload_n 0, 1) := by decide +kernel
theorem dX12_readUndo_48 : decode cX12_readUndo 48 = .ok (.getfield 285, 3) := by decide +kernel
theorem dX12_readUndo_51 : decode cX12_readUndo 51 = .ok (.iload_n 1, 1) := by decide +kernel
theorem dX12_readUndo_52 : decode cX12_readUndo 52 = .ok (.dup2, 1) := by decide +kernel
theorem dX12_readUndo_53 : decode cX12_readUndo 53 = .ok (.iaload, 1) := by decide +kernel
theorem dX12_readUndo_54 : decode cX12_readUndo 54 = .ok (.iconst 1, 1) := by decide +kernel
theorem dX12_readUndo_55 : decode cX12_readUndo 55 = .ok (.aload_n 0, 1) := by decide +kernel
theorem dX12_readUndo_56 : decode cX12_readUndo 56 = .ok (.getfield 64, 3) := by decide +kernel
theorem dX12_readUndo_59 : decode cX12_readUndo 59 = .ok (.ishl, 1) := by decide +kernel
theorem dX12_readUndo_60 : decode cX12_readUndo 60 = .ok (.ior, 1) := by decide +kernel
theorem dX12_readUndo_61 : decode cX12_readUndo 61 = .ok (.iastore, 1) := by decide +kernel
theorem dX12_readUndo_62 : decode cX12_readUndo 62 = .ok (.iconst 1, 1) := by decide +kernel
theorem dX12_readUndo_63 : decode cX12_readUndo 63 = .ok (.ireturn, 1) := by decide +kernel
def f_X12_readUndo (w : Wd) : Option (Int32 × Wd) :=
  lt (w.1 0 49) fun v1 =>
  cv (f_X12_scan w) fun w2 =>
  cl (f_X12_is 44 w2) fun r4 w3 =>
  if r4 = 0 then
  (if inb v1 4 = true then
  (lt (wI w3 31 (Int32.toNatClampNeg v1) (vp_nar .boolean 1)) fun w9 =>
  some (1, w9))
  else none)
  else
  cv (f_X12_scan w3) fun w5 =>
  if inb v1 4 = true then
  (cl (f_X12_paperNot (w5.1 25 (Int32.toNatClampNeg v1)) w5) fun r7 w6 =>
  if r7 = 0 then
  (some (0, w6))
  else
  if inb v1 4 = true then
  (if inb v1 4 = true then
  (lt (wI w6 25 (Int32.toNatClampNeg v1) ((w6.1 25 (Int32.toNatClampNeg v1)) ||| (1 <<< ((w6.1 0 7) &&& 31)))) fun w8 =>
  some (1, w8))
  else none)
  else none)
  else none
set_option maxRecDepth 100000 in
set_option maxHeartbeats 4000000 in
theorem t_X12_readUndo {Z : Cz (Int32 × Wd)} (hZ : OKZ Z SM cX12_readUndo RX12 2 (some .boolean) 6) (hE : EndI Z)   (w : Wd) : BW Z 2 0 [(0, .ref (ph (zY Z) 0))] [] w (f_X12_readUndo w) :=
  bw_aload_n hZ 0 rfl dX12_readUndo_0 <|
  bw_getI hZ fl_RX12_431 (by decide) obM_0 dX12_readUndo_1 <|
  bw_nm fun v1 =>
  bw_istore_n hZ rfl (by decide) rfl dX12_readUndo_4 <|
  bw_aload_n hZ 1 rfl dX12_readUndo_5 <|
  bw_callVV (As := []) hZ ml_RX12_56 rc_12 obM_0 (by decide) (c_X12_scan (zl Z) (zY Z) (hZ_S hZ) w) rfl rfl (Nat.le_of_ble_eq_true rfl) dX12_readUndo_6 fun w2 =>
  bw_aload_n hZ 1 rfl dX12_readUndo_9 <|
  bw_ldcSW hZ 88 rfl dX12_readUndo_10 <|
  bw_callVI (As := [.ref (sK (zY Z) 44)]) hZ ml_RX12_49 rc_12 obM_0 (by decide) (c_X12_is (zl Z) (zY Z) (hZ_S hZ) 44 (by decide) w2) rfl rfl (Nat.le_of_ble_eq_true rfl) dX12_readUndo_13 fun r4 w3 =>
  bw_if_ne hZ (tgt := 28) (by decide) dX12_readUndo_16 (fun _ =>
  bw_aload_n hZ 1 rfl dX12_readUndo_28 <|
  bw_callVV (As := []) hZ ml_RX12_56 rc_12 obM_0 (by decide) (c_X12_scan (zl Z) (zY Z) (hZ_S hZ) w3) rfl rfl (Nat.le_of_ble_eq_true rfl) dX12_readUndo_29 fun w5 =>
  bw_aload_n hZ 1 rfl dX12_readUndo_32 <|
  bw_aload_n hZ 1 rfl dX12_readUndo_33 <|
  bw_getR hZ fl_RX12_285 obM_0 rfl dX12_readUndo_34 <|
  bw_iload_n hZ 0 rfl dX12_readUndo_37 <|
  bw_iald hZ (arM_25 _) dX12_readUndo_38 <|
  bw_callVI (As := [.int (w5.1 25 (Int32.toNatClampNeg v1))]) hZ ml_RX12_480 rc_12 obM_0 (by decide) (c_X12_paperNot (zl Z) (zY Z) (hZ_S hZ) (w5.1 25 (Int32.toNatClampNeg v1)) w5) rfl rfl (Nat.le_of_ble_eq_true rfl) dX12_readUndo_39 fun r7 w6 =>
  bw_if_ne hZ (tgt := 47) (by decide) dX12_readUndo_42 (fun _ =>
  bw_aload_n hZ 1 rfl dX12_readUndo_47 <|
  bw_getR hZ fl_RX12_285 obM_0 rfl dX12_readUndo_48 <|
  bw_iload_n hZ 0 rfl dX12_readUndo_51 <|
  bw_dup2 hZ rfl rfl dX12_readUndo_52 <|
  bw_iald hZ (arM_25 _) dX12_readUndo_53 <|
  bw_iconst hZ 1 (by decide) dX12_readUndo_54 <|
  bw_aload_n hZ 1 rfl dX12_readUndo_55 <|
  bw_getI hZ fl_RX12_64 (by decide) obM_0 dX12_readUndo_56 <|
  bw_ishl hZ dX12_readUndo_59 <|
  bw_ior hZ dX12_readUndo_60 <|
  bw_iast hZ (arM_25 _) dX12_readUndo_61 fun w8 =>
  bw_iconst hZ 1 (by decide) dX12_readUndo_62 <|
  bw_zret hZ hE (by decide) dX12_readUndo_63) (fun _ =>
  bw_iconst hZ 0 (by decide) dX12_readUndo_45 <|
  bw_zret hZ hE (by decide) dX12_readUndo_46)) (fun _ =>
  bw_aload_n hZ 1 rfl dX12_readUndo_19 <|
  bw_getR hZ fl_RX12_303 obM_0 rfl dX12_readUndo_20 <|
  bw_iload_n hZ 0 rfl dX12_readUndo_23 <|
  bw_iconst hZ 1 (by decide) dX12_readUndo_24 <|
  bw_zast hZ (arM_31 _) dX12_readUndo_25 fun w9 =>
  bw_iconst hZ 1 (by decide) dX12_readUndo_26 <|
  bw_zret hZ hE (by decide) dX12_readUndo_27)
theorem c_X12_readUndo (l : Launch) (Y : Ev) (hY : Y.1 = SM)   (w : Wd) : CI l Y yX12_readUndo cX12_readUndo 2 6 [.ref (ph Y 0)] w .boolean (f_X12_readUndo w) := by
  refine CI_of (S := SM) (by decide) (Nat.le_of_ble_eq_true rfl) hY ?_
  intro Z hl hY2 hZ hE
  subst hY2
  exact t_X12_readUndo hZ hE w
-- WhichWillModel.readWitness
theorem dX12_readWitness_0 : decode cX12_readWitness 0 = .ok (.aload_n 0, 1) := by decide +kernel
theorem dX12_readWitness_1 : decode cX12_readWitness 1 = .ok (.getfield 431, 3) := by decide +kernel
theorem dX12_readWitness_4 : decode cX12_readWitness 4 = .ok (.istore_n 1, 1) := by decide +kernel
theorem dX12_readWitness_5 : decode cX12_readWitness 5 = .ok (.iconst 0, 1) := by decide +kernel
theorem dX12_readWitness_6 : decode cX12_readWitness 6 = .ok (.istore_n 2, 1) := by decide +kernel
theorem dX12_readWitness_7 : decode cX12_readWitness 7 = .ok (.iconst 0, 1) := by decide +kernel
theorem dX12_readWitness_8 : decode cX12_readWitness 8 = .ok (.istore_n 3, 1) := by decide +kernel
theorem dX12_readWitness_9 : decode cX12_readWitness 9 = .ok (.iload_n 3, 1) := by decide +kernel
theorem dX12_readWitness_10 : decode cX12_readWitness 10 = .ok (.aload_n 0, 1) := by decide +kernel
theorem dX12_readWitness_11 : decode cX12_readWitness 11 = .ok (.getfield 412, 3) := by decide +kernel
theorem dX12_readWitness_14 : decode cX12_readWitness 14 = .ok (.if_icmp .ge 22, 3) := by decide +kernel
theorem dX12_readWitness_17 : decode cX12_readWitness 17 = .ok (.iload_n 2, 1) := by decide +kernel
theorem dX12_readWitness_18 : decode cX12_readWitness 18 = .ok (.aload_n 0, 1) := by decide +kernel
theorem dX12_readWitness_19 : decode cX12_readWitness 19 = .ok (.getfield 276, 3) := by decide +kernel
theorem dX12_readWitness_22 : decode cX12_readWitness 22 = .ok (.iload_n 1, 1) := by decide +kernel
theorem dX12_readWitness_23 : decode cX12_readWitness 23 = .ok (.iaload, 1) := by decide +kernel
theorem dX12_readWitness_24 : decode cX12_readWitness 24 = .ok (.iload_n 3, 1) := by decide +kernel
theorem dX12_readWitness_25 : decode cX12_readWitness 25 = .ok (.ishr, 1) := by decide +kernel
theorem dX12_readWitness_26 : decode cX12_readWitness 26 = .ok (.iconst 1, 1) := by decide +kernel
theorem dX12_readWitness_27 : decode cX12_readWitness 27 = .ok (.iand, 1) := by decide +kernel
theorem dX12_readWitness_28 : decode cX12_readWitness 28 = .ok (.iadd, 1) := by decide +kernel
theorem dX12_readWitness_29 : decode cX12_readWitness 29 = .ok (.istore_n 2, 1) := by decide +kernel
theorem dX12_readWitness_30 : decode cX12_readWitness 30 = .ok (.iinc 3 1, 3) := by decide +kernel
theorem dX12_readWitness_33 : decode cX12_readWitness 33 = .ok (.goto (-24), 3) := by decide +kernel
theorem dX12_readWitness_36 : decode cX12_readWitness 36 = .ok (.iload_n 2, 1) := by decide +kernel
theorem dX12_readWitness_37 : decode cX12_readWitness 37 = .ok (.iconst 3, 1) := by decide +kernel
theorem dX12_readWitness_38 : decode cX12_readWitness 38 = .ok (.if_icmp .ne 9, 3) := by decide +kernel
theorem dX12_readWitness_41 : decode cX12_readWitness 41 = .ok (.aload_n 0, 1) := by decide +kernel
theorem dX12_readWitness_42 : decode cX12_readWitness 42 = .ok (.iconst 4, 1) := by decide +kernel
theorem dX12_readWitness_43 : decode cX12_readWitness 43 = .ok (.invokevirtual 53, 3) := by decide +kernel
theorem dX12_readWitness_46 : decode cX12_readWitness 46 = .ok (.ireturn, 1) := by decide +kernel
theorem dX12_readWitness_47 : decode cX12_readWitness 47 = .ok (.aload_n 0, 1) := by decide +kernel
theorem dX12_readWitness_48 : decode cX12_readWitness 48 = .ok (.invokevirtual 56, 3) := by decide +kernel
theorem dX12_readWitness_51 : decode cX12_readWitness 51 = .ok (.aload_n 0, 1) := by decide +kernel
theorem dX12_readWitness_52 : decode cX12_readWitness 52 = .ok (.getfield 27, 3) := by decide +kernel
theorem dX12_readWitness_55 : decode cX12_readWitness 55 = .ok (.iconst 1, 1) := by decide +kernel
theorem dX12_readWitness_56 : decode cX12_readWitness 56 = .ok (.if_icmp .eq 9, 3) := by decide +kernel
theorem dX12_readWitness_59 : decode cX12_readWitness 59 = .ok (.aload_n 0, 1) := by decide +kernel
theorem dX12_readWitness_60 : decode cX12_readWitness 60 = .ok (.iconst 1, 1) := by decide +kernel
theorem dX12_readWitness_61 : decode cX12_readWitness 61 = .ok (.invokevirtual 53, 3) := by decide +kernel
theorem dX12_readWitness_64 : decode cX12_readWitness 64 = .ok (.ireturn, 1) := by decide +kernel
theorem dX12_readWitness_65 : decode cX12_readWitness 65 = .ok (.aload_n 0, 1) := by decide +kernel
theorem dX12_readWitness_66 : decode cX12_readWitness 66 = .ok (.aload_n 0, 1) := by decide +kernel
theorem dX12_readWitness_67 : decode cX12_readWitness 67 = .ok (.getfield 264, 3) := by decide +kernel
theorem dX12_readWitness_70 : decode cX12_readWitness 70 = .ok (.aload_n 0, 1) := by decide +kernel
theorem dX12_readWitness_71 : decode cX12_readWitness 71 = .ok (.getfield 412, 3) := by decide +kernel
theorem dX12_readWitness_74 : decode cX12_readWitness 74 = .ok (.invokevirtual 75, 3) := by decide +kernel
theorem dX12_readWitness_77 : decode cX12_readWitness 77 = .ok (.istore_n 3, 1) := by decide +kernel
theorem dX12_readWitness_78 : decode cX12_readWitness 78 = .ok (.iload_n 3, 1) := by decide +kernel
theorem dX12_readWitness_79 : decode cX12_readWitness 79 = .ok (.iconst (-1), 1) := by decide +kernel
theorem dX12_readWitness_80 : decode cX12_readWitness 80 = .ok (.if_icmp .eq 23, 3) := by decide +kernel
theorem dX12_readWitness_83 : decode cX12_readWitness 83 = .ok (.aload_n 0, 1) := by decide +kernel
theorem dX12_readWitness_84 : decode cX12_readWitness 84 = .ok (.getfield 276, 3) := by decide +kernel
theorem dX12_readWitness_87 : decode cX12_readWitness 87 = .ok (.iload_n 1, 1) := by decide +kernel
theorem dX12_readWitness_88 : decode cX12_readWitness 88 = .ok (.iaload, 1) := by decide +kernel
theorem dX12_readWitness_89 : decode cX12_readWitness 89 = .ok (.iload_n 3, 1) := by decide +kernel
theorem dX12_readWitness_90 : decode cX12_readWitness 90 = .ok (.ishr, 1) := by decide +kernel
theorem dX12_readWitness_91 : decode cX12_readWitness 91 = .ok (.iconst 1, 1) := by decide +kernel
theorem dX12_readWitness_92 : decode cX12_readWitness 92 = .ok (.iand, 1) := by decide +kernel
theorem dX12_readWitness_93 : decode cX12_readWitness 93 = .ok (.iconst 1, 1) := by decide +kernel
theorem dX12_readWitness_94 : decode cX12_readWitness 94 = .ok (.if_icmp .ne 9, 3) := by decide +kernel
theorem dX12_readWitness_97 : decode cX12_readWitness 97 = .ok (.aload_n 0, 1) := by decide +kernel
theorem dX12_readWitness_98 : decode cX12_readWitness 98 = .ok (.iconst 3, 1) := by decide +kernel
theorem dX12_readWitness_99 : decode cX12_readWitness 99 = .ok (.invokevirtual 53, 3) := by decide +kernel
theorem dX12_readWitness_102 : decode cX12_readWitness 102 = .ok (.ireturn, 1) := by decide +kernel
theorem dX12_readWitness_103 : decode cX12_readWitness 103 = .ok (.iload_n 3, 1) := by decide +kernel
theorem dX12_readWitness_104 : decode cX12_readWitness 104 = .ok (.iconst (-1), 1) := by decide +kernel
theorem dX12_readWitness_105 : decode cX12_readWitness 105 = .ok (.if_icmp .ne 9, 3) := by decide +kernel
theorem dX12_readWitness_108 : decode cX12_readWitness 108 = .ok (.aload_n 0, 1) := by decide +kernel
theorem dX12_readWitness_109 : decode cX12_readWitness 109 = .ok (.iconst 5, 1) := by decide +kernel
theorem dX12_readWitness_110 : decode cX12_readWitness 110 = .ok (.invokevirtual 53, 3) := by decide +kernel
theorem dX12_readWitness_113 : decode cX12_readWitness 113 = .ok (.ireturn, 1) := by decide +kernel
theorem dX12_readWitness_114 : decode cX12_readWitness 114 = .ok (.aload_n 0, 1) := by decide +kernel
theorem dX12_readWitness_115 : decode cX12_readWitness 115 = .ok (.getfield 276, 3) := by decide +kernel
theorem dX12_readWitness_118 : decode cX12_readWitness 118 = .ok (.iload_n 1, 1) := by decide +kernel
theorem dX12_readWitness_119 : decode cX12_readWitness 119 = .ok (.dup2, 1) := by decide +kernel
theorem dX12_readWitness_120 : decode cX12_readWitness 120 = .ok (.iaload, 1) := by decide +kernel
theorem dX12_readWitness_121 : decode cX12_readWitness 121 = .ok (.iconst 1, 1) := by decide +kernel
theorem dX12_readWitness_122 : decode cX12_readWitness 122 = .ok (.iload_n 3, 1) := by decide +kernel
theorem dX12_readWitness_123 : decode cX12_readWitness 123 = .ok (.ishl, 1) := by decide +kernel
theorem dX12_readWitness_124 : decode cX12_readWitness 124 = .ok (.ior, 1) := by decide +kernel
theorem dX12_readWitness_125 : decode cX12_readWitness 125 = .ok (.iastore, 1) := by decide +kernel
theorem dX12_readWitness_126 : decode cX12_readWitness 126 = .ok (.aload_n 0, 1) := by decide +kernel
theorem dX12_readWitness_127 : decode cX12_readWitness 127 = .ok (.invokevirtual 56, 3) := by decide +kernel
theorem dX12_readWitness_130 : decode cX12_readWitness 130 = .ok (.iconst 1, 1) := by decide +kernel
theorem dX12_readWitness_131 : decode cX12_readWitness 131 = .ok (.ireturn, 1) := by decide +kernel
def X12_readWitness_b103 (y1 : Int32) (y3 : Int32) (w : Wd) : Option (Int32 × Wd) :=
  if y3 = ((-1)) then
  (cl (f_X12_bad 5 w) fun r8 w7 =>
  if isB r8 = true then some (r8, w7) else none)
  else
  if inb y1 4 = true then
  (if inb y1 4 = true then
  (lt (wI w 22 (Int32.toNatClampNeg y1) ((w.1 22 (Int32.toNatClampNeg y1)) ||| (1 <<< (y3 &&& 31)))) fun w5 =>
  cv (f_X12_scan w5) fun w6 =>
  some (1, w6))
  else none)
  else none
set_option maxRecDepth 100000 in
set_option maxHeartbeats 4000000 in
theorem t_X12_readWitness_b103 {Z : Cz (Int32 × Wd)} (hZ : OKZ Z SM cX12_readWitness RX12 4 (some .boolean) 4) (hE : EndI Z)  (y1 : Int32) (y3 : Int32)  (w : Wd) : BW Z 4 103 [(0, .ref (ph (zY Z) 0)), (1, .int y1), (3, .int y3)] [] w (X12_readWitness_b103 y1 y3 w) :=
  bw_iload_n hZ 2 rfl dX12_readWitness_103 <|
  bw_iconst hZ (-1) (by decide) dX12_readWitness_104 <|
  bw_icmp_ne hZ (tgt := 114) (by decide) dX12_readWitness_105 (fun _ =>
  bw_aload_n hZ 0 rfl dX12_readWitness_114 <|
  bw_getR hZ fl_RX12_276 obM_0 rfl dX12_readWitness_115 <|
  bw_iload_n hZ 1 rfl dX12_readWitness_118 <|
  bw_dup2 hZ rfl rfl dX12_readWitness_119 <|
  bw_iald hZ (arM_22 _) dX12_readWitness_120 <|
  bw_iconst hZ 1 (by decide) dX12_readWitness_121 <|
  bw_iload_n hZ 2 rfl dX12_readWitness_122 <|
  bw_ishl hZ dX12_readWitness_123 <|
  bw_ior hZ dX12_readWitness_124 <|
  bw_iast hZ (arM_22 _) dX12_readWitness_125 fun w5 =>
  bw_aload_n hZ 0 rfl dX12_readWitness_126 <|
  bw_callVV (As := []) hZ ml_RX12_56 rc_12 obM_0 (by decide) (c_X12_scan (zl Z) (zY Z) (hZ_S hZ) w5) rfl rfl (Nat.le_of_ble_eq_true rfl) dX12_readWitness_127 fun w6 =>
  bw_iconst hZ 1 (by decide) dX12_readWitness_130 <|
  bw_zret hZ hE (by decide) dX12_readWitness_131) (fun _ =>
  bw_aload_n hZ 0 rfl dX12_readWitness_108 <|
  bw_iconst hZ 5 (by decide) dX12_readWitness_109 <|
  bw_callVI (As := [.int 5]) hZ ml_RX12_53 rc_12 obM_0 (by decide) (c_X12_bad (zl Z) (zY Z) (hZ_S hZ) 5 w) rfl rfl (Nat.le_of_ble_eq_true rfl) dX12_readWitness_110 fun r8 w7 =>
  bw_zretC hZ hE dX12_readWitness_113)
def X12_readWitness_b9 (k9 : Int32 → Int32 → Int32 → Wd → Option (Int32 × Wd)) (y1 : Int32) (y2 : Int32) (y3 : Int32) (w : Wd) : Option (Int32 × Wd) :=
  if (w.1 0 11) ≤ y3 then
  (if y2 = 3 then
  (cl (f_X12_bad 4 w) fun r14 w13 =>
  if isB r14 = true then some (r14, w13) else none)
  else
  cv (f_X12_scan w) fun w2 =>
  if (w2.1 0 5) = 1 then
  (cl (f_X12_find 9 8 (w2.1 0 11) w2) fun r4 w3 =>
  if r4 = ((-1)) then
  (X12_readWitness_b103 y1 r4 w3)
  else
  if inb y1 4 = true then
  (if (((w3.1 22 (Int32.toNatClampNeg y1)) >>> (r4 &&& 31)) &&& 1) = 1 then
  (cl (f_X12_bad 3 w3) fun r10 w9 =>
  if isB r10 = true then some (r10, w9) else none)
  else
  X12_readWitness_b103 y1 r4 w3)
  else none)
  else
  cl (f_X12_bad 1 w2) fun r12 w11 =>
  if isB r12 = true then some (r12, w11) else none)
  else
  if inb y1 4 = true then
  (lt (y2 + (((w.1 22 (Int32.toNatClampNeg y1)) >>> (y3 &&& 31)) &&& 1)) fun v15 =>
  k9 y1 v15 (y3 + 1) w)
  else none
set_option maxRecDepth 100000 in
set_option maxHeartbeats 4000000 in
theorem t_X12_readWitness_b9 {Z : Cz (Int32 × Wd)} (hZ : OKZ Z SM cX12_readWitness RX12 4 (some .boolean) 4) (hE : EndI Z) (k9 : Int32 → Int32 → Int32 → Wd → Option (Int32 × Wd)) (hk9 : ∀ (y1 : Int32) (y2 : Int32) (y3 : Int32)  (w : Wd), BW Z 4 9 [(0, .ref (ph (zY Z) 0)), (1, .int y1), (2, .int y2), (3, .int y3)] [] w (k9 y1 y2 y3 w)) (y1 : Int32) (y2 : Int32) (y3 : Int32)  (w : Wd) : BW Z 4 9 [(0, .ref (ph (zY Z) 0)), (1, .int y1), (2, .int y2), (3, .int y3)] [] w (X12_readWitness_b9 k9 y1 y2 y3 w) :=
  bw_iload_n hZ 3 rfl dX12_readWitness_9 <|
  bw_aload_n hZ 0 rfl dX12_readWitness_10 <|
  bw_getI hZ fl_RX12_412 (by decide) obM_0 dX12_readWitness_11 <|
  bw_icmp_ge hZ (tgt := 36) (by decide) dX12_readWitness_14 (fun _ =>
  bw_iload_n hZ 2 rfl dX12_readWitness_36 <|
  bw_iconst hZ 3 (by decide) dX12_readWitness_37 <|
  bw_icmp_ne hZ (tgt := 47) (by decide) dX12_readWitness_38 (fun _ =>
  bw_aload_n hZ 0 rfl dX12_readWitness_47 <|
  bw_callVV (As := []) hZ ml_RX12_56 rc_12 obM_0 (by decide) (c_X12_scan (zl Z) (zY Z) (hZ_S hZ) w) rfl rfl (Nat.le_of_ble_eq_true rfl) dX12_readWitness_48 fun w2 =>
  bw_aload_n hZ 0 rfl dX12_readWitness_51 <|
  bw_getI hZ fl_RX12_27 (by decide) obM_0 dX12_readWitness_52 <|
  bw_iconst hZ 1 (by decide) dX12_readWitness_55 <|
  bw_icmp_eq hZ (tgt := 65) (by decide) dX12_readWitness_56 (fun _ =>
  bw_aload_n hZ 0 rfl dX12_readWitness_65 <|
  bw_aload_n hZ 0 rfl dX12_readWitness_66 <|
  bw_getR hZ fl_RX12_264 obM_0 rfl dX12_readWitness_67 <|
  bw_aload_n hZ 0 rfl dX12_readWitness_70 <|
  bw_getI hZ fl_RX12_412 (by decide) obM_0 dX12_readWitness_71 <|
  bw_callVI (As := [.ref (ph (zY Z) 9), .int (w2.1 0 11)]) hZ ml_RX12_75 rc_12 obM_0 (by decide) (c_X12_find (zl Z) (zY Z) (hZ_S hZ) 9 8 (w2.1 0 11) arM_9 w2) rfl rfl (Nat.le_of_ble_eq_true rfl) dX12_readWitness_74 fun r4 w3 =>
  bw_istore_n hZ rfl (by decide) rfl dX12_readWitness_77 <|
  bw_iload_n hZ 0 rfl dX12_readWitness_78 <|
  bw_iconst hZ (-1) (by decide) dX12_readWitness_79 <|
  bw_icmp_eq hZ (tgt := 103) (by decide) dX12_readWitness_80 (fun _ =>
  bw_sub [1, 2, 0] rfl (t_X12_readWitness_b103 hZ hE y1 r4 w3)) (fun _ =>
  bw_aload_n hZ 1 rfl dX12_readWitness_83 <|
  bw_getR hZ fl_RX12_276 obM_0 rfl dX12_readWitness_84 <|
  bw_iload_n hZ 2 rfl dX12_readWitness_87 <|
  bw_iald hZ (arM_22 _) dX12_readWitness_88 <|
  bw_iload_n hZ 0 rfl dX12_readWitness_89 <|
  bw_ishr hZ dX12_readWitness_90 <|
  bw_iconst hZ 1 (by decide) dX12_readWitness_91 <|
  bw_iand hZ dX12_readWitness_92 <|
  bw_iconst hZ 1 (by decide) dX12_readWitness_93 <|
  bw_icmp_ne hZ (tgt := 103) (by decide) dX12_readWitness_94 (fun _ =>
  bw_sub [1, 2, 0] rfl (t_X12_readWitness_b103 hZ hE y1 r4 w3)) (fun _ =>
  bw_aload_n hZ 1 rfl dX12_readWitness_97 <|
  bw_iconst hZ 3 (by decide) dX12_readWitness_98 <|
  bw_callVI (As := [.int 3]) hZ ml_RX12_53 rc_12 obM_0 (by decide) (c_X12_bad (zl Z) (zY Z) (hZ_S hZ) 3 w3) rfl rfl (Nat.le_of_ble_eq_true rfl) dX12_readWitness_99 fun r10 w9 =>
  bw_zretC hZ hE dX12_readWitness_102))) (fun _ =>
  bw_aload_n hZ 0 rfl dX12_readWitness_59 <|
  bw_iconst hZ 1 (by decide) dX12_readWitness_60 <|
  bw_callVI (As := [.int 1]) hZ ml_RX12_53 rc_12 obM_0 (by decide) (c_X12_bad (zl Z) (zY Z) (hZ_S hZ) 1 w2) rfl rfl (Nat.le_of_ble_eq_true rfl) dX12_readWitness_61 fun r12 w11 =>
  bw_zretC hZ hE dX12_readWitness_64)) (fun _ =>
  bw_aload_n hZ 0 rfl dX12_readWitness_41 <|
  bw_iconst hZ 4 (by decide) dX12_readWitness_42 <|
  bw_callVI (As := [.int 4]) hZ ml_RX12_53 rc_12 obM_0 (by decide) (c_X12_bad (zl Z) (zY Z) (hZ_S hZ) 4 w) rfl rfl (Nat.le_of_ble_eq_true rfl) dX12_readWitness_43 fun r14 w13 =>
  bw_zretC hZ hE dX12_readWitness_46)) (fun _ =>
  bw_iload_n hZ 2 rfl dX12_readWitness_17 <|
  bw_aload_n hZ 0 rfl dX12_readWitness_18 <|
  bw_getR hZ fl_RX12_276 obM_0 rfl dX12_readWitness_19 <|
  bw_iload_n hZ 1 rfl dX12_readWitness_22 <|
  bw_iald hZ (arM_22 _) dX12_readWitness_23 <|
  bw_iload_n hZ 3 rfl dX12_readWitness_24 <|
  bw_ishr hZ dX12_readWitness_25 <|
  bw_iconst hZ 1 (by decide) dX12_readWitness_26 <|
  bw_iand hZ dX12_readWitness_27 <|
  bw_iadd hZ dX12_readWitness_28 <|
  bw_nm fun v15 =>
  bw_istore_n hZ rfl (by decide) rfl dX12_readWitness_29 <|
  bw_iinc hZ 1 3 rfl (by decide) (by decide) rfl dX12_readWitness_30 <|
  bw_goto hZ (tgt := 9) (by decide) dX12_readWitness_33 <|
  bw_sub [2, 3, 1, 0] rfl (hk9 y1 v15 (y3 + 1) w))
def X12_readWitness_b9_L  : Int32 → Int32 → Int32 → Wd → Option (Int32 × Wd) :=
  lp fu (fun _ _ _ _ => none) (fun k9 => X12_readWitness_b9 k9)
theorem t_X12_readWitness_b9_L {Z : Cz (Int32 × Wd)} (hZ : OKZ Z SM cX12_readWitness RX12 4 (some .boolean) 4) (hE : EndI Z)  : ∀ (y1 : Int32) (y2 : Int32) (y3 : Int32)  (w : Wd), BW Z 4 9 [(0, .ref (ph (zY Z) 0)), (1, .int y1), (2, .int y2), (3, .int y3)] [] w (X12_readWitness_b9_L y1 y2 y3 w) :=
  lp_bw (fun k9 => ∀ (y1 : Int32) (y2 : Int32) (y3 : Int32)  (w : Wd), BW Z 4 9 [(0, .ref (ph (zY Z) 0)), (1, .int y1), (2, .int y2), (3, .int y3)] [] w (k9 y1 y2 y3 w)) (fun _ _ _ _ => bw_none) (fun k9 hk9 y1 y2 y3 w => t_X12_readWitness_b9 hZ hE k9 hk9 y1 y2 y3 w) fu
def f_X12_readWitness (w : Wd) : Option (Int32 × Wd) :=
  lt (w.1 0 49) fun v1 =>
  X12_readWitness_b9_L v1 0 0 w
set_option maxRecDepth 100000 in
set_option maxHeartbeats 4000000 in
theorem t_X12_readWitness {Z : Cz (Int32 × Wd)} (hZ : OKZ Z SM cX12_readWitness RX12 4 (some .boolean) 4) (hE : EndI Z)   (w : Wd) : BW Z 4 0 [(0, .ref (ph (zY Z) 0))] [] w (f_X12_readWitness w) :=
  bw_aload_n hZ 0 rfl dX12_readWitness_0 <|
  bw_getI hZ fl_RX12_431 (by decide) obM_0 dX12_readWitness_1 <|
  bw_nm fun v1 =>
  bw_istore_n hZ rfl (by decide) rfl dX12_readWitness_4 <|
  bw_iconst hZ 0 (by decide) dX12_readWitness_5 <|
  bw_istore_n hZ rfl (by decide) rfl dX12_readWitness_6 <|
  bw_iconst hZ 0 (by decide) dX12_readWitness_7 <|
  bw_istore_n hZ rfl (by decide) rfl dX12_readWitness_8 <|
  bw_sub [3, 2, 1, 0] rfl (t_X12_readWitness_b9_L hZ hE v1 0 0 w)
theorem c_X12_readWitness (l : Launch) (Y : Ev) (hY : Y.1 = SM)   (w : Wd) : CI l Y yX12_readWitness cX12_readWitness 4 4 [.ref (ph Y 0)] w .boolean (f_X12_readWitness w) := by
  refine CI_of (S := SM) (by decide) (Nat.le_of_ble_eq_true rfl) hY ?_
  intro Z hl hY2 hZ hE
  subst hY2
  exact t_X12_readWitness hZ hE w
-- WhichWillModel.readAgain
theorem dX12_readAgain_0 : decode cX12_readAgain 0 = .ok (.aload_n 0, 1) := by decide +kernel
theorem dX12_readAgain_1 : decode cX12_readAgain 1 = .ok (.invokevirtual 56, 3) := by decide +kernel
theorem dX12_readAgain_4 : decode cX12_readAgain 4 = .ok (.aload_n 0, 1) := by decide +kernel
theorem dX12_readAgain_5 : decode cX12_readAgain 5 = .ok (.aload_n 0, 1) := by decide +kernel
theorem dX12_readAgain_6 : decode cX12_readAgain 6 = .ok (.getfield 288, 3) := by decide +kernel
theorem dX12_readAgain_9 : decode cX12_readAgain 9 = .ok (.aload_n 0, 1) := by decide +kernel
theorem dX12_readAgain_10 : decode cX12_readAgain 10 = .ok (.getfield 431, 3) := by decide +kernel
theorem dX12_readAgain_13 : decode cX12_readAgain 13 = .ok (.iaload, 1) := by decide +kernel
theorem dX12_readAgain_14 : decode cX12_readAgain 14 = .ok (.invokevirtual 480, 3) := by decide +kernel
theorem dX12_readAgain_17 : decode cX12_readAgain 17 = .ok (.ifCond .ne 5, 3) := by decide +kernel
theorem dX12_readAgain_20 : decode cX12_readAgain 20 = .ok (.iconst 0, 1) := by decide +kernel
theorem dX12_readAgain_21 : decode cX12_readAgain 21 = .ok (.ireturn, 1) := by decide +kernel
theorem dX12_readAgain_22 : decode cX12_readAgain 22 = .ok (.aload_n 0, 1) := by decide +kernel
theorem dX12_readAgain_23 : decode cX12_readAgain 23 = .ok (.getfield 288, 3) := by decide +kernel
theorem dX12_readAgain_26 : decode cX12_readAgain 26 = .ok (.aload_n 0, 1) := by decide +kernel
theorem dX12_readAgain_27 : decode cX12_readAgain 27 = .ok (.getfield 431, 3) := by decide +kernel
theorem dX12_readAgain_30 : decode cX12_readAgain 30 = .ok (.dup2, 1) := by decide +kernel
theorem dX12_readAgain_31 : decode cX12_readAgain 31 = .ok (.iaload, 1) := by decide +kernel
theorem dX12_readAgain_32 : decode cX12_readAgain 32 = .ok (.iconst 1, 1) := by decide +kernel
theorem dX12_readAgain_33 : decode cX12_readAgain 33 = .ok (.aload_n 0, 1) := by decide +kernel
theorem dX12_readAgain_34 : decode cX12_readAgain 34 = .ok (.getfield 64, 3) := by decide +kernel
theorem dX12_readAgain_37 : decode cX12_readAgain 37 = .ok (.ishl, 1) := by decide +kernel
theorem dX12_readAgain_38 : decode cX12_readAgain 38 = .ok (.ior, 1) := by decide +kernel
theorem dX12_readAgain_39 : decode cX12_readAgain 39 = .ok (.iastore, 1) := by decide +kernel
theorem dX12_readAgain_40 : decode cX12_readAgain 40 = .ok (.iconst 1, 1) := by decide +kernel
theorem dX12_readAgain_41 : decode cX12_readAgain 41 = .ok (.ireturn, 1) := by decide +kernel
def f_X12_readAgain (w : Wd) : Option (Int32 × Wd) :=
  cv (f_X12_scan w) fun w1 =>
  if inb (w1.1 0 49) 4 = true then
  (cl (f_X12_paperNot (w1.1 26 (Int32.toNatClampNeg (w1.1 0 49))) w1) fun r3 w2 =>
  if r3 = 0 then
  (some (0, w2))
  else
  if inb (w2.1 0 49) 4 = true then
  (if inb (w2.1 0 49) 4 = true then
  (lt (wI w2 26 (Int32.toNatClampNeg (w2.1 0 49)) ((w2.1 26 (Int32.toNatClampNeg (w2.1 0 49))) ||| (1 <<< ((w2.1 0 7) &&& 31)))) fun w4 =>
  some (1, w4))
  else none)
  else none)
  else none
set_option maxRecDepth 100000 in
set_option maxHeartbeats 4000000 in
theorem t_X12_readAgain {Z : Cz (Int32 × Wd)} (hZ : OKZ Z SM cX12_readAgain RX12 1 (some .boolean) 4) (hE : EndI Z)   (w : Wd) : BW Z 1 0 [(0, .ref (ph (zY Z) 0))] [] w (f_X12_readAgain w) :=
  bw_aload_n hZ 0 rfl dX12_readAgain_0 <|
  bw_callVV (As := []) hZ ml_RX12_56 rc_12 obM_0 (by decide) (c_X12_scan (zl Z) (zY Z) (hZ_S hZ) w) rfl rfl (Nat.le_of_ble_eq_true rfl) dX12_readAgain_1 fun w1 =>
  bw_aload_n hZ 0 rfl dX12_readAgain_4 <|
  bw_aload_n hZ 0 rfl dX12_readAgain_5 <|
  bw_getR hZ fl_RX12_288 obM_0 rfl dX12_readAgain_6 <|
  bw_aload_n hZ 0 rfl dX12_readAgain_9 <|
  bw_getI hZ fl_RX12_431 (by decide) obM_0 dX12_readAgain_10 <|
  bw_iald hZ (arM_26 _) dX12_readAgain_13 <|
  bw_callVI (As := [.int (w1.1 26 (Int32.toNatClampNeg (w1.1 0 49)))]) hZ ml_RX12_480 rc_12 obM_0 (by decide) (c_X12_paperNot (zl Z) (zY Z) (hZ_S hZ) (w1.1 26 (Int32.toNatClampNeg (w1.1 0 49))) w1) rfl rfl (Nat.le_of_ble_eq_true rfl) dX12_readAgain_14 fun r3 w2 =>
  bw_if_ne hZ (tgt := 22) (by decide) dX12_readAgain_17 (fun _ =>
  bw_aload_n hZ 0 rfl dX12_readAgain_22 <|
  bw_getR hZ fl_RX12_288 obM_0 rfl dX12_readAgain_23 <|
  bw_aload_n hZ 0 rfl dX12_readAgain_26 <|
  bw_getI hZ fl_RX12_431 (by decide) obM_0 dX12_readAgain_27 <|
  bw_dup2 hZ rfl rfl dX12_readAgain_30 <|
  bw_iald hZ (arM_26 _) dX12_readAgain_31 <|
  bw_iconst hZ 1 (by decide) dX12_readAgain_32 <|
  bw_aload_n hZ 0 rfl dX12_readAgain_33 <|
  bw_getI hZ fl_RX12_64 (by decide) obM_0 dX12_readAgain_34 <|
  bw_ishl hZ dX12_readAgain_37 <|
  bw_ior hZ dX12_readAgain_38 <|
  bw_iast hZ (arM_26 _) dX12_readAgain_39 fun w4 =>
  bw_iconst hZ 1 (by decide) dX12_readAgain_40 <|
  bw_zret hZ hE (by decide) dX12_readAgain_41) (fun _ =>
  bw_iconst hZ 0 (by decide) dX12_readAgain_20 <|
  bw_zret hZ hE (by decide) dX12_readAgain_21)
theorem c_X12_readAgain (l : Launch) (Y : Ev) (hY : Y.1 = SM)   (w : Wd) : CI l Y yX12_readAgain cX12_readAgain 1 4 [.ref (ph Y 0)] w .boolean (f_X12_readAgain w) := by
  refine CI_of (S := SM) (by decide) (Nat.le_of_ble_eq_true rfl) hY ?_
  intro Z hl hY2 hZ hE
  subst hY2
  exact t_X12_readAgain hZ hE w
-- WhichWillModel.readOnce
theorem dX12_readOnce_0 : decode cX12_readOnce 0 = .ok (.aload_n 0, 1) := by decide +kernel
theorem dX12_readOnce_1 : decode cX12_readOnce 1 = .ok (.getfield 431, 3) := by decide +kernel
theorem dX12_readOnce_4 : decode cX12_readOnce 4 = .ok (.istore_n 1, 1) := by decide +kernel
theorem dX12_readOnce_5 : decode cX12_readOnce 5 = .ok (.aload_n 0, 1) := by decide +kernel
theorem dX12_readOnce_6 : decode cX12_readOnce 6 = .ok (.ldc_w 483, 3) := by decide +kernel
theorem dX12_readOnce_9 : decode cX12_readOnce 9 = .ok (.invokevirtual 49, 3) := by decide +kernel
theorem dX12_readOnce_12 : decode cX12_readOnce 12 = .ok (.ifCond .eq 7, 3) := by decide +kernel
theorem dX12_readOnce_15 : decode cX12_readOnce 15 = .ok (.iconst 0, 1) := by decide +kernel
theorem dX12_readOnce_16 : decode cX12_readOnce 16 = .ok (.goto 72, 3) := by decide +kernel
theorem dX12_readOnce_19 : decode cX12_readOnce 19 = .ok (.aload_n 0, 1) := by decide +kernel
theorem dX12_readOnce_20 : decode cX12_readOnce 20 = .ok (.ldc 84, 2) := by decide +kernel
theorem dX12_readOnce_22 : decode cX12_readOnce 22 = .ok (.invokevirtual 49, 3) := by decide +kernel
theorem dX12_readOnce_25 : decode cX12_readOnce 25 = .ok (.ifCond .eq 7, 3) := by decide +kernel
theorem dX12_readOnce_28 : decode cX12_readOnce 28 = .ok (.iconst 1, 1) := by decide +kernel
theorem dX12_readOnce_29 : decode cX12_readOnce 29 = .ok (.goto 59, 3) := by decide +kernel
theorem dX12_readOnce_32 : decode cX12_readOnce 32 = .ok (.aload_n 0, 1) := by decide +kernel
theorem dX12_readOnce_33 : decode cX12_readOnce 33 = .ok (.ldc 85, 2) := by decide +kernel
theorem dX12_readOnce_35 : decode cX12_readOnce 35 = .ok (.invokevirtual 49, 3) := by decide +kernel
theorem dX12_readOnce_38 : decode cX12_readOnce 38 = .ok (.ifCond .eq 7, 3) := by decide +kernel
theorem dX12_readOnce_41 : decode cX12_readOnce 41 = .ok (.iconst 2, 1) := by decide +kernel
theorem dX12_readOnce_42 : decode cX12_readOnce 42 = .ok (.goto 46, 3) := by decide +kernel
theorem dX12_readOnce_45 : decode cX12_readOnce 45 = .ok (.aload_n 0, 1) := by decide +kernel
theorem dX12_readOnce_46 : decode cX12_readOnce 46 = .ok (.ldc_w 485, 3) := by decide +kernel
theorem dX12_readOnce_49 : decode cX12_readOnce 49 = .ok (.invokevirtual 49, 3) := by decide +kernel
theorem dX12_readOnce_52 : decode cX12_readOnce 52 = .ok (.ifCond .eq 7, 3) := by decide +kernel
theorem dX12_readOnce_55 : decode cX12_readOnce 55 = .ok (.iconst 3, 1) := by decide +kernel
theorem dX12_readOnce_56 : decode cX12_readOnce 56 = .ok (.goto 32, 3) := by decide +kernel
theorem dX12_readOnce_59 : decode cX12_readOnce 59 = .ok (.aload_n 0, 1) := by decide +kernel
theorem dX12_readOnce_60 : decode cX12_readOnce 60 = .ok (.ldc_w 487, 3) := by decide +kernel
theorem dX12_readOnce_63 : decode cX12_readOnce 63 = .ok (.invokevirtual 49, 3) := by decide +kernel
theorem dX12_readOnce_66 : decode cX12_readOnce 66 = .ok (.ifCond .eq 7, 3) := by decide +kernel
theorem dX12_readOnce_69 : decode cX12_readOnce 69 = .ok (.iconst 4, 1) := by decide +kernel
theorem dX12_readOnce_70 : decode cX12_readOnce 70 = .ok (.goto 18, 3) := by decide +kernel
theorem dX12_readOnce_73 : decode cX12_readOnce 73 = .ok (.aload_n 0, 1) := by decide +kernel
theorem dX12_readOnce_74 : decode cX12_readOnce 74 = .ok (.ldc_w 489, 3) := by decide +kernel
theorem dX12_readOnce_77 : decode cX12_readOnce 77 = .ok (.invokevirtual 49, 3) := by decide +kernel
theorem dX12_readOnce_80 : decode cX12_readOnce 80 = .ok (.ifCond .eq 7, 3) := by decide +kernel
theorem dX12_readOnce_83 : decode cX12_readOnce 83 = .ok (.iconst 5, 1) := by decide +kernel
theorem dX12_readOnce_84 : decode cX12_readOnce 84 = .ok (.goto 4, 3) := by decide +kernel
theorem dX12_readOnce_87 : decode cX12_readOnce 87 = .ok (.iconst (-1), 1) := by decide +kernel
theorem dX12_readOnce_88 : decode cX12_readOnce 88 = .ok (.istore_n 2, 1) := by decide +kernel
theorem dX12_readOnce_89 : decode cX12_readOnce 89 = .ok (.iload_n 2, 1) := by decide +kernel
theorem dX12_readOnce_90 : decode cX12_readOnce 90 = .ok (.iconst (-1), 1) := by decide +kernel
theorem dX12_readOnce_91 : decode cX12_readOnce 91 = .ok (.if_icmp .ne 9, 3) := by decide +kernel
theorem dX12_readOnce_94 : decode cX12_readOnce 94 = .ok (.aload_n 0, 1) := by decide +kernel
theorem dX12_readOnce_95 : decode cX12_readOnce 95 = .ok (.iconst 1, 1) := by decide +kernel
theorem dX12_readOnce_96 : decode cX12_readOnce 96 = .ok (.invokevirtual 53, 3) := by decide +kernel
theorem dX12_readOnce_99 : decode cX12_readOnce 99 = .ok (.ireturn, 1) := by decide +kernel
theorem dX12_readOnce_100 : decode cX12_readOnce 100 = .ok (.aload_n 0, 1) := by decide +kernel
theorem dX12_readOnce_101 : decode cX12_readOnce 101 = .ok (.getfield 490, 3) := by decide +kernel
theorem dX12_readOnce_104 : decode cX12_readOnce 104 = .ok (.iload_n 2, 1) := by decide +kernel
theorem dX12_readOnce_105 : decode cX12_readOnce 105 = .ok (.ishr, 1) := by decide +kernel
theorem dX12_readOnce_106 : decode cX12_readOnce 106 = .ok (.iconst 1, 1) := by decide +kernel
theorem dX12_readOnce_107 : decode cX12_readOnce 107 = .ok (.iand, 1) := by decide +kernel
theorem dX12_readOnce_108 : decode cX12_readOnce 108 = .ok (.iconst 1, 1) := by decide +kernel
theorem dX12_readOnce_109 : decode cX12_readOnce 109 = .ok (.if_icmp .ne 9, 3) := by decide +kernel
theorem dX12_readOnce_112 : decode cX12_readOnce 112 = .ok (.aload_n 0, 1) := by decide +kernel
theorem dX12_readOnce_113 : decode cX12_readOnce 113 = .ok (.iconst 3, 1) := by decide +kernel
theorem dX12_readOnce_114 : decode cX12_readOnce 114 = .ok (.invokevirtual 53, 3) := by decide +kernel
theorem dX12_readOnce_117 : decode cX12_readOnce 117 = .ok (.ireturn, 1) := by decide +kernel
theorem dX12_readOnce_118 : decode cX12_readOnce 118 = .ok (.aload_n 0, 1) := by decide +kernel
theorem dX12_readOnce_119 : decode cX12_readOnce 119 = .ok (.dup, 1) := by decide +kernel
theorem dX12_readOnce_120 : decode cX12_readOnce 120 = .ok (.getfield 490, 3) := by decide +kernel
theorem dX12_readOnce_123 : decode cX12_readOnce 123 = .ok (.iconst 1, 1) := by decide +kernel
theorem dX12_readOnce_124 : decode cX12_readOnce 124 = .ok (.iload_n 2, 1) := by decide +kernel
theorem dX12_readOnce_125 : decode cX12_readOnce 125 = .ok (.ishl, 1) := by decide +kernel
theorem dX12_readOnce_126 : decode cX12_readOnce 126 = .ok (.ior, 1) := by decide +kernel
theorem dX12_readOnce_127 : decode cX12_readOnce 127 = .ok (.putfield 490, 3) := by decide +kernel
theorem dX12_readOnce_130 : decode cX12_readOnce 130 = .ok (.iload_n 2, 1) := by decide +kernel
theorem dX12_readOnce_131 : decode cX12_readOnce 131 = .ok (.iconst 4, 1) := by decide +kernel
theorem dX12_readOnce_132 : decode cX12_readOnce 132 = .ok (.if_icmp .ne 8, 3) := by decide +kernel
theorem dX12_readOnce_135 : decode cX12_readOnce 135 = .ok (.aload_n 0, 1) := by decide +kernel
theorem dX12_readOnce_136 : decode cX12_readOnce 136 = .ok (.invokevirtual 493, 3) := by decide +kernel
theorem dX12_readOnce_139 : decode cX12_readOnce 139 = .ok (.ireturn, 1) := by decide +kernel
theorem dX12_readOnce_140 : decode cX12_readOnce 140 = .ok (.aload_n 0, 1) := by decide +kernel
theorem dX12_readOnce_141 : decode cX12_readOnce 141 = .ok (.invokevirtual 56, 3) := by decide +kernel
theorem dX12_readOnce_144 : decode cX12_readOnce 144 = .ok (.iload_n 2, 1) := by decide +kernel
theorem dX12_readOnce_145 : decode cX12_readOnce 145 = .ok (.ifCond .ne 54, 3) := by decide +kernel
theorem dX12_readOnce_148 : decode cX12_readOnce 148 = .ok (.aload_n 0, 1) := by decide +kernel
theorem dX12_readOnce_149 : decode cX12_readOnce 149 = .ok (.iconst 0, 1) := by decide +kernel
theorem dX12_readOnce_150 : decode cX12_readOnce 150 = .ok (.sipush 9999, 3) := by decide +kernel
theorem dX12_readOnce_153 : decode cX12_readOnce 153 = .ok (.invokevirtual 119, 3) := by decide +kernel
theorem dX12_readOnce_156 : decode cX12_readOnce 156 = .ok (.ifCond .ne 5, 3) := by decide +kernel
theorem dX12_readOnce_159 : decode cX12_readOnce 159 = .ok (.iconst 0, 1) := by decide +kernel
theorem dX12_readOnce_160 : decode cX12_readOnce 160 = .ok (.ireturn, 1) := by decide +kernel
theorem dX12_readOnce_161 : decode cX12_readOnce 161 = .ok (.aload_n 0, 1) := by decide +kernel
theorem dX12_readOnce_162 : decode cX12_readOnce 162 = .ok (.getfield 270, 3) := by decide +kernel
theorem dX12_readOnce_165 : decode cX12_readOnce 165 = .ok (.iload_n 1, 1) := by decide +kernel
theorem dX12_readOnce_166 : decode cX12_readOnce 166 = .ok (.aload_n 0, 1) := by decide +kernel
theorem dX12_readOnce_167 : decode cX12_readOnce 167 = .ok (.getfield 64, 3) := by decide +kernel
theorem dX12_readOnce_170 : decode cX12_readOnce 170 = .ok (.iastore, 1) := by decide +kernel
theorem dX12_readOnce_171 : decode cX12_readOnce 171 = .ok (.aload_n 0, 1) := by decide +kernel
theorem dX12_readOnce_172 : decode cX12_readOnce 172 = .ok (.aload_n 0, 1) := by decide +kernel
theorem dX12_readOnce_173 : decode cX12_readOnce 173 = .ok (.getfield 270, 3) := by decide +kernel
theorem dX12_readOnce_176 : decode cX12_readOnce 176 = .ok (.iload_n 1, 1) := by decide +kernel
theorem dX12_readOnce_177 : decode cX12_readOnce 177 = .ok (.iaload, 1) := by decide +kernel
theorem dX12_readOnce_178 : decode cX12_readOnce 178 = .ok (.sipush 9999, 3) := by decide +kernel
theorem dX12_readOnce_181 : decode cX12_readOnce 181 = .ok (.invokevirtual 119, 3) := by decide +kernel
theorem dX12_readOnce_184 : decode cX12_readOnce 184 = .ok (.ifCond .ne 5, 3) := by decide +kernel
theorem dX12_readOnce_187 : decode cX12_readOnce 187 = .ok (.iconst 0, 1) := by decide +kernel
theorem dX12_readOnce_188 : decode cX12_readOnce 188 = .ok (.ireturn, 1) := by decide +kernel
theorem dX12_readOnce_189 : decode cX12_readOnce 189 = .ok (.aload_n 0, 1) := by decide +kernel
theorem dX12_readOnce_190 : decode cX12_readOnce 190 = .ok (.getfield 273, 3) := by decide +kernel
theorem dX12_readOnce_193 : decode cX12_readOnce 193 = .ok (.iload_n 1, 1) := by decide +kernel
theorem dX12_readOnce_194 : decode cX12_readOnce 194 = .ok (.aload_n 0, 1) := by decide +kernel
theorem dX12_readOnce_195 : decode cX12_readOnce 195 = .ok (.getfield 64, 3) := by decide +kernel
theorem dX12_readOnce_198 : decode cX12_readOnce 198 = .ok (.iastore, 1) := by decide +kernel
theorem dX12_readOnce_199 : decode cX12_readOnce 199 = .ok (.iload_n 2, 1) := by decide +kernel
theorem dX12_readOnce_200 : decode cX12_readOnce 200 = .ok (.iconst 1, 1) := by decide +kernel
theorem dX12_readOnce_201 : decode cX12_readOnce 201 = .ok (.if_icmp .ne 10, 3) := by decide +kernel
theorem dX12_readOnce_204 : decode cX12_readOnce 204 = .ok (.aload_n 0, 1) := by decide +kernel
theorem dX12_readOnce_205 : decode cX12_readOnce 205 = .ok (.getfield 294, 3) := by decide +kernel
theorem dX12_readOnce_208 : decode cX12_readOnce 208 = .ok (.iload_n 1, 1) := by decide +kernel
theorem dX12_readOnce_209 : decode cX12_readOnce 209 = .ok (.iconst 1, 1) := by decide +kernel
theorem dX12_readOnce_210 : decode cX12_readOnce 210 = .ok (.bastore, 1) := by decide +kernel
theorem dX12_readOnce_211 : decode cX12_readOnce 211 = .ok (.iload_n 2, 1) := by decide +kernel
theorem dX12_readOnce_212 : decode cX12_readOnce 212 = .ok (.iconst 2, 1) := by decide +kernel
theorem dX12_readOnce_213 : decode cX12_readOnce 213 = .ok (.if_icmp .ne 10, 3) := by decide +kernel
theorem dX12_readOnce_216 : decode cX12_readOnce 216 = .ok (.aload_n 0, 1) := by decide +kernel
theorem dX12_readOnce_217 : decode cX12_readOnce 217 = .ok (.getfield 297, 3) := by decide +kernel
theorem dX12_readOnce_220 : decode cX12_readOnce 220 = .ok (.iload_n 1, 1) := by decide +kernel
theorem dX12_readOnce_221 : decode cX12_readOnce 221 = .ok (.iconst 1, 1) := by decide +kernel
theorem dX12_readOnce_222 : decode cX12_readOnce 222 = .ok (.bastore, 1) := by decide +kernel
theorem dX12_readOnce_223 : decode cX12_readOnce 223 = .ok (.iload_n 2, 1) := by decide +kernel
theorem dX12_readOnce_224 : decode cX12_readOnce 224 = .ok (.iconst 3, 1) := by decide +kernel
theorem dX12_readOnce_225 : decode cX12_readOnce 225 = .ok (.if_icmp .ne 10, 3) := by decide +kernel
theorem dX12_readOnce_228 : decode cX12_readOnce 228 = .ok (.aload_n 0, 1) := by decide +kernel
theorem dX12_readOnce_229 : decode cX12_readOnce 229 = .ok (.getfield 300, 3) := by decide +kernel
theorem dX12_readOnce_232 : decode cX12_readOnce 232 = .ok (.iload_n 1, 1) := by decide +kernel
theorem dX12_readOnce_233 : decode cX12_readOnce 233 = .ok (.iconst 1, 1) := by decide +kernel
theorem dX12_readOnce_234 : decode cX12_readOnce 234 = .ok (.bastore, 1) := by decide +kernel
theorem dX12_readOnce_235 : decode cX12_readOnce 235 = .ok (.iload_n 2, 1) := by decide +kernel
theorem dX12_readOnce_236 : decode cX12_readOnce 236 = .ok (.iconst 5, 1) := by decide +kernel
theorem dX12_readOnce_237 : decode cX12_readOnce 237 = .ok (.if_icmp .ne 26, 3) := by decide +kernel
theorem dX12_readOnce_240 : decode cX12_readOnce 240 = .ok (.aload_n 0, 1) := by decide +kernel
theorem dX12_readOnce_241 : decode cX12_readOnce 241 = .ok (.iconst 0, 1) := by decide +kernel
theorem dX12_readOnce_242 : decode cX12_readOnce 242 = .ok (.iload_n 1, 1) := by decide +kernel
theorem dX12_readOnce_243 : decode cX12_readOnce 243 = .ok (.iconst 1, 1) := by decide +kernel
theorem dX12_readOnce_244 : decode cX12_readOnce 244 = .ok (.isub, 1) := by decide +kernel
theorem dX12_readOnce_245 : decode cX12_readOnce 245 = .ok (.invokevirtual 119, 3) := by decide +kernel
theorem dX12_readOnce_248 : decode cX12_readOnce 248 = .ok (.ifCond .ne 5, 3) := by decide +kernel
theorem dX12_readOnce_251 : decode cX12_readOnce 251 = .ok (.iconst 0, 1) := by decide +kernel
theorem dX12_readOnce_252 : decode cX12_readOnce 252 = .ok (.ireturn, 1) := by decide +kernel
theorem dX12_readOnce_253 : decode cX12_readOnce 253 = .ok (.aload_n 0, 1) := by decide +kernel
theorem dX12_readOnce_254 : decode cX12_readOnce 254 = .ok (.getfield 291, 3) := by decide +kernel
theorem dX12_readOnce_257 : decode cX12_readOnce 257 = .ok (.iload_n 1, 1) := by decide +kernel
theorem dX12_readOnce_258 : decode cX12_readOnce 258 = .ok (.aload_n 0, 1) := by decide +kernel
theorem dX12_readOnce_259 : decode cX12_readOnce 259 = .ok (.getfield 64, 3) := by decide +kernel
theorem dX12_readOnce_262 : decode cX12_readOnce 262 = .ok (.iastore, 1) := by decide +kernel
theorem dX12_readOnce_263 : decode cX12_readOnce 263 = .ok (.iconst 1, 1) := by decide +kernel
theorem dX12_readOnce_264 : decode cX12_readOnce 264 = .ok (.ireturn, 1) := by decide +kernel
def X12_readOnce_b235 (y1 : Int32) (y2 : Int32) (w : Wd) : Option (Int32 × Wd) :=
  if y2 = 5 then
  (cl (f_X12_number 0 (y1 - 1) w) fun r17 w16 =>
  if r17 = 0 then
  (some (0, w16))
  else
  if inb y1 4 = true then
  (lt (wI w16 27 (Int32.toNatClampNeg y1) (w16.1 0 7)) fun w18 =>
  some (1, w18))
  else none)
  else
  some (1, w)
set_option maxRecDepth 100000 in
set_option maxHeartbeats 4000000 in
theorem t_X12_readOnce_b235 {Z : Cz (Int32 × Wd)} (hZ : OKZ Z SM cX12_readOnce RX12 3 (some .boolean) 8) (hE : EndI Z)  (y1 : Int32) (y2 : Int32)  (w : Wd) : BW Z 3 235 [(0, .ref (ph (zY Z) 0)), (1, .int y1), (2, .int y2)] [] w (X12_readOnce_b235 y1 y2 w) :=
  bw_iload_n hZ 2 rfl dX12_readOnce_235 <|
  bw_iconst hZ 5 (by decide) dX12_readOnce_236 <|
  bw_icmp_ne hZ (tgt := 263) (by decide) dX12_readOnce_237 (fun _ =>
  bw_iconst hZ 1 (by decide) dX12_readOnce_263 <|
  bw_zret hZ hE (by decide) dX12_readOnce_264) (fun _ =>
  bw_aload_n hZ 0 rfl dX12_readOnce_240 <|
  bw_iconst hZ 0 (by decide) dX12_readOnce_241 <|
  bw_iload_n hZ 1 rfl dX12_readOnce_242 <|
  bw_iconst hZ 1 (by decide) dX12_readOnce_243 <|
  bw_isub hZ dX12_readOnce_244 <|
  bw_callVI (As := [.int 0, .int (y1 - 1)]) hZ ml_RX12_119 rc_12 obM_0 (by decide) (c_X12_number (zl Z) (zY Z) (hZ_S hZ) 0 (y1 - 1) w) rfl rfl (Nat.le_of_ble_eq_true rfl) dX12_readOnce_245 fun r17 w16 =>
  bw_if_ne hZ (tgt := 253) (by decide) dX12_readOnce_248 (fun _ =>
  bw_aload_n hZ 0 rfl dX12_readOnce_253 <|
  bw_getR hZ fl_RX12_291 obM_0 rfl dX12_readOnce_254 <|
  bw_iload_n hZ 1 rfl dX12_readOnce_257 <|
  bw_aload_n hZ 0 rfl dX12_readOnce_258 <|
  bw_getI hZ fl_RX12_64 (by decide) obM_0 dX12_readOnce_259 <|
  bw_iast hZ (arM_27 _) dX12_readOnce_262 fun w18 =>
  bw_iconst hZ 1 (by decide) dX12_readOnce_263 <|
  bw_zret hZ hE (by decide) dX12_readOnce_264) (fun _ =>
  bw_iconst hZ 0 (by decide) dX12_readOnce_251 <|
  bw_zret hZ hE (by decide) dX12_readOnce_252))
def X12_readOnce_b223 (y1 : Int32) (y2 : Int32) (w : Wd) : Option (Int32 × Wd) :=
  if y2 = 3 then
  (if inb y1 4 = true then
  (lt (wI w 30 (Int32.toNatClampNeg y1) (vp_nar .boolean 1)) fun w19 =>
  X12_readOnce_b235 y1 y2 w19)
  else none)
  else
  X12_readOnce_b235 y1 y2 w
set_option maxRecDepth 100000 in
set_option maxHeartbeats 4000000 in
theorem t_X12_readOnce_b223 {Z : Cz (Int32 × Wd)} (hZ : OKZ Z SM cX12_readOnce RX12 3 (some .boolean) 8) (hE : EndI Z)  (y1 : Int32) (y2 : Int32)  (w : Wd) : BW Z 3 223 [(0, .ref (ph (zY Z) 0)), (1, .int y1), (2, .int y2)] [] w (X12_readOnce_b223 y1 y2 w) :=
  bw_iload_n hZ 2 rfl dX12_readOnce_223 <|
  bw_iconst hZ 3 (by decide) dX12_readOnce_224 <|
  bw_icmp_ne hZ (tgt := 235) (by decide) dX12_readOnce_225 (fun _ =>
  bw_sub [0, 1, 2] rfl (t_X12_readOnce_b235 hZ hE y1 y2 w)) (fun _ =>
  bw_aload_n hZ 0 rfl dX12_readOnce_228 <|
  bw_getR hZ fl_RX12_300 obM_0 rfl dX12_readOnce_229 <|
  bw_iload_n hZ 1 rfl dX12_readOnce_232 <|
  bw_iconst hZ 1 (by decide) dX12_readOnce_233 <|
  bw_zast hZ (arM_30 _) dX12_readOnce_234 fun w19 =>
  bw_sub [0, 1, 2] rfl (t_X12_readOnce_b235 hZ hE y1 y2 w19))
def X12_readOnce_b211 (y1 : Int32) (y2 : Int32) (w : Wd) : Option (Int32 × Wd) :=
  if y2 = 2 then
  (if inb y1 4 = true then
  (lt (wI w 29 (Int32.toNatClampNeg y1) (vp_nar .boolean 1)) fun w20 =>
  X12_readOnce_b223 y1 y2 w20)
  else none)
  else
  X12_readOnce_b223 y1 y2 w
set_option maxRecDepth 100000 in
set_option maxHeartbeats 4000000 in
theorem t_X12_readOnce_b211 {Z : Cz (Int32 × Wd)} (hZ : OKZ Z SM cX12_readOnce RX12 3 (some .boolean) 8) (hE : EndI Z)  (y1 : Int32) (y2 : Int32)  (w : Wd) : BW Z 3 211 [(0, .ref (ph (zY Z) 0)), (1, .int y1), (2, .int y2)] [] w (X12_readOnce_b211 y1 y2 w) :=
  bw_iload_n hZ 2 rfl dX12_readOnce_211 <|
  bw_iconst hZ 2 (by decide) dX12_readOnce_212 <|
  bw_icmp_ne hZ (tgt := 223) (by decide) dX12_readOnce_213 (fun _ =>
  bw_sub [0, 1, 2] rfl (t_X12_readOnce_b223 hZ hE y1 y2 w)) (fun _ =>
  bw_aload_n hZ 0 rfl dX12_readOnce_216 <|
  bw_getR hZ fl_RX12_297 obM_0 rfl dX12_readOnce_217 <|
  bw_iload_n hZ 1 rfl dX12_readOnce_220 <|
  bw_iconst hZ 1 (by decide) dX12_readOnce_221 <|
  bw_zast hZ (arM_29 _) dX12_readOnce_222 fun w20 =>
  bw_sub [0, 1, 2] rfl (t_X12_readOnce_b223 hZ hE y1 y2 w20))
def X12_readOnce_b199 (y1 : Int32) (y2 : Int32) (w : Wd) : Option (Int32 × Wd) :=
  if y2 = 1 then
  (if inb y1 4 = true then
  (lt (wI w 28 (Int32.toNatClampNeg y1) (vp_nar .boolean 1)) fun w21 =>
  X12_readOnce_b211 y1 y2 w21)
  else none)
  else
  X12_readOnce_b211 y1 y2 w
set_option maxRecDepth 100000 in
set_option maxHeartbeats 4000000 in
theorem t_X12_readOnce_b199 {Z : Cz (Int32 × Wd)} (hZ : OKZ Z SM cX12_readOnce RX12 3 (some .boolean) 8) (hE : EndI Z)  (y1 : Int32) (y2 : Int32)  (w : Wd) : BW Z 3 199 [(0, .ref (ph (zY Z) 0)), (1, .int y1), (2, .int y2)] [] w (X12_readOnce_b199 y1 y2 w) :=
  bw_iload_n hZ 2 rfl dX12_readOnce_199 <|
  bw_iconst hZ 1 (by decide) dX12_readOnce_200 <|
  bw_icmp_ne hZ (tgt := 211) (by decide) dX12_readOnce_201 (fun _ =>
  bw_sub [0, 1, 2] rfl (t_X12_readOnce_b211 hZ hE y1 y2 w)) (fun _ =>
  bw_aload_n hZ 0 rfl dX12_readOnce_204 <|
  bw_getR hZ fl_RX12_294 obM_0 rfl dX12_readOnce_205 <|
  bw_iload_n hZ 1 rfl dX12_readOnce_208 <|
  bw_iconst hZ 1 (by decide) dX12_readOnce_209 <|
  bw_zast hZ (arM_28 _) dX12_readOnce_210 fun w21 =>
  bw_sub [0, 1, 2] rfl (t_X12_readOnce_b211 hZ hE y1 y2 w21))
def X12_readOnce_b88 (y1 : Int32) (t0 : Int32) (w : Wd) : Option (Int32 × Wd) :=
  if t0 = ((-1)) then
  (cl (f_X12_bad 1 w) fun r33 w32 =>
  if isB r33 = true then some (r33, w32) else none)
  else
  if (((w.1 0 69) >>> (t0 &&& 31)) &&& 1) = 1 then
  (cl (f_X12_bad 3 w) fun r31 w30 =>
  if isB r31 = true then some (r31, w30) else none)
  else
  lt (wI w 0 69 ((w.1 0 69) ||| (1 <<< (t0 &&& 31)))) fun w14 =>
  if t0 = 4 then
  (cl (f_X12_readRest w14) fun r29 w28 =>
  if isB r29 = true then some (r29, w28) else none)
  else
  cv (f_X12_scan w14) fun w15 =>
  if t0 = 0 then
  (cl (f_X12_number 0 9999 w15) fun r23 w22 =>
  if r23 = 0 then
  (some (0, w22))
  else
  if inb y1 4 = true then
  (lt (wI w22 20 (Int32.toNatClampNeg y1) (w22.1 0 7)) fun w24 =>
  if inb y1 4 = true then
  (cl (f_X12_number (w24.1 20 (Int32.toNatClampNeg y1)) 9999 w24) fun r26 w25 =>
  if r26 = 0 then
  (some (0, w25))
  else
  if inb y1 4 = true then
  (lt (wI w25 21 (Int32.toNatClampNeg y1) (w25.1 0 7)) fun w27 =>
  X12_readOnce_b199 y1 t0 w27)
  else none)
  else none)
  else none)
  else
  X12_readOnce_b199 y1 t0 w15
set_option maxRecDepth 100000 in
set_option maxHeartbeats 4000000 in
theorem t_X12_readOnce_b88 {Z : Cz (Int32 × Wd)} (hZ : OKZ Z SM cX12_readOnce RX12 3 (some .boolean) 8) (hE : EndI Z)  (y1 : Int32) (t0 : Int32)  (w : Wd) : BW Z 3 88 [(0, .ref (ph (zY Z) 0)), (1, .int y1)] [.int t0] w (X12_readOnce_b88 y1 t0 w) :=
  bw_istore_n hZ rfl (by decide) rfl dX12_readOnce_88 <|
  bw_iload_n hZ 0 rfl dX12_readOnce_89 <|
  bw_iconst hZ (-1) (by decide) dX12_readOnce_90 <|
  bw_icmp_ne hZ (tgt := 100) (by decide) dX12_readOnce_91 (fun _ =>
  bw_aload_n hZ 1 rfl dX12_readOnce_100 <|
  bw_getI hZ fl_RX12_490 (by decide) obM_0 dX12_readOnce_101 <|
  bw_iload_n hZ 0 rfl dX12_readOnce_104 <|
  bw_ishr hZ dX12_readOnce_105 <|
  bw_iconst hZ 1 (by decide) dX12_readOnce_106 <|
  bw_iand hZ dX12_readOnce_107 <|
  bw_iconst hZ 1 (by decide) dX12_readOnce_108 <|
  bw_icmp_ne hZ (tgt := 118) (by decide) dX12_readOnce_109 (fun _ =>
  bw_aload_n hZ 1 rfl dX12_readOnce_118 <|
  bw_dup hZ rfl dX12_readOnce_119 <|
  bw_getI hZ fl_RX12_490 (by decide) obM_0 dX12_readOnce_120 <|
  bw_iconst hZ 1 (by decide) dX12_readOnce_123 <|
  bw_iload_n hZ 0 rfl dX12_readOnce_124 <|
  bw_ishl hZ dX12_readOnce_125 <|
  bw_ior hZ dX12_readOnce_126 <|
  bw_putI hZ fl_RX12_490 rfl rfl (by decide) obM_0 dX12_readOnce_127 fun w14 =>
  bw_iload_n hZ 0 rfl dX12_readOnce_130 <|
  bw_iconst hZ 4 (by decide) dX12_readOnce_131 <|
  bw_icmp_ne hZ (tgt := 140) (by decide) dX12_readOnce_132 (fun _ =>
  bw_aload_n hZ 1 rfl dX12_readOnce_140 <|
  bw_callVV (As := []) hZ ml_RX12_56 rc_12 obM_0 (by decide) (c_X12_scan (zl Z) (zY Z) (hZ_S hZ) w14) rfl rfl (Nat.le_of_ble_eq_true rfl) dX12_readOnce_141 fun w15 =>
  bw_iload_n hZ 0 rfl dX12_readOnce_144 <|
  bw_if_ne hZ (tgt := 199) (by decide) dX12_readOnce_145 (fun _ =>
  bw_sub [1, 2, 0] rfl (t_X12_readOnce_b199 hZ hE y1 t0 w15)) (fun _ =>
  bw_aload_n hZ 1 rfl dX12_readOnce_148 <|
  bw_iconst hZ 0 (by decide) dX12_readOnce_149 <|
  bw_sipush hZ 9999 (by decide) dX12_readOnce_150 <|
  bw_callVI (As := [.int 0, .int 9999]) hZ ml_RX12_119 rc_12 obM_0 (by decide) (c_X12_number (zl Z) (zY Z) (hZ_S hZ) 0 9999 w15) rfl rfl (Nat.le_of_ble_eq_true rfl) dX12_readOnce_153 fun r23 w22 =>
  bw_if_ne hZ (tgt := 161) (by decide) dX12_readOnce_156 (fun _ =>
  bw_aload_n hZ 1 rfl dX12_readOnce_161 <|
  bw_getR hZ fl_RX12_270 obM_0 rfl dX12_readOnce_162 <|
  bw_iload_n hZ 2 rfl dX12_readOnce_165 <|
  bw_aload_n hZ 1 rfl dX12_readOnce_166 <|
  bw_getI hZ fl_RX12_64 (by decide) obM_0 dX12_readOnce_167 <|
  bw_iast hZ (arM_20 _) dX12_readOnce_170 fun w24 =>
  bw_aload_n hZ 1 rfl dX12_readOnce_171 <|
  bw_aload_n hZ 1 rfl dX12_readOnce_172 <|
  bw_getR hZ fl_RX12_270 obM_0 rfl dX12_readOnce_173 <|
  bw_iload_n hZ 2 rfl dX12_readOnce_176 <|
  bw_iald hZ (arM_20 _) dX12_readOnce_177 <|
  bw_sipush hZ 9999 (by decide) dX12_readOnce_178 <|
  bw_callVI (As := [.int (w24.1 20 (Int32.toNatClampNeg y1)), .int 9999]) hZ ml_RX12_119 rc_12 obM_0 (by decide) (c_X12_number (zl Z) (zY Z) (hZ_S hZ) (w24.1 20 (Int32.toNatClampNeg y1)) 9999 w24) rfl rfl (Nat.le_of_ble_eq_true rfl) dX12_readOnce_181 fun r26 w25 =>
  bw_if_ne hZ (tgt := 189) (by decide) dX12_readOnce_184 (fun _ =>
  bw_aload_n hZ 1 rfl dX12_readOnce_189 <|
  bw_getR hZ fl_RX12_273 obM_0 rfl dX12_readOnce_190 <|
  bw_iload_n hZ 2 rfl dX12_readOnce_193 <|
  bw_aload_n hZ 1 rfl dX12_readOnce_194 <|
  bw_getI hZ fl_RX12_64 (by decide) obM_0 dX12_readOnce_195 <|
  bw_iast hZ (arM_21 _) dX12_readOnce_198 fun w27 =>
  bw_sub [1, 2, 0] rfl (t_X12_readOnce_b199 hZ hE y1 t0 w27)) (fun _ =>
  bw_iconst hZ 0 (by decide) dX12_readOnce_187 <|
  bw_zret hZ hE (by decide) dX12_readOnce_188)) (fun _ =>
  bw_iconst hZ 0 (by decide) dX12_readOnce_159 <|
  bw_zret hZ hE (by decide) dX12_readOnce_160))) (fun _ =>
  bw_aload_n hZ 1 rfl dX12_readOnce_135 <|
  bw_callVI (As := []) hZ ml_RX12_493 rc_12 obM_0 (by decide) (c_X12_readRest (zl Z) (zY Z) (hZ_S hZ) w14) rfl rfl (Nat.le_of_ble_eq_true rfl) dX12_readOnce_136 fun r29 w28 =>
  bw_zretC hZ hE dX12_readOnce_139)) (fun _ =>
  bw_aload_n hZ 1 rfl dX12_readOnce_112 <|
  bw_iconst hZ 3 (by decide) dX12_readOnce_113 <|
  bw_callVI (As := [.int 3]) hZ ml_RX12_53 rc_12 obM_0 (by decide) (c_X12_bad (zl Z) (zY Z) (hZ_S hZ) 3 w) rfl rfl (Nat.le_of_ble_eq_true rfl) dX12_readOnce_114 fun r31 w30 =>
  bw_zretC hZ hE dX12_readOnce_117)) (fun _ =>
  bw_aload_n hZ 1 rfl dX12_readOnce_94 <|
  bw_iconst hZ 1 (by decide) dX12_readOnce_95 <|
  bw_callVI (As := [.int 1]) hZ ml_RX12_53 rc_12 obM_0 (by decide) (c_X12_bad (zl Z) (zY Z) (hZ_S hZ) 1 w) rfl rfl (Nat.le_of_ble_eq_true rfl) dX12_readOnce_96 fun r33 w32 =>
  bw_zretC hZ hE dX12_readOnce_99)
def f_X12_readOnce (w : Wd) : Option (Int32 × Wd) :=
  lt (w.1 0 49) fun v1 =>
  cl (f_X12_is 31 w) fun r3 w2 =>
  if r3 = 0 then
  (cl (f_X12_is 2 w2) fun r5 w4 =>
  if r5 = 0 then
  (cl (f_X12_is 3 w4) fun r7 w6 =>
  if r7 = 0 then
  (cl (f_X12_is 32 w6) fun r9 w8 =>
  if r9 = 0 then
  (cl (f_X12_is 41 w8) fun r11 w10 =>
  if r11 = 0 then
  (cl (f_X12_is 46 w10) fun r13 w12 =>
  if r13 = 0 then
  (X12_readOnce_b88 v1 ((-1)) w12)
  else
  X12_readOnce_b88 v1 5 w12)
  else
  X12_readOnce_b88 v1 4 w10)
  else
  X12_readOnce_b88 v1 3 w8)
  else
  X12_readOnce_b88 v1 2 w6)
  else
  X12_readOnce_b88 v1 1 w4)
  else
  X12_readOnce_b88 v1 0 w2
set_option maxRecDepth 100000 in
set_option maxHeartbeats 4000000 in
theorem t_X12_readOnce {Z : Cz (Int32 × Wd)} (hZ : OKZ Z SM cX12_readOnce RX12 3 (some .boolean) 8) (hE : EndI Z)   (w : Wd) : BW Z 3 0 [(0, .ref (ph (zY Z) 0))] [] w (f_X12_readOnce w) :=
  bw_aload_n hZ 0 rfl dX12_readOnce_0 <|
  bw_getI hZ fl_RX12_431 (by decide) obM_0 dX12_readOnce_1 <|
  bw_nm fun v1 =>
  bw_istore_n hZ rfl (by decide) rfl dX12_readOnce_4 <|
  bw_aload_n hZ 1 rfl dX12_readOnce_5 <|
  bw_ldcSW hZ 91 rfl dX12_readOnce_6 <|
  bw_callVI (As := [.ref (sK (zY Z) 31)]) hZ ml_RX12_49 rc_12 obM_0 (by decide) (c_X12_is (zl Z) (zY Z) (hZ_S hZ) 31 (by decide) w) rfl rfl (Nat.le_of_ble_eq_true rfl) dX12_readOnce_9 fun r3 w2 =>
  bw_if_eq hZ (tgt := 19) (by decide) dX12_readOnce_12 (fun _ =>
  bw_aload_n hZ 1 rfl dX12_readOnce_19 <|
  bw_ldcS hZ 52 rfl dX12_readOnce_20 <|
  bw_callVI (As := [.ref (sK (zY Z) 2)]) hZ ml_RX12_49 rc_12 obM_0 (by decide) (c_X12_is (zl Z) (zY Z) (hZ_S hZ) 2 (by decide) w2) rfl rfl (Nat.le_of_ble_eq_true rfl) dX12_readOnce_22 fun r5 w4 =>
  bw_if_eq hZ (tgt := 32) (by decide) dX12_readOnce_25 (fun _ =>
  bw_aload_n hZ 1 rfl dX12_readOnce_32 <|
  bw_ldcS hZ 53 rfl dX12_readOnce_33 <|
  bw_callVI (As := [.ref (sK (zY Z) 3)]) hZ ml_RX12_49 rc_12 obM_0 (by decide) (c_X12_is (zl Z) (zY Z) (hZ_S hZ) 3 (by decide) w4) rfl rfl (Nat.le_of_ble_eq_true rfl) dX12_readOnce_35 fun r7 w6 =>
  bw_if_eq hZ (tgt := 45) (by decide) dX12_readOnce_38 (fun _ =>
  bw_aload_n hZ 1 rfl dX12_readOnce_45 <|
  bw_ldcSW hZ 92 rfl dX12_readOnce_46 <|
  bw_callVI (As := [.ref (sK (zY Z) 32)]) hZ ml_RX12_49 rc_12 obM_0 (by decide) (c_X12_is (zl Z) (zY Z) (hZ_S hZ) 32 (by decide) w6) rfl rfl (Nat.le_of_ble_eq_true rfl) dX12_readOnce_49 fun r9 w8 =>
  bw_if_eq hZ (tgt := 59) (by decide) dX12_readOnce_52 (fun _ =>
  bw_aload_n hZ 1 rfl dX12_readOnce_59 <|
  bw_ldcSW hZ 93 rfl dX12_readOnce_60 <|
  bw_callVI (As := [.ref (sK (zY Z) 41)]) hZ ml_RX12_49 rc_12 obM_0 (by decide) (c_X12_is (zl Z) (zY Z) (hZ_S hZ) 41 (by decide) w8) rfl rfl (Nat.le_of_ble_eq_true rfl) dX12_readOnce_63 fun r11 w10 =>
  bw_if_eq hZ (tgt := 73) (by decide) dX12_readOnce_66 (fun _ =>
  bw_aload_n hZ 1 rfl dX12_readOnce_73 <|
  bw_ldcSW hZ 94 rfl dX12_readOnce_74 <|
  bw_callVI (As := [.ref (sK (zY Z) 46)]) hZ ml_RX12_49 rc_12 obM_0 (by decide) (c_X12_is (zl Z) (zY Z) (hZ_S hZ) 46 (by decide) w10) rfl rfl (Nat.le_of_ble_eq_true rfl) dX12_readOnce_77 fun r13 w12 =>
  bw_if_eq hZ (tgt := 87) (by decide) dX12_readOnce_80 (fun _ =>
  bw_iconst hZ (-1) (by decide) dX12_readOnce_87 <|
  bw_sub [1, 0] rfl (t_X12_readOnce_b88 hZ hE v1 ((-1)) w12)) (fun _ =>
  bw_iconst hZ 5 (by decide) dX12_readOnce_83 <|
  bw_goto hZ (tgt := 88) (by decide) dX12_readOnce_84 <|
  bw_sub [1, 0] rfl (t_X12_readOnce_b88 hZ hE v1 5 w12))) (fun _ =>
  bw_iconst hZ 4 (by decide) dX12_readOnce_69 <|
  bw_goto hZ (tgt := 88) (by decide) dX12_readOnce_70 <|
  bw_sub [1, 0] rfl (t_X12_readOnce_b88 hZ hE v1 4 w10))) (fun _ =>
  bw_iconst hZ 3 (by decide) dX12_readOnce_55 <|
  bw_goto hZ (tgt := 88) (by decide) dX12_readOnce_56 <|
  bw_sub [1, 0] rfl (t_X12_readOnce_b88 hZ hE v1 3 w8))) (fun _ =>
  bw_iconst hZ 2 (by decide) dX12_readOnce_41 <|
  bw_goto hZ (tgt := 88) (by decide) dX12_readOnce_42 <|
  bw_sub [1, 0] rfl (t_X12_readOnce_b88 hZ hE v1 2 w6))) (fun _ =>
  bw_iconst hZ 1 (by decide) dX12_readOnce_28 <|
  bw_goto hZ (tgt := 88) (by decide) dX12_readOnce_29 <|
  bw_sub [1, 0] rfl (t_X12_readOnce_b88 hZ hE v1 1 w4))) (fun _ =>
  bw_iconst hZ 0 (by decide) dX12_readOnce_15 <|
  bw_goto hZ (tgt := 88) (by decide) dX12_readOnce_16 <|
  bw_sub [1, 0] rfl (t_X12_readOnce_b88 hZ hE v1 0 w2))
theorem c_X12_readOnce (l : Launch) (Y : Ev) (hY : Y.1 = SM)   (w : Wd) : CI l Y yX12_readOnce cX12_readOnce 3 8 [.ref (ph Y 0)] w .boolean (f_X12_readOnce w) := by
  refine CI_of (S := SM) (by decide) (Nat.le_of_ble_eq_true rfl) hY ?_
  intro Z hl hY2 hZ hE
  subst hY2
  exact t_X12_readOnce hZ hE w
-- WhichWillModel.readPaper
theorem dX12_readPaper_0 : decode cX12_readPaper 0 = .ok (.aload_n 0, 1) := by decide +kernel
theorem dX12_readPaper_1 : decode cX12_readPaper 1 = .ok (.getfield 431, 3) := by decide +kernel
theorem dX12_readPaper_4 : decode cX12_readPaper 4 = .ok (.istore_n 1, 1) := by decide +kernel
theorem dX12_readPaper_5 : decode cX12_readPaper 5 = .ok (.aload_n 0, 1) := by decide +kernel
theorem dX12_readPaper_6 : decode cX12_readPaper 6 = .ok (.getfield 270, 3) := by decide +kernel
theorem dX12_readPaper_9 : decode cX12_readPaper 9 = .ok (.iload_n 1, 1) := by decide +kernel
theorem dX12_readPaper_10 : decode cX12_readPaper 10 = .ok (.iconst 0, 1) := by decide +kernel
theorem dX12_readPaper_11 : decode cX12_readPaper 11 = .ok (.iastore, 1) := by decide +kernel
theorem dX12_readPaper_12 : decode cX12_readPaper 12 = .ok (.aload_n 0, 1) := by decide +kernel
theorem dX12_readPaper_13 : decode cX12_readPaper 13 = .ok (.getfield 273, 3) := by decide +kernel
theorem dX12_readPaper_16 : decode cX12_readPaper 16 = .ok (.iload_n 1, 1) := by decide +kernel
theorem dX12_readPaper_17 : decode cX12_readPaper 17 = .ok (.sipush 9999, 3) := by decide +kernel
theorem dX12_readPaper_20 : decode cX12_readPaper 20 = .ok (.iastore, 1) := by decide +kernel
theorem dX12_readPaper_21 : decode cX12_readPaper 21 = .ok (.aload_n 0, 1) := by decide +kernel
theorem dX12_readPaper_22 : decode cX12_readPaper 22 = .ok (.getfield 276, 3) := by decide +kernel
theorem dX12_readPaper_25 : decode cX12_readPaper 25 = .ok (.iload_n 1, 1) := by decide +kernel
theorem dX12_readPaper_26 : decode cX12_readPaper 26 = .ok (.iconst 0, 1) := by decide +kernel
theorem dX12_readPaper_27 : decode cX12_readPaper 27 = .ok (.iastore, 1) := by decide +kernel
theorem dX12_readPaper_28 : decode cX12_readPaper 28 = .ok (.aload_n 0, 1) := by decide +kernel
theorem dX12_readPaper_29 : decode cX12_readPaper 29 = .ok (.getfield 279, 3) := by decide +kernel
theorem dX12_readPaper_32 : decode cX12_readPaper 32 = .ok (.iload_n 1, 1) := by decide +kernel
theorem dX12_readPaper_33 : decode cX12_readPaper 33 = .ok (.iconst 0, 1) := by decide +kernel
theorem dX12_readPaper_34 : decode cX12_readPaper 34 = .ok (.iastore, 1) := by decide +kernel
theorem dX12_readPaper_35 : decode cX12_readPaper 35 = .ok (.aload_n 0, 1) := by decide +kernel
theorem dX12_readPaper_36 : decode cX12_readPaper 36 = .ok (.getfield 282, 3) := by decide +kernel
theorem dX12_readPaper_39 : decode cX12_readPaper 39 = .ok (.iload_n 1, 1) := by decide +kernel
theorem dX12_readPaper_40 : decode cX12_readPaper 40 = .ok (.iconst 0, 1) := by decide +kernel
theorem dX12_readPaper_41 : decode cX12_readPaper 41 = .ok (.iastore, 1) := by decide +kernel
theorem dX12_readPaper_42 : decode cX12_readPaper 42 = .ok (.aload_n 0, 1) := by decide +kernel
theorem dX12_readPaper_43 : decode cX12_readPaper 43 = .ok (.getfield 285, 3) := by decide +kernel
theorem dX12_readPaper_46 : decode cX12_readPaper 46 = .ok (.iload_n 1, 1) := by decide +kernel
theorem dX12_readPaper_47 : decode cX12_readPaper 47 = .ok (.iconst 0, 1) := by decide +kernel
theorem dX12_readPaper_48 : decode cX12_readPaper 48 = .ok (.iastore, 1) := by decide +kernel
theorem dX12_readPaper_49 : decode cX12_readPaper 49 = .ok (.aload_n 0, 1) := by decide +kernel
theorem dX12_readPaper_50 : decode cX12_readPaper 50 = .ok (.getfield 288, 3) := by decide +kernel
theorem dX12_readPaper_53 : decode cX12_readPaper 53 = .ok (.iload_n 1, 1) := by decide +kernel
theorem dX12_readPaper_54 : decode cX12_readPaper 54 = .ok (.iconst 0, 1) := by decide +kernel
theorem dX12_readPaper_55 : decode cX12_readPaper 55 = .ok (.iastore, 1) := by decide +kernel
theorem dX12_readPaper_56 : decode cX12_readPaper 56 = .ok (.aload_n 0, 1) := by decide +kernel
theorem dX12_readPaper_57 : decode cX12_readPaper 57 = .ok (.getfield 291, 3) := by decide +kernel
theorem dX12_readPaper_60 : decode cX12_readPaper 60 = .ok (.iload_n 1, 1) := by decide +kernel
theorem dX12_readPaper_61 : decode cX12_readPaper 61 = .ok (.iconst (-1), 1) := by decide +kernel
theorem dX12_readPaper_62 : decode cX12_readPaper 62 = .ok (.iastore, 1) := by decide +kernel
theorem dX12_readPaper_63 : decode cX12_readPaper 63 = .ok (.aload_n 0, 1) := by decide +kernel
theorem dX12_readPaper_64 : decode cX12_readPaper 64 = .ok (.getfield 294, 3) := by decide +kernel
theorem dX12_readPaper_67 : decode cX12_readPaper 67 = .ok (.iload_n 1, 1) := by decide +kernel
theorem dX12_readPaper_68 : decode cX12_readPaper 68 = .ok (.iconst 0, 1) := by decide +kernel
theorem dX12_readPaper_69 : decode cX12_readPaper 69 = .ok (.bastore, 1) := by decide +kernel
theorem dX12_readPaper_70 : decode cX12_readPaper 70 = .ok (.aload_n 0, 1) := by decide +kernel
theorem dX12_readPaper_71 : decode cX12_readPaper 71 = .ok (.getfield 297, 3) := by decide +kernel
theorem dX12_readPaper_74 : decode cX12_readPaper 74 = .ok (.iload_n 1, 1) := by decide +kernel
theorem dX12_readPaper_75 : decode cX12_readPaper 75 = .ok (.iconst 0, 1) := by decide +kernel
theorem dX12_readPaper_76 : decode cX12_readPaper 76 = .ok (.bastore, 1) := by decide +kernel
theorem dX12_readPaper_77 : decode cX12_readPaper 77 = .ok (.aload_n 0, 1) := by decide +kernel
theorem dX12_readPaper_78 : decode cX12_readPaper 78 = .ok (.getfield 300, 3) := by decide +kernel
theorem dX12_readPaper_81 : decode cX12_readPaper 81 = .ok (.iload_n 1, 1) := by decide +kernel
theorem dX12_readPaper_82 : decode cX12_readPaper 82 = .ok (.iconst 0, 1) := by decide +kernel
theorem dX12_readPaper_83 : decode cX12_readPaper 83 = .ok (.bastore, 1) := by decide +kernel
theorem dX12_readPaper_84 : decode cX12_readPaper 84 = .ok (.aload_n 0, 1) := by decide +kernel
theorem dX12_readPaper_85 : decode cX12_readPaper 85 = .ok (.getfield 303, 3) := by decide +kernel
theorem dX12_readPaper_88 : decode cX12_readPaper 88 = .ok (.iload_n 1, 1) := by decide +kernel
theorem dX12_readPaper_89 : decode cX12_readPaper 89 = .ok (.iconst 0, 1) := by decide +kernel
theorem dX12_readPaper_90 : decode cX12_readPaper 90 = .ok (.bastore, 1) := by decide +kernel
theorem dX12_readPaper_91 : decode cX12_readPaper 91 = .ok (.aload_n 0, 1) := by decide +kernel
theorem dX12_readPaper_92 : decode cX12_readPaper 92 = .ok (.iconst 0, 1) := by decide +kernel
theorem dX12_readPaper_93 : decode cX12_readPaper 93 = .ok (.putfield 490, 3) := by decide +kernel
theorem dX12_readPaper_96 : decode cX12_readPaper 96 = .ok (.aload_n 0, 1) := by decide +kernel
theorem dX12_readPaper_97 : decode cX12_readPaper 97 = .ok (.getfield 27, 3) := by decide +kernel
theorem dX12_readPaper_100 : decode cX12_readPaper 100 = .ok (.ifCond .eq 122, 3) := by decide +kernel
theorem dX12_readPaper_103 : decode cX12_readPaper 103 = .ok (.aload_n 0, 1) := by decide +kernel
theorem dX12_readPaper_104 : decode cX12_readPaper 104 = .ok (.ldc_w 496, 3) := by decide +kernel
theorem dX12_readPaper_107 : decode cX12_readPaper 107 = .ok (.invokevirtual 49, 3) := by decide +kernel
theorem dX12_readPaper_110 : decode cX12_readPaper 110 = .ok (.ifCond .eq 11, 3) := by decide +kernel
theorem dX12_readPaper_113 : decode cX12_readPaper 113 = .ok (.aload_n 0, 1) := by decide +kernel
theorem dX12_readPaper_114 : decode cX12_readPaper 114 = .ok (.iconst 0, 1) := by decide +kernel
theorem dX12_readPaper_115 : decode cX12_readPaper 115 = .ok (.invokevirtual 498, 3) := by decide +kernel
theorem dX12_readPaper_118 : decode cX12_readPaper 118 = .ok (.goto 76, 3) := by decide +kernel
theorem dX12_readPaper_121 : decode cX12_readPaper 121 = .ok (.aload_n 0, 1) := by decide +kernel
theorem dX12_readPaper_122 : decode cX12_readPaper 122 = .ok (.ldc_w 502, 3) := by decide +kernel
theorem dX12_readPaper_125 : decode cX12_readPaper 125 = .ok (.invokevirtual 49, 3) := by decide +kernel
theorem dX12_readPaper_128 : decode cX12_readPaper 128 = .ok (.ifCond .eq 11, 3) := by decide +kernel
theorem dX12_readPaper_131 : decode cX12_readPaper 131 = .ok (.aload_n 0, 1) := by decide +kernel
theorem dX12_readPaper_132 : decode cX12_readPaper 132 = .ok (.iconst 1, 1) := by decide +kernel
theorem dX12_readPaper_133 : decode cX12_readPaper 133 = .ok (.invokevirtual 498, 3) := by decide +kernel
theorem dX12_readPaper_136 : decode cX12_readPaper 136 = .ok (.goto 58, 3) := by decide +kernel
theorem dX12_readPaper_139 : decode cX12_readPaper 139 = .ok (.aload_n 0, 1) := by decide +kernel
theorem dX12_readPaper_140 : decode cX12_readPaper 140 = .ok (.ldc_w 504, 3) := by decide +kernel
theorem dX12_readPaper_143 : decode cX12_readPaper 143 = .ok (.invokevirtual 49, 3) := by decide +kernel
theorem dX12_readPaper_146 : decode cX12_readPaper 146 = .ok (.ifCond .eq 10, 3) := by decide +kernel
theorem dX12_readPaper_149 : decode cX12_readPaper 149 = .ok (.aload_n 0, 1) := by decide +kernel
theorem dX12_readPaper_150 : decode cX12_readPaper 150 = .ok (.invokevirtual 506, 3) := by decide +kernel
theorem dX12_readPaper_153 : decode cX12_readPaper 153 = .ok (.goto 41, 3) := by decide +kernel
theorem dX12_readPaper_156 : decode cX12_readPaper 156 = .ok (.aload_n 0, 1) := by decide +kernel
theorem dX12_readPaper_157 : decode cX12_readPaper 157 = .ok (.ldc_w 509, 3) := by decide +kernel
theorem dX12_readPaper_160 : decode cX12_readPaper 160 = .ok (.invokevirtual 49, 3) := by decide +kernel
theorem dX12_readPaper_163 : decode cX12_readPaper 163 = .ok (.ifCond .eq 10, 3) := by decide +kernel
theorem dX12_readPaper_166 : decode cX12_readPaper 166 = .ok (.aload_n 0, 1) := by decide +kernel
theorem dX12_readPaper_167 : decode cX12_readPaper 167 = .ok (.invokevirtual 511, 3) := by decide +kernel
theorem dX12_readPaper_170 : decode cX12_readPaper 170 = .ok (.goto 24, 3) := by decide +kernel
theorem dX12_readPaper_173 : decode cX12_readPaper 173 = .ok (.aload_n 0, 1) := by decide +kernel
theorem dX12_readPaper_174 : decode cX12_readPaper 174 = .ok (.ldc_w 514, 3) := by decide +kernel
theorem dX12_readPaper_177 : decode cX12_readPaper 177 = .ok (.invokevirtual 49, 3) := by decide +kernel
theorem dX12_readPaper_180 : decode cX12_readPaper 180 = .ok (.ifCond .eq 10, 3) := by decide +kernel
theorem dX12_readPaper_183 : decode cX12_readPaper 183 = .ok (.aload_n 0, 1) := by decide +kernel
theorem dX12_readPaper_184 : decode cX12_readPaper 184 = .ok (.invokevirtual 516, 3) := by decide +kernel
theorem dX12_readPaper_187 : decode cX12_readPaper 187 = .ok (.goto 7, 3) := by decide +kernel
theorem dX12_readPaper_190 : decode cX12_readPaper 190 = .ok (.aload_n 0, 1) := by decide +kernel
theorem dX12_readPaper_191 : decode cX12_readPaper 191 = .ok (.invokevirtual 519, 3) := by decide +kernel
theorem dX12_readPaper_194 : decode cX12_readPaper 194 = .ok (.istore_n 2, 1) := by decide +kernel
theorem dX12_readPaper_195 : decode cX12_readPaper 195 = .ok (.iload_n 2, 1) := by decide +kernel
theorem dX12_readPaper_196 : decode cX12_readPaper 196 = .ok (.ifCond .ne 5, 3) := by decide +kernel
theorem dX12_readPaper_199 : decode cX12_readPaper 199 = .ok (.iconst 0, 1) := by decide +kernel
theorem dX12_readPaper_200 : decode cX12_readPaper 200 = .ok (.ireturn, 1) := by decide +kernel
theorem dX12_readPaper_201 : decode cX12_readPaper 201 = .ok (.aload_n 0, 1) := by decide +kernel
theorem dX12_readPaper_202 : decode cX12_readPaper 202 = .ok (.getfield 27, 3) := by decide +kernel
theorem dX12_readPaper_205 : decode cX12_readPaper 205 = .ok (.iconst 3, 1) := by decide +kernel
theorem dX12_readPaper_206 : decode cX12_readPaper 206 = .ok (.if_icmp .eq 9, 3) := by decide +kernel
theorem dX12_readPaper_209 : decode cX12_readPaper 209 = .ok (.aload_n 0, 1) := by decide +kernel
theorem dX12_readPaper_210 : decode cX12_readPaper 210 = .ok (.iconst 1, 1) := by decide +kernel
theorem dX12_readPaper_211 : decode cX12_readPaper 211 = .ok (.invokevirtual 53, 3) := by decide +kernel
theorem dX12_readPaper_214 : decode cX12_readPaper 214 = .ok (.ireturn, 1) := by decide +kernel
theorem dX12_readPaper_215 : decode cX12_readPaper 215 = .ok (.aload_n 0, 1) := by decide +kernel
theorem dX12_readPaper_216 : decode cX12_readPaper 216 = .ok (.invokevirtual 56, 3) := by decide +kernel
theorem dX12_readPaper_219 : decode cX12_readPaper 219 = .ok (.goto (-123), 3) := by decide +kernel
theorem dX12_readPaper_222 : decode cX12_readPaper 222 = .ok (.iconst 1, 1) := by decide +kernel
theorem dX12_readPaper_223 : decode cX12_readPaper 223 = .ok (.ireturn, 1) := by decide +kernel
def X12_readPaper_b194 (k96 : Wd → Option (Int32 × Wd)) (t0 : Int32) (w : Wd) : Option (Int32 × Wd) :=
  if t0 = 0 then
  (some (0, w))
  else
  if (w.1 0 5) = 3 then
  (cv (f_X12_scan w) fun w27 =>
  k96 w27)
  else
  cl (f_X12_bad 1 w) fun r29 w28 =>
  if isB r29 = true then some (r29, w28) else none
set_option maxRecDepth 100000 in
set_option maxHeartbeats 4000000 in
theorem t_X12_readPaper_b194 {Z : Cz (Int32 × Wd)} (hZ : OKZ Z SM cX12_readPaper RX12 3 (some .boolean) 9) (hE : EndI Z) (k96 : Wd → Option (Int32 × Wd)) (hk96 : ∀   (w : Wd), BW Z 3 96 [(0, .ref (ph (zY Z) 0))] [] w (k96 w)) (t0 : Int32)  (w : Wd) : BW Z 3 194 [(0, .ref (ph (zY Z) 0))] [.int t0] w (X12_readPaper_b194 k96 t0 w) :=
  bw_istore_n hZ rfl (by decide) rfl dX12_readPaper_194 <|
  bw_iload_n hZ 0 rfl dX12_readPaper_195 <|
  bw_if_ne hZ (tgt := 201) (by decide) dX12_readPaper_196 (fun _ =>
  bw_aload_n hZ 1 rfl dX12_readPaper_201 <|
  bw_getI hZ fl_RX12_27 (by decide) obM_0 dX12_readPaper_202 <|
  bw_iconst hZ 3 (by decide) dX12_readPaper_205 <|
  bw_icmp_eq hZ (tgt := 215) (by decide) dX12_readPaper_206 (fun _ =>
  bw_aload_n hZ 1 rfl dX12_readPaper_215 <|
  bw_callVV (As := []) hZ ml_RX12_56 rc_12 obM_0 (by decide) (c_X12_scan (zl Z) (zY Z) (hZ_S hZ) w) rfl rfl (Nat.le_of_ble_eq_true rfl) dX12_readPaper_216 fun w27 =>
  bw_goto hZ (tgt := 96) (by decide) dX12_readPaper_219 <|
  bw_sub [1] rfl (hk96 w27)) (fun _ =>
  bw_aload_n hZ 1 rfl dX12_readPaper_209 <|
  bw_iconst hZ 1 (by decide) dX12_readPaper_210 <|
  bw_callVI (As := [.int 1]) hZ ml_RX12_53 rc_12 obM_0 (by decide) (c_X12_bad (zl Z) (zY Z) (hZ_S hZ) 1 w) rfl rfl (Nat.le_of_ble_eq_true rfl) dX12_readPaper_211 fun r29 w28 =>
  bw_zretC hZ hE dX12_readPaper_214)) (fun _ =>
  bw_iconst hZ 0 (by decide) dX12_readPaper_199 <|
  bw_zret hZ hE (by decide) dX12_readPaper_200)
def X12_readPaper_b96 (k96 : Wd → Option (Int32 × Wd)) (w : Wd) : Option (Int32 × Wd) :=
  if (w.1 0 5) = 0 then
  (some (1, w))
  else
  cl (f_X12_is 34 w) fun r16 w15 =>
  if r16 = 0 then
  (cl (f_X12_is 35 w15) fun r18 w17 =>
  if r18 = 0 then
  (cl (f_X12_is 43 w17) fun r20 w19 =>
  if r20 = 0 then
  (cl (f_X12_is 33 w19) fun r22 w21 =>
  if r22 = 0 then
  (cl (f_X12_is 45 w21) fun r24 w23 =>
  if r24 = 0 then
  (cl (f_X12_readOnce w23) fun r26 w25 =>
  X12_readPaper_b194 k96 r26 w25)
  else
  cl (f_X12_readAgain w23) fun r31 w30 =>
  X12_readPaper_b194 k96 r31 w30)
  else
  cl (f_X12_readWitness w21) fun r33 w32 =>
  X12_readPaper_b194 k96 r33 w32)
  else
  cl (f_X12_readUndo w19) fun r35 w34 =>
  X12_readPaper_b194 k96 r35 w34)
  else
  cl (f_X12_readGift 1 w17) fun r37 w36 =>
  X12_readPaper_b194 k96 r37 w36)
  else
  cl (f_X12_readGift 0 w15) fun r39 w38 =>
  X12_readPaper_b194 k96 r39 w38
set_option maxRecDepth 100000 in
set_option maxHeartbeats 4000000 in
theorem t_X12_readPaper_b96 {Z : Cz (Int32 × Wd)} (hZ : OKZ Z SM cX12_readPaper RX12 3 (some .boolean) 9) (hE : EndI Z) (k96 : Wd → Option (Int32 × Wd)) (hk96 : ∀   (w : Wd), BW Z 3 96 [(0, .ref (ph (zY Z) 0))] [] w (k96 w))   (w : Wd) : BW Z 3 96 [(0, .ref (ph (zY Z) 0))] [] w (X12_readPaper_b96 k96 w) :=
  bw_aload_n hZ 0 rfl dX12_readPaper_96 <|
  bw_getI hZ fl_RX12_27 (by decide) obM_0 dX12_readPaper_97 <|
  bw_if_eq hZ (tgt := 222) (by decide) dX12_readPaper_100 (fun _ =>
  bw_iconst hZ 1 (by decide) dX12_readPaper_222 <|
  bw_zret hZ hE (by decide) dX12_readPaper_223) (fun _ =>
  bw_aload_n hZ 0 rfl dX12_readPaper_103 <|
  bw_ldcSW hZ 80 rfl dX12_readPaper_104 <|
  bw_callVI (As := [.ref (sK (zY Z) 34)]) hZ ml_RX12_49 rc_12 obM_0 (by decide) (c_X12_is (zl Z) (zY Z) (hZ_S hZ) 34 (by decide) w) rfl rfl (Nat.le_of_ble_eq_true rfl) dX12_readPaper_107 fun r16 w15 =>
  bw_if_eq hZ (tgt := 121) (by decide) dX12_readPaper_110 (fun _ =>
  bw_aload_n hZ 0 rfl dX12_readPaper_121 <|
  bw_ldcSW hZ 86 rfl dX12_readPaper_122 <|
  bw_callVI (As := [.ref (sK (zY Z) 35)]) hZ ml_RX12_49 rc_12 obM_0 (by decide) (c_X12_is (zl Z) (zY Z) (hZ_S hZ) 35 (by decide) w15) rfl rfl (Nat.le_of_ble_eq_true rfl) dX12_readPaper_125 fun r18 w17 =>
  bw_if_eq hZ (tgt := 139) (by decide) dX12_readPaper_128 (fun _ =>
  bw_aload_n hZ 0 rfl dX12_readPaper_139 <|
  bw_ldcSW hZ 87 rfl dX12_readPaper_140 <|
  bw_callVI (As := [.ref (sK (zY Z) 43)]) hZ ml_RX12_49 rc_12 obM_0 (by decide) (c_X12_is (zl Z) (zY Z) (hZ_S hZ) 43 (by decide) w17) rfl rfl (Nat.le_of_ble_eq_true rfl) dX12_readPaper_143 fun r20 w19 =>
  bw_if_eq hZ (tgt := 156) (by decide) dX12_readPaper_146 (fun _ =>
  bw_aload_n hZ 0 rfl dX12_readPaper_156 <|
  bw_ldcSW hZ 89 rfl dX12_readPaper_157 <|
  bw_callVI (As := [.ref (sK (zY Z) 33)]) hZ ml_RX12_49 rc_12 obM_0 (by decide) (c_X12_is (zl Z) (zY Z) (hZ_S hZ) 33 (by decide) w19) rfl rfl (Nat.le_of_ble_eq_true rfl) dX12_readPaper_160 fun r22 w21 =>
  bw_if_eq hZ (tgt := 173) (by decide) dX12_readPaper_163 (fun _ =>
  bw_aload_n hZ 0 rfl dX12_readPaper_173 <|
  bw_ldcSW hZ 90 rfl dX12_readPaper_174 <|
  bw_callVI (As := [.ref (sK (zY Z) 45)]) hZ ml_RX12_49 rc_12 obM_0 (by decide) (c_X12_is (zl Z) (zY Z) (hZ_S hZ) 45 (by decide) w21) rfl rfl (Nat.le_of_ble_eq_true rfl) dX12_readPaper_177 fun r24 w23 =>
  bw_if_eq hZ (tgt := 190) (by decide) dX12_readPaper_180 (fun _ =>
  bw_aload_n hZ 0 rfl dX12_readPaper_190 <|
  bw_callVI (As := []) hZ ml_RX12_519 rc_12 obM_0 (by decide) (c_X12_readOnce (zl Z) (zY Z) (hZ_S hZ) w23) rfl rfl (Nat.le_of_ble_eq_true rfl) dX12_readPaper_191 fun r26 w25 =>
  bw_sub [0] rfl (t_X12_readPaper_b194 hZ hE k96 hk96 r26 w25)) (fun _ =>
  bw_aload_n hZ 0 rfl dX12_readPaper_183 <|
  bw_callVI (As := []) hZ ml_RX12_516 rc_12 obM_0 (by decide) (c_X12_readAgain (zl Z) (zY Z) (hZ_S hZ) w23) rfl rfl (Nat.le_of_ble_eq_true rfl) dX12_readPaper_184 fun r31 w30 =>
  bw_goto hZ (tgt := 194) (by decide) dX12_readPaper_187 <|
  bw_sub [0] rfl (t_X12_readPaper_b194 hZ hE k96 hk96 r31 w30))) (fun _ =>
  bw_aload_n hZ 0 rfl dX12_readPaper_166 <|
  bw_callVI (As := []) hZ ml_RX12_511 rc_12 obM_0 (by decide) (c_X12_readWitness (zl Z) (zY Z) (hZ_S hZ) w21) rfl rfl (Nat.le_of_ble_eq_true rfl) dX12_readPaper_167 fun r33 w32 =>
  bw_goto hZ (tgt := 194) (by decide) dX12_readPaper_170 <|
  bw_sub [0] rfl (t_X12_readPaper_b194 hZ hE k96 hk96 r33 w32))) (fun _ =>
  bw_aload_n hZ 0 rfl dX12_readPaper_149 <|
  bw_callVI (As := []) hZ ml_RX12_506 rc_12 obM_0 (by decide) (c_X12_readUndo (zl Z) (zY Z) (hZ_S hZ) w19) rfl rfl (Nat.le_of_ble_eq_true rfl) dX12_readPaper_150 fun r35 w34 =>
  bw_goto hZ (tgt := 194) (by decide) dX12_readPaper_153 <|
  bw_sub [0] rfl (t_X12_readPaper_b194 hZ hE k96 hk96 r35 w34))) (fun _ =>
  bw_aload_n hZ 0 rfl dX12_readPaper_131 <|
  bw_iconst hZ 1 (by decide) dX12_readPaper_132 <|
  bw_callVI (As := [.int 1]) hZ ml_RX12_498 rc_12 obM_0 (by decide) (c_X12_readGift (zl Z) (zY Z) (hZ_S hZ) 1 w17) rfl rfl (Nat.le_of_ble_eq_true rfl) dX12_readPaper_133 fun r37 w36 =>
  bw_goto hZ (tgt := 194) (by decide) dX12_readPaper_136 <|
  bw_sub [0] rfl (t_X12_readPaper_b194 hZ hE k96 hk96 r37 w36))) (fun _ =>
  bw_aload_n hZ 0 rfl dX12_readPaper_113 <|
  bw_iconst hZ 0 (by decide) dX12_readPaper_114 <|
  bw_callVI (As := [.int 0]) hZ ml_RX12_498 rc_12 obM_0 (by decide) (c_X12_readGift (zl Z) (zY Z) (hZ_S hZ) 0 w15) rfl rfl (Nat.le_of_ble_eq_true rfl) dX12_readPaper_115 fun r39 w38 =>
  bw_goto hZ (tgt := 194) (by decide) dX12_readPaper_118 <|
  bw_sub [0] rfl (t_X12_readPaper_b194 hZ hE k96 hk96 r39 w38)))
def X12_readPaper_b96_L  : Wd → Option (Int32 × Wd) :=
  lp fu (fun _ => none) (fun k96 => X12_readPaper_b96 k96)
theorem t_X12_readPaper_b96_L {Z : Cz (Int32 × Wd)} (hZ : OKZ Z SM cX12_readPaper RX12 3 (some .boolean) 9) (hE : EndI Z)  : ∀   (w : Wd), BW Z 3 96 [(0, .ref (ph (zY Z) 0))] [] w (X12_readPaper_b96_L w) :=
  lp_bw (fun k96 => ∀   (w : Wd), BW Z 3 96 [(0, .ref (ph (zY Z) 0))] [] w (k96 w)) (fun _ => bw_none) (fun k96 hk96 w => t_X12_readPaper_b96 hZ hE k96 hk96 w) fu
def f_X12_readPaper (w : Wd) : Option (Int32 × Wd) :=
  lt (w.1 0 49) fun v1 =>
  if inb v1 4 = true then
  (lt (wI w 20 (Int32.toNatClampNeg v1) 0) fun w2 =>
  if inb v1 4 = true then
  (lt (wI w2 21 (Int32.toNatClampNeg v1) 9999) fun w3 =>
  if inb v1 4 = true then
  (lt (wI w3 22 (Int32.toNatClampNeg v1) 0) fun w4 =>
  if inb v1 4 = true then
  (lt (wI w4 23 (Int32.toNatClampNeg v1) 0) fun w5 =>
  if inb v1 4 = true then
  (lt (wI w5 24 (Int32.toNatClampNeg v1) 0) fun w6 =>
  if inb v1 4 = true then
  (lt (wI w6 25 (Int32.toNatClampNeg v1) 0) fun w7 =>
  if inb v1 4 = true then
  (lt (wI w7 26 (Int32.toNatClampNeg v1) 0) fun w8 =>
  if inb v1 4 = true then
  (lt (wI w8 27 (Int32.toNatClampNeg v1) ((-1))) fun w9 =>
  if inb v1 4 = true then
  (lt (wI w9 28 (Int32.toNatClampNeg v1) (vp_nar .boolean 0)) fun w10 =>
  if inb v1 4 = true then
  (lt (wI w10 29 (Int32.toNatClampNeg v1) (vp_nar .boolean 0)) fun w11 =>
  if inb v1 4 = true then
  (lt (wI w11 30 (Int32.toNatClampNeg v1) (vp_nar .boolean 0)) fun w12 =>
  if inb v1 4 = true then
  (lt (wI w12 31 (Int32.toNatClampNeg v1) (vp_nar .boolean 0)) fun w13 =>
  lt (wI w13 0 69 0) fun w14 =>
  X12_readPaper_b96_L w14)
  else none)
  else none)
  else none)
  else none)
  else none)
  else none)
  else none)
  else none)
  else none)
  else none)
  else none)
  else none
set_option maxRecDepth 100000 in
set_option maxHeartbeats 4000000 in
theorem t_X12_readPaper {Z : Cz (Int32 × Wd)} (hZ : OKZ Z SM cX12_readPaper RX12 3 (some .boolean) 9) (hE : EndI Z)   (w : Wd) : BW Z 3 0 [(0, .ref (ph (zY Z) 0))] [] w (f_X12_readPaper w) :=
  bw_aload_n hZ 0 rfl dX12_readPaper_0 <|
  bw_getI hZ fl_RX12_431 (by decide) obM_0 dX12_readPaper_1 <|
  bw_nm fun v1 =>
  bw_istore_n hZ rfl (by decide) rfl dX12_readPaper_4 <|
  bw_aload_n hZ 1 rfl dX12_readPaper_5 <|
  bw_getR hZ fl_RX12_270 obM_0 rfl dX12_readPaper_6 <|
  bw_iload_n hZ 0 rfl dX12_readPaper_9 <|
  bw_iconst hZ 0 (by decide) dX12_readPaper_10 <|
  bw_iast hZ (arM_20 _) dX12_readPaper_11 fun w2 =>
  bw_aload_n hZ 1 rfl dX12_readPaper_12 <|
  bw_getR hZ fl_RX12_273 obM_0 rfl dX12_readPaper_13 <|
  bw_iload_n hZ 0 rfl dX12_readPaper_16 <|
  bw_sipush hZ 9999 (by decide) dX12_readPaper_17 <|
  bw_iast hZ (arM_21 _) dX12_readPaper_20 fun w3 =>
  bw_aload_n hZ 1 rfl dX12_readPaper_21 <|
  bw_getR hZ fl_RX12_276 obM_0 rfl dX12_readPaper_22 <|
  bw_iload_n hZ 0 rfl dX12_readPaper_25 <|
  bw_iconst hZ 0 (by decide) dX12_readPaper_26 <|
  bw_iast hZ (arM_22 _) dX12_readPaper_27 fun w4 =>
  bw_aload_n hZ 1 rfl dX12_readPaper_28 <|
  bw_getR hZ fl_RX12_279 obM_0 rfl dX12_readPaper_29 <|
  bw_iload_n hZ 0 rfl dX12_readPaper_32 <|
  bw_iconst hZ 0 (by decide) dX12_readPaper_33 <|
  bw_iast hZ (arM_23 _) dX12_readPaper_34 fun w5 =>
  bw_aload_n hZ 1 rfl dX12_readPaper_35 <|
  bw_getR hZ fl_RX12_282 obM_0 rfl dX12_readPaper_36 <|
  bw_iload_n hZ 0 rfl dX12_readPaper_39 <|
  bw_iconst hZ 0 (by decide) dX12_readPaper_40 <|
  bw_iast hZ (arM_24 _) dX12_readPaper_41 fun w6 =>
  bw_aload_n hZ 1 rfl dX12_readPaper_42 <|
  bw_getR hZ fl_RX12_285 obM_0 rfl dX12_readPaper_43 <|
  bw_iload_n hZ 0 rfl dX12_readPaper_46 <|
  bw_iconst hZ 0 (by decide) dX12_readPaper_47 <|
  bw_iast hZ (arM_25 _) dX12_readPaper_48 fun w7 =>
  bw_aload_n hZ 1 rfl dX12_readPaper_49 <|
  bw_getR hZ fl_RX12_288 obM_0 rfl dX12_readPaper_50 <|
  bw_iload_n hZ 0 rfl dX12_readPaper_53 <|
  bw_iconst hZ 0 (by decide) dX12_readPaper_54 <|
  bw_iast hZ (arM_26 _) dX12_readPaper_55 fun w8 =>
  bw_aload_n hZ 1 rfl dX12_readPaper_56 <|
  bw_getR hZ fl_RX12_291 obM_0 rfl dX12_readPaper_57 <|
  bw_iload_n hZ 0 rfl dX12_readPaper_60 <|
  bw_iconst hZ (-1) (by decide) dX12_readPaper_61 <|
  bw_iast hZ (arM_27 _) dX12_readPaper_62 fun w9 =>
  bw_aload_n hZ 1 rfl dX12_readPaper_63 <|
  bw_getR hZ fl_RX12_294 obM_0 rfl dX12_readPaper_64 <|
  bw_iload_n hZ 0 rfl dX12_readPaper_67 <|
  bw_iconst hZ 0 (by decide) dX12_readPaper_68 <|
  bw_zast hZ (arM_28 _) dX12_readPaper_69 fun w10 =>
  bw_aload_n hZ 1 rfl dX12_readPaper_70 <|
  bw_getR hZ fl_RX12_297 obM_0 rfl dX12_readPaper_71 <|
  bw_iload_n hZ 0 rfl dX12_readPaper_74 <|
  bw_iconst hZ 0 (by decide) dX12_readPaper_75 <|
  bw_zast hZ (arM_29 _) dX12_readPaper_76 fun w11 =>
  bw_aload_n hZ 1 rfl dX12_readPaper_77 <|
  bw_getR hZ fl_RX12_300 obM_0 rfl dX12_readPaper_78 <|
  bw_iload_n hZ 0 rfl dX12_readPaper_81 <|
  bw_iconst hZ 0 (by decide) dX12_readPaper_82 <|
  bw_zast hZ (arM_30 _) dX12_readPaper_83 fun w12 =>
  bw_aload_n hZ 1 rfl dX12_readPaper_84 <|
  bw_getR hZ fl_RX12_303 obM_0 rfl dX12_readPaper_85 <|
  bw_iload_n hZ 0 rfl dX12_readPaper_88 <|
  bw_iconst hZ 0 (by decide) dX12_readPaper_89 <|
  bw_zast hZ (arM_31 _) dX12_readPaper_90 fun w13 =>
  bw_aload_n hZ 1 rfl dX12_readPaper_91 <|
  bw_iconst hZ 0 (by decide) dX12_readPaper_92 <|
  bw_putI hZ fl_RX12_490 rfl rfl (by decide) obM_0 dX12_readPaper_93 fun w14 =>
  bw_sub [1] rfl (t_X12_readPaper_b96_L hZ hE w14)
theorem c_X12_readPaper (l : Launch) (Y : Ev) (hY : Y.1 = SM)   (w : Wd) : CI l Y yX12_readPaper cX12_readPaper 3 9 [.ref (ph Y 0)] w .boolean (f_X12_readPaper w) := by
  refine CI_of (S := SM) (by decide) (Nat.le_of_ble_eq_true rfl) hY ?_
  intro Z hl hY2 hZ hE
  subst hY2
  exact t_X12_readPaper hZ hE w
-- WhichWillModel.paper
theorem dX12_paper_0 : decode cX12_paper 0 = .ok (.aload_n 0, 1) := by decide +kernel
theorem dX12_paper_1 : decode cX12_paper 1 = .ok (.getfield 431, 3) := by decide +kernel
theorem dX12_paper_4 : decode cX12_paper 4 = .ok (.iconst 4, 1) := by decide +kernel
theorem dX12_paper_5 : decode cX12_paper 5 = .ok (.if_icmp .eq 17, 3) := by decide +kernel
theorem dX12_paper_8 : decode cX12_paper 8 = .ok (.aload_n 0, 1) := by decide +kernel
theorem dX12_paper_9 : decode cX12_paper 9 = .ok (.getfield 431, 3) := by decide +kernel
theorem dX12_paper_12 : decode cX12_paper 12 = .ok (.aload_n 0, 1) := by decide +kernel
theorem dX12_paper_13 : decode cX12_paper 13 = .ok (.getfield 434, 3) := by decide +kernel
theorem dX12_paper_16 : decode cX12_paper 16 = .ok (.iadd, 1) := by decide +kernel
theorem dX12_paper_17 : decode cX12_paper 17 = .ok (.bipush 6, 2) := by decide +kernel
theorem dX12_paper_19 : decode cX12_paper 19 = .ok (.if_icmp .ne 11, 3) := by decide +kernel
theorem dX12_paper_22 : decode cX12_paper 22 = .ok (.aload_n 0, 1) := by decide +kernel
theorem dX12_paper_23 : decode cX12_paper 23 = .ok (.iconst 0, 1) := by decide +kernel
theorem dX12_paper_24 : decode cX12_paper 24 = .ok (.putfield 79, 3) := by decide +kernel
theorem dX12_paper_27 : decode cX12_paper 27 = .ok (.bipush (-3), 2) := by decide +kernel
theorem dX12_paper_29 : decode cX12_paper 29 = .ok (.ireturn, 1) := by decide +kernel
theorem dX12_paper_30 : decode cX12_paper 30 = .ok (.aload_n 0, 1) := by decide +kernel
theorem dX12_paper_31 : decode cX12_paper 31 = .ok (.invokevirtual 403, 3) := by decide +kernel
theorem dX12_paper_34 : decode cX12_paper 34 = .ok (.aload_n 0, 1) := by decide +kernel
theorem dX12_paper_35 : decode cX12_paper 35 = .ok (.invokevirtual 522, 3) := by decide +kernel
theorem dX12_paper_38 : decode cX12_paper 38 = .ok (.ifCond .ne 5, 3) := by decide +kernel
theorem dX12_paper_41 : decode cX12_paper 41 = .ok (.iconst (-1), 1) := by decide +kernel
theorem dX12_paper_42 : decode cX12_paper 42 = .ok (.ireturn, 1) := by decide +kernel
theorem dX12_paper_43 : decode cX12_paper 43 = .ok (.aload_n 0, 1) := by decide +kernel
theorem dX12_paper_44 : decode cX12_paper 44 = .ok (.dup, 1) := by decide +kernel
theorem dX12_paper_45 : decode cX12_paper 45 = .ok (.getfield 431, 3) := by decide +kernel
theorem dX12_paper_48 : decode cX12_paper 48 = .ok (.iconst 1, 1) := by decide +kernel
theorem dX12_paper_49 : decode cX12_paper 49 = .ok (.iadd, 1) := by decide +kernel
theorem dX12_paper_50 : decode cX12_paper 50 = .ok (.putfield 431, 3) := by decide +kernel
theorem dX12_paper_53 : decode cX12_paper 53 = .ok (.aload_n 0, 1) := by decide +kernel
theorem dX12_paper_54 : decode cX12_paper 54 = .ok (.invokevirtual 396, 3) := by decide +kernel
theorem dX12_paper_57 : decode cX12_paper 57 = .ok (.aload_n 0, 1) := by decide +kernel
theorem dX12_paper_58 : decode cX12_paper 58 = .ok (.getfield 431, 3) := by decide +kernel
theorem dX12_paper_61 : decode cX12_paper 61 = .ok (.iconst 1, 1) := by decide +kernel
theorem dX12_paper_62 : decode cX12_paper 62 = .ok (.isub, 1) := by decide +kernel
theorem dX12_paper_63 : decode cX12_paper 63 = .ok (.ireturn, 1) := by decide +kernel
def f_X12_paper (w : Wd) : Option (Int32 × Wd) :=
  if (w.1 0 49) = 4 then
  (lt (wI w 0 1 0) fun w1 =>
  some ((-3), w1))
  else
  if ((w.1 0 49) + (w.1 0 50)) = 6 then
  (lt (wI w 0 1 0) fun w7 =>
  some ((-3), w7))
  else
  cv (f_X12_open w) fun w2 =>
  cl (f_X12_readPaper w2) fun r4 w3 =>
  if r4 = 0 then
  (some ((-1), w3))
  else
  lt (wI w3 0 49 ((w3.1 0 49) + 1)) fun w5 =>
  cv (f_X12_findOrders w5) fun w6 =>
  some ((w6.1 0 49) - 1, w6)
set_option maxRecDepth 100000 in
set_option maxHeartbeats 4000000 in
theorem t_X12_paper {Z : Cz (Int32 × Wd)} (hZ : OKZ Z SM cX12_paper RX12 1 (some .int) 12) (hE : EndI Z)   (w : Wd) : BW Z 1 0 [(0, .ref (ph (zY Z) 0))] [] w (f_X12_paper w) :=
  bw_aload_n hZ 0 rfl dX12_paper_0 <|
  bw_getI hZ fl_RX12_431 (by decide) obM_0 dX12_paper_1 <|
  bw_iconst hZ 4 (by decide) dX12_paper_4 <|
  bw_icmp_eq hZ (tgt := 22) (by decide) dX12_paper_5 (fun _ =>
  bw_aload_n hZ 0 rfl dX12_paper_22 <|
  bw_iconst hZ 0 (by decide) dX12_paper_23 <|
  bw_putI hZ fl_RX12_79 rfl rfl (by decide) obM_0 dX12_paper_24 fun w1 =>
  bw_bipush hZ (-3) (by decide) dX12_paper_27 <|
  bw_iret hZ hE dX12_paper_29) (fun _ =>
  bw_aload_n hZ 0 rfl dX12_paper_8 <|
  bw_getI hZ fl_RX12_431 (by decide) obM_0 dX12_paper_9 <|
  bw_aload_n hZ 0 rfl dX12_paper_12 <|
  bw_getI hZ fl_RX12_434 (by decide) obM_0 dX12_paper_13 <|
  bw_iadd hZ dX12_paper_16 <|
  bw_bipush hZ 6 (by decide) dX12_paper_17 <|
  bw_icmp_ne hZ (tgt := 30) (by decide) dX12_paper_19 (fun _ =>
  bw_aload_n hZ 0 rfl dX12_paper_30 <|
  bw_callVV (As := []) hZ ml_RX12_403 rc_12 obM_0 (by decide) (c_X12_open (zl Z) (zY Z) (hZ_S hZ) w) rfl rfl (Nat.le_of_ble_eq_true rfl) dX12_paper_31 fun w2 =>
  bw_aload_n hZ 0 rfl dX12_paper_34 <|
  bw_callVI (As := []) hZ ml_RX12_522 rc_12 obM_0 (by decide) (c_X12_readPaper (zl Z) (zY Z) (hZ_S hZ) w2) rfl rfl (Nat.le_of_ble_eq_true rfl) dX12_paper_35 fun r4 w3 =>
  bw_if_ne hZ (tgt := 43) (by decide) dX12_paper_38 (fun _ =>
  bw_aload_n hZ 0 rfl dX12_paper_43 <|
  bw_dup hZ rfl dX12_paper_44 <|
  bw_getI hZ fl_RX12_431 (by decide) obM_0 dX12_paper_45 <|
  bw_iconst hZ 1 (by decide) dX12_paper_48 <|
  bw_iadd hZ dX12_paper_49 <|
  bw_putI hZ fl_RX12_431 rfl rfl (by decide) obM_0 dX12_paper_50 fun w5 =>
  bw_aload_n hZ 0 rfl dX12_paper_53 <|
  bw_callVV (As := []) hZ ml_RX12_396 rc_12 obM_0 (by decide) (c_X12_findOrders (zl Z) (zY Z) (hZ_S hZ) w5) rfl rfl (Nat.le_of_ble_eq_true rfl) dX12_paper_54 fun w6 =>
  bw_aload_n hZ 0 rfl dX12_paper_57 <|
  bw_getI hZ fl_RX12_431 (by decide) obM_0 dX12_paper_58 <|
  bw_iconst hZ 1 (by decide) dX12_paper_61 <|
  bw_isub hZ dX12_paper_62 <|
  bw_iret hZ hE dX12_paper_63) (fun _ =>
  bw_iconst hZ (-1) (by decide) dX12_paper_41 <|
  bw_iret hZ hE dX12_paper_42)) (fun _ =>
  bw_aload_n hZ 0 rfl dX12_paper_22 <|
  bw_iconst hZ 0 (by decide) dX12_paper_23 <|
  bw_putI hZ fl_RX12_79 rfl rfl (by decide) obM_0 dX12_paper_24 fun w7 =>
  bw_bipush hZ (-3) (by decide) dX12_paper_27 <|
  bw_iret hZ hE dX12_paper_29))
theorem c_X12_paper (l : Launch) (Y : Ev) (hY : Y.1 = SM)   (w : Wd) : CI l Y yX12_paper cX12_paper 1 12 [.ref (ph Y 0)] w .int (f_X12_paper w) := by
  refine CI_of (S := SM) (by decide) (Nat.le_of_ble_eq_true rfl) hY ?_
  intro Z hl hY2 hZ hE
  subst hY2
  exact t_X12_paper hZ hE w
-- WhichWillModel.isPaper
theorem dX12_isPaper_0 : decode cX12_isPaper 0 = .ok (.iload_n 1, 1) := by decide +kernel
theorem dX12_isPaper_1 : decode cX12_isPaper 1 = .ok (.i2l, 1) := by decide +kernel
theorem dX12_isPaper_2 : decode cX12_isPaper 2 = .ok (.lconst 0, 1) := by decide +kernel
theorem dX12_isPaper_3 : decode cX12_isPaper 3 = .ok (.aload_n 0, 1) := by decide +kernel
theorem dX12_isPaper_4 : decode cX12_isPaper 4 = .ok (.getfield 431, 3) := by decide +kernel
theorem dX12_isPaper_7 : decode cX12_isPaper 7 = .ok (.i2l, 1) := by decide +kernel
theorem dX12_isPaper_8 : decode cX12_isPaper 8 = .ok (.lconst 1, 1) := by decide +kernel
theorem dX12_isPaper_9 : decode cX12_isPaper 9 = .ok (.lsub, 1) := by decide +kernel
theorem dX12_isPaper_10 : decode cX12_isPaper 10 = .ok (.invokestatic 60, 3) := by decide +kernel
theorem dX12_isPaper_13 : decode cX12_isPaper 13 = .ok (.ireturn, 1) := by decide +kernel
def f_X12_isPaper (x1 : Int32) (w : Wd) : Option (Int32 × Wd) :=
  cl (f_X12_in (Int32.toInt64 x1) 0 ((Int32.toInt64 (w.1 0 49)) - 1) w) fun r2 w1 =>
  if isB r2 = true then some (r2, w1) else none
set_option maxRecDepth 100000 in
set_option maxHeartbeats 4000000 in
theorem t_X12_isPaper {Z : Cz (Int32 × Wd)} (hZ : OKZ Z SM cX12_isPaper RX12 2 (some .boolean) 2) (hE : EndI Z) (x1 : Int32)  (w : Wd) : BW Z 2 0 [(0, .ref (ph (zY Z) 0)), (1, .int x1)] [] w (f_X12_isPaper x1 w) :=
  bw_iload_n hZ 1 rfl dX12_isPaper_0 <|
  bw_i2l hZ dX12_isPaper_1 <|
  bw_lconst hZ 0 (by decide) dX12_isPaper_2 <|
  bw_aload_n hZ 0 rfl dX12_isPaper_3 <|
  bw_getI hZ fl_RX12_431 (by decide) obM_0 dX12_isPaper_4 <|
  bw_i2l hZ dX12_isPaper_7 <|
  bw_lconst hZ 1 (by decide) dX12_isPaper_8 <|
  bw_lsub hZ dX12_isPaper_9 <|
  bw_callSI (As := [.long (Int32.toInt64 x1), .long 0, .long ((Int32.toInt64 (w.1 0 49)) - 1)]) hZ ms_RX12_60 (by decide) (c_X12_in (zl Z) (zY Z) (hZ_S hZ) (Int32.toInt64 x1) 0 ((Int32.toInt64 (w.1 0 49)) - 1) w) rfl rfl (Nat.le_of_ble_eq_true rfl) dX12_isPaper_10 fun r2 w1 =>
  bw_zretC hZ hE dX12_isPaper_13
theorem c_X12_isPaper (l : Launch) (Y : Ev) (hY : Y.1 = SM) (x1 : Int32)  (w : Wd) : CI l Y yX12_isPaper cX12_isPaper 2 2 [.ref (ph Y 0), .int x1] w .boolean (f_X12_isPaper x1 w) := by
  refine CI_of (S := SM) (by decide) (Nat.le_of_ble_eq_true rfl) hY ?_
  intro Z hl hY2 hZ hE
  subst hY2
  exact t_X12_isPaper hZ hE x1 w
-- WhichWillModel.heirsOf
theorem dX12_heirsOf_0 : decode cX12_heirsOf 0 = .ok (.iconst 0, 1) := by decide +kernel
theorem dX12_heirsOf_1 : decode cX12_heirsOf 1 = .ok (.istore_n 2, 1) := by decide +kernel
theorem dX12_heirsOf_2 : decode cX12_heirsOf 2 = .ok (.iconst 0, 1) := by decide +kernel
theorem dX12_heirsOf_3 : decode cX12_heirsOf 3 = .ok (.istore_n 3, 1) := by decide +kernel
theorem dX12_heirsOf_4 : decode cX12_heirsOf 4 = .ok (.iload_n 3, 1) := by decide +kernel
theorem dX12_heirsOf_5 : decode cX12_heirsOf 5 = .ok (.aload_n 0, 1) := by decide +kernel
theorem dX12_heirsOf_6 : decode cX12_heirsOf 6 = .ok (.getfield 282, 3) := by decide +kernel
theorem dX12_heirsOf_9 : decode cX12_heirsOf 9 = .ok (.iload_n 1, 1) := by decide +kernel
theorem dX12_heirsOf_10 : decode cX12_heirsOf 10 = .ok (.iaload, 1) := by decide +kernel
theorem dX12_heirsOf_11 : decode cX12_heirsOf 11 = .ok (.if_icmp .ge 24, 3) := by decide +kernel
theorem dX12_heirsOf_14 : decode cX12_heirsOf 14 = .ok (.iload_n 2, 1) := by decide +kernel
theorem dX12_heirsOf_15 : decode cX12_heirsOf 15 = .ok (.iconst 1, 1) := by decide +kernel
theorem dX12_heirsOf_16 : decode cX12_heirsOf 16 = .ok (.aload_n 0, 1) := by decide +kernel
theorem dX12_heirsOf_17 : decode cX12_heirsOf 17 = .ok (.getfield 318, 3) := by decide +kernel
theorem dX12_heirsOf_20 : decode cX12_heirsOf 20 = .ok (.iconst 4, 1) := by decide +kernel
theorem dX12_heirsOf_21 : decode cX12_heirsOf 21 = .ok (.iload_n 1, 1) := by decide +kernel
theorem dX12_heirsOf_22 : decode cX12_heirsOf 22 = .ok (.imul, 1) := by decide +kernel
theorem dX12_heirsOf_23 : decode cX12_heirsOf 23 = .ok (.iload_n 3, 1) := by decide +kernel
theorem dX12_heirsOf_24 : decode cX12_heirsOf 24 = .ok (.iadd, 1) := by decide +kernel
theorem dX12_heirsOf_25 : decode cX12_heirsOf 25 = .ok (.iaload, 1) := by decide +kernel
theorem dX12_heirsOf_26 : decode cX12_heirsOf 26 = .ok (.ishl, 1) := by decide +kernel
theorem dX12_heirsOf_27 : decode cX12_heirsOf 27 = .ok (.ior, 1) := by decide +kernel
theorem dX12_heirsOf_28 : decode cX12_heirsOf 28 = .ok (.istore_n 2, 1) := by decide +kernel
theorem dX12_heirsOf_29 : decode cX12_heirsOf 29 = .ok (.iinc 3 1, 3) := by decide +kernel
theorem dX12_heirsOf_32 : decode cX12_heirsOf 32 = .ok (.goto (-28), 3) := by decide +kernel
theorem dX12_heirsOf_35 : decode cX12_heirsOf 35 = .ok (.iload_n 2, 1) := by decide +kernel
theorem dX12_heirsOf_36 : decode cX12_heirsOf 36 = .ok (.ireturn, 1) := by decide +kernel
def X12_heirsOf_b4 (k4 : Int32 → Int32 → Int32 → Wd → Option (Int32 × Wd)) (y1 : Int32) (y2 : Int32) (y3 : Int32) (w : Wd) : Option (Int32 × Wd) :=
  if inb y1 4 = true then
  (if (w.1 24 (Int32.toNatClampNeg y1)) ≤ y3 then
  (some (y2, w))
  else
  if inb ((4 * y1) + y3) 16 = true then
  (lt (y2 ||| (1 <<< ((w.1 36 (Int32.toNatClampNeg ((4 * y1) + y3))) &&& 31))) fun v1 =>
  k4 y1 v1 (y3 + 1) w)
  else none)
  else none
set_option maxRecDepth 100000 in
set_option maxHeartbeats 4000000 in
theorem t_X12_heirsOf_b4 {Z : Cz (Int32 × Wd)} (hZ : OKZ Z SM cX12_heirsOf RX12 4 (some .int) 1) (hE : EndI Z) (k4 : Int32 → Int32 → Int32 → Wd → Option (Int32 × Wd)) (hk4 : ∀ (y1 : Int32) (y2 : Int32) (y3 : Int32)  (w : Wd), BW Z 4 4 [(0, .ref (ph (zY Z) 0)), (1, .int y1), (2, .int y2), (3, .int y3)] [] w (k4 y1 y2 y3 w)) (y1 : Int32) (y2 : Int32) (y3 : Int32)  (w : Wd) : BW Z 4 4 [(0, .ref (ph (zY Z) 0)), (1, .int y1), (2, .int y2), (3, .int y3)] [] w (X12_heirsOf_b4 k4 y1 y2 y3 w) :=
  bw_iload_n hZ 3 rfl dX12_heirsOf_4 <|
  bw_aload_n hZ 0 rfl dX12_heirsOf_5 <|
  bw_getR hZ fl_RX12_282 obM_0 rfl dX12_heirsOf_6 <|
  bw_iload_n hZ 1 rfl dX12_heirsOf_9 <|
  bw_iald hZ (arM_24 _) dX12_heirsOf_10 <|
  bw_icmp_ge hZ (tgt := 35) (by decide) dX12_heirsOf_11 (fun _ =>
  bw_iload_n hZ 2 rfl dX12_heirsOf_35 <|
  bw_iret hZ hE dX12_heirsOf_36) (fun _ =>
  bw_iload_n hZ 2 rfl dX12_heirsOf_14 <|
  bw_iconst hZ 1 (by decide) dX12_heirsOf_15 <|
  bw_aload_n hZ 0 rfl dX12_heirsOf_16 <|
  bw_getR hZ fl_RX12_318 obM_0 rfl dX12_heirsOf_17 <|
  bw_iconst hZ 4 (by decide) dX12_heirsOf_20 <|
  bw_iload_n hZ 1 rfl dX12_heirsOf_21 <|
  bw_imul hZ dX12_heirsOf_22 <|
  bw_iload_n hZ 3 rfl dX12_heirsOf_23 <|
  bw_iadd hZ dX12_heirsOf_24 <|
  bw_iald hZ (arM_36 _) dX12_heirsOf_25 <|
  bw_ishl hZ dX12_heirsOf_26 <|
  bw_ior hZ dX12_heirsOf_27 <|
  bw_nm fun v1 =>
  bw_istore_n hZ rfl (by decide) rfl dX12_heirsOf_28 <|
  bw_iinc hZ 1 3 rfl (by decide) (by decide) rfl dX12_heirsOf_29 <|
  bw_goto hZ (tgt := 4) (by decide) dX12_heirsOf_32 <|
  bw_sub [2, 3, 1, 0] rfl (hk4 y1 v1 (y3 + 1) w))
def X12_heirsOf_b4_L  : Int32 → Int32 → Int32 → Wd → Option (Int32 × Wd) :=
  lp fu (fun _ _ _ _ => none) (fun k4 => X12_heirsOf_b4 k4)
theorem t_X12_heirsOf_b4_L {Z : Cz (Int32 × Wd)} (hZ : OKZ Z SM cX12_heirsOf RX12 4 (some .int) 1) (hE : EndI Z)  : ∀ (y1 : Int32) (y2 : Int32) (y3 : Int32)  (w : Wd), BW Z 4 4 [(0, .ref (ph (zY Z) 0)), (1, .int y1), (2, .int y2), (3, .int y3)] [] w (X12_heirsOf_b4_L y1 y2 y3 w) :=
  lp_bw (fun k4 => ∀ (y1 : Int32) (y2 : Int32) (y3 : Int32)  (w : Wd), BW Z 4 4 [(0, .ref (ph (zY Z) 0)), (1, .int y1), (2, .int y2), (3, .int y3)] [] w (k4 y1 y2 y3 w)) (fun _ _ _ _ => bw_none) (fun k4 hk4 y1 y2 y3 w => t_X12_heirsOf_b4 hZ hE k4 hk4 y1 y2 y3 w) fu
def f_X12_heirsOf (x1 : Int32) (w : Wd) : Option (Int32 × Wd) :=
  X12_heirsOf_b4_L x1 0 0 w
set_option maxRecDepth 100000 in
set_option maxHeartbeats 4000000 in
theorem t_X12_heirsOf {Z : Cz (Int32 × Wd)} (hZ : OKZ Z SM cX12_heirsOf RX12 4 (some .int) 1) (hE : EndI Z) (x1 : Int32)  (w : Wd) : BW Z 4 0 [(0, .ref (ph (zY Z) 0)), (1, .int x1)] [] w (f_X12_heirsOf x1 w) :=
  bw_iconst hZ 0 (by decide) dX12_heirsOf_0 <|
  bw_istore_n hZ rfl (by decide) rfl dX12_heirsOf_1 <|
  bw_iconst hZ 0 (by decide) dX12_heirsOf_2 <|
  bw_istore_n hZ rfl (by decide) rfl dX12_heirsOf_3 <|
  bw_sub [2, 3, 1, 0] rfl (t_X12_heirsOf_b4_L hZ hE x1 0 0 w)
theorem c_X12_heirsOf (l : Launch) (Y : Ev) (hY : Y.1 = SM) (x1 : Int32)  (w : Wd) : CI l Y yX12_heirsOf cX12_heirsOf 4 1 [.ref (ph Y 0), .int x1] w .int (f_X12_heirsOf x1 w) := by
  refine CI_of (S := SM) (by decide) (Nat.le_of_ble_eq_true rfl) hY ?_
  intro Z hl hY2 hZ hE
  subst hY2
  exact t_X12_heirsOf hZ hE x1 w
-- WhichWillModel.look
theorem dX12_look_0 : decode cX12_look 0 = .ok (.aload_n 0, 1) := by decide +kernel
theorem dX12_look_1 : decode cX12_look 1 = .ok (.iload_n 1, 1) := by decide +kernel
theorem dX12_look_2 : decode cX12_look 2 = .ok (.invokevirtual 525, 3) := by decide +kernel
theorem dX12_look_5 : decode cX12_look 5 = .ok (.ifCond .eq 15, 3) := by decide +kernel
theorem dX12_look_8 : decode cX12_look 8 = .ok (.iload_n 2, 1) := by decide +kernel
theorem dX12_look_9 : decode cX12_look 9 = .ok (.i2l, 1) := by decide +kernel
theorem dX12_look_10 : decode cX12_look 10 = .ok (.lconst 0, 1) := by decide +kernel
theorem dX12_look_11 : decode cX12_look 11 = .ok (.ldc2_w 528, 3) := by decide +kernel
theorem dX12_look_14 : decode cX12_look 14 = .ok (.invokestatic 60, 3) := by decide +kernel
theorem dX12_look_17 : decode cX12_look 17 = .ok (.ifCond .ne 6, 3) := by decide +kernel
theorem dX12_look_20 : decode cX12_look 20 = .ok (.bipush (-2), 2) := by decide +kernel
theorem dX12_look_22 : decode cX12_look 22 = .ok (.ireturn, 1) := by decide +kernel
theorem dX12_look_23 : decode cX12_look 23 = .ok (.iload_n 2, 1) := by decide +kernel
theorem dX12_look_24 : decode cX12_look 24 = .ok (.tableswitch 168 0 10 #[60, 67, 74, 89, 104, 119, 126, 133, 139, 154, 161], 60) := by decide +kernel
theorem dX12_look_84 : decode cX12_look 84 = .ok (.aload_n 0, 1) := by decide +kernel
theorem dX12_look_85 : decode cX12_look 85 = .ok (.getfield 270, 3) := by decide +kernel
theorem dX12_look_88 : decode cX12_look 88 = .ok (.iload_n 1, 1) := by decide +kernel
theorem dX12_look_89 : decode cX12_look 89 = .ok (.iaload, 1) := by decide +kernel
theorem dX12_look_90 : decode cX12_look 90 = .ok (.ireturn, 1) := by decide +kernel
theorem dX12_look_91 : decode cX12_look 91 = .ok (.aload_n 0, 1) := by decide +kernel
theorem dX12_look_92 : decode cX12_look 92 = .ok (.getfield 273, 3) := by decide +kernel
theorem dX12_look_95 : decode cX12_look 95 = .ok (.iload_n 1, 1) := by decide +kernel
theorem dX12_look_96 : decode cX12_look 96 = .ok (.iaload, 1) := by decide +kernel
theorem dX12_look_97 : decode cX12_look 97 = .ok (.ireturn, 1) := by decide +kernel
theorem dX12_look_98 : decode cX12_look 98 = .ok (.aload_n 0, 1) := by decide +kernel
theorem dX12_look_99 : decode cX12_look 99 = .ok (.getfield 294, 3) := by decide +kernel
theorem dX12_look_102 : decode cX12_look 102 = .ok (.iload_n 1, 1) := by decide +kernel
theorem dX12_look_103 : decode cX12_look 103 = .ok (.baload, 1) := by decide +kernel
theorem dX12_look_104 : decode cX12_look 104 = .ok (.ifCond .eq 7, 3) := by decide +kernel
theorem dX12_look_107 : decode cX12_look 107 = .ok (.iconst 1, 1) := by decide +kernel
theorem dX12_look_108 : decode cX12_look 108 = .ok (.goto 4, 3) := by decide +kernel
theorem dX12_look_111 : decode cX12_look 111 = .ok (.iconst 0, 1) := by decide +kernel
theorem dX12_look_112 : decode cX12_look 112 = .ok (.ireturn, 1) := by decide +kernel
theorem dX12_look_113 : decode cX12_look 113 = .ok (.aload_n 0, 1) := by decide +kernel
theorem dX12_look_114 : decode cX12_look 114 = .ok (.getfield 297, 3) := by decide +kernel
theorem dX12_look_117 : decode cX12_look 117 = .ok (.iload_n 1, 1) := by decide +kernel
theorem dX12_look_118 : decode cX12_look 118 = .ok (.baload, 1) := by decide +kernel
theorem dX12_look_119 : decode cX12_look 119 = .ok (.ifCond .eq 7, 3) := by decide +kernel
theorem dX12_look_122 : decode cX12_look 122 = .ok (.iconst 1, 1) := by decide +kernel
theorem dX12_look_123 : decode cX12_look 123 = .ok (.goto 4, 3) := by decide +kernel
theorem dX12_look_126 : decode cX12_look 126 = .ok (.iconst 0, 1) := by decide +kernel
theorem dX12_look_127 : decode cX12_look 127 = .ok (.ireturn, 1) := by decide +kernel
theorem dX12_look_128 : decode cX12_look 128 = .ok (.aload_n 0, 1) := by decide +kernel
theorem dX12_look_129 : decode cX12_look 129 = .ok (.getfield 300, 3) := by decide +kernel
theorem dX12_look_132 : decode cX12_look 132 = .ok (.iload_n 1, 1) := by decide +kernel
theorem dX12_look_133 : decode cX12_look 133 = .ok (.baload, 1) := by decide +kernel
theorem dX12_look_134 : decode cX12_look 134 = .ok (.ifCond .eq 7, 3) := by decide +kernel
theorem dX12_look_137 : decode cX12_look 137 = .ok (.iconst 1, 1) := by decide +kernel
theorem dX12_look_138 : decode cX12_look 138 = .ok (.goto 4, 3) := by decide +kernel
theorem dX12_look_141 : decode cX12_look 141 = .ok (.iconst 0, 1) := by decide +kernel
theorem dX12_look_142 : decode cX12_look 142 = .ok (.ireturn, 1) := by decide +kernel
theorem dX12_look_143 : decode cX12_look 143 = .ok (.aload_n 0, 1) := by decide +kernel
theorem dX12_look_144 : decode cX12_look 144 = .ok (.getfield 276, 3) := by decide +kernel
theorem dX12_look_147 : decode cX12_look 147 = .ok (.iload_n 1, 1) := by decide +kernel
theorem dX12_look_148 : decode cX12_look 148 = .ok (.iaload, 1) := by decide +kernel
theorem dX12_look_149 : decode cX12_look 149 = .ok (.ireturn, 1) := by decide +kernel
theorem dX12_look_150 : decode cX12_look 150 = .ok (.aload_n 0, 1) := by decide +kernel
theorem dX12_look_151 : decode cX12_look 151 = .ok (.getfield 279, 3) := by decide +kernel
theorem dX12_look_154 : decode cX12_look 154 = .ok (.iload_n 1, 1) := by decide +kernel
theorem dX12_look_155 : decode cX12_look 155 = .ok (.iaload, 1) := by decide +kernel
theorem dX12_look_156 : decode cX12_look 156 = .ok (.ireturn, 1) := by decide +kernel
theorem dX12_look_157 : decode cX12_look 157 = .ok (.aload_n 0, 1) := by decide +kernel
theorem dX12_look_158 : decode cX12_look 158 = .ok (.iload_n 1, 1) := by decide +kernel
theorem dX12_look_159 : decode cX12_look 159 = .ok (.invokevirtual 530, 3) := by decide +kernel
theorem dX12_look_162 : decode cX12_look 162 = .ok (.ireturn, 1) := by decide +kernel
theorem dX12_look_163 : decode cX12_look 163 = .ok (.aload_n 0, 1) := by decide +kernel
theorem dX12_look_164 : decode cX12_look 164 = .ok (.getfield 303, 3) := by decide +kernel
theorem dX12_look_167 : decode cX12_look 167 = .ok (.iload_n 1, 1) := by decide +kernel
theorem dX12_look_168 : decode cX12_look 168 = .ok (.baload, 1) := by decide +kernel
theorem dX12_look_169 : decode cX12_look 169 = .ok (.ifCond .eq 7, 3) := by decide +kernel
theorem dX12_look_172 : decode cX12_look 172 = .ok (.iconst 1, 1) := by decide +kernel
theorem dX12_look_173 : decode cX12_look 173 = .ok (.goto 4, 3) := by decide +kernel
theorem dX12_look_176 : decode cX12_look 176 = .ok (.iconst 0, 1) := by decide +kernel
theorem dX12_look_177 : decode cX12_look 177 = .ok (.ireturn, 1) := by decide +kernel
theorem dX12_look_178 : decode cX12_look 178 = .ok (.aload_n 0, 1) := by decide +kernel
theorem dX12_look_179 : decode cX12_look 179 = .ok (.getfield 285, 3) := by decide +kernel
theorem dX12_look_182 : decode cX12_look 182 = .ok (.iload_n 1, 1) := by decide +kernel
theorem dX12_look_183 : decode cX12_look 183 = .ok (.iaload, 1) := by decide +kernel
theorem dX12_look_184 : decode cX12_look 184 = .ok (.ireturn, 1) := by decide +kernel
theorem dX12_look_185 : decode cX12_look 185 = .ok (.aload_n 0, 1) := by decide +kernel
theorem dX12_look_186 : decode cX12_look 186 = .ok (.getfield 288, 3) := by decide +kernel
theorem dX12_look_189 : decode cX12_look 189 = .ok (.iload_n 1, 1) := by decide +kernel
theorem dX12_look_190 : decode cX12_look 190 = .ok (.iaload, 1) := by decide +kernel
theorem dX12_look_191 : decode cX12_look 191 = .ok (.ireturn, 1) := by decide +kernel
theorem dX12_look_192 : decode cX12_look 192 = .ok (.aload_n 0, 1) := by decide +kernel
theorem dX12_look_193 : decode cX12_look 193 = .ok (.getfield 291, 3) := by decide +kernel
theorem dX12_look_196 : decode cX12_look 196 = .ok (.iload_n 1, 1) := by decide +kernel
theorem dX12_look_197 : decode cX12_look 197 = .ok (.iaload, 1) := by decide +kernel
theorem dX12_look_198 : decode cX12_look 198 = .ok (.ireturn, 1) := by decide +kernel
def f_X12_look (x1 : Int32) (x2 : Int32) (w : Wd) : Option (Int32 × Wd) :=
  cl (f_X12_isPaper x1 w) fun r2 w1 =>
  if r2 = 0 then
  (some ((-2), w1))
  else
  cl (f_X12_in (Int32.toInt64 x2) 0 11 w1) fun r4 w3 =>
  if r4 = 0 then
  (some ((-2), w3))
  else
  if x2 = 0 then
  (if inb x1 4 = true then
  (some (w3.1 20 (Int32.toNatClampNeg x1), w3))
  else none)
  else
  if x2 = 1 then
  (if inb x1 4 = true then
  (some (w3.1 21 (Int32.toNatClampNeg x1), w3))
  else none)
  else
  if x2 = 2 then
  (if inb x1 4 = true then
  (if (w3.1 28 (Int32.toNatClampNeg x1)) = 0 then
  (some (0, w3))
  else
  some (1, w3))
  else none)
  else
  if x2 = 3 then
  (if inb x1 4 = true then
  (if (w3.1 29 (Int32.toNatClampNeg x1)) = 0 then
  (some (0, w3))
  else
  some (1, w3))
  else none)
  else
  if x2 = 4 then
  (if inb x1 4 = true then
  (if (w3.1 30 (Int32.toNatClampNeg x1)) = 0 then
  (some (0, w3))
  else
  some (1, w3))
  else none)
  else
  if x2 = 5 then
  (if inb x1 4 = true then
  (some (w3.1 22 (Int32.toNatClampNeg x1), w3))
  else none)
  else
  if x2 = 6 then
  (if inb x1 4 = true then
  (some (w3.1 23 (Int32.toNatClampNeg x1), w3))
  else none)
  else
  if x2 = 7 then
  (cl (f_X12_heirsOf x1 w3) fun r6 w5 =>
  some (r6, w5))
  else
  if x2 = 8 then
  (if inb x1 4 = true then
  (if (w3.1 31 (Int32.toNatClampNeg x1)) = 0 then
  (some (0, w3))
  else
  some (1, w3))
  else none)
  else
  if x2 = 9 then
  (if inb x1 4 = true then
  (some (w3.1 25 (Int32.toNatClampNeg x1), w3))
  else none)
  else
  if x2 = 10 then
  (if inb x1 4 = true then
  (some (w3.1 26 (Int32.toNatClampNeg x1), w3))
  else none)
  else
  if inb x1 4 = true then
  (some (w3.1 27 (Int32.toNatClampNeg x1), w3))
  else none
set_option maxRecDepth 100000 in
set_option maxHeartbeats 4000000 in
theorem t_X12_look {Z : Cz (Int32 × Wd)} (hZ : OKZ Z SM cX12_look RX12 3 (some .int) 3) (hE : EndI Z) (x1 : Int32) (x2 : Int32)  (w : Wd) : BW Z 3 0 [(0, .ref (ph (zY Z) 0)), (1, .int x1), (2, .int x2)] [] w (f_X12_look x1 x2 w) :=
  bw_aload_n hZ 0 rfl dX12_look_0 <|
  bw_iload_n hZ 1 rfl dX12_look_1 <|
  bw_callVI (As := [.int x1]) hZ ml_RX12_525 rc_12 obM_0 (by decide) (c_X12_isPaper (zl Z) (zY Z) (hZ_S hZ) x1 w) rfl rfl (Nat.le_of_ble_eq_true rfl) dX12_look_2 fun r2 w1 =>
  bw_if_eq hZ (tgt := 20) (by decide) dX12_look_5 (fun _ =>
  bw_bipush hZ (-2) (by decide) dX12_look_20 <|
  bw_iret hZ hE dX12_look_22) (fun _ =>
  bw_iload_n hZ 2 rfl dX12_look_8 <|
  bw_i2l hZ dX12_look_9 <|
  bw_lconst hZ 0 (by decide) dX12_look_10 <|
  bw_ldc2 hZ kk_RX12_528 dX12_look_11 <|
  bw_callSI (As := [.long (Int32.toInt64 x2), .long 0, .long 11]) hZ ms_RX12_60 (by decide) (c_X12_in (zl Z) (zY Z) (hZ_S hZ) (Int32.toInt64 x2) 0 11 w1) rfl rfl (Nat.le_of_ble_eq_true rfl) dX12_look_14 fun r4 w3 =>
  bw_if_ne hZ (tgt := 23) (by decide) dX12_look_17 (fun _ =>
  bw_iload_n hZ 2 rfl dX12_look_23 <|
  bw_if (fun h => bw_tabIn hZ (tgt := 84) (off := 60) 0 (by rw [h]; decide) (by decide) (by decide) (by decide) (by decide) dX12_look_24 <|
  bw_aload_n hZ 0 rfl dX12_look_84 <|
  bw_getR hZ fl_RX12_270 obM_0 rfl dX12_look_85 <|
  bw_iload_n hZ 1 rfl dX12_look_88 <|
  bw_iald hZ (arM_20 _) dX12_look_89 <|
  bw_iret hZ hE dX12_look_90) (fun h0 =>
  bw_if (fun h => bw_tabIn hZ (tgt := 91) (off := 67) 1 (by rw [h]; decide) (by decide) (by decide) (by decide) (by decide) dX12_look_24 <|
  bw_aload_n hZ 0 rfl dX12_look_91 <|
  bw_getR hZ fl_RX12_273 obM_0 rfl dX12_look_92 <|
  bw_iload_n hZ 1 rfl dX12_look_95 <|
  bw_iald hZ (arM_21 _) dX12_look_96 <|
  bw_iret hZ hE dX12_look_97) (fun h1 =>
  bw_if (fun h => bw_tabIn hZ (tgt := 98) (off := 74) 2 (by rw [h]; decide) (by decide) (by decide) (by decide) (by decide) dX12_look_24 <|
  bw_aload_n hZ 0 rfl dX12_look_98 <|
  bw_getR hZ fl_RX12_294 obM_0 rfl dX12_look_99 <|
  bw_iload_n hZ 1 rfl dX12_look_102 <|
  bw_zald hZ (arM_28 _) dX12_look_103 <|
  bw_if_eq hZ (tgt := 111) (by decide) dX12_look_104 (fun _ =>
  bw_iconst hZ 0 (by decide) dX12_look_111 <|
  bw_iret hZ hE dX12_look_112) (fun _ =>
  bw_iconst hZ 1 (by decide) dX12_look_107 <|
  bw_goto hZ (tgt := 112) (by decide) dX12_look_108 <|
  bw_iret hZ hE dX12_look_112)) (fun h2 =>
  bw_if (fun h => bw_tabIn hZ (tgt := 113) (off := 89) 3 (by rw [h]; decide) (by decide) (by decide) (by decide) (by decide) dX12_look_24 <|
  bw_aload_n hZ 0 rfl dX12_look_113 <|
  bw_getR hZ fl_RX12_297 obM_0 rfl dX12_look_114 <|
  bw_iload_n hZ 1 rfl dX12_look_117 <|
  bw_zald hZ (arM_29 _) dX12_look_118 <|
  bw_if_eq hZ (tgt := 126) (by decide) dX12_look_119 (fun _ =>
  bw_iconst hZ 0 (by decide) dX12_look_126 <|
  bw_iret hZ hE dX12_look_127) (fun _ =>
  bw_iconst hZ 1 (by decide) dX12_look_122 <|
  bw_goto hZ (tgt := 127) (by decide) dX12_look_123 <|
  bw_iret hZ hE dX12_look_127)) (fun h3 =>
  bw_if (fun h => bw_tabIn hZ (tgt := 128) (off := 104) 4 (by rw [h]; decide) (by decide) (by decide) (by decide) (by decide) dX12_look_24 <|
  bw_aload_n hZ 0 rfl dX12_look_128 <|
  bw_getR hZ fl_RX12_300 obM_0 rfl dX12_look_129 <|
  bw_iload_n hZ 1 rfl dX12_look_132 <|
  bw_zald hZ (arM_30 _) dX12_look_133 <|
  bw_if_eq hZ (tgt := 141) (by decide) dX12_look_134 (fun _ =>
  bw_iconst hZ 0 (by decide) dX12_look_141 <|
  bw_iret hZ hE dX12_look_142) (fun _ =>
  bw_iconst hZ 1 (by decide) dX12_look_137 <|
  bw_goto hZ (tgt := 142) (by decide) dX12_look_138 <|
  bw_iret hZ hE dX12_look_142)) (fun h4 =>
  bw_if (fun h => bw_tabIn hZ (tgt := 143) (off := 119) 5 (by rw [h]; decide) (by decide) (by decide) (by decide) (by decide) dX12_look_24 <|
  bw_aload_n hZ 0 rfl dX12_look_143 <|
  bw_getR hZ fl_RX12_276 obM_0 rfl dX12_look_144 <|
  bw_iload_n hZ 1 rfl dX12_look_147 <|
  bw_iald hZ (arM_22 _) dX12_look_148 <|
  bw_iret hZ hE dX12_look_149) (fun h5 =>
  bw_if (fun h => bw_tabIn hZ (tgt := 150) (off := 126) 6 (by rw [h]; decide) (by decide) (by decide) (by decide) (by decide) dX12_look_24 <|
  bw_aload_n hZ 0 rfl dX12_look_150 <|
  bw_getR hZ fl_RX12_279 obM_0 rfl dX12_look_151 <|
  bw_iload_n hZ 1 rfl dX12_look_154 <|
  bw_iald hZ (arM_23 _) dX12_look_155 <|
  bw_iret hZ hE dX12_look_156) (fun h6 =>
  bw_if (fun h => bw_tabIn hZ (tgt := 157) (off := 133) 7 (by rw [h]; decide) (by decide) (by decide) (by decide) (by decide) dX12_look_24 <|
  bw_aload_n hZ 0 rfl dX12_look_157 <|
  bw_iload_n hZ 1 rfl dX12_look_158 <|
  bw_callVI (As := [.int x1]) hZ ml_RX12_530 rc_12 obM_0 (by decide) (c_X12_heirsOf (zl Z) (zY Z) (hZ_S hZ) x1 w3) rfl rfl (Nat.le_of_ble_eq_true rfl) dX12_look_159 fun r6 w5 =>
  bw_iret hZ hE dX12_look_162) (fun h7 =>
  bw_if (fun h => bw_tabIn hZ (tgt := 163) (off := 139) 8 (by rw [h]; decide) (by decide) (by decide) (by decide) (by decide) dX12_look_24 <|
  bw_aload_n hZ 0 rfl dX12_look_163 <|
  bw_getR hZ fl_RX12_303 obM_0 rfl dX12_look_164 <|
  bw_iload_n hZ 1 rfl dX12_look_167 <|
  bw_zald hZ (arM_31 _) dX12_look_168 <|
  bw_if_eq hZ (tgt := 176) (by decide) dX12_look_169 (fun _ =>
  bw_iconst hZ 0 (by decide) dX12_look_176 <|
  bw_iret hZ hE dX12_look_177) (fun _ =>
  bw_iconst hZ 1 (by decide) dX12_look_172 <|
  bw_goto hZ (tgt := 177) (by decide) dX12_look_173 <|
  bw_iret hZ hE dX12_look_177)) (fun h8 =>
  bw_if (fun h => bw_tabIn hZ (tgt := 178) (off := 154) 9 (by rw [h]; decide) (by decide) (by decide) (by decide) (by decide) dX12_look_24 <|
  bw_aload_n hZ 0 rfl dX12_look_178 <|
  bw_getR hZ fl_RX12_285 obM_0 rfl dX12_look_179 <|
  bw_iload_n hZ 1 rfl dX12_look_182 <|
  bw_iald hZ (arM_25 _) dX12_look_183 <|
  bw_iret hZ hE dX12_look_184) (fun h9 =>
  bw_if (fun h => bw_tabIn hZ (tgt := 185) (off := 161) 10 (by rw [h]; decide) (by decide) (by decide) (by decide) (by decide) dX12_look_24 <|
  bw_aload_n hZ 0 rfl dX12_look_185 <|
  bw_getR hZ fl_RX12_288 obM_0 rfl dX12_look_186 <|
  bw_iload_n hZ 1 rfl dX12_look_189 <|
  bw_iald hZ (arM_26 _) dX12_look_190 <|
  bw_iret hZ hE dX12_look_191) (fun h10 =>
  bw_tabOut hZ (tgt := 192) (by have q0 := ne_int h0 (n := 0) (by decide); have q1 := ne_int h1 (n := 1) (by decide); have q2 := ne_int h2 (n := 2) (by decide); have q3 := ne_int h3 (n := 3) (by decide); have q4 := ne_int h4 (n := 4) (by decide); have q5 := ne_int h5 (n := 5) (by decide); have q6 := ne_int h6 (n := 6) (by decide); have q7 := ne_int h7 (n := 7) (by decide); have q8 := ne_int h8 (n := 8) (by decide); have q9 := ne_int h9 (n := 9) (by decide); have q10 := ne_int h10 (n := 10) (by decide); omega) (by decide) dX12_look_24 <|
  bw_aload_n hZ 0 rfl dX12_look_192 <|
  bw_getR hZ fl_RX12_291 obM_0 rfl dX12_look_193 <|
  bw_iload_n hZ 1 rfl dX12_look_196 <|
  bw_iald hZ (arM_27 _) dX12_look_197 <|
  bw_iret hZ hE dX12_look_198)))))))))))) (fun _ =>
  bw_bipush hZ (-2) (by decide) dX12_look_20 <|
  bw_iret hZ hE dX12_look_22))
theorem c_X12_look (l : Launch) (Y : Ev) (hY : Y.1 = SM) (x1 : Int32) (x2 : Int32)  (w : Wd) : CI l Y yX12_look cX12_look 3 3 [.ref (ph Y 0), .int x1, .int x2] w .int (f_X12_look x1 x2 w) := by
  refine CI_of (S := SM) (by decide) (Nat.le_of_ble_eq_true rfl) hY ?_
  intro Z hl hY2 hZ hE
  subst hY2
  exact t_X12_look hZ hE x1 x2 w
