-- WhichWillModel.readPerson
theorem dX12_readPerson_0 : decode cX12_readPerson 0 = .ok (.aload_n 0, 1) := by decide +kernel
theorem dX12_readPerson_1 : decode cX12_readPerson 1 = .ok (.getfield 146, 3) := by decide +kernel
theorem dX12_readPerson_4 : decode cX12_readPerson 4 = .ok (.bipush 8, 2) := by decide +kernel
theorem dX12_readPerson_6 : decode cX12_readPerson 6 = .ok (.if_icmp .ne 9, 3) := by decide +kernel
theorem dX12_readPerson_9 : decode cX12_readPerson 9 = .ok (.aload_n 0, 1) := by decide +kernel
theorem dX12_readPerson_10 : decode cX12_readPerson 10 = .ok (.iconst 4, 1) := by decide +kernel
theorem dX12_readPerson_11 : decode cX12_readPerson 11 = .ok (.invokevirtual 53, 3) := by decide +kernel
theorem dX12_readPerson_14 : decode cX12_readPerson 14 = .ok (.ireturn, 1) := by decide +kernel
theorem dX12_readPerson_15 : decode cX12_readPerson 15 = .ok (.aload_n 0, 1) := by decide +kernel
theorem dX12_readPerson_16 : decode cX12_readPerson 16 = .ok (.invokevirtual 56, 3) := by decide +kernel
theorem dX12_readPerson_19 : decode cX12_readPerson 19 = .ok (.aload_n 0, 1) := by decide +kernel
theorem dX12_readPerson_20 : decode cX12_readPerson 20 = .ok (.aload_n 0, 1) := by decide +kernel
theorem dX12_readPerson_21 : decode cX12_readPerson 21 = .ok (.getfield 149, 3) := by decide +kernel
theorem dX12_readPerson_24 : decode cX12_readPerson 24 = .ok (.aload_n 0, 1) := by decide +kernel
theorem dX12_readPerson_25 : decode cX12_readPerson 25 = .ok (.getfield 146, 3) := by decide +kernel
theorem dX12_readPerson_28 : decode cX12_readPerson 28 = .ok (.invokevirtual 136, 3) := by decide +kernel
theorem dX12_readPerson_31 : decode cX12_readPerson 31 = .ok (.ifCond .ne 5, 3) := by decide +kernel
theorem dX12_readPerson_34 : decode cX12_readPerson 34 = .ok (.iconst 0, 1) := by decide +kernel
theorem dX12_readPerson_35 : decode cX12_readPerson 35 = .ok (.ireturn, 1) := by decide +kernel
theorem dX12_readPerson_36 : decode cX12_readPerson 36 = .ok (.aload_n 0, 1) := by decide +kernel
theorem dX12_readPerson_37 : decode cX12_readPerson 37 = .ok (.ldc 99, 2) := by decide +kernel
theorem dX12_readPerson_39 : decode cX12_readPerson 39 = .ok (.invokevirtual 49, 3) := by decide +kernel
theorem dX12_readPerson_42 : decode cX12_readPerson 42 = .ok (.ifCond .eq 7, 3) := by decide +kernel
theorem dX12_readPerson_45 : decode cX12_readPerson 45 = .ok (.iconst 0, 1) := by decide +kernel
theorem dX12_readPerson_46 : decode cX12_readPerson 46 = .ok (.goto 43, 3) := by decide +kernel
theorem dX12_readPerson_49 : decode cX12_readPerson 49 = .ok (.aload_n 0, 1) := by decide +kernel
theorem dX12_readPerson_50 : decode cX12_readPerson 50 = .ok (.ldc 152, 2) := by decide +kernel
theorem dX12_readPerson_52 : decode cX12_readPerson 52 = .ok (.invokevirtual 49, 3) := by decide +kernel
theorem dX12_readPerson_55 : decode cX12_readPerson 55 = .ok (.ifCond .eq 7, 3) := by decide +kernel
theorem dX12_readPerson_58 : decode cX12_readPerson 58 = .ok (.iconst 1, 1) := by decide +kernel
theorem dX12_readPerson_59 : decode cX12_readPerson 59 = .ok (.goto 30, 3) := by decide +kernel
theorem dX12_readPerson_62 : decode cX12_readPerson 62 = .ok (.aload_n 0, 1) := by decide +kernel
theorem dX12_readPerson_63 : decode cX12_readPerson 63 = .ok (.ldc 154, 2) := by decide +kernel
theorem dX12_readPerson_65 : decode cX12_readPerson 65 = .ok (.invokevirtual 49, 3) := by decide +kernel
theorem dX12_readPerson_68 : decode cX12_readPerson 68 = .ok (.ifCond .eq 7, 3) := by decide +kernel
theorem dX12_readPerson_71 : decode cX12_readPerson 71 = .ok (.iconst 2, 1) := by decide +kernel
theorem dX12_readPerson_72 : decode cX12_readPerson 72 = .ok (.goto 17, 3) := by decide +kernel
theorem dX12_readPerson_75 : decode cX12_readPerson 75 = .ok (.aload_n 0, 1) := by decide +kernel
theorem dX12_readPerson_76 : decode cX12_readPerson 76 = .ok (.ldc 156, 2) := by decide +kernel
theorem dX12_readPerson_78 : decode cX12_readPerson 78 = .ok (.invokevirtual 49, 3) := by decide +kernel
theorem dX12_readPerson_81 : decode cX12_readPerson 81 = .ok (.ifCond .eq 7, 3) := by decide +kernel
theorem dX12_readPerson_84 : decode cX12_readPerson 84 = .ok (.iconst 3, 1) := by decide +kernel
theorem dX12_readPerson_85 : decode cX12_readPerson 85 = .ok (.goto 4, 3) := by decide +kernel
theorem dX12_readPerson_88 : decode cX12_readPerson 88 = .ok (.iconst (-1), 1) := by decide +kernel
theorem dX12_readPerson_89 : decode cX12_readPerson 89 = .ok (.istore_n 1, 1) := by decide +kernel
theorem dX12_readPerson_90 : decode cX12_readPerson 90 = .ok (.iload_n 1, 1) := by decide +kernel
theorem dX12_readPerson_91 : decode cX12_readPerson 91 = .ok (.iconst (-1), 1) := by decide +kernel
theorem dX12_readPerson_92 : decode cX12_readPerson 92 = .ok (.if_icmp .ne 9, 3) := by decide +kernel
theorem dX12_readPerson_95 : decode cX12_readPerson 95 = .ok (.aload_n 0, 1) := by decide +kernel
theorem dX12_readPerson_96 : decode cX12_readPerson 96 = .ok (.iconst 1, 1) := by decide +kernel
theorem dX12_readPerson_97 : decode cX12_readPerson 97 = .ok (.invokevirtual 53, 3) := by decide +kernel
theorem dX12_readPerson_100 : decode cX12_readPerson 100 = .ok (.ireturn, 1) := by decide +kernel
theorem dX12_readPerson_101 : decode cX12_readPerson 101 = .ok (.iload_n 1, 1) := by decide +kernel
theorem dX12_readPerson_102 : decode cX12_readPerson 102 = .ok (.ifCond .ne 17, 3) := by decide +kernel
theorem dX12_readPerson_105 : decode cX12_readPerson 105 = .ok (.aload_n 0, 1) := by decide +kernel
theorem dX12_readPerson_106 : decode cX12_readPerson 106 = .ok (.getfield 158, 3) := by decide +kernel
theorem dX12_readPerson_109 : decode cX12_readPerson 109 = .ok (.iconst (-1), 1) := by decide +kernel
theorem dX12_readPerson_110 : decode cX12_readPerson 110 = .ok (.if_icmp .eq 9, 3) := by decide +kernel
theorem dX12_readPerson_113 : decode cX12_readPerson 113 = .ok (.aload_n 0, 1) := by decide +kernel
theorem dX12_readPerson_114 : decode cX12_readPerson 114 = .ok (.iconst 3, 1) := by decide +kernel
theorem dX12_readPerson_115 : decode cX12_readPerson 115 = .ok (.invokevirtual 53, 3) := by decide +kernel
theorem dX12_readPerson_118 : decode cX12_readPerson 118 = .ok (.ireturn, 1) := by decide +kernel
theorem dX12_readPerson_119 : decode cX12_readPerson 119 = .ok (.aload_n 0, 1) := by decide +kernel
theorem dX12_readPerson_120 : decode cX12_readPerson 120 = .ok (.invokevirtual 56, 3) := by decide +kernel
theorem dX12_readPerson_123 : decode cX12_readPerson 123 = .ok (.aload_n 0, 1) := by decide +kernel
theorem dX12_readPerson_124 : decode cX12_readPerson 124 = .ok (.getfield 161, 3) := by decide +kernel
theorem dX12_readPerson_127 : decode cX12_readPerson 127 = .ok (.aload_n 0, 1) := by decide +kernel
theorem dX12_readPerson_128 : decode cX12_readPerson 128 = .ok (.getfield 146, 3) := by decide +kernel
theorem dX12_readPerson_131 : decode cX12_readPerson 131 = .ok (.iconst (-1), 1) := by decide +kernel
theorem dX12_readPerson_132 : decode cX12_readPerson 132 = .ok (.iastore, 1) := by decide +kernel
theorem dX12_readPerson_133 : decode cX12_readPerson 133 = .ok (.iload_n 1, 1) := by decide +kernel
theorem dX12_readPerson_134 : decode cX12_readPerson 134 = .ok (.iconst 2, 1) := by decide +kernel
theorem dX12_readPerson_135 : decode cX12_readPerson 135 = .ok (.if_icmp .ne 33, 3) := by decide +kernel
theorem dX12_readPerson_138 : decode cX12_readPerson 138 = .ok (.aload_n 0, 1) := by decide +kernel
theorem dX12_readPerson_139 : decode cX12_readPerson 139 = .ok (.aload_n 0, 1) := by decide +kernel
theorem dX12_readPerson_140 : decode cX12_readPerson 140 = .ok (.getfield 149, 3) := by decide +kernel
theorem dX12_readPerson_143 : decode cX12_readPerson 143 = .ok (.aload_n 0, 1) := by decide +kernel
theorem dX12_readPerson_144 : decode cX12_readPerson 144 = .ok (.getfield 146, 3) := by decide +kernel
theorem dX12_readPerson_147 : decode cX12_readPerson 147 = .ok (.invokevirtual 164, 3) := by decide +kernel
theorem dX12_readPerson_150 : decode cX12_readPerson 150 = .ok (.ifCond .ne 5, 3) := by decide +kernel
theorem dX12_readPerson_153 : decode cX12_readPerson 153 = .ok (.iconst 0, 1) := by decide +kernel
theorem dX12_readPerson_154 : decode cX12_readPerson 154 = .ok (.ireturn, 1) := by decide +kernel
theorem dX12_readPerson_155 : decode cX12_readPerson 155 = .ok (.aload_n 0, 1) := by decide +kernel
theorem dX12_readPerson_156 : decode cX12_readPerson 156 = .ok (.getfield 161, 3) := by decide +kernel
theorem dX12_readPerson_159 : decode cX12_readPerson 159 = .ok (.aload_n 0, 1) := by decide +kernel
theorem dX12_readPerson_160 : decode cX12_readPerson 160 = .ok (.getfield 146, 3) := by decide +kernel
theorem dX12_readPerson_163 : decode cX12_readPerson 163 = .ok (.aload_n 0, 1) := by decide +kernel
theorem dX12_readPerson_164 : decode cX12_readPerson 164 = .ok (.getfield 64, 3) := by decide +kernel
theorem dX12_readPerson_167 : decode cX12_readPerson 167 = .ok (.iastore, 1) := by decide +kernel
theorem dX12_readPerson_168 : decode cX12_readPerson 168 = .ok (.iload_n 1, 1) := by decide +kernel
theorem dX12_readPerson_169 : decode cX12_readPerson 169 = .ok (.ifCond .ne 11, 3) := by decide +kernel
theorem dX12_readPerson_172 : decode cX12_readPerson 172 = .ok (.aload_n 0, 1) := by decide +kernel
theorem dX12_readPerson_173 : decode cX12_readPerson 173 = .ok (.aload_n 0, 1) := by decide +kernel
theorem dX12_readPerson_174 : decode cX12_readPerson 174 = .ok (.getfield 146, 3) := by decide +kernel
theorem dX12_readPerson_177 : decode cX12_readPerson 177 = .ok (.putfield 158, 3) := by decide +kernel
theorem dX12_readPerson_180 : decode cX12_readPerson 180 = .ok (.aload_n 0, 1) := by decide +kernel
theorem dX12_readPerson_181 : decode cX12_readPerson 181 = .ok (.getfield 167, 3) := by decide +kernel
theorem dX12_readPerson_184 : decode cX12_readPerson 184 = .ok (.aload_n 0, 1) := by decide +kernel
theorem dX12_readPerson_185 : decode cX12_readPerson 185 = .ok (.getfield 146, 3) := by decide +kernel
theorem dX12_readPerson_188 : decode cX12_readPerson 188 = .ok (.iload_n 1, 1) := by decide +kernel
theorem dX12_readPerson_189 : decode cX12_readPerson 189 = .ok (.iastore, 1) := by decide +kernel
theorem dX12_readPerson_190 : decode cX12_readPerson 190 = .ok (.aload_n 0, 1) := by decide +kernel
theorem dX12_readPerson_191 : decode cX12_readPerson 191 = .ok (.getfield 170, 3) := by decide +kernel
theorem dX12_readPerson_194 : decode cX12_readPerson 194 = .ok (.aload_n 0, 1) := by decide +kernel
theorem dX12_readPerson_195 : decode cX12_readPerson 195 = .ok (.getfield 146, 3) := by decide +kernel
theorem dX12_readPerson_198 : decode cX12_readPerson 198 = .ok (.aload_n 0, 1) := by decide +kernel
theorem dX12_readPerson_199 : decode cX12_readPerson 199 = .ok (.ldc 174, 2) := by decide +kernel
theorem dX12_readPerson_201 : decode cX12_readPerson 201 = .ok (.invokevirtual 49, 3) := by decide +kernel
theorem dX12_readPerson_204 : decode cX12_readPerson 204 = .ok (.bastore, 1) := by decide +kernel
theorem dX12_readPerson_205 : decode cX12_readPerson 205 = .ok (.aload_n 0, 1) := by decide +kernel
theorem dX12_readPerson_206 : decode cX12_readPerson 206 = .ok (.ldc 174, 2) := by decide +kernel
theorem dX12_readPerson_208 : decode cX12_readPerson 208 = .ok (.invokevirtual 49, 3) := by decide +kernel
theorem dX12_readPerson_211 : decode cX12_readPerson 211 = .ok (.ifCond .eq 7, 3) := by decide +kernel
theorem dX12_readPerson_214 : decode cX12_readPerson 214 = .ok (.aload_n 0, 1) := by decide +kernel
theorem dX12_readPerson_215 : decode cX12_readPerson 215 = .ok (.invokevirtual 56, 3) := by decide +kernel
theorem dX12_readPerson_218 : decode cX12_readPerson 218 = .ok (.aload_n 0, 1) := by decide +kernel
theorem dX12_readPerson_219 : decode cX12_readPerson 219 = .ok (.dup, 1) := by decide +kernel
theorem dX12_readPerson_220 : decode cX12_readPerson 220 = .ok (.getfield 146, 3) := by decide +kernel
theorem dX12_readPerson_223 : decode cX12_readPerson 223 = .ok (.iconst 1, 1) := by decide +kernel
theorem dX12_readPerson_224 : decode cX12_readPerson 224 = .ok (.iadd, 1) := by decide +kernel
theorem dX12_readPerson_225 : decode cX12_readPerson 225 = .ok (.putfield 146, 3) := by decide +kernel
theorem dX12_readPerson_228 : decode cX12_readPerson 228 = .ok (.iconst 1, 1) := by decide +kernel
theorem dX12_readPerson_229 : decode cX12_readPerson 229 = .ok (.ireturn, 1) := by decide +kernel
def X12_readPerson_b218 (w : Wd) : Option (Int32 × Wd) :=
  lt (wI w 0 27 ((w.1 0 27) + 1)) fun w20 =>
  some (1, w20)
set_option maxRecDepth 100000 in
set_option maxHeartbeats 4000000 in
theorem t_X12_readPerson_b218 {Z : Cz (Int32 × Wd)} (hZ : OKZ Z SM cX12_readPerson RX12 2 (some .boolean) 6) (hE : EndI Z)    (w : Wd) : BW Z 2 218 [(0, .ref (ph (zY Z) 0))] [] w (X12_readPerson_b218 w) :=
  bw_aload_n hZ 0 rfl dX12_readPerson_218 <|
  bw_dup hZ rfl dX12_readPerson_219 <|
  bw_getI hZ fl_RX12_146 (by decide) obM_0 dX12_readPerson_220 <|
  bw_iconst hZ 1 (by decide) dX12_readPerson_223 <|
  bw_iadd hZ dX12_readPerson_224 <|
  bw_putI hZ fl_RX12_146 rfl rfl (by decide) obM_0 dX12_readPerson_225 fun w20 =>
  bw_iconst hZ 1 (by decide) dX12_readPerson_228 <|
  bw_zret hZ hE (by decide) dX12_readPerson_229
def X12_readPerson_b180 (y1 : Int32) (w : Wd) : Option (Int32 × Wd) :=
  if inb (w.1 0 27) 8 = true then
  (lt (wI w 15 (Int32.toNatClampNeg (w.1 0 27)) y1) fun w14 =>
  cl (f_X12_is 26 w14) fun r16 w15 =>
  if inb (w14.1 0 27) 8 = true then
  (lt (wI w15 19 (Int32.toNatClampNeg (w14.1 0 27)) (vp_nar .boolean r16)) fun w17 =>
  cl (f_X12_is 26 w17) fun r19 w18 =>
  if r19 = 0 then
  (X12_readPerson_b218 w18)
  else
  cv (f_X12_scan w18) fun w21 =>
  X12_readPerson_b218 w21)
  else none)
  else none
set_option maxRecDepth 100000 in
set_option maxHeartbeats 4000000 in
theorem t_X12_readPerson_b180 {Z : Cz (Int32 × Wd)} (hZ : OKZ Z SM cX12_readPerson RX12 2 (some .boolean) 6) (hE : EndI Z)  (y1 : Int32)  (w : Wd) : BW Z 2 180 [(0, .ref (ph (zY Z) 0)), (1, .int y1)] [] w (X12_readPerson_b180 y1 w) :=
  bw_aload_n hZ 0 rfl dX12_readPerson_180 <|
  bw_getR hZ fl_RX12_167 obM_0 rfl dX12_readPerson_181 <|
  bw_aload_n hZ 0 rfl dX12_readPerson_184 <|
  bw_getI hZ fl_RX12_146 (by decide) obM_0 dX12_readPerson_185 <|
  bw_iload_n hZ 1 rfl dX12_readPerson_188 <|
  bw_iast hZ (arM_15 _) dX12_readPerson_189 fun w14 =>
  bw_aload_n hZ 0 rfl dX12_readPerson_190 <|
  bw_getR hZ fl_RX12_170 obM_0 rfl dX12_readPerson_191 <|
  bw_aload_n hZ 0 rfl dX12_readPerson_194 <|
  bw_getI hZ fl_RX12_146 (by decide) obM_0 dX12_readPerson_195 <|
  bw_aload_n hZ 0 rfl dX12_readPerson_198 <|
  bw_ldcS hZ 74 rfl dX12_readPerson_199 <|
  bw_callVI (As := [.ref (sK (zY Z) 26)]) hZ ml_RX12_49 rc_12 obM_0 (by decide) (c_X12_is (zl Z) (zY Z) (hZ_S hZ) 26 (by decide) w14) rfl rfl (Nat.le_of_ble_eq_true rfl) dX12_readPerson_201 fun r16 w15 =>
  bw_zast hZ (arM_19 _) dX12_readPerson_204 fun w17 =>
  bw_aload_n hZ 0 rfl dX12_readPerson_205 <|
  bw_ldcS hZ 74 rfl dX12_readPerson_206 <|
  bw_callVI (As := [.ref (sK (zY Z) 26)]) hZ ml_RX12_49 rc_12 obM_0 (by decide) (c_X12_is (zl Z) (zY Z) (hZ_S hZ) 26 (by decide) w17) rfl rfl (Nat.le_of_ble_eq_true rfl) dX12_readPerson_208 fun r19 w18 =>
  bw_if_eq hZ (tgt := 218) (by decide) dX12_readPerson_211 (fun _ =>
  bw_sub [0] rfl (t_X12_readPerson_b218 hZ hE w18)) (fun _ =>
  bw_aload_n hZ 0 rfl dX12_readPerson_214 <|
  bw_callVV (As := []) hZ ml_RX12_56 rc_12 obM_0 (by decide) (c_X12_scan (zl Z) (zY Z) (hZ_S hZ) w18) rfl rfl (Nat.le_of_ble_eq_true rfl) dX12_readPerson_215 fun w21 =>
  bw_sub [0] rfl (t_X12_readPerson_b218 hZ hE w21))
def X12_readPerson_b168 (y1 : Int32) (w : Wd) : Option (Int32 × Wd) :=
  if y1 = 0 then
  (lt (wI w 0 34 (w.1 0 27)) fun w22 =>
  X12_readPerson_b180 y1 w22)
  else
  X12_readPerson_b180 y1 w
set_option maxRecDepth 100000 in
set_option maxHeartbeats 4000000 in
theorem t_X12_readPerson_b168 {Z : Cz (Int32 × Wd)} (hZ : OKZ Z SM cX12_readPerson RX12 2 (some .boolean) 6) (hE : EndI Z)  (y1 : Int32)  (w : Wd) : BW Z 2 168 [(0, .ref (ph (zY Z) 0)), (1, .int y1)] [] w (X12_readPerson_b168 y1 w) :=
  bw_iload_n hZ 1 rfl dX12_readPerson_168 <|
  bw_if_ne hZ (tgt := 180) (by decide) dX12_readPerson_169 (fun _ =>
  bw_sub [0, 1] rfl (t_X12_readPerson_b180 hZ hE y1 w)) (fun _ =>
  bw_aload_n hZ 0 rfl dX12_readPerson_172 <|
  bw_aload_n hZ 0 rfl dX12_readPerson_173 <|
  bw_getI hZ fl_RX12_146 (by decide) obM_0 dX12_readPerson_174 <|
  bw_putI hZ fl_RX12_158 rfl rfl (by decide) obM_0 dX12_readPerson_177 fun w22 =>
  bw_sub [0, 1] rfl (t_X12_readPerson_b180 hZ hE y1 w22))
def X12_readPerson_b119 (y1 : Int32) (w : Wd) : Option (Int32 × Wd) :=
  cv (f_X12_scan w) fun w12 =>
  if inb (w12.1 0 27) 8 = true then
  (lt (wI w12 16 (Int32.toNatClampNeg (w12.1 0 27)) ((-1))) fun w13 =>
  if y1 = 2 then
  (cl (f_X12_known 12 8 (w13.1 0 27) w13) fun r24 w23 =>
  if r24 = 0 then
  (some (0, w23))
  else
  if inb (w23.1 0 27) 8 = true then
  (lt (wI w23 16 (Int32.toNatClampNeg (w23.1 0 27)) (w23.1 0 7)) fun w25 =>
  X12_readPerson_b168 y1 w25)
  else none)
  else
  X12_readPerson_b168 y1 w13)
  else none
set_option maxRecDepth 100000 in
set_option maxHeartbeats 4000000 in
theorem t_X12_readPerson_b119 {Z : Cz (Int32 × Wd)} (hZ : OKZ Z SM cX12_readPerson RX12 2 (some .boolean) 6) (hE : EndI Z)  (y1 : Int32)  (w : Wd) : BW Z 2 119 [(0, .ref (ph (zY Z) 0)), (1, .int y1)] [] w (X12_readPerson_b119 y1 w) :=
  bw_aload_n hZ 0 rfl dX12_readPerson_119 <|
  bw_callVV (As := []) hZ ml_RX12_56 rc_12 obM_0 (by decide) (c_X12_scan (zl Z) (zY Z) (hZ_S hZ) w) rfl rfl (Nat.le_of_ble_eq_true rfl) dX12_readPerson_120 fun w12 =>
  bw_aload_n hZ 0 rfl dX12_readPerson_123 <|
  bw_getR hZ fl_RX12_161 obM_0 rfl dX12_readPerson_124 <|
  bw_aload_n hZ 0 rfl dX12_readPerson_127 <|
  bw_getI hZ fl_RX12_146 (by decide) obM_0 dX12_readPerson_128 <|
  bw_iconst hZ (-1) (by decide) dX12_readPerson_131 <|
  bw_iast hZ (arM_16 _) dX12_readPerson_132 fun w13 =>
  bw_iload_n hZ 1 rfl dX12_readPerson_133 <|
  bw_iconst hZ 2 (by decide) dX12_readPerson_134 <|
  bw_icmp_ne hZ (tgt := 168) (by decide) dX12_readPerson_135 (fun _ =>
  bw_sub [0, 1] rfl (t_X12_readPerson_b168 hZ hE y1 w13)) (fun _ =>
  bw_aload_n hZ 0 rfl dX12_readPerson_138 <|
  bw_aload_n hZ 0 rfl dX12_readPerson_139 <|
  bw_getR hZ fl_RX12_149 obM_0 rfl dX12_readPerson_140 <|
  bw_aload_n hZ 0 rfl dX12_readPerson_143 <|
  bw_getI hZ fl_RX12_146 (by decide) obM_0 dX12_readPerson_144 <|
  bw_callVI (As := [.ref (ph (zY Z) 12), .int (w13.1 0 27)]) hZ ml_RX12_164 rc_12 obM_0 (by decide) (c_X12_known (zl Z) (zY Z) (hZ_S hZ) 12 8 (w13.1 0 27) arM_12 w13) rfl rfl (Nat.le_of_ble_eq_true rfl) dX12_readPerson_147 fun r24 w23 =>
  bw_if_ne hZ (tgt := 155) (by decide) dX12_readPerson_150 (fun _ =>
  bw_aload_n hZ 0 rfl dX12_readPerson_155 <|
  bw_getR hZ fl_RX12_161 obM_0 rfl dX12_readPerson_156 <|
  bw_aload_n hZ 0 rfl dX12_readPerson_159 <|
  bw_getI hZ fl_RX12_146 (by decide) obM_0 dX12_readPerson_160 <|
  bw_aload_n hZ 0 rfl dX12_readPerson_163 <|
  bw_getI hZ fl_RX12_64 (by decide) obM_0 dX12_readPerson_164 <|
  bw_iast hZ (arM_16 _) dX12_readPerson_167 fun w25 =>
  bw_sub [0, 1] rfl (t_X12_readPerson_b168 hZ hE y1 w25)) (fun _ =>
  bw_iconst hZ 0 (by decide) dX12_readPerson_153 <|
  bw_zret hZ hE (by decide) dX12_readPerson_154))
def X12_readPerson_b89 (t0 : Int32) (w : Wd) : Option (Int32 × Wd) :=
  if t0 = ((-1)) then
  (cl (f_X12_bad 1 w) fun r29 w28 =>
  if isB r29 = true then some (r29, w28) else none)
  else
  if t0 = 0 then
  (if (w.1 0 34) = ((-1)) then
  (X12_readPerson_b119 t0 w)
  else
  cl (f_X12_bad 3 w) fun r27 w26 =>
  if isB r27 = true then some (r27, w26) else none)
  else
  X12_readPerson_b119 t0 w
set_option maxRecDepth 100000 in
set_option maxHeartbeats 4000000 in
theorem t_X12_readPerson_b89 {Z : Cz (Int32 × Wd)} (hZ : OKZ Z SM cX12_readPerson RX12 2 (some .boolean) 6) (hE : EndI Z)  (t0 : Int32)  (w : Wd) : BW Z 2 89 [(0, .ref (ph (zY Z) 0))] [.int t0] w (X12_readPerson_b89 t0 w) :=
  bw_istore_n hZ rfl (by decide) rfl dX12_readPerson_89 <|
  bw_iload_n hZ 0 rfl dX12_readPerson_90 <|
  bw_iconst hZ (-1) (by decide) dX12_readPerson_91 <|
  bw_icmp_ne hZ (tgt := 101) (by decide) dX12_readPerson_92 (fun _ =>
  bw_iload_n hZ 0 rfl dX12_readPerson_101 <|
  bw_if_ne hZ (tgt := 119) (by decide) dX12_readPerson_102 (fun _ =>
  bw_sub [1, 0] rfl (t_X12_readPerson_b119 hZ hE t0 w)) (fun _ =>
  bw_aload_n hZ 1 rfl dX12_readPerson_105 <|
  bw_getI hZ fl_RX12_158 (by decide) obM_0 dX12_readPerson_106 <|
  bw_iconst hZ (-1) (by decide) dX12_readPerson_109 <|
  bw_icmp_eq hZ (tgt := 119) (by decide) dX12_readPerson_110 (fun _ =>
  bw_sub [1, 0] rfl (t_X12_readPerson_b119 hZ hE t0 w)) (fun _ =>
  bw_aload_n hZ 1 rfl dX12_readPerson_113 <|
  bw_iconst hZ 3 (by decide) dX12_readPerson_114 <|
  bw_callVI (As := [.int 3]) hZ ml_RX12_53 rc_12 obM_0 (by decide) (c_X12_bad (zl Z) (zY Z) (hZ_S hZ) 3 w) rfl rfl (Nat.le_of_ble_eq_true rfl) dX12_readPerson_115 fun r27 w26 =>
  bw_zretC hZ hE dX12_readPerson_118))) (fun _ =>
  bw_aload_n hZ 1 rfl dX12_readPerson_95 <|
  bw_iconst hZ 1 (by decide) dX12_readPerson_96 <|
  bw_callVI (As := [.int 1]) hZ ml_RX12_53 rc_12 obM_0 (by decide) (c_X12_bad (zl Z) (zY Z) (hZ_S hZ) 1 w) rfl rfl (Nat.le_of_ble_eq_true rfl) dX12_readPerson_97 fun r29 w28 =>
  bw_zretC hZ hE dX12_readPerson_100)
def f_X12_readPerson (w : Wd) : Option (Int32 × Wd) :=
  if (w.1 0 27) = 8 then
  (cl (f_X12_bad 4 w) fun r31 w30 =>
  if isB r31 = true then some (r31, w30) else none)
  else
  cv (f_X12_scan w) fun w1 =>
  cl (f_X12_fresh 12 8 (w1.1 0 27) w1) fun r3 w2 =>
  if r3 = 0 then
  (some (0, w2))
  else
  cl (f_X12_is 10 w2) fun r5 w4 =>
  if r5 = 0 then
  (cl (f_X12_is 23 w4) fun r7 w6 =>
  if r7 = 0 then
  (cl (f_X12_is 24 w6) fun r9 w8 =>
  if r9 = 0 then
  (cl (f_X12_is 25 w8) fun r11 w10 =>
  if r11 = 0 then
  (X12_readPerson_b89 ((-1)) w10)
  else
  X12_readPerson_b89 3 w10)
  else
  X12_readPerson_b89 2 w8)
  else
  X12_readPerson_b89 1 w6)
  else
  X12_readPerson_b89 0 w4
set_option maxRecDepth 100000 in
set_option maxHeartbeats 4000000 in
theorem t_X12_readPerson {Z : Cz (Int32 × Wd)} (hZ : OKZ Z SM cX12_readPerson RX12 2 (some .boolean) 6) (hE : EndI Z)   (w : Wd) : BW Z 2 0 [(0, .ref (ph (zY Z) 0))] [] w (f_X12_readPerson w) :=
  bw_aload_n hZ 0 rfl dX12_readPerson_0 <|
  bw_getI hZ fl_RX12_146 (by decide) obM_0 dX12_readPerson_1 <|
  bw_bipush hZ 8 (by decide) dX12_readPerson_4 <|
  bw_icmp_ne hZ (tgt := 15) (by decide) dX12_readPerson_6 (fun _ =>
  bw_aload_n hZ 0 rfl dX12_readPerson_15 <|
  bw_callVV (As := []) hZ ml_RX12_56 rc_12 obM_0 (by decide) (c_X12_scan (zl Z) (zY Z) (hZ_S hZ) w) rfl rfl (Nat.le_of_ble_eq_true rfl) dX12_readPerson_16 fun w1 =>
  bw_aload_n hZ 0 rfl dX12_readPerson_19 <|
  bw_aload_n hZ 0 rfl dX12_readPerson_20 <|
  bw_getR hZ fl_RX12_149 obM_0 rfl dX12_readPerson_21 <|
  bw_aload_n hZ 0 rfl dX12_readPerson_24 <|
  bw_getI hZ fl_RX12_146 (by decide) obM_0 dX12_readPerson_25 <|
  bw_callVI (As := [.ref (ph (zY Z) 12), .int (w1.1 0 27)]) hZ ml_RX12_136 rc_12 obM_0 (by decide) (c_X12_fresh (zl Z) (zY Z) (hZ_S hZ) 12 8 (w1.1 0 27) arM_12 w1) rfl rfl (Nat.le_of_ble_eq_true rfl) dX12_readPerson_28 fun r3 w2 =>
  bw_if_ne hZ (tgt := 36) (by decide) dX12_readPerson_31 (fun _ =>
  bw_aload_n hZ 0 rfl dX12_readPerson_36 <|
  bw_ldcS hZ 60 rfl dX12_readPerson_37 <|
  bw_callVI (As := [.ref (sK (zY Z) 10)]) hZ ml_RX12_49 rc_12 obM_0 (by decide) (c_X12_is (zl Z) (zY Z) (hZ_S hZ) 10 (by decide) w2) rfl rfl (Nat.le_of_ble_eq_true rfl) dX12_readPerson_39 fun r5 w4 =>
  bw_if_eq hZ (tgt := 49) (by decide) dX12_readPerson_42 (fun _ =>
  bw_aload_n hZ 0 rfl dX12_readPerson_49 <|
  bw_ldcS hZ 71 rfl dX12_readPerson_50 <|
  bw_callVI (As := [.ref (sK (zY Z) 23)]) hZ ml_RX12_49 rc_12 obM_0 (by decide) (c_X12_is (zl Z) (zY Z) (hZ_S hZ) 23 (by decide) w4) rfl rfl (Nat.le_of_ble_eq_true rfl) dX12_readPerson_52 fun r7 w6 =>
  bw_if_eq hZ (tgt := 62) (by decide) dX12_readPerson_55 (fun _ =>
  bw_aload_n hZ 0 rfl dX12_readPerson_62 <|
  bw_ldcS hZ 72 rfl dX12_readPerson_63 <|
  bw_callVI (As := [.ref (sK (zY Z) 24)]) hZ ml_RX12_49 rc_12 obM_0 (by decide) (c_X12_is (zl Z) (zY Z) (hZ_S hZ) 24 (by decide) w6) rfl rfl (Nat.le_of_ble_eq_true rfl) dX12_readPerson_65 fun r9 w8 =>
  bw_if_eq hZ (tgt := 75) (by decide) dX12_readPerson_68 (fun _ =>
  bw_aload_n hZ 0 rfl dX12_readPerson_75 <|
  bw_ldcS hZ 73 rfl dX12_readPerson_76 <|
  bw_callVI (As := [.ref (sK (zY Z) 25)]) hZ ml_RX12_49 rc_12 obM_0 (by decide) (c_X12_is (zl Z) (zY Z) (hZ_S hZ) 25 (by decide) w8) rfl rfl (Nat.le_of_ble_eq_true rfl) dX12_readPerson_78 fun r11 w10 =>
  bw_if_eq hZ (tgt := 88) (by decide) dX12_readPerson_81 (fun _ =>
  bw_iconst hZ (-1) (by decide) dX12_readPerson_88 <|
  bw_sub [0] rfl (t_X12_readPerson_b89 hZ hE ((-1)) w10)) (fun _ =>
  bw_iconst hZ 3 (by decide) dX12_readPerson_84 <|
  bw_goto hZ (tgt := 89) (by decide) dX12_readPerson_85 <|
  bw_sub [0] rfl (t_X12_readPerson_b89 hZ hE 3 w10))) (fun _ =>
  bw_iconst hZ 2 (by decide) dX12_readPerson_71 <|
  bw_goto hZ (tgt := 89) (by decide) dX12_readPerson_72 <|
  bw_sub [0] rfl (t_X12_readPerson_b89 hZ hE 2 w8))) (fun _ =>
  bw_iconst hZ 1 (by decide) dX12_readPerson_58 <|
  bw_goto hZ (tgt := 89) (by decide) dX12_readPerson_59 <|
  bw_sub [0] rfl (t_X12_readPerson_b89 hZ hE 1 w6))) (fun _ =>
  bw_iconst hZ 0 (by decide) dX12_readPerson_45 <|
  bw_goto hZ (tgt := 89) (by decide) dX12_readPerson_46 <|
  bw_sub [0] rfl (t_X12_readPerson_b89 hZ hE 0 w4))) (fun _ =>
  bw_iconst hZ 0 (by decide) dX12_readPerson_34 <|
  bw_zret hZ hE (by decide) dX12_readPerson_35)) (fun _ =>
  bw_aload_n hZ 0 rfl dX12_readPerson_9 <|
  bw_iconst hZ 4 (by decide) dX12_readPerson_10 <|
  bw_callVI (As := [.int 4]) hZ ml_RX12_53 rc_12 obM_0 (by decide) (c_X12_bad (zl Z) (zY Z) (hZ_S hZ) 4 w) rfl rfl (Nat.le_of_ble_eq_true rfl) dX12_readPerson_11 fun r31 w30 =>
  bw_zretC hZ hE dX12_readPerson_14)
theorem c_X12_readPerson (l : Launch) (Y : Ev) (hY : Y.1 = SM)   (w : Wd) : CI l Y yX12_readPerson cX12_readPerson 2 6 [.ref (ph Y 0)] w .boolean (f_X12_readPerson w) := by
  refine CI_of (S := SM) (by decide) (Nat.le_of_ble_eq_true rfl) hY ?_
  intro Z hl hY2 hZ hE
  subst hY2
  exact t_X12_readPerson hZ hE w
-- WhichWillModel.readThing
theorem dX12_readThing_0 : decode cX12_readThing 0 = .ok (.aload_n 0, 1) := by decide +kernel
theorem dX12_readThing_1 : decode cX12_readThing 1 = .ok (.getfield 176, 3) := by decide +kernel
theorem dX12_readThing_4 : decode cX12_readThing 4 = .ok (.bipush 8, 2) := by decide +kernel
theorem dX12_readThing_6 : decode cX12_readThing 6 = .ok (.if_icmp .ne 9, 3) := by decide +kernel
theorem dX12_readThing_9 : decode cX12_readThing 9 = .ok (.aload_n 0, 1) := by decide +kernel
theorem dX12_readThing_10 : decode cX12_readThing 10 = .ok (.iconst 4, 1) := by decide +kernel
theorem dX12_readThing_11 : decode cX12_readThing 11 = .ok (.invokevirtual 53, 3) := by decide +kernel
theorem dX12_readThing_14 : decode cX12_readThing 14 = .ok (.ireturn, 1) := by decide +kernel
theorem dX12_readThing_15 : decode cX12_readThing 15 = .ok (.aload_n 0, 1) := by decide +kernel
theorem dX12_readThing_16 : decode cX12_readThing 16 = .ok (.invokevirtual 56, 3) := by decide +kernel
theorem dX12_readThing_19 : decode cX12_readThing 19 = .ok (.aload_n 0, 1) := by decide +kernel
theorem dX12_readThing_20 : decode cX12_readThing 20 = .ok (.aload_n 0, 1) := by decide +kernel
theorem dX12_readThing_21 : decode cX12_readThing 21 = .ok (.getfield 179, 3) := by decide +kernel
theorem dX12_readThing_24 : decode cX12_readThing 24 = .ok (.aload_n 0, 1) := by decide +kernel
theorem dX12_readThing_25 : decode cX12_readThing 25 = .ok (.getfield 176, 3) := by decide +kernel
theorem dX12_readThing_28 : decode cX12_readThing 28 = .ok (.invokevirtual 136, 3) := by decide +kernel
theorem dX12_readThing_31 : decode cX12_readThing 31 = .ok (.ifCond .eq 14, 3) := by decide +kernel
theorem dX12_readThing_34 : decode cX12_readThing 34 = .ok (.aload_n 0, 1) := by decide +kernel
theorem dX12_readThing_35 : decode cX12_readThing 35 = .ok (.iconst 1, 1) := by decide +kernel
theorem dX12_readThing_36 : decode cX12_readThing 36 = .ok (.sipush 9999, 3) := by decide +kernel
theorem dX12_readThing_39 : decode cX12_readThing 39 = .ok (.invokevirtual 119, 3) := by decide +kernel
theorem dX12_readThing_42 : decode cX12_readThing 42 = .ok (.ifCond .ne 5, 3) := by decide +kernel
theorem dX12_readThing_45 : decode cX12_readThing 45 = .ok (.iconst 0, 1) := by decide +kernel
theorem dX12_readThing_46 : decode cX12_readThing 46 = .ok (.ireturn, 1) := by decide +kernel
theorem dX12_readThing_47 : decode cX12_readThing 47 = .ok (.aload_n 0, 1) := by decide +kernel
theorem dX12_readThing_48 : decode cX12_readThing 48 = .ok (.getfield 182, 3) := by decide +kernel
theorem dX12_readThing_51 : decode cX12_readThing 51 = .ok (.aload_n 0, 1) := by decide +kernel
theorem dX12_readThing_52 : decode cX12_readThing 52 = .ok (.getfield 176, 3) := by decide +kernel
theorem dX12_readThing_55 : decode cX12_readThing 55 = .ok (.aload_n 0, 1) := by decide +kernel
theorem dX12_readThing_56 : decode cX12_readThing 56 = .ok (.getfield 64, 3) := by decide +kernel
theorem dX12_readThing_59 : decode cX12_readThing 59 = .ok (.iastore, 1) := by decide +kernel
theorem dX12_readThing_60 : decode cX12_readThing 60 = .ok (.aload_n 0, 1) := by decide +kernel
theorem dX12_readThing_61 : decode cX12_readThing 61 = .ok (.getfield 185, 3) := by decide +kernel
theorem dX12_readThing_64 : decode cX12_readThing 64 = .ok (.aload_n 0, 1) := by decide +kernel
theorem dX12_readThing_65 : decode cX12_readThing 65 = .ok (.getfield 176, 3) := by decide +kernel
theorem dX12_readThing_68 : decode cX12_readThing 68 = .ok (.iconst (-1), 1) := by decide +kernel
theorem dX12_readThing_69 : decode cX12_readThing 69 = .ok (.iastore, 1) := by decide +kernel
theorem dX12_readThing_70 : decode cX12_readThing 70 = .ok (.aload_n 0, 1) := by decide +kernel
theorem dX12_readThing_71 : decode cX12_readThing 71 = .ok (.ldc 188, 2) := by decide +kernel
theorem dX12_readThing_73 : decode cX12_readThing 73 = .ok (.invokevirtual 49, 3) := by decide +kernel
theorem dX12_readThing_76 : decode cX12_readThing 76 = .ok (.ifCond .eq 37, 3) := by decide +kernel
theorem dX12_readThing_79 : decode cX12_readThing 79 = .ok (.aload_n 0, 1) := by decide +kernel
theorem dX12_readThing_80 : decode cX12_readThing 80 = .ok (.invokevirtual 56, 3) := by decide +kernel
theorem dX12_readThing_83 : decode cX12_readThing 83 = .ok (.aload_n 0, 1) := by decide +kernel
theorem dX12_readThing_84 : decode cX12_readThing 84 = .ok (.aload_n 0, 1) := by decide +kernel
theorem dX12_readThing_85 : decode cX12_readThing 85 = .ok (.getfield 132, 3) := by decide +kernel
theorem dX12_readThing_88 : decode cX12_readThing 88 = .ok (.aload_n 0, 1) := by decide +kernel
theorem dX12_readThing_89 : decode cX12_readThing 89 = .ok (.getfield 129, 3) := by decide +kernel
theorem dX12_readThing_92 : decode cX12_readThing 92 = .ok (.invokevirtual 164, 3) := by decide +kernel
theorem dX12_readThing_95 : decode cX12_readThing 95 = .ok (.ifCond .ne 5, 3) := by decide +kernel
theorem dX12_readThing_98 : decode cX12_readThing 98 = .ok (.iconst 0, 1) := by decide +kernel
theorem dX12_readThing_99 : decode cX12_readThing 99 = .ok (.ireturn, 1) := by decide +kernel
theorem dX12_readThing_100 : decode cX12_readThing 100 = .ok (.aload_n 0, 1) := by decide +kernel
theorem dX12_readThing_101 : decode cX12_readThing 101 = .ok (.getfield 185, 3) := by decide +kernel
theorem dX12_readThing_104 : decode cX12_readThing 104 = .ok (.aload_n 0, 1) := by decide +kernel
theorem dX12_readThing_105 : decode cX12_readThing 105 = .ok (.getfield 176, 3) := by decide +kernel
theorem dX12_readThing_108 : decode cX12_readThing 108 = .ok (.aload_n 0, 1) := by decide +kernel
theorem dX12_readThing_109 : decode cX12_readThing 109 = .ok (.getfield 64, 3) := by decide +kernel
theorem dX12_readThing_112 : decode cX12_readThing 112 = .ok (.iastore, 1) := by decide +kernel
theorem dX12_readThing_113 : decode cX12_readThing 113 = .ok (.aload_n 0, 1) := by decide +kernel
theorem dX12_readThing_114 : decode cX12_readThing 114 = .ok (.dup, 1) := by decide +kernel
theorem dX12_readThing_115 : decode cX12_readThing 115 = .ok (.getfield 176, 3) := by decide +kernel
theorem dX12_readThing_118 : decode cX12_readThing 118 = .ok (.iconst 1, 1) := by decide +kernel
theorem dX12_readThing_119 : decode cX12_readThing 119 = .ok (.iadd, 1) := by decide +kernel
theorem dX12_readThing_120 : decode cX12_readThing 120 = .ok (.putfield 176, 3) := by decide +kernel
theorem dX12_readThing_123 : decode cX12_readThing 123 = .ok (.iconst 1, 1) := by decide +kernel
theorem dX12_readThing_124 : decode cX12_readThing 124 = .ok (.ireturn, 1) := by decide +kernel
def X12_readThing_b113 (w : Wd) : Option (Int32 × Wd) :=
  lt (wI w 0 28 ((w.1 0 28) + 1)) fun w10 =>
  some (1, w10)
set_option maxRecDepth 100000 in
set_option maxHeartbeats 4000000 in
theorem t_X12_readThing_b113 {Z : Cz (Int32 × Wd)} (hZ : OKZ Z SM cX12_readThing RX12 1 (some .boolean) 6) (hE : EndI Z)    (w : Wd) : BW Z 1 113 [(0, .ref (ph (zY Z) 0))] [] w (X12_readThing_b113 w) :=
  bw_aload_n hZ 0 rfl dX12_readThing_113 <|
  bw_dup hZ rfl dX12_readThing_114 <|
  bw_getI hZ fl_RX12_176 (by decide) obM_0 dX12_readThing_115 <|
  bw_iconst hZ 1 (by decide) dX12_readThing_118 <|
  bw_iadd hZ dX12_readThing_119 <|
  bw_putI hZ fl_RX12_176 rfl rfl (by decide) obM_0 dX12_readThing_120 fun w10 =>
  bw_iconst hZ 1 (by decide) dX12_readThing_123 <|
  bw_zret hZ hE (by decide) dX12_readThing_124
def f_X12_readThing (w : Wd) : Option (Int32 × Wd) :=
  if (w.1 0 28) = 8 then
  (cl (f_X12_bad 4 w) fun r16 w15 =>
  if isB r16 = true then some (r16, w15) else none)
  else
  cv (f_X12_scan w) fun w1 =>
  cl (f_X12_fresh 13 8 (w1.1 0 28) w1) fun r3 w2 =>
  if r3 = 0 then
  (some (0, w2))
  else
  cl (f_X12_number 1 9999 w2) fun r5 w4 =>
  if r5 = 0 then
  (some (0, w4))
  else
  if inb (w4.1 0 28) 8 = true then
  (lt (wI w4 17 (Int32.toNatClampNeg (w4.1 0 28)) (w4.1 0 7)) fun w6 =>
  if inb (w6.1 0 28) 8 = true then
  (lt (wI w6 18 (Int32.toNatClampNeg (w6.1 0 28)) ((-1))) fun w7 =>
  cl (f_X12_is 28 w7) fun r9 w8 =>
  if r9 = 0 then
  (X12_readThing_b113 w8)
  else
  cv (f_X12_scan w8) fun w11 =>
  cl (f_X12_known 11 4 (w11.1 0 26) w11) fun r13 w12 =>
  if r13 = 0 then
  (some (0, w12))
  else
  if inb (w12.1 0 28) 8 = true then
  (lt (wI w12 18 (Int32.toNatClampNeg (w12.1 0 28)) (w12.1 0 7)) fun w14 =>
  X12_readThing_b113 w14)
  else none)
  else none)
  else none
set_option maxRecDepth 100000 in
set_option maxHeartbeats 4000000 in
theorem t_X12_readThing {Z : Cz (Int32 × Wd)} (hZ : OKZ Z SM cX12_readThing RX12 1 (some .boolean) 6) (hE : EndI Z)   (w : Wd) : BW Z 1 0 [(0, .ref (ph (zY Z) 0))] [] w (f_X12_readThing w) :=
  bw_aload_n hZ 0 rfl dX12_readThing_0 <|
  bw_getI hZ fl_RX12_176 (by decide) obM_0 dX12_readThing_1 <|
  bw_bipush hZ 8 (by decide) dX12_readThing_4 <|
  bw_icmp_ne hZ (tgt := 15) (by decide) dX12_readThing_6 (fun _ =>
  bw_aload_n hZ 0 rfl dX12_readThing_15 <|
  bw_callVV (As := []) hZ ml_RX12_56 rc_12 obM_0 (by decide) (c_X12_scan (zl Z) (zY Z) (hZ_S hZ) w) rfl rfl (Nat.le_of_ble_eq_true rfl) dX12_readThing_16 fun w1 =>
  bw_aload_n hZ 0 rfl dX12_readThing_19 <|
  bw_aload_n hZ 0 rfl dX12_readThing_20 <|
  bw_getR hZ fl_RX12_179 obM_0 rfl dX12_readThing_21 <|
  bw_aload_n hZ 0 rfl dX12_readThing_24 <|
  bw_getI hZ fl_RX12_176 (by decide) obM_0 dX12_readThing_25 <|
  bw_callVI (As := [.ref (ph (zY Z) 13), .int (w1.1 0 28)]) hZ ml_RX12_136 rc_12 obM_0 (by decide) (c_X12_fresh (zl Z) (zY Z) (hZ_S hZ) 13 8 (w1.1 0 28) arM_13 w1) rfl rfl (Nat.le_of_ble_eq_true rfl) dX12_readThing_28 fun r3 w2 =>
  bw_if_eq hZ (tgt := 45) (by decide) dX12_readThing_31 (fun _ =>
  bw_iconst hZ 0 (by decide) dX12_readThing_45 <|
  bw_zret hZ hE (by decide) dX12_readThing_46) (fun _ =>
  bw_aload_n hZ 0 rfl dX12_readThing_34 <|
  bw_iconst hZ 1 (by decide) dX12_readThing_35 <|
  bw_sipush hZ 9999 (by decide) dX12_readThing_36 <|
  bw_callVI (As := [.int 1, .int 9999]) hZ ml_RX12_119 rc_12 obM_0 (by decide) (c_X12_number (zl Z) (zY Z) (hZ_S hZ) 1 9999 w2) rfl rfl (Nat.le_of_ble_eq_true rfl) dX12_readThing_39 fun r5 w4 =>
  bw_if_ne hZ (tgt := 47) (by decide) dX12_readThing_42 (fun _ =>
  bw_aload_n hZ 0 rfl dX12_readThing_47 <|
  bw_getR hZ fl_RX12_182 obM_0 rfl dX12_readThing_48 <|
  bw_aload_n hZ 0 rfl dX12_readThing_51 <|
  bw_getI hZ fl_RX12_176 (by decide) obM_0 dX12_readThing_52 <|
  bw_aload_n hZ 0 rfl dX12_readThing_55 <|
  bw_getI hZ fl_RX12_64 (by decide) obM_0 dX12_readThing_56 <|
  bw_iast hZ (arM_17 _) dX12_readThing_59 fun w6 =>
  bw_aload_n hZ 0 rfl dX12_readThing_60 <|
  bw_getR hZ fl_RX12_185 obM_0 rfl dX12_readThing_61 <|
  bw_aload_n hZ 0 rfl dX12_readThing_64 <|
  bw_getI hZ fl_RX12_176 (by decide) obM_0 dX12_readThing_65 <|
  bw_iconst hZ (-1) (by decide) dX12_readThing_68 <|
  bw_iast hZ (arM_18 _) dX12_readThing_69 fun w7 =>
  bw_aload_n hZ 0 rfl dX12_readThing_70 <|
  bw_ldcS hZ 76 rfl dX12_readThing_71 <|
  bw_callVI (As := [.ref (sK (zY Z) 28)]) hZ ml_RX12_49 rc_12 obM_0 (by decide) (c_X12_is (zl Z) (zY Z) (hZ_S hZ) 28 (by decide) w7) rfl rfl (Nat.le_of_ble_eq_true rfl) dX12_readThing_73 fun r9 w8 =>
  bw_if_eq hZ (tgt := 113) (by decide) dX12_readThing_76 (fun _ =>
  bw_sub [0] rfl (t_X12_readThing_b113 hZ hE w8)) (fun _ =>
  bw_aload_n hZ 0 rfl dX12_readThing_79 <|
  bw_callVV (As := []) hZ ml_RX12_56 rc_12 obM_0 (by decide) (c_X12_scan (zl Z) (zY Z) (hZ_S hZ) w8) rfl rfl (Nat.le_of_ble_eq_true rfl) dX12_readThing_80 fun w11 =>
  bw_aload_n hZ 0 rfl dX12_readThing_83 <|
  bw_aload_n hZ 0 rfl dX12_readThing_84 <|
  bw_getR hZ fl_RX12_132 obM_0 rfl dX12_readThing_85 <|
  bw_aload_n hZ 0 rfl dX12_readThing_88 <|
  bw_getI hZ fl_RX12_129 (by decide) obM_0 dX12_readThing_89 <|
  bw_callVI (As := [.ref (ph (zY Z) 11), .int (w11.1 0 26)]) hZ ml_RX12_164 rc_12 obM_0 (by decide) (c_X12_known (zl Z) (zY Z) (hZ_S hZ) 11 4 (w11.1 0 26) arM_11 w11) rfl rfl (Nat.le_of_ble_eq_true rfl) dX12_readThing_92 fun r13 w12 =>
  bw_if_ne hZ (tgt := 100) (by decide) dX12_readThing_95 (fun _ =>
  bw_aload_n hZ 0 rfl dX12_readThing_100 <|
  bw_getR hZ fl_RX12_185 obM_0 rfl dX12_readThing_101 <|
  bw_aload_n hZ 0 rfl dX12_readThing_104 <|
  bw_getI hZ fl_RX12_176 (by decide) obM_0 dX12_readThing_105 <|
  bw_aload_n hZ 0 rfl dX12_readThing_108 <|
  bw_getI hZ fl_RX12_64 (by decide) obM_0 dX12_readThing_109 <|
  bw_iast hZ (arM_18 _) dX12_readThing_112 fun w14 =>
  bw_sub [0] rfl (t_X12_readThing_b113 hZ hE w14)) (fun _ =>
  bw_iconst hZ 0 (by decide) dX12_readThing_98 <|
  bw_zret hZ hE (by decide) dX12_readThing_99))) (fun _ =>
  bw_iconst hZ 0 (by decide) dX12_readThing_45 <|
  bw_zret hZ hE (by decide) dX12_readThing_46))) (fun _ =>
  bw_aload_n hZ 0 rfl dX12_readThing_9 <|
  bw_iconst hZ 4 (by decide) dX12_readThing_10 <|
  bw_callVI (As := [.int 4]) hZ ml_RX12_53 rc_12 obM_0 (by decide) (c_X12_bad (zl Z) (zY Z) (hZ_S hZ) 4 w) rfl rfl (Nat.le_of_ble_eq_true rfl) dX12_readThing_11 fun r16 w15 =>
  bw_zretC hZ hE dX12_readThing_14)
theorem c_X12_readThing (l : Launch) (Y : Ev) (hY : Y.1 = SM)   (w : Wd) : CI l Y yX12_readThing cX12_readThing 1 6 [.ref (ph Y 0)] w .boolean (f_X12_readThing w) := by
  refine CI_of (S := SM) (by decide) (Nat.le_of_ble_eq_true rfl) hY ?_
  intro Z hl hY2 hZ hE
  subst hY2
  exact t_X12_readThing hZ hE w
-- WhichWillModel.readSmall
theorem dX12_readSmall_0 : decode cX12_readSmall 0 = .ok (.aload_n 0, 1) := by decide +kernel
theorem dX12_readSmall_1 : decode cX12_readSmall 1 = .ok (.ldc 189, 2) := by decide +kernel
theorem dX12_readSmall_3 : decode cX12_readSmall 3 = .ok (.invokevirtual 49, 3) := by decide +kernel
theorem dX12_readSmall_6 : decode cX12_readSmall 6 = .ok (.ifCond .eq 7, 3) := by decide +kernel
theorem dX12_readSmall_9 : decode cX12_readSmall 9 = .ok (.iconst 0, 1) := by decide +kernel
theorem dX12_readSmall_10 : decode cX12_readSmall 10 = .ok (.goto 56, 3) := by decide +kernel
theorem dX12_readSmall_13 : decode cX12_readSmall 13 = .ok (.aload_n 0, 1) := by decide +kernel
theorem dX12_readSmall_14 : decode cX12_readSmall 14 = .ok (.ldc 115, 2) := by decide +kernel
theorem dX12_readSmall_16 : decode cX12_readSmall 16 = .ok (.invokevirtual 49, 3) := by decide +kernel
theorem dX12_readSmall_19 : decode cX12_readSmall 19 = .ok (.ifCond .eq 7, 3) := by decide +kernel
theorem dX12_readSmall_22 : decode cX12_readSmall 22 = .ok (.iconst 1, 1) := by decide +kernel
theorem dX12_readSmall_23 : decode cX12_readSmall 23 = .ok (.goto 43, 3) := by decide +kernel
theorem dX12_readSmall_26 : decode cX12_readSmall 26 = .ok (.aload_n 0, 1) := by decide +kernel
theorem dX12_readSmall_27 : decode cX12_readSmall 27 = .ok (.ldc 117, 2) := by decide +kernel
theorem dX12_readSmall_29 : decode cX12_readSmall 29 = .ok (.invokevirtual 49, 3) := by decide +kernel
theorem dX12_readSmall_32 : decode cX12_readSmall 32 = .ok (.ifCond .eq 7, 3) := by decide +kernel
theorem dX12_readSmall_35 : decode cX12_readSmall 35 = .ok (.iconst 2, 1) := by decide +kernel
theorem dX12_readSmall_36 : decode cX12_readSmall 36 = .ok (.goto 30, 3) := by decide +kernel
theorem dX12_readSmall_39 : decode cX12_readSmall 39 = .ok (.aload_n 0, 1) := by decide +kernel
theorem dX12_readSmall_40 : decode cX12_readSmall 40 = .ok (.ldc 191, 2) := by decide +kernel
theorem dX12_readSmall_42 : decode cX12_readSmall 42 = .ok (.invokevirtual 49, 3) := by decide +kernel
theorem dX12_readSmall_45 : decode cX12_readSmall 45 = .ok (.ifCond .eq 7, 3) := by decide +kernel
theorem dX12_readSmall_48 : decode cX12_readSmall 48 = .ok (.iconst 3, 1) := by decide +kernel
theorem dX12_readSmall_49 : decode cX12_readSmall 49 = .ok (.goto 17, 3) := by decide +kernel
theorem dX12_readSmall_52 : decode cX12_readSmall 52 = .ok (.aload_n 0, 1) := by decide +kernel
theorem dX12_readSmall_53 : decode cX12_readSmall 53 = .ok (.ldc 193, 2) := by decide +kernel
theorem dX12_readSmall_55 : decode cX12_readSmall 55 = .ok (.invokevirtual 49, 3) := by decide +kernel
theorem dX12_readSmall_58 : decode cX12_readSmall 58 = .ok (.ifCond .eq 7, 3) := by decide +kernel
theorem dX12_readSmall_61 : decode cX12_readSmall 61 = .ok (.iconst 4, 1) := by decide +kernel
theorem dX12_readSmall_62 : decode cX12_readSmall 62 = .ok (.goto 4, 3) := by decide +kernel
theorem dX12_readSmall_65 : decode cX12_readSmall 65 = .ok (.iconst (-1), 1) := by decide +kernel
theorem dX12_readSmall_66 : decode cX12_readSmall 66 = .ok (.istore_n 1, 1) := by decide +kernel
theorem dX12_readSmall_67 : decode cX12_readSmall 67 = .ok (.iload_n 1, 1) := by decide +kernel
theorem dX12_readSmall_68 : decode cX12_readSmall 68 = .ok (.iconst (-1), 1) := by decide +kernel
theorem dX12_readSmall_69 : decode cX12_readSmall 69 = .ok (.if_icmp .ne 9, 3) := by decide +kernel
theorem dX12_readSmall_72 : decode cX12_readSmall 72 = .ok (.aload_n 0, 1) := by decide +kernel
theorem dX12_readSmall_73 : decode cX12_readSmall 73 = .ok (.iconst 1, 1) := by decide +kernel
theorem dX12_readSmall_74 : decode cX12_readSmall 74 = .ok (.invokevirtual 53, 3) := by decide +kernel
theorem dX12_readSmall_77 : decode cX12_readSmall 77 = .ok (.ireturn, 1) := by decide +kernel
theorem dX12_readSmall_78 : decode cX12_readSmall 78 = .ok (.aload_n 0, 1) := by decide +kernel
theorem dX12_readSmall_79 : decode cX12_readSmall 79 = .ok (.getfield 195, 3) := by decide +kernel
theorem dX12_readSmall_82 : decode cX12_readSmall 82 = .ok (.iload_n 1, 1) := by decide +kernel
theorem dX12_readSmall_83 : decode cX12_readSmall 83 = .ok (.ishr, 1) := by decide +kernel
theorem dX12_readSmall_84 : decode cX12_readSmall 84 = .ok (.iconst 1, 1) := by decide +kernel
theorem dX12_readSmall_85 : decode cX12_readSmall 85 = .ok (.iand, 1) := by decide +kernel
theorem dX12_readSmall_86 : decode cX12_readSmall 86 = .ok (.iconst 1, 1) := by decide +kernel
theorem dX12_readSmall_87 : decode cX12_readSmall 87 = .ok (.if_icmp .ne 9, 3) := by decide +kernel
theorem dX12_readSmall_90 : decode cX12_readSmall 90 = .ok (.aload_n 0, 1) := by decide +kernel
theorem dX12_readSmall_91 : decode cX12_readSmall 91 = .ok (.iconst 3, 1) := by decide +kernel
theorem dX12_readSmall_92 : decode cX12_readSmall 92 = .ok (.invokevirtual 53, 3) := by decide +kernel
theorem dX12_readSmall_95 : decode cX12_readSmall 95 = .ok (.ireturn, 1) := by decide +kernel
theorem dX12_readSmall_96 : decode cX12_readSmall 96 = .ok (.aload_n 0, 1) := by decide +kernel
theorem dX12_readSmall_97 : decode cX12_readSmall 97 = .ok (.dup, 1) := by decide +kernel
theorem dX12_readSmall_98 : decode cX12_readSmall 98 = .ok (.getfield 195, 3) := by decide +kernel
theorem dX12_readSmall_101 : decode cX12_readSmall 101 = .ok (.iconst 1, 1) := by decide +kernel
theorem dX12_readSmall_102 : decode cX12_readSmall 102 = .ok (.iload_n 1, 1) := by decide +kernel
theorem dX12_readSmall_103 : decode cX12_readSmall 103 = .ok (.ishl, 1) := by decide +kernel
theorem dX12_readSmall_104 : decode cX12_readSmall 104 = .ok (.ior, 1) := by decide +kernel
theorem dX12_readSmall_105 : decode cX12_readSmall 105 = .ok (.putfield 195, 3) := by decide +kernel
theorem dX12_readSmall_108 : decode cX12_readSmall 108 = .ok (.aload_n 0, 1) := by decide +kernel
theorem dX12_readSmall_109 : decode cX12_readSmall 109 = .ok (.invokevirtual 56, 3) := by decide +kernel
theorem dX12_readSmall_112 : decode cX12_readSmall 112 = .ok (.iload_n 1, 1) := by decide +kernel
theorem dX12_readSmall_113 : decode cX12_readSmall 113 = .ok (.iconst 3, 1) := by decide +kernel
theorem dX12_readSmall_114 : decode cX12_readSmall 114 = .ok (.if_icmp .ge 21, 3) := by decide +kernel
theorem dX12_readSmall_117 : decode cX12_readSmall 117 = .ok (.aload_n 0, 1) := by decide +kernel
theorem dX12_readSmall_118 : decode cX12_readSmall 118 = .ok (.aload_n 0, 1) := by decide +kernel
theorem dX12_readSmall_119 : decode cX12_readSmall 119 = .ok (.getfield 132, 3) := by decide +kernel
theorem dX12_readSmall_122 : decode cX12_readSmall 122 = .ok (.aload_n 0, 1) := by decide +kernel
theorem dX12_readSmall_123 : decode cX12_readSmall 123 = .ok (.getfield 129, 3) := by decide +kernel
theorem dX12_readSmall_126 : decode cX12_readSmall 126 = .ok (.invokevirtual 164, 3) := by decide +kernel
theorem dX12_readSmall_129 : decode cX12_readSmall 129 = .ok (.ifCond .eq 16, 3) := by decide +kernel
theorem dX12_readSmall_132 : decode cX12_readSmall 132 = .ok (.goto 15, 3) := by decide +kernel
theorem dX12_readSmall_135 : decode cX12_readSmall 135 = .ok (.aload_n 0, 1) := by decide +kernel
theorem dX12_readSmall_136 : decode cX12_readSmall 136 = .ok (.iconst 0, 1) := by decide +kernel
theorem dX12_readSmall_137 : decode cX12_readSmall 137 = .ok (.ldc 198, 2) := by decide +kernel
theorem dX12_readSmall_139 : decode cX12_readSmall 139 = .ok (.invokevirtual 119, 3) := by decide +kernel
theorem dX12_readSmall_142 : decode cX12_readSmall 142 = .ok (.ifCond .ne 5, 3) := by decide +kernel
theorem dX12_readSmall_145 : decode cX12_readSmall 145 = .ok (.iconst 0, 1) := by decide +kernel
theorem dX12_readSmall_146 : decode cX12_readSmall 146 = .ok (.ireturn, 1) := by decide +kernel
theorem dX12_readSmall_147 : decode cX12_readSmall 147 = .ok (.iload_n 1, 1) := by decide +kernel
theorem dX12_readSmall_148 : decode cX12_readSmall 148 = .ok (.ifCond .ne 11, 3) := by decide +kernel
theorem dX12_readSmall_151 : decode cX12_readSmall 151 = .ok (.aload_n 0, 1) := by decide +kernel
theorem dX12_readSmall_152 : decode cX12_readSmall 152 = .ok (.aload_n 0, 1) := by decide +kernel
theorem dX12_readSmall_153 : decode cX12_readSmall 153 = .ok (.getfield 64, 3) := by decide +kernel
theorem dX12_readSmall_156 : decode cX12_readSmall 156 = .ok (.putfield 199, 3) := by decide +kernel
theorem dX12_readSmall_159 : decode cX12_readSmall 159 = .ok (.iload_n 1, 1) := by decide +kernel
theorem dX12_readSmall_160 : decode cX12_readSmall 160 = .ok (.iconst 1, 1) := by decide +kernel
theorem dX12_readSmall_161 : decode cX12_readSmall 161 = .ok (.if_icmp .ne 11, 3) := by decide +kernel
theorem dX12_readSmall_164 : decode cX12_readSmall 164 = .ok (.aload_n 0, 1) := by decide +kernel
theorem dX12_readSmall_165 : decode cX12_readSmall 165 = .ok (.aload_n 0, 1) := by decide +kernel
theorem dX12_readSmall_166 : decode cX12_readSmall 166 = .ok (.getfield 64, 3) := by decide +kernel
theorem dX12_readSmall_169 : decode cX12_readSmall 169 = .ok (.putfield 202, 3) := by decide +kernel
theorem dX12_readSmall_172 : decode cX12_readSmall 172 = .ok (.iload_n 1, 1) := by decide +kernel
theorem dX12_readSmall_173 : decode cX12_readSmall 173 = .ok (.iconst 2, 1) := by decide +kernel
theorem dX12_readSmall_174 : decode cX12_readSmall 174 = .ok (.if_icmp .ne 11, 3) := by decide +kernel
theorem dX12_readSmall_177 : decode cX12_readSmall 177 = .ok (.aload_n 0, 1) := by decide +kernel
theorem dX12_readSmall_178 : decode cX12_readSmall 178 = .ok (.aload_n 0, 1) := by decide +kernel
theorem dX12_readSmall_179 : decode cX12_readSmall 179 = .ok (.getfield 64, 3) := by decide +kernel
theorem dX12_readSmall_182 : decode cX12_readSmall 182 = .ok (.putfield 205, 3) := by decide +kernel
theorem dX12_readSmall_185 : decode cX12_readSmall 185 = .ok (.iload_n 1, 1) := by decide +kernel
theorem dX12_readSmall_186 : decode cX12_readSmall 186 = .ok (.iconst 3, 1) := by decide +kernel
theorem dX12_readSmall_187 : decode cX12_readSmall 187 = .ok (.if_icmp .ne 11, 3) := by decide +kernel
theorem dX12_readSmall_190 : decode cX12_readSmall 190 = .ok (.aload_n 0, 1) := by decide +kernel
theorem dX12_readSmall_191 : decode cX12_readSmall 191 = .ok (.aload_n 0, 1) := by decide +kernel
theorem dX12_readSmall_192 : decode cX12_readSmall 192 = .ok (.getfield 64, 3) := by decide +kernel
theorem dX12_readSmall_195 : decode cX12_readSmall 195 = .ok (.putfield 208, 3) := by decide +kernel
theorem dX12_readSmall_198 : decode cX12_readSmall 198 = .ok (.iload_n 1, 1) := by decide +kernel
theorem dX12_readSmall_199 : decode cX12_readSmall 199 = .ok (.iconst 4, 1) := by decide +kernel
theorem dX12_readSmall_200 : decode cX12_readSmall 200 = .ok (.if_icmp .ne 11, 3) := by decide +kernel
theorem dX12_readSmall_203 : decode cX12_readSmall 203 = .ok (.aload_n 0, 1) := by decide +kernel
theorem dX12_readSmall_204 : decode cX12_readSmall 204 = .ok (.aload_n 0, 1) := by decide +kernel
theorem dX12_readSmall_205 : decode cX12_readSmall 205 = .ok (.getfield 64, 3) := by decide +kernel
theorem dX12_readSmall_208 : decode cX12_readSmall 208 = .ok (.putfield 211, 3) := by decide +kernel
theorem dX12_readSmall_211 : decode cX12_readSmall 211 = .ok (.iconst 1, 1) := by decide +kernel
theorem dX12_readSmall_212 : decode cX12_readSmall 212 = .ok (.ireturn, 1) := by decide +kernel
def X12_readSmall_b198 (y1 : Int32) (w : Wd) : Option (Int32 × Wd) :=
  if y1 = 4 then
  (lt (wI w 0 30 (w.1 0 7)) fun w15 =>
  some (1, w15))
  else
  some (1, w)
set_option maxRecDepth 100000 in
set_option maxHeartbeats 4000000 in
theorem t_X12_readSmall_b198 {Z : Cz (Int32 × Wd)} (hZ : OKZ Z SM cX12_readSmall RX12 2 (some .boolean) 6) (hE : EndI Z)  (y1 : Int32)  (w : Wd) : BW Z 2 198 [(0, .ref (ph (zY Z) 0)), (1, .int y1)] [] w (X12_readSmall_b198 y1 w) :=
  bw_iload_n hZ 1 rfl dX12_readSmall_198 <|
  bw_iconst hZ 4 (by decide) dX12_readSmall_199 <|
  bw_icmp_ne hZ (tgt := 211) (by decide) dX12_readSmall_200 (fun _ =>
  bw_iconst hZ 1 (by decide) dX12_readSmall_211 <|
  bw_zret hZ hE (by decide) dX12_readSmall_212) (fun _ =>
  bw_aload_n hZ 0 rfl dX12_readSmall_203 <|
  bw_aload_n hZ 0 rfl dX12_readSmall_204 <|
  bw_getI hZ fl_RX12_64 (by decide) obM_0 dX12_readSmall_205 <|
  bw_putI hZ fl_RX12_211 rfl rfl (by decide) obM_0 dX12_readSmall_208 fun w15 =>
  bw_iconst hZ 1 (by decide) dX12_readSmall_211 <|
  bw_zret hZ hE (by decide) dX12_readSmall_212)
def X12_readSmall_b185 (y1 : Int32) (w : Wd) : Option (Int32 × Wd) :=
  if y1 = 3 then
  (lt (wI w 0 29 (w.1 0 7)) fun w16 =>
  X12_readSmall_b198 y1 w16)
  else
  X12_readSmall_b198 y1 w
set_option maxRecDepth 100000 in
set_option maxHeartbeats 4000000 in
theorem t_X12_readSmall_b185 {Z : Cz (Int32 × Wd)} (hZ : OKZ Z SM cX12_readSmall RX12 2 (some .boolean) 6) (hE : EndI Z)  (y1 : Int32)  (w : Wd) : BW Z 2 185 [(0, .ref (ph (zY Z) 0)), (1, .int y1)] [] w (X12_readSmall_b185 y1 w) :=
  bw_iload_n hZ 1 rfl dX12_readSmall_185 <|
  bw_iconst hZ 3 (by decide) dX12_readSmall_186 <|
  bw_icmp_ne hZ (tgt := 198) (by decide) dX12_readSmall_187 (fun _ =>
  bw_sub [0, 1] rfl (t_X12_readSmall_b198 hZ hE y1 w)) (fun _ =>
  bw_aload_n hZ 0 rfl dX12_readSmall_190 <|
  bw_aload_n hZ 0 rfl dX12_readSmall_191 <|
  bw_getI hZ fl_RX12_64 (by decide) obM_0 dX12_readSmall_192 <|
  bw_putI hZ fl_RX12_208 rfl rfl (by decide) obM_0 dX12_readSmall_195 fun w16 =>
  bw_sub [0, 1] rfl (t_X12_readSmall_b198 hZ hE y1 w16))
def X12_readSmall_b172 (y1 : Int32) (w : Wd) : Option (Int32 × Wd) :=
  if y1 = 2 then
  (lt (wI w 0 33 (w.1 0 7)) fun w17 =>
  X12_readSmall_b185 y1 w17)
  else
  X12_readSmall_b185 y1 w
set_option maxRecDepth 100000 in
set_option maxHeartbeats 4000000 in
theorem t_X12_readSmall_b172 {Z : Cz (Int32 × Wd)} (hZ : OKZ Z SM cX12_readSmall RX12 2 (some .boolean) 6) (hE : EndI Z)  (y1 : Int32)  (w : Wd) : BW Z 2 172 [(0, .ref (ph (zY Z) 0)), (1, .int y1)] [] w (X12_readSmall_b172 y1 w) :=
  bw_iload_n hZ 1 rfl dX12_readSmall_172 <|
  bw_iconst hZ 2 (by decide) dX12_readSmall_173 <|
  bw_icmp_ne hZ (tgt := 185) (by decide) dX12_readSmall_174 (fun _ =>
  bw_sub [0, 1] rfl (t_X12_readSmall_b185 hZ hE y1 w)) (fun _ =>
  bw_aload_n hZ 0 rfl dX12_readSmall_177 <|
  bw_aload_n hZ 0 rfl dX12_readSmall_178 <|
  bw_getI hZ fl_RX12_64 (by decide) obM_0 dX12_readSmall_179 <|
  bw_putI hZ fl_RX12_205 rfl rfl (by decide) obM_0 dX12_readSmall_182 fun w17 =>
  bw_sub [0, 1] rfl (t_X12_readSmall_b185 hZ hE y1 w17))
def X12_readSmall_b159 (y1 : Int32) (w : Wd) : Option (Int32 × Wd) :=
  if y1 = 1 then
  (lt (wI w 0 32 (w.1 0 7)) fun w18 =>
  X12_readSmall_b172 y1 w18)
  else
  X12_readSmall_b172 y1 w
set_option maxRecDepth 100000 in
set_option maxHeartbeats 4000000 in
theorem t_X12_readSmall_b159 {Z : Cz (Int32 × Wd)} (hZ : OKZ Z SM cX12_readSmall RX12 2 (some .boolean) 6) (hE : EndI Z)  (y1 : Int32)  (w : Wd) : BW Z 2 159 [(0, .ref (ph (zY Z) 0)), (1, .int y1)] [] w (X12_readSmall_b159 y1 w) :=
  bw_iload_n hZ 1 rfl dX12_readSmall_159 <|
  bw_iconst hZ 1 (by decide) dX12_readSmall_160 <|
  bw_icmp_ne hZ (tgt := 172) (by decide) dX12_readSmall_161 (fun _ =>
  bw_sub [0, 1] rfl (t_X12_readSmall_b172 hZ hE y1 w)) (fun _ =>
  bw_aload_n hZ 0 rfl dX12_readSmall_164 <|
  bw_aload_n hZ 0 rfl dX12_readSmall_165 <|
  bw_getI hZ fl_RX12_64 (by decide) obM_0 dX12_readSmall_166 <|
  bw_putI hZ fl_RX12_202 rfl rfl (by decide) obM_0 dX12_readSmall_169 fun w18 =>
  bw_sub [0, 1] rfl (t_X12_readSmall_b172 hZ hE y1 w18))
def X12_readSmall_b147 (y1 : Int32) (w : Wd) : Option (Int32 × Wd) :=
  if y1 = 0 then
  (lt (wI w 0 31 (w.1 0 7)) fun w19 =>
  X12_readSmall_b159 y1 w19)
  else
  X12_readSmall_b159 y1 w
set_option maxRecDepth 100000 in
set_option maxHeartbeats 4000000 in
theorem t_X12_readSmall_b147 {Z : Cz (Int32 × Wd)} (hZ : OKZ Z SM cX12_readSmall RX12 2 (some .boolean) 6) (hE : EndI Z)  (y1 : Int32)  (w : Wd) : BW Z 2 147 [(0, .ref (ph (zY Z) 0)), (1, .int y1)] [] w (X12_readSmall_b147 y1 w) :=
  bw_iload_n hZ 1 rfl dX12_readSmall_147 <|
  bw_if_ne hZ (tgt := 159) (by decide) dX12_readSmall_148 (fun _ =>
  bw_sub [0, 1] rfl (t_X12_readSmall_b159 hZ hE y1 w)) (fun _ =>
  bw_aload_n hZ 0 rfl dX12_readSmall_151 <|
  bw_aload_n hZ 0 rfl dX12_readSmall_152 <|
  bw_getI hZ fl_RX12_64 (by decide) obM_0 dX12_readSmall_153 <|
  bw_putI hZ fl_RX12_199 rfl rfl (by decide) obM_0 dX12_readSmall_156 fun w19 =>
  bw_sub [0, 1] rfl (t_X12_readSmall_b159 hZ hE y1 w19))
def X12_readSmall_b66 (t0 : Int32) (w : Wd) : Option (Int32 × Wd) :=
  if t0 = ((-1)) then
  (cl (f_X12_bad 1 w) fun r25 w24 =>
  if isB r25 = true then some (r25, w24) else none)
  else
  if (((w.1 0 36) >>> (t0 &&& 31)) &&& 1) = 1 then
  (cl (f_X12_bad 3 w) fun r23 w22 =>
  if isB r23 = true then some (r23, w22) else none)
  else
  lt (wI w 0 36 ((w.1 0 36) ||| (1 <<< (t0 &&& 31)))) fun w11 =>
  cv (f_X12_scan w11) fun w12 =>
  if 3 ≤ t0 then
  (cl (f_X12_number 0 99999 w12) fun r14 w13 =>
  if r14 = 0 then
  (some (0, w13))
  else
  X12_readSmall_b147 t0 w13)
  else
  cl (f_X12_known 11 4 (w12.1 0 26) w12) fun r21 w20 =>
  if r21 = 0 then
  (some (0, w20))
  else
  X12_readSmall_b147 t0 w20
set_option maxRecDepth 100000 in
set_option maxHeartbeats 4000000 in
theorem t_X12_readSmall_b66 {Z : Cz (Int32 × Wd)} (hZ : OKZ Z SM cX12_readSmall RX12 2 (some .boolean) 6) (hE : EndI Z)  (t0 : Int32)  (w : Wd) : BW Z 2 66 [(0, .ref (ph (zY Z) 0))] [.int t0] w (X12_readSmall_b66 t0 w) :=
  bw_istore_n hZ rfl (by decide) rfl dX12_readSmall_66 <|
  bw_iload_n hZ 0 rfl dX12_readSmall_67 <|
  bw_iconst hZ (-1) (by decide) dX12_readSmall_68 <|
  bw_icmp_ne hZ (tgt := 78) (by decide) dX12_readSmall_69 (fun _ =>
  bw_aload_n hZ 1 rfl dX12_readSmall_78 <|
  bw_getI hZ fl_RX12_195 (by decide) obM_0 dX12_readSmall_79 <|
  bw_iload_n hZ 0 rfl dX12_readSmall_82 <|
  bw_ishr hZ dX12_readSmall_83 <|
  bw_iconst hZ 1 (by decide) dX12_readSmall_84 <|
  bw_iand hZ dX12_readSmall_85 <|
  bw_iconst hZ 1 (by decide) dX12_readSmall_86 <|
  bw_icmp_ne hZ (tgt := 96) (by decide) dX12_readSmall_87 (fun _ =>
  bw_aload_n hZ 1 rfl dX12_readSmall_96 <|
  bw_dup hZ rfl dX12_readSmall_97 <|
  bw_getI hZ fl_RX12_195 (by decide) obM_0 dX12_readSmall_98 <|
  bw_iconst hZ 1 (by decide) dX12_readSmall_101 <|
  bw_iload_n hZ 0 rfl dX12_readSmall_102 <|
  bw_ishl hZ dX12_readSmall_103 <|
  bw_ior hZ dX12_readSmall_104 <|
  bw_putI hZ fl_RX12_195 rfl rfl (by decide) obM_0 dX12_readSmall_105 fun w11 =>
  bw_aload_n hZ 1 rfl dX12_readSmall_108 <|
  bw_callVV (As := []) hZ ml_RX12_56 rc_12 obM_0 (by decide) (c_X12_scan (zl Z) (zY Z) (hZ_S hZ) w11) rfl rfl (Nat.le_of_ble_eq_true rfl) dX12_readSmall_109 fun w12 =>
  bw_iload_n hZ 0 rfl dX12_readSmall_112 <|
  bw_iconst hZ 3 (by decide) dX12_readSmall_113 <|
  bw_icmp_ge hZ (tgt := 135) (by decide) dX12_readSmall_114 (fun _ =>
  bw_aload_n hZ 1 rfl dX12_readSmall_135 <|
  bw_iconst hZ 0 (by decide) dX12_readSmall_136 <|
  bw_ldc hZ kk_RX12_198 dX12_readSmall_137 <|
  bw_callVI (As := [.int 0, .int 99999]) hZ ml_RX12_119 rc_12 obM_0 (by decide) (c_X12_number (zl Z) (zY Z) (hZ_S hZ) 0 99999 w12) rfl rfl (Nat.le_of_ble_eq_true rfl) dX12_readSmall_139 fun r14 w13 =>
  bw_if_ne hZ (tgt := 147) (by decide) dX12_readSmall_142 (fun _ =>
  bw_sub [1, 0] rfl (t_X12_readSmall_b147 hZ hE t0 w13)) (fun _ =>
  bw_iconst hZ 0 (by decide) dX12_readSmall_145 <|
  bw_zret hZ hE (by decide) dX12_readSmall_146)) (fun _ =>
  bw_aload_n hZ 1 rfl dX12_readSmall_117 <|
  bw_aload_n hZ 1 rfl dX12_readSmall_118 <|
  bw_getR hZ fl_RX12_132 obM_0 rfl dX12_readSmall_119 <|
  bw_aload_n hZ 1 rfl dX12_readSmall_122 <|
  bw_getI hZ fl_RX12_129 (by decide) obM_0 dX12_readSmall_123 <|
  bw_callVI (As := [.ref (ph (zY Z) 11), .int (w12.1 0 26)]) hZ ml_RX12_164 rc_12 obM_0 (by decide) (c_X12_known (zl Z) (zY Z) (hZ_S hZ) 11 4 (w12.1 0 26) arM_11 w12) rfl rfl (Nat.le_of_ble_eq_true rfl) dX12_readSmall_126 fun r21 w20 =>
  bw_if_eq hZ (tgt := 145) (by decide) dX12_readSmall_129 (fun _ =>
  bw_iconst hZ 0 (by decide) dX12_readSmall_145 <|
  bw_zret hZ hE (by decide) dX12_readSmall_146) (fun _ =>
  bw_goto hZ (tgt := 147) (by decide) dX12_readSmall_132 <|
  bw_sub [1, 0] rfl (t_X12_readSmall_b147 hZ hE t0 w20)))) (fun _ =>
  bw_aload_n hZ 1 rfl dX12_readSmall_90 <|
  bw_iconst hZ 3 (by decide) dX12_readSmall_91 <|
  bw_callVI (As := [.int 3]) hZ ml_RX12_53 rc_12 obM_0 (by decide) (c_X12_bad (zl Z) (zY Z) (hZ_S hZ) 3 w) rfl rfl (Nat.le_of_ble_eq_true rfl) dX12_readSmall_92 fun r23 w22 =>
  bw_zretC hZ hE dX12_readSmall_95)) (fun _ =>
  bw_aload_n hZ 1 rfl dX12_readSmall_72 <|
  bw_iconst hZ 1 (by decide) dX12_readSmall_73 <|
  bw_callVI (As := [.int 1]) hZ ml_RX12_53 rc_12 obM_0 (by decide) (c_X12_bad (zl Z) (zY Z) (hZ_S hZ) 1 w) rfl rfl (Nat.le_of_ble_eq_true rfl) dX12_readSmall_74 fun r25 w24 =>
  bw_zretC hZ hE dX12_readSmall_77)
def f_X12_readSmall (w : Wd) : Option (Int32 × Wd) :=
  cl (f_X12_is 21 w) fun r2 w1 =>
  if r2 = 0 then
  (cl (f_X12_is 19 w1) fun r4 w3 =>
  if r4 = 0 then
  (cl (f_X12_is 20 w3) fun r6 w5 =>
  if r6 = 0 then
  (cl (f_X12_is 29 w5) fun r8 w7 =>
  if r8 = 0 then
  (cl (f_X12_is 30 w7) fun r10 w9 =>
  if r10 = 0 then
  (X12_readSmall_b66 ((-1)) w9)
  else
  X12_readSmall_b66 4 w9)
  else
  X12_readSmall_b66 3 w7)
  else
  X12_readSmall_b66 2 w5)
  else
  X12_readSmall_b66 1 w3)
  else
  X12_readSmall_b66 0 w1
set_option maxRecDepth 100000 in
set_option maxHeartbeats 4000000 in
theorem t_X12_readSmall {Z : Cz (Int32 × Wd)} (hZ : OKZ Z SM cX12_readSmall RX12 2 (some .boolean) 6) (hE : EndI Z)   (w : Wd) : BW Z 2 0 [(0, .ref (ph (zY Z) 0))] [] w (f_X12_readSmall w) :=
  bw_aload_n hZ 0 rfl dX12_readSmall_0 <|
  bw_ldcS hZ 77 rfl dX12_readSmall_1 <|
  bw_callVI (As := [.ref (sK (zY Z) 21)]) hZ ml_RX12_49 rc_12 obM_0 (by decide) (c_X12_is (zl Z) (zY Z) (hZ_S hZ) 21 (by decide) w) rfl rfl (Nat.le_of_ble_eq_true rfl) dX12_readSmall_3 fun r2 w1 =>
  bw_if_eq hZ (tgt := 13) (by decide) dX12_readSmall_6 (fun _ =>
  bw_aload_n hZ 0 rfl dX12_readSmall_13 <|
  bw_ldcS hZ 68 rfl dX12_readSmall_14 <|
  bw_callVI (As := [.ref (sK (zY Z) 19)]) hZ ml_RX12_49 rc_12 obM_0 (by decide) (c_X12_is (zl Z) (zY Z) (hZ_S hZ) 19 (by decide) w1) rfl rfl (Nat.le_of_ble_eq_true rfl) dX12_readSmall_16 fun r4 w3 =>
  bw_if_eq hZ (tgt := 26) (by decide) dX12_readSmall_19 (fun _ =>
  bw_aload_n hZ 0 rfl dX12_readSmall_26 <|
  bw_ldcS hZ 69 rfl dX12_readSmall_27 <|
  bw_callVI (As := [.ref (sK (zY Z) 20)]) hZ ml_RX12_49 rc_12 obM_0 (by decide) (c_X12_is (zl Z) (zY Z) (hZ_S hZ) 20 (by decide) w3) rfl rfl (Nat.le_of_ble_eq_true rfl) dX12_readSmall_29 fun r6 w5 =>
  bw_if_eq hZ (tgt := 39) (by decide) dX12_readSmall_32 (fun _ =>
  bw_aload_n hZ 0 rfl dX12_readSmall_39 <|
  bw_ldcS hZ 78 rfl dX12_readSmall_40 <|
  bw_callVI (As := [.ref (sK (zY Z) 29)]) hZ ml_RX12_49 rc_12 obM_0 (by decide) (c_X12_is (zl Z) (zY Z) (hZ_S hZ) 29 (by decide) w5) rfl rfl (Nat.le_of_ble_eq_true rfl) dX12_readSmall_42 fun r8 w7 =>
  bw_if_eq hZ (tgt := 52) (by decide) dX12_readSmall_45 (fun _ =>
  bw_aload_n hZ 0 rfl dX12_readSmall_52 <|
  bw_ldcS hZ 79 rfl dX12_readSmall_53 <|
  bw_callVI (As := [.ref (sK (zY Z) 30)]) hZ ml_RX12_49 rc_12 obM_0 (by decide) (c_X12_is (zl Z) (zY Z) (hZ_S hZ) 30 (by decide) w7) rfl rfl (Nat.le_of_ble_eq_true rfl) dX12_readSmall_55 fun r10 w9 =>
  bw_if_eq hZ (tgt := 65) (by decide) dX12_readSmall_58 (fun _ =>
  bw_iconst hZ (-1) (by decide) dX12_readSmall_65 <|
  bw_sub [0] rfl (t_X12_readSmall_b66 hZ hE ((-1)) w9)) (fun _ =>
  bw_iconst hZ 4 (by decide) dX12_readSmall_61 <|
  bw_goto hZ (tgt := 66) (by decide) dX12_readSmall_62 <|
  bw_sub [0] rfl (t_X12_readSmall_b66 hZ hE 4 w9))) (fun _ =>
  bw_iconst hZ 3 (by decide) dX12_readSmall_48 <|
  bw_goto hZ (tgt := 66) (by decide) dX12_readSmall_49 <|
  bw_sub [0] rfl (t_X12_readSmall_b66 hZ hE 3 w7))) (fun _ =>
  bw_iconst hZ 2 (by decide) dX12_readSmall_35 <|
  bw_goto hZ (tgt := 66) (by decide) dX12_readSmall_36 <|
  bw_sub [0] rfl (t_X12_readSmall_b66 hZ hE 2 w5))) (fun _ =>
  bw_iconst hZ 1 (by decide) dX12_readSmall_22 <|
  bw_goto hZ (tgt := 66) (by decide) dX12_readSmall_23 <|
  bw_sub [0] rfl (t_X12_readSmall_b66 hZ hE 1 w3))) (fun _ =>
  bw_iconst hZ 0 (by decide) dX12_readSmall_9 <|
  bw_goto hZ (tgt := 66) (by decide) dX12_readSmall_10 <|
  bw_sub [0] rfl (t_X12_readSmall_b66 hZ hE 0 w1))
theorem c_X12_readSmall (l : Launch) (Y : Ev) (hY : Y.1 = SM)   (w : Wd) : CI l Y yX12_readSmall cX12_readSmall 2 6 [.ref (ph Y 0)] w .boolean (f_X12_readSmall w) := by
  refine CI_of (S := SM) (by decide) (Nat.le_of_ble_eq_true rfl) hY ?_
  intro Z hl hY2 hZ hE
  subst hY2
  exact t_X12_readSmall hZ hE w
-- WhichWillModel.readEstate
theorem dX12_readEstate_0 : decode cX12_readEstate 0 = .ok (.aload_n 0, 1) := by decide +kernel
theorem dX12_readEstate_1 : decode cX12_readEstate 1 = .ok (.iconst 0, 1) := by decide +kernel
theorem dX12_readEstate_2 : decode cX12_readEstate 2 = .ok (.putfield 129, 3) := by decide +kernel
theorem dX12_readEstate_5 : decode cX12_readEstate 5 = .ok (.aload_n 0, 1) := by decide +kernel
theorem dX12_readEstate_6 : decode cX12_readEstate 6 = .ok (.iconst 0, 1) := by decide +kernel
theorem dX12_readEstate_7 : decode cX12_readEstate 7 = .ok (.putfield 146, 3) := by decide +kernel
theorem dX12_readEstate_10 : decode cX12_readEstate 10 = .ok (.aload_n 0, 1) := by decide +kernel
theorem dX12_readEstate_11 : decode cX12_readEstate 11 = .ok (.iconst 0, 1) := by decide +kernel
theorem dX12_readEstate_12 : decode cX12_readEstate 12 = .ok (.putfield 176, 3) := by decide +kernel
theorem dX12_readEstate_15 : decode cX12_readEstate 15 = .ok (.aload_n 0, 1) := by decide +kernel
theorem dX12_readEstate_16 : decode cX12_readEstate 16 = .ok (.iconst 0, 1) := by decide +kernel
theorem dX12_readEstate_17 : decode cX12_readEstate 17 = .ok (.putfield 208, 3) := by decide +kernel
theorem dX12_readEstate_20 : decode cX12_readEstate 20 = .ok (.aload_n 0, 1) := by decide +kernel
theorem dX12_readEstate_21 : decode cX12_readEstate 21 = .ok (.iconst 0, 1) := by decide +kernel
theorem dX12_readEstate_22 : decode cX12_readEstate 22 = .ok (.putfield 211, 3) := by decide +kernel
theorem dX12_readEstate_25 : decode cX12_readEstate 25 = .ok (.aload_n 0, 1) := by decide +kernel
theorem dX12_readEstate_26 : decode cX12_readEstate 26 = .ok (.iconst 0, 1) := by decide +kernel
theorem dX12_readEstate_27 : decode cX12_readEstate 27 = .ok (.putfield 199, 3) := by decide +kernel
theorem dX12_readEstate_30 : decode cX12_readEstate 30 = .ok (.aload_n 0, 1) := by decide +kernel
theorem dX12_readEstate_31 : decode cX12_readEstate 31 = .ok (.iconst 0, 1) := by decide +kernel
theorem dX12_readEstate_32 : decode cX12_readEstate 32 = .ok (.putfield 202, 3) := by decide +kernel
theorem dX12_readEstate_35 : decode cX12_readEstate 35 = .ok (.aload_n 0, 1) := by decide +kernel
theorem dX12_readEstate_36 : decode cX12_readEstate 36 = .ok (.iconst 0, 1) := by decide +kernel
theorem dX12_readEstate_37 : decode cX12_readEstate 37 = .ok (.putfield 205, 3) := by decide +kernel
theorem dX12_readEstate_40 : decode cX12_readEstate 40 = .ok (.aload_n 0, 1) := by decide +kernel
theorem dX12_readEstate_41 : decode cX12_readEstate 41 = .ok (.iconst (-1), 1) := by decide +kernel
theorem dX12_readEstate_42 : decode cX12_readEstate 42 = .ok (.putfield 158, 3) := by decide +kernel
theorem dX12_readEstate_45 : decode cX12_readEstate 45 = .ok (.aload_n 0, 1) := by decide +kernel
theorem dX12_readEstate_46 : decode cX12_readEstate 46 = .ok (.iconst 0, 1) := by decide +kernel
theorem dX12_readEstate_47 : decode cX12_readEstate 47 = .ok (.putfield 195, 3) := by decide +kernel
theorem dX12_readEstate_50 : decode cX12_readEstate 50 = .ok (.aload_n 0, 1) := by decide +kernel
theorem dX12_readEstate_51 : decode cX12_readEstate 51 = .ok (.iconst 0, 1) := by decide +kernel
theorem dX12_readEstate_52 : decode cX12_readEstate 52 = .ok (.putfield 214, 3) := by decide +kernel
theorem dX12_readEstate_55 : decode cX12_readEstate 55 = .ok (.aload_n 0, 1) := by decide +kernel
theorem dX12_readEstate_56 : decode cX12_readEstate 56 = .ok (.getfield 27, 3) := by decide +kernel
theorem dX12_readEstate_59 : decode cX12_readEstate 59 = .ok (.ifCond .eq 93, 3) := by decide +kernel
theorem dX12_readEstate_62 : decode cX12_readEstate 62 = .ok (.aload_n 0, 1) := by decide +kernel
theorem dX12_readEstate_63 : decode cX12_readEstate 63 = .ok (.ldc 217, 2) := by decide +kernel
theorem dX12_readEstate_65 : decode cX12_readEstate 65 = .ok (.invokevirtual 49, 3) := by decide +kernel
theorem dX12_readEstate_68 : decode cX12_readEstate 68 = .ok (.ifCond .eq 10, 3) := by decide +kernel
theorem dX12_readEstate_71 : decode cX12_readEstate 71 = .ok (.aload_n 0, 1) := by decide +kernel
theorem dX12_readEstate_72 : decode cX12_readEstate 72 = .ok (.invokevirtual 219, 3) := by decide +kernel
theorem dX12_readEstate_75 : decode cX12_readEstate 75 = .ok (.goto 39, 3) := by decide +kernel
theorem dX12_readEstate_78 : decode cX12_readEstate 78 = .ok (.aload_n 0, 1) := by decide +kernel
theorem dX12_readEstate_79 : decode cX12_readEstate 79 = .ok (.ldc 223, 2) := by decide +kernel
theorem dX12_readEstate_81 : decode cX12_readEstate 81 = .ok (.invokevirtual 49, 3) := by decide +kernel
theorem dX12_readEstate_84 : decode cX12_readEstate 84 = .ok (.ifCond .eq 10, 3) := by decide +kernel
theorem dX12_readEstate_87 : decode cX12_readEstate 87 = .ok (.aload_n 0, 1) := by decide +kernel
theorem dX12_readEstate_88 : decode cX12_readEstate 88 = .ok (.invokevirtual 225, 3) := by decide +kernel
theorem dX12_readEstate_91 : decode cX12_readEstate 91 = .ok (.goto 23, 3) := by decide +kernel
theorem dX12_readEstate_94 : decode cX12_readEstate 94 = .ok (.aload_n 0, 1) := by decide +kernel
theorem dX12_readEstate_95 : decode cX12_readEstate 95 = .ok (.ldc 228, 2) := by decide +kernel
theorem dX12_readEstate_97 : decode cX12_readEstate 97 = .ok (.invokevirtual 49, 3) := by decide +kernel
theorem dX12_readEstate_100 : decode cX12_readEstate 100 = .ok (.ifCond .eq 10, 3) := by decide +kernel
theorem dX12_readEstate_103 : decode cX12_readEstate 103 = .ok (.aload_n 0, 1) := by decide +kernel
theorem dX12_readEstate_104 : decode cX12_readEstate 104 = .ok (.invokevirtual 230, 3) := by decide +kernel
theorem dX12_readEstate_107 : decode cX12_readEstate 107 = .ok (.goto 7, 3) := by decide +kernel
theorem dX12_readEstate_110 : decode cX12_readEstate 110 = .ok (.aload_n 0, 1) := by decide +kernel
theorem dX12_readEstate_111 : decode cX12_readEstate 111 = .ok (.invokevirtual 233, 3) := by decide +kernel
theorem dX12_readEstate_114 : decode cX12_readEstate 114 = .ok (.istore_n 1, 1) := by decide +kernel
theorem dX12_readEstate_115 : decode cX12_readEstate 115 = .ok (.iload_n 1, 1) := by decide +kernel
theorem dX12_readEstate_116 : decode cX12_readEstate 116 = .ok (.ifCond .ne 5, 3) := by decide +kernel
theorem dX12_readEstate_119 : decode cX12_readEstate 119 = .ok (.iconst 0, 1) := by decide +kernel
theorem dX12_readEstate_120 : decode cX12_readEstate 120 = .ok (.ireturn, 1) := by decide +kernel
theorem dX12_readEstate_121 : decode cX12_readEstate 121 = .ok (.aload_n 0, 1) := by decide +kernel
theorem dX12_readEstate_122 : decode cX12_readEstate 122 = .ok (.getfield 27, 3) := by decide +kernel
theorem dX12_readEstate_125 : decode cX12_readEstate 125 = .ok (.iconst 3, 1) := by decide +kernel
theorem dX12_readEstate_126 : decode cX12_readEstate 126 = .ok (.if_icmp .eq 9, 3) := by decide +kernel
theorem dX12_readEstate_129 : decode cX12_readEstate 129 = .ok (.aload_n 0, 1) := by decide +kernel
theorem dX12_readEstate_130 : decode cX12_readEstate 130 = .ok (.iconst 1, 1) := by decide +kernel
theorem dX12_readEstate_131 : decode cX12_readEstate 131 = .ok (.invokevirtual 53, 3) := by decide +kernel
theorem dX12_readEstate_134 : decode cX12_readEstate 134 = .ok (.ireturn, 1) := by decide +kernel
theorem dX12_readEstate_135 : decode cX12_readEstate 135 = .ok (.aload_n 0, 1) := by decide +kernel
theorem dX12_readEstate_136 : decode cX12_readEstate 136 = .ok (.invokevirtual 56, 3) := by decide +kernel
theorem dX12_readEstate_139 : decode cX12_readEstate 139 = .ok (.aload_n 0, 1) := by decide +kernel
theorem dX12_readEstate_140 : decode cX12_readEstate 140 = .ok (.dup, 1) := by decide +kernel
theorem dX12_readEstate_141 : decode cX12_readEstate 141 = .ok (.getfield 214, 3) := by decide +kernel
theorem dX12_readEstate_144 : decode cX12_readEstate 144 = .ok (.iconst 1, 1) := by decide +kernel
theorem dX12_readEstate_145 : decode cX12_readEstate 145 = .ok (.iadd, 1) := by decide +kernel
theorem dX12_readEstate_146 : decode cX12_readEstate 146 = .ok (.putfield 214, 3) := by decide +kernel
theorem dX12_readEstate_149 : decode cX12_readEstate 149 = .ok (.goto (-94), 3) := by decide +kernel
theorem dX12_readEstate_152 : decode cX12_readEstate 152 = .ok (.iconst 1, 1) := by decide +kernel
theorem dX12_readEstate_153 : decode cX12_readEstate 153 = .ok (.ireturn, 1) := by decide +kernel
def X12_readEstate_b114 (k55 : Wd → Option (Int32 × Wd)) (t0 : Int32) (w : Wd) : Option (Int32 × Wd) :=
  if t0 = 0 then
  (some (0, w))
  else
  if (w.1 0 5) = 3 then
  (cv (f_X12_scan w) fun w20 =>
  lt (wI w20 0 35 ((w20.1 0 35) + 1)) fun w21 =>
  k55 w21)
  else
  cl (f_X12_bad 1 w) fun r23 w22 =>
  if isB r23 = true then some (r23, w22) else none
set_option maxRecDepth 100000 in
set_option maxHeartbeats 4000000 in
theorem t_X12_readEstate_b114 {Z : Cz (Int32 × Wd)} (hZ : OKZ Z SM cX12_readEstate RX12 2 (some .boolean) 9) (hE : EndI Z) (k55 : Wd → Option (Int32 × Wd)) (hk55 : ∀   (w : Wd), BW Z 2 55 [(0, .ref (ph (zY Z) 0))] [] w (k55 w)) (t0 : Int32)  (w : Wd) : BW Z 2 114 [(0, .ref (ph (zY Z) 0))] [.int t0] w (X12_readEstate_b114 k55 t0 w) :=
  bw_istore_n hZ rfl (by decide) rfl dX12_readEstate_114 <|
  bw_iload_n hZ 0 rfl dX12_readEstate_115 <|
  bw_if_ne hZ (tgt := 121) (by decide) dX12_readEstate_116 (fun _ =>
  bw_aload_n hZ 1 rfl dX12_readEstate_121 <|
  bw_getI hZ fl_RX12_27 (by decide) obM_0 dX12_readEstate_122 <|
  bw_iconst hZ 3 (by decide) dX12_readEstate_125 <|
  bw_icmp_eq hZ (tgt := 135) (by decide) dX12_readEstate_126 (fun _ =>
  bw_aload_n hZ 1 rfl dX12_readEstate_135 <|
  bw_callVV (As := []) hZ ml_RX12_56 rc_12 obM_0 (by decide) (c_X12_scan (zl Z) (zY Z) (hZ_S hZ) w) rfl rfl (Nat.le_of_ble_eq_true rfl) dX12_readEstate_136 fun w20 =>
  bw_aload_n hZ 1 rfl dX12_readEstate_139 <|
  bw_dup hZ rfl dX12_readEstate_140 <|
  bw_getI hZ fl_RX12_214 (by decide) obM_0 dX12_readEstate_141 <|
  bw_iconst hZ 1 (by decide) dX12_readEstate_144 <|
  bw_iadd hZ dX12_readEstate_145 <|
  bw_putI hZ fl_RX12_214 rfl rfl (by decide) obM_0 dX12_readEstate_146 fun w21 =>
  bw_goto hZ (tgt := 55) (by decide) dX12_readEstate_149 <|
  bw_sub [1] rfl (hk55 w21)) (fun _ =>
  bw_aload_n hZ 1 rfl dX12_readEstate_129 <|
  bw_iconst hZ 1 (by decide) dX12_readEstate_130 <|
  bw_callVI (As := [.int 1]) hZ ml_RX12_53 rc_12 obM_0 (by decide) (c_X12_bad (zl Z) (zY Z) (hZ_S hZ) 1 w) rfl rfl (Nat.le_of_ble_eq_true rfl) dX12_readEstate_131 fun r23 w22 =>
  bw_zretC hZ hE dX12_readEstate_134)) (fun _ =>
  bw_iconst hZ 0 (by decide) dX12_readEstate_119 <|
  bw_zret hZ hE (by decide) dX12_readEstate_120)
def X12_readEstate_b55 (k55 : Wd → Option (Int32 × Wd)) (w : Wd) : Option (Int32 × Wd) :=
  if (w.1 0 5) = 0 then
  (some (1, w))
  else
  cl (f_X12_is 0 w) fun r13 w12 =>
  if r13 = 0 then
  (cl (f_X12_is 22 w12) fun r15 w14 =>
  if r15 = 0 then
  (cl (f_X12_is 27 w14) fun r17 w16 =>
  if r17 = 0 then
  (cl (f_X12_readSmall w16) fun r19 w18 =>
  X12_readEstate_b114 k55 r19 w18)
  else
  cl (f_X12_readThing w16) fun r25 w24 =>
  X12_readEstate_b114 k55 r25 w24)
  else
  cl (f_X12_readPerson w14) fun r27 w26 =>
  X12_readEstate_b114 k55 r27 w26)
  else
  cl (f_X12_readLand w12) fun r29 w28 =>
  X12_readEstate_b114 k55 r29 w28
set_option maxRecDepth 100000 in
set_option maxHeartbeats 4000000 in
theorem t_X12_readEstate_b55 {Z : Cz (Int32 × Wd)} (hZ : OKZ Z SM cX12_readEstate RX12 2 (some .boolean) 9) (hE : EndI Z) (k55 : Wd → Option (Int32 × Wd)) (hk55 : ∀   (w : Wd), BW Z 2 55 [(0, .ref (ph (zY Z) 0))] [] w (k55 w))   (w : Wd) : BW Z 2 55 [(0, .ref (ph (zY Z) 0))] [] w (X12_readEstate_b55 k55 w) :=
  bw_aload_n hZ 0 rfl dX12_readEstate_55 <|
  bw_getI hZ fl_RX12_27 (by decide) obM_0 dX12_readEstate_56 <|
  bw_if_eq hZ (tgt := 152) (by decide) dX12_readEstate_59 (fun _ =>
  bw_iconst hZ 1 (by decide) dX12_readEstate_152 <|
  bw_zret hZ hE (by decide) dX12_readEstate_153) (fun _ =>
  bw_aload_n hZ 0 rfl dX12_readEstate_62 <|
  bw_ldcS hZ 50 rfl dX12_readEstate_63 <|
  bw_callVI (As := [.ref (sK (zY Z) 0)]) hZ ml_RX12_49 rc_12 obM_0 (by decide) (c_X12_is (zl Z) (zY Z) (hZ_S hZ) 0 (by decide) w) rfl rfl (Nat.le_of_ble_eq_true rfl) dX12_readEstate_65 fun r13 w12 =>
  bw_if_eq hZ (tgt := 78) (by decide) dX12_readEstate_68 (fun _ =>
  bw_aload_n hZ 0 rfl dX12_readEstate_78 <|
  bw_ldcS hZ 70 rfl dX12_readEstate_79 <|
  bw_callVI (As := [.ref (sK (zY Z) 22)]) hZ ml_RX12_49 rc_12 obM_0 (by decide) (c_X12_is (zl Z) (zY Z) (hZ_S hZ) 22 (by decide) w12) rfl rfl (Nat.le_of_ble_eq_true rfl) dX12_readEstate_81 fun r15 w14 =>
  bw_if_eq hZ (tgt := 94) (by decide) dX12_readEstate_84 (fun _ =>
  bw_aload_n hZ 0 rfl dX12_readEstate_94 <|
  bw_ldcS hZ 75 rfl dX12_readEstate_95 <|
  bw_callVI (As := [.ref (sK (zY Z) 27)]) hZ ml_RX12_49 rc_12 obM_0 (by decide) (c_X12_is (zl Z) (zY Z) (hZ_S hZ) 27 (by decide) w14) rfl rfl (Nat.le_of_ble_eq_true rfl) dX12_readEstate_97 fun r17 w16 =>
  bw_if_eq hZ (tgt := 110) (by decide) dX12_readEstate_100 (fun _ =>
  bw_aload_n hZ 0 rfl dX12_readEstate_110 <|
  bw_callVI (As := []) hZ ml_RX12_233 rc_12 obM_0 (by decide) (c_X12_readSmall (zl Z) (zY Z) (hZ_S hZ) w16) rfl rfl (Nat.le_of_ble_eq_true rfl) dX12_readEstate_111 fun r19 w18 =>
  bw_sub [0] rfl (t_X12_readEstate_b114 hZ hE k55 hk55 r19 w18)) (fun _ =>
  bw_aload_n hZ 0 rfl dX12_readEstate_103 <|
  bw_callVI (As := []) hZ ml_RX12_230 rc_12 obM_0 (by decide) (c_X12_readThing (zl Z) (zY Z) (hZ_S hZ) w16) rfl rfl (Nat.le_of_ble_eq_true rfl) dX12_readEstate_104 fun r25 w24 =>
  bw_goto hZ (tgt := 114) (by decide) dX12_readEstate_107 <|
  bw_sub [0] rfl (t_X12_readEstate_b114 hZ hE k55 hk55 r25 w24))) (fun _ =>
  bw_aload_n hZ 0 rfl dX12_readEstate_87 <|
  bw_callVI (As := []) hZ ml_RX12_225 rc_12 obM_0 (by decide) (c_X12_readPerson (zl Z) (zY Z) (hZ_S hZ) w14) rfl rfl (Nat.le_of_ble_eq_true rfl) dX12_readEstate_88 fun r27 w26 =>
  bw_goto hZ (tgt := 114) (by decide) dX12_readEstate_91 <|
  bw_sub [0] rfl (t_X12_readEstate_b114 hZ hE k55 hk55 r27 w26))) (fun _ =>
  bw_aload_n hZ 0 rfl dX12_readEstate_71 <|
  bw_callVI (As := []) hZ ml_RX12_219 rc_12 obM_0 (by decide) (c_X12_readLand (zl Z) (zY Z) (hZ_S hZ) w12) rfl rfl (Nat.le_of_ble_eq_true rfl) dX12_readEstate_72 fun r29 w28 =>
  bw_goto hZ (tgt := 114) (by decide) dX12_readEstate_75 <|
  bw_sub [0] rfl (t_X12_readEstate_b114 hZ hE k55 hk55 r29 w28)))
def X12_readEstate_b55_L  : Wd → Option (Int32 × Wd) :=
  lp fu (fun _ => none) (fun k55 => X12_readEstate_b55 k55)
theorem t_X12_readEstate_b55_L {Z : Cz (Int32 × Wd)} (hZ : OKZ Z SM cX12_readEstate RX12 2 (some .boolean) 9) (hE : EndI Z)  : ∀   (w : Wd), BW Z 2 55 [(0, .ref (ph (zY Z) 0))] [] w (X12_readEstate_b55_L w) :=
  lp_bw (fun k55 => ∀   (w : Wd), BW Z 2 55 [(0, .ref (ph (zY Z) 0))] [] w (k55 w)) (fun _ => bw_none) (fun k55 hk55 w => t_X12_readEstate_b55 hZ hE k55 hk55 w) fu
def f_X12_readEstate (w : Wd) : Option (Int32 × Wd) :=
  lt (wI w 0 26 0) fun w1 =>
  lt (wI w1 0 27 0) fun w2 =>
  lt (wI w2 0 28 0) fun w3 =>
  lt (wI w3 0 29 0) fun w4 =>
  lt (wI w4 0 30 0) fun w5 =>
  lt (wI w5 0 31 0) fun w6 =>
  lt (wI w6 0 32 0) fun w7 =>
  lt (wI w7 0 33 0) fun w8 =>
  lt (wI w8 0 34 ((-1))) fun w9 =>
  lt (wI w9 0 36 0) fun w10 =>
  lt (wI w10 0 35 0) fun w11 =>
  X12_readEstate_b55_L w11
set_option maxRecDepth 100000 in
set_option maxHeartbeats 4000000 in
theorem t_X12_readEstate {Z : Cz (Int32 × Wd)} (hZ : OKZ Z SM cX12_readEstate RX12 2 (some .boolean) 9) (hE : EndI Z)   (w : Wd) : BW Z 2 0 [(0, .ref (ph (zY Z) 0))] [] w (f_X12_readEstate w) :=
  bw_aload_n hZ 0 rfl dX12_readEstate_0 <|
  bw_iconst hZ 0 (by decide) dX12_readEstate_1 <|
  bw_putI hZ fl_RX12_129 rfl rfl (by decide) obM_0 dX12_readEstate_2 fun w1 =>
  bw_aload_n hZ 0 rfl dX12_readEstate_5 <|
  bw_iconst hZ 0 (by decide) dX12_readEstate_6 <|
  bw_putI hZ fl_RX12_146 rfl rfl (by decide) obM_0 dX12_readEstate_7 fun w2 =>
  bw_aload_n hZ 0 rfl dX12_readEstate_10 <|
  bw_iconst hZ 0 (by decide) dX12_readEstate_11 <|
  bw_putI hZ fl_RX12_176 rfl rfl (by decide) obM_0 dX12_readEstate_12 fun w3 =>
  bw_aload_n hZ 0 rfl dX12_readEstate_15 <|
  bw_iconst hZ 0 (by decide) dX12_readEstate_16 <|
  bw_putI hZ fl_RX12_208 rfl rfl (by decide) obM_0 dX12_readEstate_17 fun w4 =>
  bw_aload_n hZ 0 rfl dX12_readEstate_20 <|
  bw_iconst hZ 0 (by decide) dX12_readEstate_21 <|
  bw_putI hZ fl_RX12_211 rfl rfl (by decide) obM_0 dX12_readEstate_22 fun w5 =>
  bw_aload_n hZ 0 rfl dX12_readEstate_25 <|
  bw_iconst hZ 0 (by decide) dX12_readEstate_26 <|
  bw_putI hZ fl_RX12_199 rfl rfl (by decide) obM_0 dX12_readEstate_27 fun w6 =>
  bw_aload_n hZ 0 rfl dX12_readEstate_30 <|
  bw_iconst hZ 0 (by decide) dX12_readEstate_31 <|
  bw_putI hZ fl_RX12_202 rfl rfl (by decide) obM_0 dX12_readEstate_32 fun w7 =>
  bw_aload_n hZ 0 rfl dX12_readEstate_35 <|
  bw_iconst hZ 0 (by decide) dX12_readEstate_36 <|
  bw_putI hZ fl_RX12_205 rfl rfl (by decide) obM_0 dX12_readEstate_37 fun w8 =>
  bw_aload_n hZ 0 rfl dX12_readEstate_40 <|
  bw_iconst hZ (-1) (by decide) dX12_readEstate_41 <|
  bw_putI hZ fl_RX12_158 rfl rfl (by decide) obM_0 dX12_readEstate_42 fun w9 =>
  bw_aload_n hZ 0 rfl dX12_readEstate_45 <|
  bw_iconst hZ 0 (by decide) dX12_readEstate_46 <|
  bw_putI hZ fl_RX12_195 rfl rfl (by decide) obM_0 dX12_readEstate_47 fun w10 =>
  bw_aload_n hZ 0 rfl dX12_readEstate_50 <|
  bw_iconst hZ 0 (by decide) dX12_readEstate_51 <|
  bw_putI hZ fl_RX12_214 rfl rfl (by decide) obM_0 dX12_readEstate_52 fun w11 =>
  bw_sub [0] rfl (t_X12_readEstate_b55_L hZ hE w11)
theorem c_X12_readEstate (l : Launch) (Y : Ev) (hY : Y.1 = SM)   (w : Wd) : CI l Y yX12_readEstate cX12_readEstate 2 9 [.ref (ph Y 0)] w .boolean (f_X12_readEstate w) := by
  refine CI_of (S := SM) (by decide) (Nat.le_of_ble_eq_true rfl) hY ?_
  intro Z hl hY2 hZ hE
  subst hY2
  exact t_X12_readEstate hZ hE w
-- WhichWillModel.putFour
theorem dX12_putFour_0 : decode cX12_putFour 0 = .ok (.bipush 24, 2) := by decide +kernel
theorem dX12_putFour_2 : decode cX12_putFour 2 = .ok (.istore_n 2, 1) := by decide +kernel
theorem dX12_putFour_3 : decode cX12_putFour 3 = .ok (.iload_n 2, 1) := by decide +kernel
theorem dX12_putFour_4 : decode cX12_putFour 4 = .ok (.ifCond .lt 32, 3) := by decide +kernel
theorem dX12_putFour_7 : decode cX12_putFour 7 = .ok (.aload_n 0, 1) := by decide +kernel
theorem dX12_putFour_8 : decode cX12_putFour 8 = .ok (.getfield 16, 3) := by decide +kernel
theorem dX12_putFour_11 : decode cX12_putFour 11 = .ok (.aload_n 0, 1) := by decide +kernel
theorem dX12_putFour_12 : decode cX12_putFour 12 = .ok (.getfield 79, 3) := by decide +kernel
theorem dX12_putFour_15 : decode cX12_putFour 15 = .ok (.iload_n 1, 1) := by decide +kernel
theorem dX12_putFour_16 : decode cX12_putFour 16 = .ok (.iload_n 2, 1) := by decide +kernel
theorem dX12_putFour_17 : decode cX12_putFour 17 = .ok (.ishr, 1) := by decide +kernel
theorem dX12_putFour_18 : decode cX12_putFour 18 = .ok (.i2b, 1) := by decide +kernel
theorem dX12_putFour_19 : decode cX12_putFour 19 = .ok (.bastore, 1) := by decide +kernel
theorem dX12_putFour_20 : decode cX12_putFour 20 = .ok (.aload_n 0, 1) := by decide +kernel
theorem dX12_putFour_21 : decode cX12_putFour 21 = .ok (.dup, 1) := by decide +kernel
theorem dX12_putFour_22 : decode cX12_putFour 22 = .ok (.getfield 79, 3) := by decide +kernel
theorem dX12_putFour_25 : decode cX12_putFour 25 = .ok (.iconst 1, 1) := by decide +kernel
theorem dX12_putFour_26 : decode cX12_putFour 26 = .ok (.iadd, 1) := by decide +kernel
theorem dX12_putFour_27 : decode cX12_putFour 27 = .ok (.putfield 79, 3) := by decide +kernel
theorem dX12_putFour_30 : decode cX12_putFour 30 = .ok (.iinc 2 (-8), 3) := by decide +kernel
theorem dX12_putFour_33 : decode cX12_putFour 33 = .ok (.goto (-30), 3) := by decide +kernel
theorem dX12_putFour_36 : decode cX12_putFour 36 = .ok (.return_, 1) := by decide +kernel
def X12_putFour_b3 (k3 : Int32 → Int32 → Wd → Option (Wd)) (y1 : Int32) (y2 : Int32) (w : Wd) : Option (Wd) :=
  if y2 < 0 then
  (some w)
  else
  if inb (w.1 0 1) 900 = true then
  (lt (wI w 1 (Int32.toNatClampNeg (w.1 0 1)) (vp_nar .byte ((Int32.toInt8 (y1 >>> (y2 &&& 31))).toInt32))) fun w1 =>
  lt (wI w1 0 1 ((w1.1 0 1) + 1)) fun w2 =>
  k3 y1 (y2 + (-8)) w2)
  else none
set_option maxRecDepth 100000 in
set_option maxHeartbeats 4000000 in
theorem t_X12_putFour_b3 {Z : Cz (Wd)} (hZ : OKZ Z SM cX12_putFour RX12 3 none 1) (hE : EndV Z) (k3 : Int32 → Int32 → Wd → Option (Wd)) (hk3 : ∀ (y1 : Int32) (y2 : Int32)  (w : Wd), BW Z 3 3 [(0, .ref (ph (zY Z) 0)), (1, .int y1), (2, .int y2)] [] w (k3 y1 y2 w)) (y1 : Int32) (y2 : Int32)  (w : Wd) : BW Z 3 3 [(0, .ref (ph (zY Z) 0)), (1, .int y1), (2, .int y2)] [] w (X12_putFour_b3 k3 y1 y2 w) :=
  bw_iload_n hZ 2 rfl dX12_putFour_3 <|
  bw_if_lt hZ (tgt := 36) (by decide) dX12_putFour_4 (fun _ =>
  bw_vret hZ hE dX12_putFour_36) (fun _ =>
  bw_aload_n hZ 0 rfl dX12_putFour_7 <|
  bw_getR hZ fl_RX12_16 obM_0 rfl dX12_putFour_8 <|
  bw_aload_n hZ 0 rfl dX12_putFour_11 <|
  bw_getI hZ fl_RX12_79 (by decide) obM_0 dX12_putFour_12 <|
  bw_iload_n hZ 1 rfl dX12_putFour_15 <|
  bw_iload_n hZ 2 rfl dX12_putFour_16 <|
  bw_ishr hZ dX12_putFour_17 <|
  bw_i2b hZ dX12_putFour_18 <|
  bw_bast hZ (arM_1 _) dX12_putFour_19 fun w1 =>
  bw_aload_n hZ 0 rfl dX12_putFour_20 <|
  bw_dup hZ rfl dX12_putFour_21 <|
  bw_getI hZ fl_RX12_79 (by decide) obM_0 dX12_putFour_22 <|
  bw_iconst hZ 1 (by decide) dX12_putFour_25 <|
  bw_iadd hZ dX12_putFour_26 <|
  bw_putI hZ fl_RX12_79 rfl rfl (by decide) obM_0 dX12_putFour_27 fun w2 =>
  bw_iinc hZ (-8) 2 rfl (by decide) (by decide) rfl dX12_putFour_30 <|
  bw_goto hZ (tgt := 3) (by decide) dX12_putFour_33 <|
  bw_sub [1, 2, 0] rfl (hk3 y1 (y2 + (-8)) w2))
def X12_putFour_b3_L  : Int32 → Int32 → Wd → Option (Wd) :=
  lp fu (fun _ _ _ => none) (fun k3 => X12_putFour_b3 k3)
theorem t_X12_putFour_b3_L {Z : Cz (Wd)} (hZ : OKZ Z SM cX12_putFour RX12 3 none 1) (hE : EndV Z)  : ∀ (y1 : Int32) (y2 : Int32)  (w : Wd), BW Z 3 3 [(0, .ref (ph (zY Z) 0)), (1, .int y1), (2, .int y2)] [] w (X12_putFour_b3_L y1 y2 w) :=
  lp_bw (fun k3 => ∀ (y1 : Int32) (y2 : Int32)  (w : Wd), BW Z 3 3 [(0, .ref (ph (zY Z) 0)), (1, .int y1), (2, .int y2)] [] w (k3 y1 y2 w)) (fun _ _ _ => bw_none) (fun k3 hk3 y1 y2 w => t_X12_putFour_b3 hZ hE k3 hk3 y1 y2 w) fu
def f_X12_putFour (x1 : Int32) (w : Wd) : Option (Wd) :=
  X12_putFour_b3_L x1 24 w
set_option maxRecDepth 100000 in
set_option maxHeartbeats 4000000 in
theorem t_X12_putFour {Z : Cz (Wd)} (hZ : OKZ Z SM cX12_putFour RX12 3 none 1) (hE : EndV Z) (x1 : Int32)  (w : Wd) : BW Z 3 0 [(0, .ref (ph (zY Z) 0)), (1, .int x1)] [] w (f_X12_putFour x1 w) :=
  bw_bipush hZ 24 (by decide) dX12_putFour_0 <|
  bw_istore_n hZ rfl (by decide) rfl dX12_putFour_2 <|
  bw_sub [1, 2, 0] rfl (t_X12_putFour_b3_L hZ hE x1 24 w)
theorem c_X12_putFour (l : Launch) (Y : Ev) (hY : Y.1 = SM) (x1 : Int32)  (w : Wd) : CV l Y yX12_putFour cX12_putFour 3 1 [.ref (ph Y 0), .int x1] w (f_X12_putFour x1 w) := by
  refine CV_of (S := SM) (by decide) (Nat.le_of_ble_eq_true rfl) hY ?_
  intro Z hl hY2 hZ hE
  subst hY2
  exact t_X12_putFour hZ hE x1 w
-- WhichWillModel.feed
theorem dX12_feed_0 : decode cX12_feed 0 = .ok (.aload_n 0, 1) := by decide +kernel
theorem dX12_feed_1 : decode cX12_feed 1 = .ok (.getfield 79, 3) := by decide +kernel
theorem dX12_feed_4 : decode cX12_feed 4 = .ok (.bipush 20, 2) := by decide +kernel
theorem dX12_feed_6 : decode cX12_feed 6 = .ok (.iadd, 1) := by decide +kernel
theorem dX12_feed_7 : decode cX12_feed 7 = .ok (.sipush 900, 3) := by decide +kernel
theorem dX12_feed_10 : decode cX12_feed 10 = .ok (.if_icmp .le 6, 3) := by decide +kernel
theorem dX12_feed_13 : decode cX12_feed 13 = .ok (.bipush (-3), 2) := by decide +kernel
theorem dX12_feed_15 : decode cX12_feed 15 = .ok (.ireturn, 1) := by decide +kernel
theorem dX12_feed_16 : decode cX12_feed 16 = .ok (.aload_n 0, 1) := by decide +kernel
theorem dX12_feed_17 : decode cX12_feed 17 = .ok (.iload_n 1, 1) := by decide +kernel
theorem dX12_feed_18 : decode cX12_feed 18 = .ok (.invokevirtual 399, 3) := by decide +kernel
theorem dX12_feed_21 : decode cX12_feed 21 = .ok (.aload_n 0, 1) := by decide +kernel
theorem dX12_feed_22 : decode cX12_feed 22 = .ok (.iload_n 2, 1) := by decide +kernel
theorem dX12_feed_23 : decode cX12_feed 23 = .ok (.invokevirtual 399, 3) := by decide +kernel
theorem dX12_feed_26 : decode cX12_feed 26 = .ok (.aload_n 0, 1) := by decide +kernel
theorem dX12_feed_27 : decode cX12_feed 27 = .ok (.iload_n 3, 1) := by decide +kernel
theorem dX12_feed_28 : decode cX12_feed 28 = .ok (.invokevirtual 399, 3) := by decide +kernel
theorem dX12_feed_31 : decode cX12_feed 31 = .ok (.aload_n 0, 1) := by decide +kernel
theorem dX12_feed_32 : decode cX12_feed 32 = .ok (.iload 4, 2) := by decide +kernel
theorem dX12_feed_34 : decode cX12_feed 34 = .ok (.invokevirtual 399, 3) := by decide +kernel
theorem dX12_feed_37 : decode cX12_feed 37 = .ok (.aload_n 0, 1) := by decide +kernel
theorem dX12_feed_38 : decode cX12_feed 38 = .ok (.iload 5, 2) := by decide +kernel
theorem dX12_feed_40 : decode cX12_feed 40 = .ok (.invokevirtual 399, 3) := by decide +kernel
theorem dX12_feed_43 : decode cX12_feed 43 = .ok (.aload_n 0, 1) := by decide +kernel
theorem dX12_feed_44 : decode cX12_feed 44 = .ok (.getfield 79, 3) := by decide +kernel
theorem dX12_feed_47 : decode cX12_feed 47 = .ok (.ireturn, 1) := by decide +kernel
def f_X12_feed (x1 : Int32) (x2 : Int32) (x3 : Int32) (x4 : Int32) (x5 : Int32) (w : Wd) : Option (Int32 × Wd) :=
  if ((w.1 0 1) + 20) ≤ 900 then
  (cv (f_X12_putFour x1 w) fun w1 =>
  cv (f_X12_putFour x2 w1) fun w2 =>
  cv (f_X12_putFour x3 w2) fun w3 =>
  cv (f_X12_putFour x4 w3) fun w4 =>
  cv (f_X12_putFour x5 w4) fun w5 =>
  some (w5.1 0 1, w5))
  else
  some ((-3), w)
set_option maxRecDepth 100000 in
set_option maxHeartbeats 4000000 in
theorem t_X12_feed {Z : Cz (Int32 × Wd)} (hZ : OKZ Z SM cX12_feed RX12 6 (some .int) 2) (hE : EndI Z) (x1 : Int32) (x2 : Int32) (x3 : Int32) (x4 : Int32) (x5 : Int32)  (w : Wd) : BW Z 6 0 [(0, .ref (ph (zY Z) 0)), (1, .int x1), (2, .int x2), (3, .int x3), (4, .int x4), (5, .int x5)] [] w (f_X12_feed x1 x2 x3 x4 x5 w) :=
  bw_aload_n hZ 0 rfl dX12_feed_0 <|
  bw_getI hZ fl_RX12_79 (by decide) obM_0 dX12_feed_1 <|
  bw_bipush hZ 20 (by decide) dX12_feed_4 <|
  bw_iadd hZ dX12_feed_6 <|
  bw_sipush hZ 900 (by decide) dX12_feed_7 <|
  bw_icmp_le hZ (tgt := 16) (by decide) dX12_feed_10 (fun _ =>
  bw_aload_n hZ 0 rfl dX12_feed_16 <|
  bw_iload_n hZ 1 rfl dX12_feed_17 <|
  bw_callVV (As := [.int x1]) hZ ml_RX12_399 rc_12 obM_0 (by decide) (c_X12_putFour (zl Z) (zY Z) (hZ_S hZ) x1 w) rfl rfl (Nat.le_of_ble_eq_true rfl) dX12_feed_18 fun w1 =>
  bw_aload_n hZ 0 rfl dX12_feed_21 <|
  bw_iload_n hZ 2 rfl dX12_feed_22 <|
  bw_callVV (As := [.int x2]) hZ ml_RX12_399 rc_12 obM_0 (by decide) (c_X12_putFour (zl Z) (zY Z) (hZ_S hZ) x2 w1) rfl rfl (Nat.le_of_ble_eq_true rfl) dX12_feed_23 fun w2 =>
  bw_aload_n hZ 0 rfl dX12_feed_26 <|
  bw_iload_n hZ 3 rfl dX12_feed_27 <|
  bw_callVV (As := [.int x3]) hZ ml_RX12_399 rc_12 obM_0 (by decide) (c_X12_putFour (zl Z) (zY Z) (hZ_S hZ) x3 w2) rfl rfl (Nat.le_of_ble_eq_true rfl) dX12_feed_28 fun w3 =>
  bw_aload_n hZ 0 rfl dX12_feed_31 <|
  bw_iload hZ 4 rfl dX12_feed_32 <|
  bw_callVV (As := [.int x4]) hZ ml_RX12_399 rc_12 obM_0 (by decide) (c_X12_putFour (zl Z) (zY Z) (hZ_S hZ) x4 w3) rfl rfl (Nat.le_of_ble_eq_true rfl) dX12_feed_34 fun w4 =>
  bw_aload_n hZ 0 rfl dX12_feed_37 <|
  bw_iload hZ 5 rfl dX12_feed_38 <|
  bw_callVV (As := [.int x5]) hZ ml_RX12_399 rc_12 obM_0 (by decide) (c_X12_putFour (zl Z) (zY Z) (hZ_S hZ) x5 w4) rfl rfl (Nat.le_of_ble_eq_true rfl) dX12_feed_40 fun w5 =>
  bw_aload_n hZ 0 rfl dX12_feed_43 <|
  bw_getI hZ fl_RX12_79 (by decide) obM_0 dX12_feed_44 <|
  bw_iret hZ hE dX12_feed_47) (fun _ =>
  bw_bipush hZ (-3) (by decide) dX12_feed_13 <|
  bw_iret hZ hE dX12_feed_15)
theorem c_X12_feed (l : Launch) (Y : Ev) (hY : Y.1 = SM) (x1 : Int32) (x2 : Int32) (x3 : Int32) (x4 : Int32) (x5 : Int32)  (w : Wd) : CI l Y yX12_feed cX12_feed 6 2 [.ref (ph Y 0), .int x1, .int x2, .int x3, .int x4, .int x5] w .int (f_X12_feed x1 x2 x3 x4 x5 w) := by
  refine CI_of (S := SM) (by decide) (Nat.le_of_ble_eq_true rfl) hY ?_
  intro Z hl hY2 hZ hE
  subst hY2
  exact t_X12_feed hZ hE x1 x2 x3 x4 x5 w
-- WhichWillModel.end
theorem dX12_end_0 : decode cX12_end 0 = .ok (.iload_n 1, 1) := by decide +kernel
theorem dX12_end_1 : decode cX12_end 1 = .ok (.i2l, 1) := by decide +kernel
theorem dX12_end_2 : decode cX12_end 2 = .ok (.lconst 0, 1) := by decide +kernel
theorem dX12_end_3 : decode cX12_end 3 = .ok (.aload_n 0, 1) := by decide +kernel
theorem dX12_end_4 : decode cX12_end 4 = .ok (.getfield 79, 3) := by decide +kernel
theorem dX12_end_7 : decode cX12_end 7 = .ok (.i2l, 1) := by decide +kernel
theorem dX12_end_8 : decode cX12_end 8 = .ok (.invokestatic 60, 3) := by decide +kernel
theorem dX12_end_11 : decode cX12_end 11 = .ok (.ifCond .ne 5, 3) := by decide +kernel
theorem dX12_end_14 : decode cX12_end 14 = .ok (.iconst (-1), 1) := by decide +kernel
theorem dX12_end_15 : decode cX12_end 15 = .ok (.ireturn, 1) := by decide +kernel
theorem dX12_end_16 : decode cX12_end 16 = .ok (.aload_n 0, 1) := by decide +kernel
theorem dX12_end_17 : decode cX12_end 17 = .ok (.iload_n 1, 1) := by decide +kernel
theorem dX12_end_18 : decode cX12_end 18 = .ok (.putfield 79, 3) := by decide +kernel
theorem dX12_end_21 : decode cX12_end 21 = .ok (.iload_n 1, 1) := by decide +kernel
theorem dX12_end_22 : decode cX12_end 22 = .ok (.ireturn, 1) := by decide +kernel
def f_X12_end (x1 : Int32) (w : Wd) : Option (Int32 × Wd) :=
  cl (f_X12_in (Int32.toInt64 x1) 0 (Int32.toInt64 (w.1 0 1)) w) fun r2 w1 =>
  if r2 = 0 then
  (some ((-1), w1))
  else
  lt (wI w1 0 1 x1) fun w3 =>
  some (x1, w3)
set_option maxRecDepth 100000 in
set_option maxHeartbeats 4000000 in
theorem t_X12_end {Z : Cz (Int32 × Wd)} (hZ : OKZ Z SM cX12_end RX12 2 (some .int) 2) (hE : EndI Z) (x1 : Int32)  (w : Wd) : BW Z 2 0 [(0, .ref (ph (zY Z) 0)), (1, .int x1)] [] w (f_X12_end x1 w) :=
  bw_iload_n hZ 1 rfl dX12_end_0 <|
  bw_i2l hZ dX12_end_1 <|
  bw_lconst hZ 0 (by decide) dX12_end_2 <|
  bw_aload_n hZ 0 rfl dX12_end_3 <|
  bw_getI hZ fl_RX12_79 (by decide) obM_0 dX12_end_4 <|
  bw_i2l hZ dX12_end_7 <|
  bw_callSI (As := [.long (Int32.toInt64 x1), .long 0, .long (Int32.toInt64 (w.1 0 1))]) hZ ms_RX12_60 (by decide) (c_X12_in (zl Z) (zY Z) (hZ_S hZ) (Int32.toInt64 x1) 0 (Int32.toInt64 (w.1 0 1)) w) rfl rfl (Nat.le_of_ble_eq_true rfl) dX12_end_8 fun r2 w1 =>
  bw_if_ne hZ (tgt := 16) (by decide) dX12_end_11 (fun _ =>
  bw_aload_n hZ 0 rfl dX12_end_16 <|
  bw_iload_n hZ 1 rfl dX12_end_17 <|
  bw_putI hZ fl_RX12_79 rfl rfl (by decide) obM_0 dX12_end_18 fun w3 =>
  bw_iload_n hZ 1 rfl dX12_end_21 <|
  bw_iret hZ hE dX12_end_22) (fun _ =>
  bw_iconst hZ (-1) (by decide) dX12_end_14 <|
  bw_iret hZ hE dX12_end_15)
theorem c_X12_end (l : Launch) (Y : Ev) (hY : Y.1 = SM) (x1 : Int32)  (w : Wd) : CI l Y yX12_end cX12_end 2 2 [.ref (ph Y 0), .int x1] w .int (f_X12_end x1 w) := by
  refine CI_of (S := SM) (by decide) (Nat.le_of_ble_eq_true rfl) hY ?_
  intro Z hl hY2 hZ hE
  subst hY2
  exact t_X12_end hZ hE x1 w
-- WhichWillModel.firstOf
theorem dX12_firstOf_0 : decode cX12_firstOf 0 = .ok (.iload_n 1, 1) := by decide +kernel
theorem dX12_firstOf_1 : decode cX12_firstOf 1 = .ok (.aload_n 0, 1) := by decide +kernel
theorem dX12_firstOf_2 : decode cX12_firstOf 2 = .ok (.getfield 431, 3) := by decide +kernel
theorem dX12_firstOf_5 : decode cX12_firstOf 5 = .ok (.if_icmp .ge 12, 3) := by decide +kernel
theorem dX12_firstOf_8 : decode cX12_firstOf 8 = .ok (.aload_n 0, 1) := by decide +kernel
theorem dX12_firstOf_9 : decode cX12_firstOf 9 = .ok (.getfield 270, 3) := by decide +kernel
theorem dX12_firstOf_12 : decode cX12_firstOf 12 = .ok (.iload_n 1, 1) := by decide +kernel
theorem dX12_firstOf_13 : decode cX12_firstOf 13 = .ok (.iaload, 1) := by decide +kernel
theorem dX12_firstOf_14 : decode cX12_firstOf 14 = .ok (.goto 14, 3) := by decide +kernel
theorem dX12_firstOf_17 : decode cX12_firstOf 17 = .ok (.aload_n 0, 1) := by decide +kernel
theorem dX12_firstOf_18 : decode cX12_firstOf 18 = .ok (.getfield 330, 3) := by decide +kernel
theorem dX12_firstOf_21 : decode cX12_firstOf 21 = .ok (.iload_n 1, 1) := by decide +kernel
theorem dX12_firstOf_22 : decode cX12_firstOf 22 = .ok (.aload_n 0, 1) := by decide +kernel
theorem dX12_firstOf_23 : decode cX12_firstOf 23 = .ok (.getfield 431, 3) := by decide +kernel
theorem dX12_firstOf_26 : decode cX12_firstOf 26 = .ok (.isub, 1) := by decide +kernel
theorem dX12_firstOf_27 : decode cX12_firstOf 27 = .ok (.iaload, 1) := by decide +kernel
theorem dX12_firstOf_28 : decode cX12_firstOf 28 = .ok (.ireturn, 1) := by decide +kernel
def f_X12_firstOf (x1 : Int32) (w : Wd) : Option (Int32 × Wd) :=
  if (w.1 0 49) ≤ x1 then
  (if inb (x1 - (w.1 0 49)) 3 = true then
  (some (w.1 40 (Int32.toNatClampNeg (x1 - (w.1 0 49))), w))
  else none)
  else
  if inb x1 4 = true then
  (some (w.1 20 (Int32.toNatClampNeg x1), w))
  else none
set_option maxRecDepth 100000 in
set_option maxHeartbeats 4000000 in
theorem t_X12_firstOf {Z : Cz (Int32 × Wd)} (hZ : OKZ Z SM cX12_firstOf RX12 2 (some .int) 1) (hE : EndI Z) (x1 : Int32)  (w : Wd) : BW Z 2 0 [(0, .ref (ph (zY Z) 0)), (1, .int x1)] [] w (f_X12_firstOf x1 w) :=
  bw_iload_n hZ 1 rfl dX12_firstOf_0 <|
  bw_aload_n hZ 0 rfl dX12_firstOf_1 <|
  bw_getI hZ fl_RX12_431 (by decide) obM_0 dX12_firstOf_2 <|
  bw_icmp_ge hZ (tgt := 17) (by decide) dX12_firstOf_5 (fun _ =>
  bw_aload_n hZ 0 rfl dX12_firstOf_17 <|
  bw_getR hZ fl_RX12_330 obM_0 rfl dX12_firstOf_18 <|
  bw_iload_n hZ 1 rfl dX12_firstOf_21 <|
  bw_aload_n hZ 0 rfl dX12_firstOf_22 <|
  bw_getI hZ fl_RX12_431 (by decide) obM_0 dX12_firstOf_23 <|
  bw_isub hZ dX12_firstOf_26 <|
  bw_iald hZ (arM_40 _) dX12_firstOf_27 <|
  bw_iret hZ hE dX12_firstOf_28) (fun _ =>
  bw_aload_n hZ 0 rfl dX12_firstOf_8 <|
  bw_getR hZ fl_RX12_270 obM_0 rfl dX12_firstOf_9 <|
  bw_iload_n hZ 1 rfl dX12_firstOf_12 <|
  bw_iald hZ (arM_20 _) dX12_firstOf_13 <|
  bw_goto hZ (tgt := 28) (by decide) dX12_firstOf_14 <|
  bw_iret hZ hE dX12_firstOf_28)
theorem c_X12_firstOf (l : Launch) (Y : Ev) (hY : Y.1 = SM) (x1 : Int32)  (w : Wd) : CI l Y yX12_firstOf cX12_firstOf 2 1 [.ref (ph Y 0), .int x1] w .int (f_X12_firstOf x1 w) := by
  refine CI_of (S := SM) (by decide) (Nat.le_of_ble_eq_true rfl) hY ?_
  intro Z hl hY2 hZ hE
  subst hY2
  exact t_X12_firstOf hZ hE x1 w
-- WhichWillModel.items
theorem dX12_items_0 : decode cX12_items 0 = .ok (.aload_n 0, 1) := by decide +kernel
theorem dX12_items_1 : decode cX12_items 1 = .ok (.getfield 431, 3) := by decide +kernel
theorem dX12_items_4 : decode cX12_items 4 = .ok (.aload_n 0, 1) := by decide +kernel
theorem dX12_items_5 : decode cX12_items 5 = .ok (.getfield 434, 3) := by decide +kernel
theorem dX12_items_8 : decode cX12_items 8 = .ok (.iadd, 1) := by decide +kernel
theorem dX12_items_9 : decode cX12_items 9 = .ok (.ireturn, 1) := by decide +kernel
def f_X12_items (w : Wd) : Option (Int32 × Wd) :=
  some ((w.1 0 49) + (w.1 0 50), w)
set_option maxRecDepth 100000 in
set_option maxHeartbeats 4000000 in
theorem t_X12_items {Z : Cz (Int32 × Wd)} (hZ : OKZ Z SM cX12_items RX12 1 (some .int) 1) (hE : EndI Z)   (w : Wd) : BW Z 1 0 [(0, .ref (ph (zY Z) 0))] [] w (f_X12_items w) :=
  bw_aload_n hZ 0 rfl dX12_items_0 <|
  bw_getI hZ fl_RX12_431 (by decide) obM_0 dX12_items_1 <|
  bw_aload_n hZ 0 rfl dX12_items_4 <|
  bw_getI hZ fl_RX12_434 (by decide) obM_0 dX12_items_5 <|
  bw_iadd hZ dX12_items_8 <|
  bw_iret hZ hE dX12_items_9
theorem c_X12_items (l : Launch) (Y : Ev) (hY : Y.1 = SM)   (w : Wd) : CI l Y yX12_items cX12_items 1 1 [.ref (ph Y 0)] w .int (f_X12_items w) := by
  refine CI_of (S := SM) (by decide) (Nat.le_of_ble_eq_true rfl) hY ?_
  intro Z hl hY2 hZ hE
  subst hY2
  exact t_X12_items hZ hE w
-- WhichWillModel.lastOf
theorem dX12_lastOf_0 : decode cX12_lastOf 0 = .ok (.iload_n 1, 1) := by decide +kernel
theorem dX12_lastOf_1 : decode cX12_lastOf 1 = .ok (.aload_n 0, 1) := by decide +kernel
theorem dX12_lastOf_2 : decode cX12_lastOf 2 = .ok (.getfield 431, 3) := by decide +kernel
theorem dX12_lastOf_5 : decode cX12_lastOf 5 = .ok (.if_icmp .ge 12, 3) := by decide +kernel
theorem dX12_lastOf_8 : decode cX12_lastOf 8 = .ok (.aload_n 0, 1) := by decide +kernel
theorem dX12_lastOf_9 : decode cX12_lastOf 9 = .ok (.getfield 273, 3) := by decide +kernel
theorem dX12_lastOf_12 : decode cX12_lastOf 12 = .ok (.iload_n 1, 1) := by decide +kernel
theorem dX12_lastOf_13 : decode cX12_lastOf 13 = .ok (.iaload, 1) := by decide +kernel
theorem dX12_lastOf_14 : decode cX12_lastOf 14 = .ok (.goto 14, 3) := by decide +kernel
theorem dX12_lastOf_17 : decode cX12_lastOf 17 = .ok (.aload_n 0, 1) := by decide +kernel
theorem dX12_lastOf_18 : decode cX12_lastOf 18 = .ok (.getfield 333, 3) := by decide +kernel
theorem dX12_lastOf_21 : decode cX12_lastOf 21 = .ok (.iload_n 1, 1) := by decide +kernel
theorem dX12_lastOf_22 : decode cX12_lastOf 22 = .ok (.aload_n 0, 1) := by decide +kernel
theorem dX12_lastOf_23 : decode cX12_lastOf 23 = .ok (.getfield 431, 3) := by decide +kernel
theorem dX12_lastOf_26 : decode cX12_lastOf 26 = .ok (.isub, 1) := by decide +kernel
theorem dX12_lastOf_27 : decode cX12_lastOf 27 = .ok (.iaload, 1) := by decide +kernel
theorem dX12_lastOf_28 : decode cX12_lastOf 28 = .ok (.ireturn, 1) := by decide +kernel
def f_X12_lastOf (x1 : Int32) (w : Wd) : Option (Int32 × Wd) :=
  if (w.1 0 49) ≤ x1 then
  (if inb (x1 - (w.1 0 49)) 3 = true then
  (some (w.1 41 (Int32.toNatClampNeg (x1 - (w.1 0 49))), w))
  else none)
  else
  if inb x1 4 = true then
  (some (w.1 21 (Int32.toNatClampNeg x1), w))
  else none
set_option maxRecDepth 100000 in
set_option maxHeartbeats 4000000 in
theorem t_X12_lastOf {Z : Cz (Int32 × Wd)} (hZ : OKZ Z SM cX12_lastOf RX12 2 (some .int) 1) (hE : EndI Z) (x1 : Int32)  (w : Wd) : BW Z 2 0 [(0, .ref (ph (zY Z) 0)), (1, .int x1)] [] w (f_X12_lastOf x1 w) :=
  bw_iload_n hZ 1 rfl dX12_lastOf_0 <|
  bw_aload_n hZ 0 rfl dX12_lastOf_1 <|
  bw_getI hZ fl_RX12_431 (by decide) obM_0 dX12_lastOf_2 <|
  bw_icmp_ge hZ (tgt := 17) (by decide) dX12_lastOf_5 (fun _ =>
  bw_aload_n hZ 0 rfl dX12_lastOf_17 <|
  bw_getR hZ fl_RX12_333 obM_0 rfl dX12_lastOf_18 <|
  bw_iload_n hZ 1 rfl dX12_lastOf_21 <|
  bw_aload_n hZ 0 rfl dX12_lastOf_22 <|
  bw_getI hZ fl_RX12_431 (by decide) obM_0 dX12_lastOf_23 <|
  bw_isub hZ dX12_lastOf_26 <|
  bw_iald hZ (arM_41 _) dX12_lastOf_27 <|
  bw_iret hZ hE dX12_lastOf_28) (fun _ =>
  bw_aload_n hZ 0 rfl dX12_lastOf_8 <|
  bw_getR hZ fl_RX12_273 obM_0 rfl dX12_lastOf_9 <|
  bw_iload_n hZ 1 rfl dX12_lastOf_12 <|
  bw_iald hZ (arM_21 _) dX12_lastOf_13 <|
  bw_goto hZ (tgt := 28) (by decide) dX12_lastOf_14 <|
  bw_iret hZ hE dX12_lastOf_28)
theorem c_X12_lastOf (l : Launch) (Y : Ev) (hY : Y.1 = SM) (x1 : Int32)  (w : Wd) : CI l Y yX12_lastOf cX12_lastOf 2 1 [.ref (ph Y 0), .int x1] w .int (f_X12_lastOf x1 w) := by
  refine CI_of (S := SM) (by decide) (Nat.le_of_ble_eq_true rfl) hY ?_
  intro Z hl hY2 hZ hE
  subst hY2
  exact t_X12_lastOf hZ hE x1 w
-- WhichWillModel.orderFrom
theorem dX12_orderFrom_0 : decode cX12_orderFrom 0 = .ok (.iload_n 1, 1) := by decide +kernel
theorem dX12_orderFrom_1 : decode cX12_orderFrom 1 = .ok (.aload_n 0, 1) := by decide +kernel
theorem dX12_orderFrom_2 : decode cX12_orderFrom 2 = .ok (.invokevirtual 552, 3) := by decide +kernel
theorem dX12_orderFrom_5 : decode cX12_orderFrom 5 = .ok (.if_icmp .ne 51, 3) := by decide +kernel
theorem dX12_orderFrom_8 : decode cX12_orderFrom 8 = .ok (.iconst 0, 1) := by decide +kernel
theorem dX12_orderFrom_9 : decode cX12_orderFrom 9 = .ok (.istore 4, 2) := by decide +kernel
theorem dX12_orderFrom_11 : decode cX12_orderFrom 11 = .ok (.iload 4, 2) := by decide +kernel
theorem dX12_orderFrom_13 : decode cX12_orderFrom 13 = .ok (.iload_n 1, 1) := by decide +kernel
theorem dX12_orderFrom_14 : decode cX12_orderFrom 14 = .ok (.if_icmp .ge 31, 3) := by decide +kernel
theorem dX12_orderFrom_17 : decode cX12_orderFrom 17 = .ok (.aload_n 0, 1) := by decide +kernel
theorem dX12_orderFrom_18 : decode cX12_orderFrom 18 = .ok (.getfield 339, 3) := by decide +kernel
theorem dX12_orderFrom_21 : decode cX12_orderFrom 21 = .ok (.bipush 6, 2) := by decide +kernel
theorem dX12_orderFrom_23 : decode cX12_orderFrom 23 = .ok (.aload_n 0, 1) := by decide +kernel
theorem dX12_orderFrom_24 : decode cX12_orderFrom 24 = .ok (.getfield 541, 3) := by decide +kernel
theorem dX12_orderFrom_27 : decode cX12_orderFrom 27 = .ok (.imul, 1) := by decide +kernel
theorem dX12_orderFrom_28 : decode cX12_orderFrom 28 = .ok (.iload 4, 2) := by decide +kernel
theorem dX12_orderFrom_30 : decode cX12_orderFrom 30 = .ok (.iadd, 1) := by decide +kernel
theorem dX12_orderFrom_31 : decode cX12_orderFrom 31 = .ok (.aload_n 0, 1) := by decide +kernel
theorem dX12_orderFrom_32 : decode cX12_orderFrom 32 = .ok (.getfield 342, 3) := by decide +kernel
theorem dX12_orderFrom_35 : decode cX12_orderFrom 35 = .ok (.iload 4, 2) := by decide +kernel
theorem dX12_orderFrom_37 : decode cX12_orderFrom 37 = .ok (.iaload, 1) := by decide +kernel
theorem dX12_orderFrom_38 : decode cX12_orderFrom 38 = .ok (.iastore, 1) := by decide +kernel
theorem dX12_orderFrom_39 : decode cX12_orderFrom 39 = .ok (.iinc 4 1, 3) := by decide +kernel
theorem dX12_orderFrom_42 : decode cX12_orderFrom 42 = .ok (.goto (-31), 3) := by decide +kernel
theorem dX12_orderFrom_45 : decode cX12_orderFrom 45 = .ok (.aload_n 0, 1) := by decide +kernel
theorem dX12_orderFrom_46 : decode cX12_orderFrom 46 = .ok (.dup, 1) := by decide +kernel
theorem dX12_orderFrom_47 : decode cX12_orderFrom 47 = .ok (.getfield 541, 3) := by decide +kernel
theorem dX12_orderFrom_50 : decode cX12_orderFrom 50 = .ok (.iconst 1, 1) := by decide +kernel
theorem dX12_orderFrom_51 : decode cX12_orderFrom 51 = .ok (.iadd, 1) := by decide +kernel
theorem dX12_orderFrom_52 : decode cX12_orderFrom 52 = .ok (.putfield 541, 3) := by decide +kernel
theorem dX12_orderFrom_55 : decode cX12_orderFrom 55 = .ok (.return_, 1) := by decide +kernel
theorem dX12_orderFrom_56 : decode cX12_orderFrom 56 = .ok (.iconst 0, 1) := by decide +kernel
theorem dX12_orderFrom_57 : decode cX12_orderFrom 57 = .ok (.istore 4, 2) := by decide +kernel
theorem dX12_orderFrom_59 : decode cX12_orderFrom 59 = .ok (.iload 4, 2) := by decide +kernel
theorem dX12_orderFrom_61 : decode cX12_orderFrom 61 = .ok (.aload_n 0, 1) := by decide +kernel
theorem dX12_orderFrom_62 : decode cX12_orderFrom 62 = .ok (.invokevirtual 552, 3) := by decide +kernel
theorem dX12_orderFrom_65 : decode cX12_orderFrom 65 = .ok (.if_icmp .ge 68, 3) := by decide +kernel
theorem dX12_orderFrom_68 : decode cX12_orderFrom 68 = .ok (.iload_n 3, 1) := by decide +kernel
theorem dX12_orderFrom_69 : decode cX12_orderFrom 69 = .ok (.aload_n 0, 1) := by decide +kernel
theorem dX12_orderFrom_70 : decode cX12_orderFrom 70 = .ok (.iload 4, 2) := by decide +kernel
theorem dX12_orderFrom_72 : decode cX12_orderFrom 72 = .ok (.invokevirtual 555, 3) := by decide +kernel
theorem dX12_orderFrom_75 : decode cX12_orderFrom 75 = .ok (.invokestatic 558, 3) := by decide +kernel
theorem dX12_orderFrom_78 : decode cX12_orderFrom 78 = .ok (.istore 5, 2) := by decide +kernel
theorem dX12_orderFrom_80 : decode cX12_orderFrom 80 = .ok (.iload_n 2, 1) := by decide +kernel
theorem dX12_orderFrom_81 : decode cX12_orderFrom 81 = .ok (.iload 4, 2) := by decide +kernel
theorem dX12_orderFrom_83 : decode cX12_orderFrom 83 = .ok (.ishr, 1) := by decide +kernel
theorem dX12_orderFrom_84 : decode cX12_orderFrom 84 = .ok (.iconst 1, 1) := by decide +kernel
theorem dX12_orderFrom_85 : decode cX12_orderFrom 85 = .ok (.iand, 1) := by decide +kernel
theorem dX12_orderFrom_86 : decode cX12_orderFrom 86 = .ok (.iconst 1, 1) := by decide +kernel
theorem dX12_orderFrom_87 : decode cX12_orderFrom 87 = .ok (.if_icmp .eq 40, 3) := by decide +kernel
theorem dX12_orderFrom_90 : decode cX12_orderFrom 90 = .ok (.iload 5, 2) := by decide +kernel
theorem dX12_orderFrom_92 : decode cX12_orderFrom 92 = .ok (.aload_n 0, 1) := by decide +kernel
theorem dX12_orderFrom_93 : decode cX12_orderFrom 93 = .ok (.iload 4, 2) := by decide +kernel
theorem dX12_orderFrom_95 : decode cX12_orderFrom 95 = .ok (.invokevirtual 564, 3) := by decide +kernel
theorem dX12_orderFrom_98 : decode cX12_orderFrom 98 = .ok (.if_icmp .le 6, 3) := by decide +kernel
theorem dX12_orderFrom_101 : decode cX12_orderFrom 101 = .ok (.goto 26, 3) := by decide +kernel
theorem dX12_orderFrom_104 : decode cX12_orderFrom 104 = .ok (.aload_n 0, 1) := by decide +kernel
theorem dX12_orderFrom_105 : decode cX12_orderFrom 105 = .ok (.getfield 342, 3) := by decide +kernel
theorem dX12_orderFrom_108 : decode cX12_orderFrom 108 = .ok (.iload_n 1, 1) := by decide +kernel
theorem dX12_orderFrom_109 : decode cX12_orderFrom 109 = .ok (.iload 4, 2) := by decide +kernel
theorem dX12_orderFrom_111 : decode cX12_orderFrom 111 = .ok (.iastore, 1) := by decide +kernel
theorem dX12_orderFrom_112 : decode cX12_orderFrom 112 = .ok (.aload_n 0, 1) := by decide +kernel
theorem dX12_orderFrom_113 : decode cX12_orderFrom 113 = .ok (.iload_n 1, 1) := by decide +kernel
theorem dX12_orderFrom_114 : decode cX12_orderFrom 114 = .ok (.iconst 1, 1) := by decide +kernel
theorem dX12_orderFrom_115 : decode cX12_orderFrom 115 = .ok (.iadd, 1) := by decide +kernel
theorem dX12_orderFrom_116 : decode cX12_orderFrom 116 = .ok (.iload_n 2, 1) := by decide +kernel
theorem dX12_orderFrom_117 : decode cX12_orderFrom 117 = .ok (.iconst 1, 1) := by decide +kernel
theorem dX12_orderFrom_118 : decode cX12_orderFrom 118 = .ok (.iload 4, 2) := by decide +kernel
theorem dX12_orderFrom_120 : decode cX12_orderFrom 120 = .ok (.ishl, 1) := by decide +kernel
theorem dX12_orderFrom_121 : decode cX12_orderFrom 121 = .ok (.ior, 1) := by decide +kernel
theorem dX12_orderFrom_122 : decode cX12_orderFrom 122 = .ok (.iload 5, 2) := by decide +kernel
theorem dX12_orderFrom_124 : decode cX12_orderFrom 124 = .ok (.invokevirtual 548, 3) := by decide +kernel
theorem dX12_orderFrom_127 : decode cX12_orderFrom 127 = .ok (.iinc 4 1, 3) := by decide +kernel
theorem dX12_orderFrom_130 : decode cX12_orderFrom 130 = .ok (.goto (-71), 3) := by decide +kernel
theorem dX12_orderFrom_133 : decode cX12_orderFrom 133 = .ok (.return_, 1) := by decide +kernel
def X12_orderFrom_b59 (rec : Int32 → Int32 → Int32 → Wd → Option (Wd)) (k59 : Int32 → Int32 → Int32 → Int32 → Wd → Option (Wd)) (y1 : Int32) (y2 : Int32) (y3 : Int32) (y4 : Int32) (w : Wd) : Option (Wd) :=
  cl (f_X12_items w) fun r4 w3 =>
  if r4 ≤ y4 then
  (some w3)
  else
  cl (f_X12_firstOf y4 w3) fun r6 w5 =>
  lt (if y3 < r6 then r6 else y3) fun v7 =>
  if ((y2 >>> (y4 &&& 31)) &&& 1) = 1 then
  (k59 y1 y2 y3 (y4 + 1) w5)
  else
  cl (f_X12_lastOf y4 w5) fun r9 w8 =>
  if v7 ≤ r9 then
  (if inb y1 6 = true then
  (lt (wI w8 44 (Int32.toNatClampNeg y1) y4) fun w10 =>
  cv (rec (y1 + 1) (y2 ||| (1 <<< (y4 &&& 31))) v7 w10) fun w11 =>
  k59 y1 y2 y3 (y4 + 1) w11)
  else none)
  else
  k59 y1 y2 y3 (y4 + 1) w8
set_option maxRecDepth 100000 in
set_option maxHeartbeats 4000000 in
theorem t_X12_orderFrom_b59 {dd d2 : Nat} {Z : Cz (Wd)} (hZ : OKZ Z SM cX12_orderFrom RX12 6 none dd) (hE : EndV Z) (rec : Int32 → Int32 → Int32 → Wd → Option (Wd)) (hdd : 2 ≤ dd) (hd2 : d2 < dd) (hrec : ∀ (x1 : Int32) (x2 : Int32) (x3 : Int32)  (w : Wd), CV (zl Z) (zY Z) yX12_orderFrom cX12_orderFrom 6 d2 [.ref (ph (zY Z) 0), .int x1, .int x2, .int x3] w (rec x1 x2 x3 w)) (k59 : Int32 → Int32 → Int32 → Int32 → Wd → Option (Wd)) (hk59 : ∀ (y1 : Int32) (y2 : Int32) (y3 : Int32) (y4 : Int32)  (w : Wd), BW Z 6 59 [(0, .ref (ph (zY Z) 0)), (1, .int y1), (2, .int y2), (3, .int y3), (4, .int y4)] [] w (k59 y1 y2 y3 y4 w)) (y1 : Int32) (y2 : Int32) (y3 : Int32) (y4 : Int32)  (w : Wd) : BW Z 6 59 [(0, .ref (ph (zY Z) 0)), (1, .int y1), (2, .int y2), (3, .int y3), (4, .int y4)] [] w (X12_orderFrom_b59 rec k59 y1 y2 y3 y4 w) :=
  bw_iload hZ 4 rfl dX12_orderFrom_59 <|
  bw_aload_n hZ 0 rfl dX12_orderFrom_61 <|
  bw_callVI (As := []) hZ ml_RX12_552 rc_12 obM_0 (Nat.lt_of_lt_of_le (by decide) hdd) (c_X12_items (zl Z) (zY Z) (hZ_S hZ) w) rfl rfl (Nat.le_of_ble_eq_true rfl) dX12_orderFrom_62 fun r4 w3 =>
  bw_icmp_ge hZ (tgt := 133) (by decide) dX12_orderFrom_65 (fun _ =>
  bw_vret hZ hE dX12_orderFrom_133) (fun _ =>
  bw_iload_n hZ 3 rfl dX12_orderFrom_68 <|
  bw_aload_n hZ 0 rfl dX12_orderFrom_69 <|
  bw_iload hZ 4 rfl dX12_orderFrom_70 <|
  bw_callVI (As := [.int y4]) hZ ml_RX12_555 rc_12 obM_0 (Nat.lt_of_lt_of_le (by decide) hdd) (c_X12_firstOf (zl Z) (zY Z) (hZ_S hZ) y4 w3) rfl rfl (Nat.le_of_ble_eq_true rfl) dX12_orderFrom_72 fun r6 w5 =>
  bw_mmax hZ kl_RX12_558 km_max (Nat.lt_of_lt_of_le (by decide) hdd) (Nat.le_of_ble_eq_true rfl) dX12_orderFrom_75 <|
  bw_nm fun v7 =>
  bw_istore hZ (by decide) rfl dX12_orderFrom_78 <|
  bw_iload_n hZ 3 rfl dX12_orderFrom_80 <|
  bw_iload hZ 5 rfl dX12_orderFrom_81 <|
  bw_ishr hZ dX12_orderFrom_83 <|
  bw_iconst hZ 1 (by decide) dX12_orderFrom_84 <|
  bw_iand hZ dX12_orderFrom_85 <|
  bw_iconst hZ 1 (by decide) dX12_orderFrom_86 <|
  bw_icmp_eq hZ (tgt := 127) (by decide) dX12_orderFrom_87 (fun _ =>
  bw_iinc hZ 1 5 rfl (by decide) (by decide) rfl dX12_orderFrom_127 <|
  bw_goto hZ (tgt := 59) (by decide) dX12_orderFrom_130 <|
  bw_sub [2, 3, 4, 5, 0] rfl (hk59 y1 y2 y3 (y4 + 1) w5)) (fun _ =>
  bw_iload hZ 0 rfl dX12_orderFrom_90 <|
  bw_aload_n hZ 1 rfl dX12_orderFrom_92 <|
  bw_iload hZ 5 rfl dX12_orderFrom_93 <|
  bw_callVI (As := [.int y4]) hZ ml_RX12_564 rc_12 obM_0 (Nat.lt_of_lt_of_le (by decide) hdd) (c_X12_lastOf (zl Z) (zY Z) (hZ_S hZ) y4 w5) rfl rfl (Nat.le_of_ble_eq_true rfl) dX12_orderFrom_95 fun r9 w8 =>
  bw_icmp_le hZ (tgt := 104) (by decide) dX12_orderFrom_98 (fun _ =>
  bw_aload_n hZ 1 rfl dX12_orderFrom_104 <|
  bw_getR hZ fl_RX12_342 obM_0 rfl dX12_orderFrom_105 <|
  bw_iload_n hZ 2 rfl dX12_orderFrom_108 <|
  bw_iload hZ 5 rfl dX12_orderFrom_109 <|
  bw_iast hZ (arM_44 _) dX12_orderFrom_111 fun w10 =>
  bw_aload_n hZ 1 rfl dX12_orderFrom_112 <|
  bw_iload_n hZ 2 rfl dX12_orderFrom_113 <|
  bw_iconst hZ 1 (by decide) dX12_orderFrom_114 <|
  bw_iadd hZ dX12_orderFrom_115 <|
  bw_iload_n hZ 3 rfl dX12_orderFrom_116 <|
  bw_iconst hZ 1 (by decide) dX12_orderFrom_117 <|
  bw_iload hZ 5 rfl dX12_orderFrom_118 <|
  bw_ishl hZ dX12_orderFrom_120 <|
  bw_ior hZ dX12_orderFrom_121 <|
  bw_iload hZ 0 rfl dX12_orderFrom_122 <|
  bw_callVV (As := [.int (y1 + 1), .int (y2 ||| (1 <<< (y4 &&& 31))), .int v7]) hZ ml_RX12_548 rc_12 obM_0 hd2 (hrec (y1 + 1) (y2 ||| (1 <<< (y4 &&& 31))) v7 w10) rfl rfl (Nat.le_of_ble_eq_true rfl) dX12_orderFrom_124 fun w11 =>
  bw_iinc hZ 1 5 rfl (by decide) (by decide) rfl dX12_orderFrom_127 <|
  bw_goto hZ (tgt := 59) (by decide) dX12_orderFrom_130 <|
  bw_sub [2, 3, 4, 5, 0] rfl (hk59 y1 y2 y3 (y4 + 1) w11)) (fun _ =>
  bw_goto hZ (tgt := 127) (by decide) dX12_orderFrom_101 <|
  bw_iinc hZ 1 5 rfl (by decide) (by decide) rfl dX12_orderFrom_127 <|
  bw_goto hZ (tgt := 59) (by decide) dX12_orderFrom_130 <|
  bw_sub [2, 3, 4, 5, 0] rfl (hk59 y1 y2 y3 (y4 + 1) w8))))
def X12_orderFrom_b59_L (rec : Int32 → Int32 → Int32 → Wd → Option (Wd)) : Int32 → Int32 → Int32 → Int32 → Wd → Option (Wd) :=
  lp fu (fun _ _ _ _ _ => none) (fun k59 => X12_orderFrom_b59 rec k59)
theorem t_X12_orderFrom_b59_L {dd d2 : Nat} {Z : Cz (Wd)} (hZ : OKZ Z SM cX12_orderFrom RX12 6 none dd) (hE : EndV Z) (rec : Int32 → Int32 → Int32 → Wd → Option (Wd)) (hdd : 2 ≤ dd) (hd2 : d2 < dd) (hrec : ∀ (x1 : Int32) (x2 : Int32) (x3 : Int32)  (w : Wd), CV (zl Z) (zY Z) yX12_orderFrom cX12_orderFrom 6 d2 [.ref (ph (zY Z) 0), .int x1, .int x2, .int x3] w (rec x1 x2 x3 w))  : ∀ (y1 : Int32) (y2 : Int32) (y3 : Int32) (y4 : Int32)  (w : Wd), BW Z 6 59 [(0, .ref (ph (zY Z) 0)), (1, .int y1), (2, .int y2), (3, .int y3), (4, .int y4)] [] w (X12_orderFrom_b59_L rec y1 y2 y3 y4 w) :=
  lp_bw (fun k59 => ∀ (y1 : Int32) (y2 : Int32) (y3 : Int32) (y4 : Int32)  (w : Wd), BW Z 6 59 [(0, .ref (ph (zY Z) 0)), (1, .int y1), (2, .int y2), (3, .int y3), (4, .int y4)] [] w (k59 y1 y2 y3 y4 w)) (fun _ _ _ _ _ => bw_none) (fun k59 hk59 y1 y2 y3 y4 w => t_X12_orderFrom_b59 hZ hE rec hdd hd2 hrec k59 hk59 y1 y2 y3 y4 w) fu
def X12_orderFrom_b11 (rec : Int32 → Int32 → Int32 → Wd → Option (Wd)) (k11 : Int32 → Int32 → Wd → Option (Wd)) (y1 : Int32) (y4 : Int32) (w : Wd) : Option (Wd) :=
  if y1 ≤ y4 then
  (lt (wI w 0 75 ((w.1 0 75) + 1)) fun w12 =>
  some w12)
  else
  if inb y4 6 = true then
  (if inb ((6 * (w.1 0 75)) + y4) 4320 = true then
  (lt (wI w 43 (Int32.toNatClampNeg ((6 * (w.1 0 75)) + y4)) (w.1 44 (Int32.toNatClampNeg y4))) fun w13 =>
  k11 y1 (y4 + 1) w13)
  else none)
  else none
set_option maxRecDepth 100000 in
set_option maxHeartbeats 4000000 in
theorem t_X12_orderFrom_b11 {dd d2 : Nat} {Z : Cz (Wd)} (hZ : OKZ Z SM cX12_orderFrom RX12 6 none dd) (hE : EndV Z) (rec : Int32 → Int32 → Int32 → Wd → Option (Wd)) (hdd : 2 ≤ dd) (hd2 : d2 < dd) (hrec : ∀ (x1 : Int32) (x2 : Int32) (x3 : Int32)  (w : Wd), CV (zl Z) (zY Z) yX12_orderFrom cX12_orderFrom 6 d2 [.ref (ph (zY Z) 0), .int x1, .int x2, .int x3] w (rec x1 x2 x3 w)) (k11 : Int32 → Int32 → Wd → Option (Wd)) (hk11 : ∀ (y1 : Int32) (y4 : Int32)  (w : Wd), BW Z 6 11 [(0, .ref (ph (zY Z) 0)), (1, .int y1), (4, .int y4)] [] w (k11 y1 y4 w)) (y1 : Int32) (y4 : Int32)  (w : Wd) : BW Z 6 11 [(0, .ref (ph (zY Z) 0)), (1, .int y1), (4, .int y4)] [] w (X12_orderFrom_b11 rec k11 y1 y4 w) :=
  bw_iload hZ 2 rfl dX12_orderFrom_11 <|
  bw_iload_n hZ 1 rfl dX12_orderFrom_13 <|
  bw_icmp_ge hZ (tgt := 45) (by decide) dX12_orderFrom_14 (fun _ =>
  bw_aload_n hZ 0 rfl dX12_orderFrom_45 <|
  bw_dup hZ rfl dX12_orderFrom_46 <|
  bw_getI hZ fl_RX12_541 (by decide) obM_0 dX12_orderFrom_47 <|
  bw_iconst hZ 1 (by decide) dX12_orderFrom_50 <|
  bw_iadd hZ dX12_orderFrom_51 <|
  bw_putI hZ fl_RX12_541 rfl rfl (by decide) obM_0 dX12_orderFrom_52 fun w12 =>
  bw_vret hZ hE dX12_orderFrom_55) (fun _ =>
  bw_aload_n hZ 0 rfl dX12_orderFrom_17 <|
  bw_getR hZ fl_RX12_339 obM_0 rfl dX12_orderFrom_18 <|
  bw_bipush hZ 6 (by decide) dX12_orderFrom_21 <|
  bw_aload_n hZ 0 rfl dX12_orderFrom_23 <|
  bw_getI hZ fl_RX12_541 (by decide) obM_0 dX12_orderFrom_24 <|
  bw_imul hZ dX12_orderFrom_27 <|
  bw_iload hZ 2 rfl dX12_orderFrom_28 <|
  bw_iadd hZ dX12_orderFrom_30 <|
  bw_aload_n hZ 0 rfl dX12_orderFrom_31 <|
  bw_getR hZ fl_RX12_342 obM_0 rfl dX12_orderFrom_32 <|
  bw_iload hZ 2 rfl dX12_orderFrom_35 <|
  bw_iald hZ (arM_44 _) dX12_orderFrom_37 <|
  bw_iast hZ (arM_43 _) dX12_orderFrom_38 fun w13 =>
  bw_iinc hZ 1 2 rfl (by decide) (by decide) rfl dX12_orderFrom_39 <|
  bw_goto hZ (tgt := 11) (by decide) dX12_orderFrom_42 <|
  bw_sub [1, 2, 0] rfl (hk11 y1 (y4 + 1) w13))
def X12_orderFrom_b11_L (rec : Int32 → Int32 → Int32 → Wd → Option (Wd)) : Int32 → Int32 → Wd → Option (Wd) :=
  lp fu (fun _ _ _ => none) (fun k11 => X12_orderFrom_b11 rec k11)
theorem t_X12_orderFrom_b11_L {dd d2 : Nat} {Z : Cz (Wd)} (hZ : OKZ Z SM cX12_orderFrom RX12 6 none dd) (hE : EndV Z) (rec : Int32 → Int32 → Int32 → Wd → Option (Wd)) (hdd : 2 ≤ dd) (hd2 : d2 < dd) (hrec : ∀ (x1 : Int32) (x2 : Int32) (x3 : Int32)  (w : Wd), CV (zl Z) (zY Z) yX12_orderFrom cX12_orderFrom 6 d2 [.ref (ph (zY Z) 0), .int x1, .int x2, .int x3] w (rec x1 x2 x3 w))  : ∀ (y1 : Int32) (y4 : Int32)  (w : Wd), BW Z 6 11 [(0, .ref (ph (zY Z) 0)), (1, .int y1), (4, .int y4)] [] w (X12_orderFrom_b11_L rec y1 y4 w) :=
  lp_bw (fun k11 => ∀ (y1 : Int32) (y4 : Int32)  (w : Wd), BW Z 6 11 [(0, .ref (ph (zY Z) 0)), (1, .int y1), (4, .int y4)] [] w (k11 y1 y4 w)) (fun _ _ _ => bw_none) (fun k11 hk11 y1 y4 w => t_X12_orderFrom_b11 hZ hE rec hdd hd2 hrec k11 hk11 y1 y4 w) fu
def X12_orderFrom_body (rec : Int32 → Int32 → Int32 → Wd → Option (Wd)) (x1 : Int32) (x2 : Int32) (x3 : Int32) (w : Wd) : Option (Wd) :=
  cl (f_X12_items w) fun r2 w1 =>
  if x1 = r2 then
  (X12_orderFrom_b11_L rec x1 0 w1)
  else
  X12_orderFrom_b59_L rec x1 x2 x3 0 w1
set_option maxRecDepth 100000 in
set_option maxHeartbeats 4000000 in
theorem t_X12_orderFrom_body {dd d2 : Nat} {Z : Cz (Wd)} (hZ : OKZ Z SM cX12_orderFrom RX12 6 none dd) (hE : EndV Z) (rec : Int32 → Int32 → Int32 → Wd → Option (Wd)) (hdd : 2 ≤ dd) (hd2 : d2 < dd) (hrec : ∀ (x1 : Int32) (x2 : Int32) (x3 : Int32)  (w : Wd), CV (zl Z) (zY Z) yX12_orderFrom cX12_orderFrom 6 d2 [.ref (ph (zY Z) 0), .int x1, .int x2, .int x3] w (rec x1 x2 x3 w)) (x1 : Int32) (x2 : Int32) (x3 : Int32)  (w : Wd) : BW Z 6 0 [(0, .ref (ph (zY Z) 0)), (1, .int x1), (2, .int x2), (3, .int x3)] [] w (X12_orderFrom_body rec x1 x2 x3 w) :=
  bw_iload_n hZ 1 rfl dX12_orderFrom_0 <|
  bw_aload_n hZ 0 rfl dX12_orderFrom_1 <|
  bw_callVI (As := []) hZ ml_RX12_552 rc_12 obM_0 (Nat.lt_of_lt_of_le (by decide) hdd) (c_X12_items (zl Z) (zY Z) (hZ_S hZ) w) rfl rfl (Nat.le_of_ble_eq_true rfl) dX12_orderFrom_2 fun r2 w1 =>
  bw_icmp_ne hZ (tgt := 56) (by decide) dX12_orderFrom_5 (fun _ =>
  bw_iconst hZ 0 (by decide) dX12_orderFrom_56 <|
  bw_istore hZ (by decide) rfl dX12_orderFrom_57 <|
  bw_sub [1, 2, 3, 4, 0] rfl (t_X12_orderFrom_b59_L hZ hE rec hdd hd2 hrec x1 x2 x3 0 w1)) (fun _ =>
  bw_iconst hZ 0 (by decide) dX12_orderFrom_8 <|
  bw_istore hZ (by decide) rfl dX12_orderFrom_9 <|
  bw_sub [1, 2, 0] rfl (t_X12_orderFrom_b11_L hZ hE rec hdd hd2 hrec x1 0 w1))
def f_X12_orderFrom_n (n : Nat) : Int32 → Int32 → Int32 → Wd → Option (Wd) :=
  lp n (fun _ _ _ _ => none) (fun rec => X12_orderFrom_body rec)
set_option maxRecDepth 100000 in
theorem c_X12_orderFrom_n (l : Launch) (Y : Ev) (hY : Y.1 = SM) (n : Nat) : ∀ (x1 : Int32) (x2 : Int32) (x3 : Int32)  (w : Wd), CV l Y yX12_orderFrom cX12_orderFrom 6 (2 + n) [.ref (ph Y 0), .int x1, .int x2, .int x3] w (f_X12_orderFrom_n n x1 x2 x3 w) := by
  induction n with
  | zero => intro x1 x2 x3 w r hr; cases hr
  | succ n ih =>
    intro x1 x2 x3 w
    refine CV_of (S := SM) (by decide) (Nat.le_of_ble_eq_true rfl) hY ?_
    intro Z hl hY2 hZ hE
    subst hY2
    subst hl
    exact t_X12_orderFrom_body hZ hE (f_X12_orderFrom_n n) (by omega) (d2 := 2 + n) (by omega) ih x1 x2 x3 w
def f_X12_orderFrom : Int32 → Int32 → Int32 → Wd → Option (Wd) := f_X12_orderFrom_n 8
theorem c_X12_orderFrom (l : Launch) (Y : Ev) (hY : Y.1 = SM) (x1 : Int32) (x2 : Int32) (x3 : Int32)  (w : Wd) : CV l Y yX12_orderFrom cX12_orderFrom 6 10 [.ref (ph Y 0), .int x1, .int x2, .int x3] w (f_X12_orderFrom x1 x2 x3 w) := c_X12_orderFrom_n l Y hY 8 x1 x2 x3 w
-- WhichWillModel.findOrders
theorem dX12_findOrders_0 : decode cX12_findOrders 0 = .ok (.aload_n 0, 1) := by decide +kernel
theorem dX12_findOrders_1 : decode cX12_findOrders 1 = .ok (.iconst 0, 1) := by decide +kernel
theorem dX12_findOrders_2 : decode cX12_findOrders 2 = .ok (.putfield 541, 3) := by decide +kernel
theorem dX12_findOrders_5 : decode cX12_findOrders 5 = .ok (.aload_n 0, 1) := by decide +kernel
theorem dX12_findOrders_6 : decode cX12_findOrders 6 = .ok (.iconst 0, 1) := by decide +kernel
theorem dX12_findOrders_7 : decode cX12_findOrders 7 = .ok (.putfield 544, 3) := by decide +kernel
theorem dX12_findOrders_10 : decode cX12_findOrders 10 = .ok (.aload_n 0, 1) := by decide +kernel
theorem dX12_findOrders_11 : decode cX12_findOrders 11 = .ok (.iconst 0, 1) := by decide +kernel
theorem dX12_findOrders_12 : decode cX12_findOrders 12 = .ok (.iconst 0, 1) := by decide +kernel
theorem dX12_findOrders_13 : decode cX12_findOrders 13 = .ok (.iconst 0, 1) := by decide +kernel
theorem dX12_findOrders_14 : decode cX12_findOrders 14 = .ok (.invokevirtual 548, 3) := by decide +kernel
theorem dX12_findOrders_17 : decode cX12_findOrders 17 = .ok (.return_, 1) := by decide +kernel
def f_X12_findOrders (w : Wd) : Option (Wd) :=
  lt (wI w 0 75 0) fun w1 =>
  lt (wI w1 0 78 0) fun w2 =>
  cv (f_X12_orderFrom 0 0 0 w2) fun w3 =>
  some w3
set_option maxRecDepth 100000 in
set_option maxHeartbeats 4000000 in
theorem t_X12_findOrders {Z : Cz (Wd)} (hZ : OKZ Z SM cX12_findOrders RX12 1 none 11) (hE : EndV Z)   (w : Wd) : BW Z 1 0 [(0, .ref (ph (zY Z) 0))] [] w (f_X12_findOrders w) :=
  bw_aload_n hZ 0 rfl dX12_findOrders_0 <|
  bw_iconst hZ 0 (by decide) dX12_findOrders_1 <|
  bw_putI hZ fl_RX12_541 rfl rfl (by decide) obM_0 dX12_findOrders_2 fun w1 =>
  bw_aload_n hZ 0 rfl dX12_findOrders_5 <|
  bw_iconst hZ 0 (by decide) dX12_findOrders_6 <|
  bw_putI hZ fl_RX12_544 rfl rfl (by decide) obM_0 dX12_findOrders_7 fun w2 =>
  bw_aload_n hZ 0 rfl dX12_findOrders_10 <|
  bw_iconst hZ 0 (by decide) dX12_findOrders_11 <|
  bw_iconst hZ 0 (by decide) dX12_findOrders_12 <|
  bw_iconst hZ 0 (by decide) dX12_findOrders_13 <|
  bw_callVV (As := [.int 0, .int 0, .int 0]) hZ ml_RX12_548 rc_12 obM_0 (by decide) (c_X12_orderFrom (zl Z) (zY Z) (hZ_S hZ) 0 0 0 w2) rfl rfl (Nat.le_of_ble_eq_true rfl) dX12_findOrders_14 fun w3 =>
  bw_vret hZ hE dX12_findOrders_17
theorem c_X12_findOrders (l : Launch) (Y : Ev) (hY : Y.1 = SM)   (w : Wd) : CV l Y yX12_findOrders cX12_findOrders 1 11 [.ref (ph Y 0)] w (f_X12_findOrders w) := by
  refine CV_of (S := SM) (by decide) (Nat.le_of_ble_eq_true rfl) hY ?_
  intro Z hl hY2 hZ hE
  subst hY2
  exact t_X12_findOrders hZ hE w
-- WhichWillModel.estate
theorem dX12_estate_0 : decode cX12_estate 0 = .ok (.aload_n 0, 1) := by decide +kernel
theorem dX12_estate_1 : decode cX12_estate 1 = .ok (.invokevirtual 403, 3) := by decide +kernel
theorem dX12_estate_4 : decode cX12_estate 4 = .ok (.aload_n 0, 1) := by decide +kernel
theorem dX12_estate_5 : decode cX12_estate 5 = .ok (.invokevirtual 406, 3) := by decide +kernel
theorem dX12_estate_8 : decode cX12_estate 8 = .ok (.ifCond .ne 5, 3) := by decide +kernel
theorem dX12_estate_11 : decode cX12_estate 11 = .ok (.iconst (-1), 1) := by decide +kernel
theorem dX12_estate_12 : decode cX12_estate 12 = .ok (.ireturn, 1) := by decide +kernel
theorem dX12_estate_13 : decode cX12_estate 13 = .ok (.aload_n 0, 1) := by decide +kernel
theorem dX12_estate_14 : decode cX12_estate 14 = .ok (.aload_n 0, 1) := by decide +kernel
theorem dX12_estate_15 : decode cX12_estate 15 = .ok (.getfield 129, 3) := by decide +kernel
theorem dX12_estate_18 : decode cX12_estate 18 = .ok (.putfield 409, 3) := by decide +kernel
theorem dX12_estate_21 : decode cX12_estate 21 = .ok (.aload_n 0, 1) := by decide +kernel
theorem dX12_estate_22 : decode cX12_estate 22 = .ok (.aload_n 0, 1) := by decide +kernel
theorem dX12_estate_23 : decode cX12_estate 23 = .ok (.getfield 146, 3) := by decide +kernel
theorem dX12_estate_26 : decode cX12_estate 26 = .ok (.putfield 412, 3) := by decide +kernel
theorem dX12_estate_29 : decode cX12_estate 29 = .ok (.aload_n 0, 1) := by decide +kernel
theorem dX12_estate_30 : decode cX12_estate 30 = .ok (.aload_n 0, 1) := by decide +kernel
theorem dX12_estate_31 : decode cX12_estate 31 = .ok (.getfield 176, 3) := by decide +kernel
theorem dX12_estate_34 : decode cX12_estate 34 = .ok (.putfield 415, 3) := by decide +kernel
theorem dX12_estate_37 : decode cX12_estate 37 = .ok (.aload_n 0, 1) := by decide +kernel
theorem dX12_estate_38 : decode cX12_estate 38 = .ok (.aload_n 0, 1) := by decide +kernel
theorem dX12_estate_39 : decode cX12_estate 39 = .ok (.getfield 208, 3) := by decide +kernel
theorem dX12_estate_42 : decode cX12_estate 42 = .ok (.putfield 418, 3) := by decide +kernel
theorem dX12_estate_45 : decode cX12_estate 45 = .ok (.aload_n 0, 1) := by decide +kernel
theorem dX12_estate_46 : decode cX12_estate 46 = .ok (.aload_n 0, 1) := by decide +kernel
theorem dX12_estate_47 : decode cX12_estate 47 = .ok (.getfield 211, 3) := by decide +kernel
theorem dX12_estate_50 : decode cX12_estate 50 = .ok (.putfield 420, 3) := by decide +kernel
theorem dX12_estate_53 : decode cX12_estate 53 = .ok (.aload_n 0, 1) := by decide +kernel
theorem dX12_estate_54 : decode cX12_estate 54 = .ok (.aload_n 0, 1) := by decide +kernel
theorem dX12_estate_55 : decode cX12_estate 55 = .ok (.getfield 199, 3) := by decide +kernel
theorem dX12_estate_58 : decode cX12_estate 58 = .ok (.putfield 422, 3) := by decide +kernel
theorem dX12_estate_61 : decode cX12_estate 61 = .ok (.aload_n 0, 1) := by decide +kernel
theorem dX12_estate_62 : decode cX12_estate 62 = .ok (.aload_n 0, 1) := by decide +kernel
theorem dX12_estate_63 : decode cX12_estate 63 = .ok (.getfield 202, 3) := by decide +kernel
theorem dX12_estate_66 : decode cX12_estate 66 = .ok (.putfield 424, 3) := by decide +kernel
theorem dX12_estate_69 : decode cX12_estate 69 = .ok (.aload_n 0, 1) := by decide +kernel
theorem dX12_estate_70 : decode cX12_estate 70 = .ok (.aload_n 0, 1) := by decide +kernel
theorem dX12_estate_71 : decode cX12_estate 71 = .ok (.getfield 205, 3) := by decide +kernel
theorem dX12_estate_74 : decode cX12_estate 74 = .ok (.putfield 426, 3) := by decide +kernel
theorem dX12_estate_77 : decode cX12_estate 77 = .ok (.aload_n 0, 1) := by decide +kernel
theorem dX12_estate_78 : decode cX12_estate 78 = .ok (.aload_n 0, 1) := by decide +kernel
theorem dX12_estate_79 : decode cX12_estate 79 = .ok (.getfield 158, 3) := by decide +kernel
theorem dX12_estate_82 : decode cX12_estate 82 = .ok (.putfield 241, 3) := by decide +kernel
theorem dX12_estate_85 : decode cX12_estate 85 = .ok (.aload_n 0, 1) := by decide +kernel
theorem dX12_estate_86 : decode cX12_estate 86 = .ok (.aload_n 0, 1) := by decide +kernel
theorem dX12_estate_87 : decode cX12_estate 87 = .ok (.getfield 214, 3) := by decide +kernel
theorem dX12_estate_90 : decode cX12_estate 90 = .ok (.putfield 428, 3) := by decide +kernel
theorem dX12_estate_93 : decode cX12_estate 93 = .ok (.iconst 0, 1) := by decide +kernel
theorem dX12_estate_94 : decode cX12_estate 94 = .ok (.istore_n 1, 1) := by decide +kernel
theorem dX12_estate_95 : decode cX12_estate 95 = .ok (.iload_n 1, 1) := by decide +kernel
theorem dX12_estate_96 : decode cX12_estate 96 = .ok (.aload_n 0, 1) := by decide +kernel
theorem dX12_estate_97 : decode cX12_estate 97 = .ok (.getfield 409, 3) := by decide +kernel
theorem dX12_estate_100 : decode cX12_estate 100 = .ok (.if_icmp .ge 57, 3) := by decide +kernel
theorem dX12_estate_103 : decode cX12_estate 103 = .ok (.aload_n 0, 1) := by decide +kernel
theorem dX12_estate_104 : decode cX12_estate 104 = .ok (.getfield 261, 3) := by decide +kernel
theorem dX12_estate_107 : decode cX12_estate 107 = .ok (.iload_n 1, 1) := by decide +kernel
theorem dX12_estate_108 : decode cX12_estate 108 = .ok (.aload_n 0, 1) := by decide +kernel
theorem dX12_estate_109 : decode cX12_estate 109 = .ok (.getfield 132, 3) := by decide +kernel
theorem dX12_estate_112 : decode cX12_estate 112 = .ok (.iload_n 1, 1) := by decide +kernel
theorem dX12_estate_113 : decode cX12_estate 113 = .ok (.laload, 1) := by decide +kernel
theorem dX12_estate_114 : decode cX12_estate 114 = .ok (.lastore, 1) := by decide +kernel
theorem dX12_estate_115 : decode cX12_estate 115 = .ok (.iconst 0, 1) := by decide +kernel
theorem dX12_estate_116 : decode cX12_estate 116 = .ok (.istore_n 2, 1) := by decide +kernel
theorem dX12_estate_117 : decode cX12_estate 117 = .ok (.iload_n 2, 1) := by decide +kernel
theorem dX12_estate_118 : decode cX12_estate 118 = .ok (.bipush 13, 2) := by decide +kernel
theorem dX12_estate_120 : decode cX12_estate 120 = .ok (.if_icmp .ge 31, 3) := by decide +kernel
theorem dX12_estate_123 : decode cX12_estate 123 = .ok (.aload_n 0, 1) := by decide +kernel
theorem dX12_estate_124 : decode cX12_estate 124 = .ok (.getfield 243, 3) := by decide +kernel
theorem dX12_estate_127 : decode cX12_estate 127 = .ok (.bipush 13, 2) := by decide +kernel
theorem dX12_estate_129 : decode cX12_estate 129 = .ok (.iload_n 1, 1) := by decide +kernel
theorem dX12_estate_130 : decode cX12_estate 130 = .ok (.imul, 1) := by decide +kernel
theorem dX12_estate_131 : decode cX12_estate 131 = .ok (.iload_n 2, 1) := by decide +kernel
theorem dX12_estate_132 : decode cX12_estate 132 = .ok (.iadd, 1) := by decide +kernel
theorem dX12_estate_133 : decode cX12_estate 133 = .ok (.aload_n 0, 1) := by decide +kernel
theorem dX12_estate_134 : decode cX12_estate 134 = .ok (.getfield 125, 3) := by decide +kernel
theorem dX12_estate_137 : decode cX12_estate 137 = .ok (.bipush 13, 2) := by decide +kernel
theorem dX12_estate_139 : decode cX12_estate 139 = .ok (.iload_n 1, 1) := by decide +kernel
theorem dX12_estate_140 : decode cX12_estate 140 = .ok (.imul, 1) := by decide +kernel
theorem dX12_estate_141 : decode cX12_estate 141 = .ok (.iload_n 2, 1) := by decide +kernel
theorem dX12_estate_142 : decode cX12_estate 142 = .ok (.iadd, 1) := by decide +kernel
theorem dX12_estate_143 : decode cX12_estate 143 = .ok (.iaload, 1) := by decide +kernel
theorem dX12_estate_144 : decode cX12_estate 144 = .ok (.iastore, 1) := by decide +kernel
theorem dX12_estate_145 : decode cX12_estate 145 = .ok (.iinc 2 1, 3) := by decide +kernel
theorem dX12_estate_148 : decode cX12_estate 148 = .ok (.goto (-31), 3) := by decide +kernel
theorem dX12_estate_151 : decode cX12_estate 151 = .ok (.iinc 1 1, 3) := by decide +kernel
theorem dX12_estate_154 : decode cX12_estate 154 = .ok (.goto (-59), 3) := by decide +kernel
theorem dX12_estate_157 : decode cX12_estate 157 = .ok (.iconst 0, 1) := by decide +kernel
theorem dX12_estate_158 : decode cX12_estate 158 = .ok (.istore_n 1, 1) := by decide +kernel
theorem dX12_estate_159 : decode cX12_estate 159 = .ok (.iload_n 1, 1) := by decide +kernel
theorem dX12_estate_160 : decode cX12_estate 160 = .ok (.aload_n 0, 1) := by decide +kernel
theorem dX12_estate_161 : decode cX12_estate 161 = .ok (.getfield 412, 3) := by decide +kernel
theorem dX12_estate_164 : decode cX12_estate 164 = .ok (.if_icmp .ge 57, 3) := by decide +kernel
theorem dX12_estate_167 : decode cX12_estate 167 = .ok (.aload_n 0, 1) := by decide +kernel
theorem dX12_estate_168 : decode cX12_estate 168 = .ok (.getfield 264, 3) := by decide +kernel
theorem dX12_estate_171 : decode cX12_estate 171 = .ok (.iload_n 1, 1) := by decide +kernel
theorem dX12_estate_172 : decode cX12_estate 172 = .ok (.aload_n 0, 1) := by decide +kernel
theorem dX12_estate_173 : decode cX12_estate 173 = .ok (.getfield 149, 3) := by decide +kernel
theorem dX12_estate_176 : decode cX12_estate 176 = .ok (.iload_n 1, 1) := by decide +kernel
theorem dX12_estate_177 : decode cX12_estate 177 = .ok (.laload, 1) := by decide +kernel
theorem dX12_estate_178 : decode cX12_estate 178 = .ok (.lastore, 1) := by decide +kernel
theorem dX12_estate_179 : decode cX12_estate 179 = .ok (.aload_n 0, 1) := by decide +kernel
theorem dX12_estate_180 : decode cX12_estate 180 = .ok (.getfield 246, 3) := by decide +kernel
theorem dX12_estate_183 : decode cX12_estate 183 = .ok (.iload_n 1, 1) := by decide +kernel
theorem dX12_estate_184 : decode cX12_estate 184 = .ok (.aload_n 0, 1) := by decide +kernel
theorem dX12_estate_185 : decode cX12_estate 185 = .ok (.getfield 167, 3) := by decide +kernel
theorem dX12_estate_188 : decode cX12_estate 188 = .ok (.iload_n 1, 1) := by decide +kernel
theorem dX12_estate_189 : decode cX12_estate 189 = .ok (.iaload, 1) := by decide +kernel
theorem dX12_estate_190 : decode cX12_estate 190 = .ok (.iastore, 1) := by decide +kernel
theorem dX12_estate_191 : decode cX12_estate 191 = .ok (.aload_n 0, 1) := by decide +kernel
theorem dX12_estate_192 : decode cX12_estate 192 = .ok (.getfield 249, 3) := by decide +kernel
theorem dX12_estate_195 : decode cX12_estate 195 = .ok (.iload_n 1, 1) := by decide +kernel
theorem dX12_estate_196 : decode cX12_estate 196 = .ok (.aload_n 0, 1) := by decide +kernel
theorem dX12_estate_197 : decode cX12_estate 197 = .ok (.getfield 161, 3) := by decide +kernel
theorem dX12_estate_200 : decode cX12_estate 200 = .ok (.iload_n 1, 1) := by decide +kernel
theorem dX12_estate_201 : decode cX12_estate 201 = .ok (.iaload, 1) := by decide +kernel
theorem dX12_estate_202 : decode cX12_estate 202 = .ok (.iastore, 1) := by decide +kernel
theorem dX12_estate_203 : decode cX12_estate 203 = .ok (.aload_n 0, 1) := by decide +kernel
theorem dX12_estate_204 : decode cX12_estate 204 = .ok (.getfield 258, 3) := by decide +kernel
theorem dX12_estate_207 : decode cX12_estate 207 = .ok (.iload_n 1, 1) := by decide +kernel
theorem dX12_estate_208 : decode cX12_estate 208 = .ok (.aload_n 0, 1) := by decide +kernel
theorem dX12_estate_209 : decode cX12_estate 209 = .ok (.getfield 170, 3) := by decide +kernel
theorem dX12_estate_212 : decode cX12_estate 212 = .ok (.iload_n 1, 1) := by decide +kernel
theorem dX12_estate_213 : decode cX12_estate 213 = .ok (.baload, 1) := by decide +kernel
theorem dX12_estate_214 : decode cX12_estate 214 = .ok (.bastore, 1) := by decide +kernel
theorem dX12_estate_215 : decode cX12_estate 215 = .ok (.iinc 1 1, 3) := by decide +kernel
theorem dX12_estate_218 : decode cX12_estate 218 = .ok (.goto (-59), 3) := by decide +kernel
theorem dX12_estate_221 : decode cX12_estate 221 = .ok (.iconst 0, 1) := by decide +kernel
theorem dX12_estate_222 : decode cX12_estate 222 = .ok (.istore_n 1, 1) := by decide +kernel
theorem dX12_estate_223 : decode cX12_estate 223 = .ok (.iload_n 1, 1) := by decide +kernel
theorem dX12_estate_224 : decode cX12_estate 224 = .ok (.aload_n 0, 1) := by decide +kernel
theorem dX12_estate_225 : decode cX12_estate 225 = .ok (.getfield 415, 3) := by decide +kernel
theorem dX12_estate_228 : decode cX12_estate 228 = .ok (.if_icmp .ge 45, 3) := by decide +kernel
theorem dX12_estate_231 : decode cX12_estate 231 = .ok (.aload_n 0, 1) := by decide +kernel
theorem dX12_estate_232 : decode cX12_estate 232 = .ok (.getfield 267, 3) := by decide +kernel
theorem dX12_estate_235 : decode cX12_estate 235 = .ok (.iload_n 1, 1) := by decide +kernel
theorem dX12_estate_236 : decode cX12_estate 236 = .ok (.aload_n 0, 1) := by decide +kernel
theorem dX12_estate_237 : decode cX12_estate 237 = .ok (.getfield 179, 3) := by decide +kernel
theorem dX12_estate_240 : decode cX12_estate 240 = .ok (.iload_n 1, 1) := by decide +kernel
theorem dX12_estate_241 : decode cX12_estate 241 = .ok (.laload, 1) := by decide +kernel
theorem dX12_estate_242 : decode cX12_estate 242 = .ok (.lastore, 1) := by decide +kernel
theorem dX12_estate_243 : decode cX12_estate 243 = .ok (.aload_n 0, 1) := by decide +kernel
theorem dX12_estate_244 : decode cX12_estate 244 = .ok (.getfield 252, 3) := by decide +kernel
theorem dX12_estate_247 : decode cX12_estate 247 = .ok (.iload_n 1, 1) := by decide +kernel
theorem dX12_estate_248 : decode cX12_estate 248 = .ok (.aload_n 0, 1) := by decide +kernel
theorem dX12_estate_249 : decode cX12_estate 249 = .ok (.getfield 182, 3) := by decide +kernel
theorem dX12_estate_252 : decode cX12_estate 252 = .ok (.iload_n 1, 1) := by decide +kernel
theorem dX12_estate_253 : decode cX12_estate 253 = .ok (.iaload, 1) := by decide +kernel
theorem dX12_estate_254 : decode cX12_estate 254 = .ok (.iastore, 1) := by decide +kernel
theorem dX12_estate_255 : decode cX12_estate 255 = .ok (.aload_n 0, 1) := by decide +kernel
theorem dX12_estate_256 : decode cX12_estate 256 = .ok (.getfield 255, 3) := by decide +kernel
theorem dX12_estate_259 : decode cX12_estate 259 = .ok (.iload_n 1, 1) := by decide +kernel
theorem dX12_estate_260 : decode cX12_estate 260 = .ok (.aload_n 0, 1) := by decide +kernel
theorem dX12_estate_261 : decode cX12_estate 261 = .ok (.getfield 185, 3) := by decide +kernel
theorem dX12_estate_264 : decode cX12_estate 264 = .ok (.iload_n 1, 1) := by decide +kernel
theorem dX12_estate_265 : decode cX12_estate 265 = .ok (.iaload, 1) := by decide +kernel
theorem dX12_estate_266 : decode cX12_estate 266 = .ok (.iastore, 1) := by decide +kernel
theorem dX12_estate_267 : decode cX12_estate 267 = .ok (.iinc 1 1, 3) := by decide +kernel
theorem dX12_estate_270 : decode cX12_estate 270 = .ok (.goto (-47), 3) := by decide +kernel
theorem dX12_estate_273 : decode cX12_estate 273 = .ok (.aload_n 0, 1) := by decide +kernel
theorem dX12_estate_274 : decode cX12_estate 274 = .ok (.iconst 0, 1) := by decide +kernel
theorem dX12_estate_275 : decode cX12_estate 275 = .ok (.putfield 431, 3) := by decide +kernel
theorem dX12_estate_278 : decode cX12_estate 278 = .ok (.aload_n 0, 1) := by decide +kernel
theorem dX12_estate_279 : decode cX12_estate 279 = .ok (.iconst 0, 1) := by decide +kernel
theorem dX12_estate_280 : decode cX12_estate 280 = .ok (.putfield 434, 3) := by decide +kernel
theorem dX12_estate_283 : decode cX12_estate 283 = .ok (.aload_n 0, 1) := by decide +kernel
theorem dX12_estate_284 : decode cX12_estate 284 = .ok (.iconst 0, 1) := by decide +kernel
theorem dX12_estate_285 : decode cX12_estate 285 = .ok (.putfield 437, 3) := by decide +kernel
theorem dX12_estate_288 : decode cX12_estate 288 = .ok (.aload_n 0, 1) := by decide +kernel
theorem dX12_estate_289 : decode cX12_estate 289 = .ok (.invokevirtual 396, 3) := by decide +kernel
theorem dX12_estate_292 : decode cX12_estate 292 = .ok (.aload_n 0, 1) := by decide +kernel
theorem dX12_estate_293 : decode cX12_estate 293 = .ok (.getfield 428, 3) := by decide +kernel
theorem dX12_estate_296 : decode cX12_estate 296 = .ok (.ireturn, 1) := by decide +kernel
def X12_estate_b223 (k223 : Int32 → Wd → Option (Int32 × Wd)) (y1 : Int32) (w : Wd) : Option (Int32 × Wd) :=
  if (w.1 0 12) ≤ y1 then
  (lt (wI w 0 49 0) fun w14 =>
  lt (wI w14 0 50 0) fun w15 =>
  lt (wI w15 0 99 0) fun w16 =>
  cv (f_X12_findOrders w16) fun w17 =>
  some (w17.1 0 13, w17))
  else
  if inb y1 8 = true then
  (if inb y1 8 = true then
  (lt (wG w 10 (Int32.toNatClampNeg y1) (w.2 13 (Int32.toNatClampNeg y1))) fun w18 =>
  if inb y1 8 = true then
  (if inb y1 8 = true then
  (lt (wI w18 5 (Int32.toNatClampNeg y1) (w18.1 17 (Int32.toNatClampNeg y1))) fun w19 =>
  if inb y1 8 = true then
  (if inb y1 8 = true then
  (lt (wI w19 6 (Int32.toNatClampNeg y1) (w19.1 18 (Int32.toNatClampNeg y1))) fun w20 =>
  k223 (y1 + 1) w20)
  else none)
  else none)
  else none)
  else none)
  else none)
  else none
set_option maxRecDepth 100000 in
set_option maxHeartbeats 4000000 in
theorem t_X12_estate_b223 {Z : Cz (Int32 × Wd)} (hZ : OKZ Z SM cX12_estate RX12 3 (some .int) 12) (hE : EndI Z) (k223 : Int32 → Wd → Option (Int32 × Wd)) (hk223 : ∀ (y1 : Int32)  (w : Wd), BW Z 3 223 [(0, .ref (ph (zY Z) 0)), (1, .int y1)] [] w (k223 y1 w)) (y1 : Int32)  (w : Wd) : BW Z 3 223 [(0, .ref (ph (zY Z) 0)), (1, .int y1)] [] w (X12_estate_b223 k223 y1 w) :=
  bw_iload_n hZ 1 rfl dX12_estate_223 <|
  bw_aload_n hZ 0 rfl dX12_estate_224 <|
  bw_getI hZ fl_RX12_415 (by decide) obM_0 dX12_estate_225 <|
  bw_icmp_ge hZ (tgt := 273) (by decide) dX12_estate_228 (fun _ =>
  bw_aload_n hZ 0 rfl dX12_estate_273 <|
  bw_iconst hZ 0 (by decide) dX12_estate_274 <|
  bw_putI hZ fl_RX12_431 rfl rfl (by decide) obM_0 dX12_estate_275 fun w14 =>
  bw_aload_n hZ 0 rfl dX12_estate_278 <|
  bw_iconst hZ 0 (by decide) dX12_estate_279 <|
  bw_putI hZ fl_RX12_434 rfl rfl (by decide) obM_0 dX12_estate_280 fun w15 =>
  bw_aload_n hZ 0 rfl dX12_estate_283 <|
  bw_iconst hZ 0 (by decide) dX12_estate_284 <|
  bw_putI hZ fl_RX12_437 rfl rfl (by decide) obM_0 dX12_estate_285 fun w16 =>
  bw_aload_n hZ 0 rfl dX12_estate_288 <|
  bw_callVV (As := []) hZ ml_RX12_396 rc_12 obM_0 (by decide) (c_X12_findOrders (zl Z) (zY Z) (hZ_S hZ) w16) rfl rfl (Nat.le_of_ble_eq_true rfl) dX12_estate_289 fun w17 =>
  bw_aload_n hZ 0 rfl dX12_estate_292 <|
  bw_getI hZ fl_RX12_428 (by decide) obM_0 dX12_estate_293 <|
  bw_iret hZ hE dX12_estate_296) (fun _ =>
  bw_aload_n hZ 0 rfl dX12_estate_231 <|
  bw_getR hZ fl_RX12_267 obM_0 rfl dX12_estate_232 <|
  bw_iload_n hZ 1 rfl dX12_estate_235 <|
  bw_aload_n hZ 0 rfl dX12_estate_236 <|
  bw_getR hZ fl_RX12_179 obM_0 rfl dX12_estate_237 <|
  bw_iload_n hZ 1 rfl dX12_estate_240 <|
  bw_lald hZ (arM_13 _) dX12_estate_241 <|
  bw_last hZ (arM_10 _) dX12_estate_242 fun w18 =>
  bw_aload_n hZ 0 rfl dX12_estate_243 <|
  bw_getR hZ fl_RX12_252 obM_0 rfl dX12_estate_244 <|
  bw_iload_n hZ 1 rfl dX12_estate_247 <|
  bw_aload_n hZ 0 rfl dX12_estate_248 <|
  bw_getR hZ fl_RX12_182 obM_0 rfl dX12_estate_249 <|
  bw_iload_n hZ 1 rfl dX12_estate_252 <|
  bw_iald hZ (arM_17 _) dX12_estate_253 <|
  bw_iast hZ (arM_5 _) dX12_estate_254 fun w19 =>
  bw_aload_n hZ 0 rfl dX12_estate_255 <|
  bw_getR hZ fl_RX12_255 obM_0 rfl dX12_estate_256 <|
  bw_iload_n hZ 1 rfl dX12_estate_259 <|
  bw_aload_n hZ 0 rfl dX12_estate_260 <|
  bw_getR hZ fl_RX12_185 obM_0 rfl dX12_estate_261 <|
  bw_iload_n hZ 1 rfl dX12_estate_264 <|
  bw_iald hZ (arM_18 _) dX12_estate_265 <|
  bw_iast hZ (arM_6 _) dX12_estate_266 fun w20 =>
  bw_iinc hZ 1 1 rfl (by decide) (by decide) rfl dX12_estate_267 <|
  bw_goto hZ (tgt := 223) (by decide) dX12_estate_270 <|
  bw_sub [1, 0] rfl (hk223 (y1 + 1) w20))
def X12_estate_b223_L  : Int32 → Wd → Option (Int32 × Wd) :=
  lp fu (fun _ _ => none) (fun k223 => X12_estate_b223 k223)
theorem t_X12_estate_b223_L {Z : Cz (Int32 × Wd)} (hZ : OKZ Z SM cX12_estate RX12 3 (some .int) 12) (hE : EndI Z)  : ∀ (y1 : Int32)  (w : Wd), BW Z 3 223 [(0, .ref (ph (zY Z) 0)), (1, .int y1)] [] w (X12_estate_b223_L y1 w) :=
  lp_bw (fun k223 => ∀ (y1 : Int32)  (w : Wd), BW Z 3 223 [(0, .ref (ph (zY Z) 0)), (1, .int y1)] [] w (k223 y1 w)) (fun _ _ => bw_none) (fun k223 hk223 y1 w => t_X12_estate_b223 hZ hE k223 hk223 y1 w) fu
def X12_estate_b159 (k159 : Int32 → Wd → Option (Int32 × Wd)) (y1 : Int32) (w : Wd) : Option (Int32 × Wd) :=
  if (w.1 0 11) ≤ y1 then
  (X12_estate_b223_L 0 w)
  else
  if inb y1 8 = true then
  (if inb y1 8 = true then
  (lt (wG w 9 (Int32.toNatClampNeg y1) (w.2 12 (Int32.toNatClampNeg y1))) fun w21 =>
  if inb y1 8 = true then
  (if inb y1 8 = true then
  (lt (wI w21 3 (Int32.toNatClampNeg y1) (w21.1 15 (Int32.toNatClampNeg y1))) fun w22 =>
  if inb y1 8 = true then
  (if inb y1 8 = true then
  (lt (wI w22 4 (Int32.toNatClampNeg y1) (w22.1 16 (Int32.toNatClampNeg y1))) fun w23 =>
  if inb y1 8 = true then
  (if inb y1 8 = true then
  (lt (wI w23 7 (Int32.toNatClampNeg y1) (vp_nar .boolean (w23.1 19 (Int32.toNatClampNeg y1)))) fun w24 =>
  k159 (y1 + 1) w24)
  else none)
  else none)
  else none)
  else none)
  else none)
  else none)
  else none)
  else none
set_option maxRecDepth 100000 in
set_option maxHeartbeats 4000000 in
theorem t_X12_estate_b159 {Z : Cz (Int32 × Wd)} (hZ : OKZ Z SM cX12_estate RX12 3 (some .int) 12) (hE : EndI Z) (k159 : Int32 → Wd → Option (Int32 × Wd)) (hk159 : ∀ (y1 : Int32)  (w : Wd), BW Z 3 159 [(0, .ref (ph (zY Z) 0)), (1, .int y1)] [] w (k159 y1 w)) (y1 : Int32)  (w : Wd) : BW Z 3 159 [(0, .ref (ph (zY Z) 0)), (1, .int y1)] [] w (X12_estate_b159 k159 y1 w) :=
  bw_iload_n hZ 1 rfl dX12_estate_159 <|
  bw_aload_n hZ 0 rfl dX12_estate_160 <|
  bw_getI hZ fl_RX12_412 (by decide) obM_0 dX12_estate_161 <|
  bw_icmp_ge hZ (tgt := 221) (by decide) dX12_estate_164 (fun _ =>
  bw_iconst hZ 0 (by decide) dX12_estate_221 <|
  bw_istore_n hZ rfl (by decide) rfl dX12_estate_222 <|
  bw_sub [1, 0] rfl (t_X12_estate_b223_L hZ hE 0 w)) (fun _ =>
  bw_aload_n hZ 0 rfl dX12_estate_167 <|
  bw_getR hZ fl_RX12_264 obM_0 rfl dX12_estate_168 <|
  bw_iload_n hZ 1 rfl dX12_estate_171 <|
  bw_aload_n hZ 0 rfl dX12_estate_172 <|
  bw_getR hZ fl_RX12_149 obM_0 rfl dX12_estate_173 <|
  bw_iload_n hZ 1 rfl dX12_estate_176 <|
  bw_lald hZ (arM_12 _) dX12_estate_177 <|
  bw_last hZ (arM_9 _) dX12_estate_178 fun w21 =>
  bw_aload_n hZ 0 rfl dX12_estate_179 <|
  bw_getR hZ fl_RX12_246 obM_0 rfl dX12_estate_180 <|
  bw_iload_n hZ 1 rfl dX12_estate_183 <|
  bw_aload_n hZ 0 rfl dX12_estate_184 <|
  bw_getR hZ fl_RX12_167 obM_0 rfl dX12_estate_185 <|
  bw_iload_n hZ 1 rfl dX12_estate_188 <|
  bw_iald hZ (arM_15 _) dX12_estate_189 <|
  bw_iast hZ (arM_3 _) dX12_estate_190 fun w22 =>
  bw_aload_n hZ 0 rfl dX12_estate_191 <|
  bw_getR hZ fl_RX12_249 obM_0 rfl dX12_estate_192 <|
  bw_iload_n hZ 1 rfl dX12_estate_195 <|
  bw_aload_n hZ 0 rfl dX12_estate_196 <|
  bw_getR hZ fl_RX12_161 obM_0 rfl dX12_estate_197 <|
  bw_iload_n hZ 1 rfl dX12_estate_200 <|
  bw_iald hZ (arM_16 _) dX12_estate_201 <|
  bw_iast hZ (arM_4 _) dX12_estate_202 fun w23 =>
  bw_aload_n hZ 0 rfl dX12_estate_203 <|
  bw_getR hZ fl_RX12_258 obM_0 rfl dX12_estate_204 <|
  bw_iload_n hZ 1 rfl dX12_estate_207 <|
  bw_aload_n hZ 0 rfl dX12_estate_208 <|
  bw_getR hZ fl_RX12_170 obM_0 rfl dX12_estate_209 <|
  bw_iload_n hZ 1 rfl dX12_estate_212 <|
  bw_zald hZ (arM_19 _) dX12_estate_213 <|
  bw_zast hZ (arM_7 _) dX12_estate_214 fun w24 =>
  bw_iinc hZ 1 1 rfl (by decide) (by decide) rfl dX12_estate_215 <|
  bw_goto hZ (tgt := 159) (by decide) dX12_estate_218 <|
  bw_sub [1, 0] rfl (hk159 (y1 + 1) w24))
def X12_estate_b159_L  : Int32 → Wd → Option (Int32 × Wd) :=
  lp fu (fun _ _ => none) (fun k159 => X12_estate_b159 k159)
theorem t_X12_estate_b159_L {Z : Cz (Int32 × Wd)} (hZ : OKZ Z SM cX12_estate RX12 3 (some .int) 12) (hE : EndI Z)  : ∀ (y1 : Int32)  (w : Wd), BW Z 3 159 [(0, .ref (ph (zY Z) 0)), (1, .int y1)] [] w (X12_estate_b159_L y1 w) :=
  lp_bw (fun k159 => ∀ (y1 : Int32)  (w : Wd), BW Z 3 159 [(0, .ref (ph (zY Z) 0)), (1, .int y1)] [] w (k159 y1 w)) (fun _ _ => bw_none) (fun k159 hk159 y1 w => t_X12_estate_b159 hZ hE k159 hk159 y1 w) fu
def X12_estate_b117 (k95 : Int32 → Wd → Option (Int32 × Wd)) (k117 : Int32 → Int32 → Wd → Option (Int32 × Wd)) (y1 : Int32) (y2 : Int32) (w : Wd) : Option (Int32 × Wd) :=
  if 13 ≤ y2 then
  (k95 (y1 + 1) w)
  else
  if inb ((13 * y1) + y2) 52 = true then
  (if inb ((13 * y1) + y2) 52 = true then
  (lt (wI w 2 (Int32.toNatClampNeg ((13 * y1) + y2)) (w.1 14 (Int32.toNatClampNeg ((13 * y1) + y2)))) fun w26 =>
  k117 y1 (y2 + 1) w26)
  else none)
  else none
set_option maxRecDepth 100000 in
set_option maxHeartbeats 4000000 in
theorem t_X12_estate_b117 {Z : Cz (Int32 × Wd)} (hZ : OKZ Z SM cX12_estate RX12 3 (some .int) 12) (hE : EndI Z) (k95 : Int32 → Wd → Option (Int32 × Wd)) (hk95 : ∀ (y1 : Int32)  (w : Wd), BW Z 3 95 [(0, .ref (ph (zY Z) 0)), (1, .int y1)] [] w (k95 y1 w)) (k117 : Int32 → Int32 → Wd → Option (Int32 × Wd)) (hk117 : ∀ (y1 : Int32) (y2 : Int32)  (w : Wd), BW Z 3 117 [(0, .ref (ph (zY Z) 0)), (1, .int y1), (2, .int y2)] [] w (k117 y1 y2 w)) (y1 : Int32) (y2 : Int32)  (w : Wd) : BW Z 3 117 [(0, .ref (ph (zY Z) 0)), (1, .int y1), (2, .int y2)] [] w (X12_estate_b117 k95 k117 y1 y2 w) :=
  bw_iload_n hZ 2 rfl dX12_estate_117 <|
  bw_bipush hZ 13 (by decide) dX12_estate_118 <|
  bw_icmp_ge hZ (tgt := 151) (by decide) dX12_estate_120 (fun _ =>
  bw_iinc hZ 1 1 rfl (by decide) (by decide) rfl dX12_estate_151 <|
  bw_goto hZ (tgt := 95) (by decide) dX12_estate_154 <|
  bw_sub [1, 0] rfl (hk95 (y1 + 1) w)) (fun _ =>
  bw_aload_n hZ 0 rfl dX12_estate_123 <|
  bw_getR hZ fl_RX12_243 obM_0 rfl dX12_estate_124 <|
  bw_bipush hZ 13 (by decide) dX12_estate_127 <|
  bw_iload_n hZ 1 rfl dX12_estate_129 <|
  bw_imul hZ dX12_estate_130 <|
  bw_iload_n hZ 2 rfl dX12_estate_131 <|
  bw_iadd hZ dX12_estate_132 <|
  bw_aload_n hZ 0 rfl dX12_estate_133 <|
  bw_getR hZ fl_RX12_125 obM_0 rfl dX12_estate_134 <|
  bw_bipush hZ 13 (by decide) dX12_estate_137 <|
  bw_iload_n hZ 1 rfl dX12_estate_139 <|
  bw_imul hZ dX12_estate_140 <|
  bw_iload_n hZ 2 rfl dX12_estate_141 <|
  bw_iadd hZ dX12_estate_142 <|
  bw_iald hZ (arM_14 _) dX12_estate_143 <|
  bw_iast hZ (arM_2 _) dX12_estate_144 fun w26 =>
  bw_iinc hZ 1 2 rfl (by decide) (by decide) rfl dX12_estate_145 <|
  bw_goto hZ (tgt := 117) (by decide) dX12_estate_148 <|
  bw_sub [1, 2, 0] rfl (hk117 y1 (y2 + 1) w26))
def X12_estate_b117_L (k95 : Int32 → Wd → Option (Int32 × Wd)) : Int32 → Int32 → Wd → Option (Int32 × Wd) :=
  lp fu (fun _ _ _ => none) (fun k117 => X12_estate_b117 k95 k117)
theorem t_X12_estate_b117_L {Z : Cz (Int32 × Wd)} (hZ : OKZ Z SM cX12_estate RX12 3 (some .int) 12) (hE : EndI Z) (k95 : Int32 → Wd → Option (Int32 × Wd)) (hk95 : ∀ (y1 : Int32)  (w : Wd), BW Z 3 95 [(0, .ref (ph (zY Z) 0)), (1, .int y1)] [] w (k95 y1 w)) : ∀ (y1 : Int32) (y2 : Int32)  (w : Wd), BW Z 3 117 [(0, .ref (ph (zY Z) 0)), (1, .int y1), (2, .int y2)] [] w (X12_estate_b117_L k95 y1 y2 w) :=
  lp_bw (fun k117 => ∀ (y1 : Int32) (y2 : Int32)  (w : Wd), BW Z 3 117 [(0, .ref (ph (zY Z) 0)), (1, .int y1), (2, .int y2)] [] w (k117 y1 y2 w)) (fun _ _ _ => bw_none) (fun k117 hk117 y1 y2 w => t_X12_estate_b117 hZ hE k95 hk95 k117 hk117 y1 y2 w) fu
def X12_estate_b95 (k95 : Int32 → Wd → Option (Int32 × Wd)) (y1 : Int32) (w : Wd) : Option (Int32 × Wd) :=
  if (w.1 0 10) ≤ y1 then
  (X12_estate_b159_L 0 w)
  else
  if inb y1 4 = true then
  (if inb y1 4 = true then
  (lt (wG w 8 (Int32.toNatClampNeg y1) (w.2 11 (Int32.toNatClampNeg y1))) fun w25 =>
  X12_estate_b117_L k95 y1 0 w25)
  else none)
  else none
set_option maxRecDepth 100000 in
set_option maxHeartbeats 4000000 in
theorem t_X12_estate_b95 {Z : Cz (Int32 × Wd)} (hZ : OKZ Z SM cX12_estate RX12 3 (some .int) 12) (hE : EndI Z) (k95 : Int32 → Wd → Option (Int32 × Wd)) (hk95 : ∀ (y1 : Int32)  (w : Wd), BW Z 3 95 [(0, .ref (ph (zY Z) 0)), (1, .int y1)] [] w (k95 y1 w)) (y1 : Int32)  (w : Wd) : BW Z 3 95 [(0, .ref (ph (zY Z) 0)), (1, .int y1)] [] w (X12_estate_b95 k95 y1 w) :=
  bw_iload_n hZ 1 rfl dX12_estate_95 <|
  bw_aload_n hZ 0 rfl dX12_estate_96 <|
  bw_getI hZ fl_RX12_409 (by decide) obM_0 dX12_estate_97 <|
  bw_icmp_ge hZ (tgt := 157) (by decide) dX12_estate_100 (fun _ =>
  bw_iconst hZ 0 (by decide) dX12_estate_157 <|
  bw_istore_n hZ rfl (by decide) rfl dX12_estate_158 <|
  bw_sub [1, 0] rfl (t_X12_estate_b159_L hZ hE 0 w)) (fun _ =>
  bw_aload_n hZ 0 rfl dX12_estate_103 <|
  bw_getR hZ fl_RX12_261 obM_0 rfl dX12_estate_104 <|
  bw_iload_n hZ 1 rfl dX12_estate_107 <|
  bw_aload_n hZ 0 rfl dX12_estate_108 <|
  bw_getR hZ fl_RX12_132 obM_0 rfl dX12_estate_109 <|
  bw_iload_n hZ 1 rfl dX12_estate_112 <|
  bw_lald hZ (arM_11 _) dX12_estate_113 <|
  bw_last hZ (arM_8 _) dX12_estate_114 fun w25 =>
  bw_iconst hZ 0 (by decide) dX12_estate_115 <|
  bw_istore_n hZ rfl (by decide) rfl dX12_estate_116 <|
  bw_sub [1, 2, 0] rfl (t_X12_estate_b117_L hZ hE k95 hk95 y1 0 w25))
def X12_estate_b95_L  : Int32 → Wd → Option (Int32 × Wd) :=
  lp fu (fun _ _ => none) (fun k95 => X12_estate_b95 k95)
theorem t_X12_estate_b95_L {Z : Cz (Int32 × Wd)} (hZ : OKZ Z SM cX12_estate RX12 3 (some .int) 12) (hE : EndI Z)  : ∀ (y1 : Int32)  (w : Wd), BW Z 3 95 [(0, .ref (ph (zY Z) 0)), (1, .int y1)] [] w (X12_estate_b95_L y1 w) :=
  lp_bw (fun k95 => ∀ (y1 : Int32)  (w : Wd), BW Z 3 95 [(0, .ref (ph (zY Z) 0)), (1, .int y1)] [] w (k95 y1 w)) (fun _ _ => bw_none) (fun k95 hk95 y1 w => t_X12_estate_b95 hZ hE k95 hk95 y1 w) fu
def f_X12_estate (w : Wd) : Option (Int32 × Wd) :=
  cv (f_X12_open w) fun w1 =>
  cl (f_X12_readEstate w1) fun r3 w2 =>
  if r3 = 0 then
  (some ((-1), w2))
  else
  lt (wI w2 0 10 (w2.1 0 26)) fun w4 =>
  lt (wI w4 0 11 (w4.1 0 27)) fun w5 =>
  lt (wI w5 0 12 (w5.1 0 28)) fun w6 =>
  lt (wI w6 0 14 (w6.1 0 29)) fun w7 =>
  lt (wI w7 0 15 (w7.1 0 30)) fun w8 =>
  lt (wI w8 0 16 (w8.1 0 31)) fun w9 =>
  lt (wI w9 0 17 (w9.1 0 32)) fun w10 =>
  lt (wI w10 0 18 (w10.1 0 33)) fun w11 =>
  lt (wI w11 0 19 (w11.1 0 34)) fun w12 =>
  lt (wI w12 0 13 (w12.1 0 35)) fun w13 =>
  X12_estate_b95_L 0 w13
set_option maxRecDepth 100000 in
set_option maxHeartbeats 4000000 in
theorem t_X12_estate {Z : Cz (Int32 × Wd)} (hZ : OKZ Z SM cX12_estate RX12 3 (some .int) 12) (hE : EndI Z)   (w : Wd) : BW Z 3 0 [(0, .ref (ph (zY Z) 0))] [] w (f_X12_estate w) :=
  bw_aload_n hZ 0 rfl dX12_estate_0 <|
  bw_callVV (As := []) hZ ml_RX12_403 rc_12 obM_0 (by decide) (c_X12_open (zl Z) (zY Z) (hZ_S hZ) w) rfl rfl (Nat.le_of_ble_eq_true rfl) dX12_estate_1 fun w1 =>
  bw_aload_n hZ 0 rfl dX12_estate_4 <|
  bw_callVI (As := []) hZ ml_RX12_406 rc_12 obM_0 (by decide) (c_X12_readEstate (zl Z) (zY Z) (hZ_S hZ) w1) rfl rfl (Nat.le_of_ble_eq_true rfl) dX12_estate_5 fun r3 w2 =>
  bw_if_ne hZ (tgt := 13) (by decide) dX12_estate_8 (fun _ =>
  bw_aload_n hZ 0 rfl dX12_estate_13 <|
  bw_aload_n hZ 0 rfl dX12_estate_14 <|
  bw_getI hZ fl_RX12_129 (by decide) obM_0 dX12_estate_15 <|
  bw_putI hZ fl_RX12_409 rfl rfl (by decide) obM_0 dX12_estate_18 fun w4 =>
  bw_aload_n hZ 0 rfl dX12_estate_21 <|
  bw_aload_n hZ 0 rfl dX12_estate_22 <|
  bw_getI hZ fl_RX12_146 (by decide) obM_0 dX12_estate_23 <|
  bw_putI hZ fl_RX12_412 rfl rfl (by decide) obM_0 dX12_estate_26 fun w5 =>
  bw_aload_n hZ 0 rfl dX12_estate_29 <|
  bw_aload_n hZ 0 rfl dX12_estate_30 <|
  bw_getI hZ fl_RX12_176 (by decide) obM_0 dX12_estate_31 <|
  bw_putI hZ fl_RX12_415 rfl rfl (by decide) obM_0 dX12_estate_34 fun w6 =>
  bw_aload_n hZ 0 rfl dX12_estate_37 <|
  bw_aload_n hZ 0 rfl dX12_estate_38 <|
  bw_getI hZ fl_RX12_208 (by decide) obM_0 dX12_estate_39 <|
  bw_putI hZ fl_RX12_418 rfl rfl (by decide) obM_0 dX12_estate_42 fun w7 =>
  bw_aload_n hZ 0 rfl dX12_estate_45 <|
  bw_aload_n hZ 0 rfl dX12_estate_46 <|
  bw_getI hZ fl_RX12_211 (by decide) obM_0 dX12_estate_47 <|
  bw_putI hZ fl_RX12_420 rfl rfl (by decide) obM_0 dX12_estate_50 fun w8 =>
  bw_aload_n hZ 0 rfl dX12_estate_53 <|
  bw_aload_n hZ 0 rfl dX12_estate_54 <|
  bw_getI hZ fl_RX12_199 (by decide) obM_0 dX12_estate_55 <|
  bw_putI hZ fl_RX12_422 rfl rfl (by decide) obM_0 dX12_estate_58 fun w9 =>
  bw_aload_n hZ 0 rfl dX12_estate_61 <|
  bw_aload_n hZ 0 rfl dX12_estate_62 <|
  bw_getI hZ fl_RX12_202 (by decide) obM_0 dX12_estate_63 <|
  bw_putI hZ fl_RX12_424 rfl rfl (by decide) obM_0 dX12_estate_66 fun w10 =>
  bw_aload_n hZ 0 rfl dX12_estate_69 <|
  bw_aload_n hZ 0 rfl dX12_estate_70 <|
  bw_getI hZ fl_RX12_205 (by decide) obM_0 dX12_estate_71 <|
  bw_putI hZ fl_RX12_426 rfl rfl (by decide) obM_0 dX12_estate_74 fun w11 =>
  bw_aload_n hZ 0 rfl dX12_estate_77 <|
  bw_aload_n hZ 0 rfl dX12_estate_78 <|
  bw_getI hZ fl_RX12_158 (by decide) obM_0 dX12_estate_79 <|
  bw_putI hZ fl_RX12_241 rfl rfl (by decide) obM_0 dX12_estate_82 fun w12 =>
  bw_aload_n hZ 0 rfl dX12_estate_85 <|
  bw_aload_n hZ 0 rfl dX12_estate_86 <|
  bw_getI hZ fl_RX12_214 (by decide) obM_0 dX12_estate_87 <|
  bw_putI hZ fl_RX12_428 rfl rfl (by decide) obM_0 dX12_estate_90 fun w13 =>
  bw_iconst hZ 0 (by decide) dX12_estate_93 <|
  bw_istore_n hZ rfl (by decide) rfl dX12_estate_94 <|
  bw_sub [1, 0] rfl (t_X12_estate_b95_L hZ hE 0 w13)) (fun _ =>
  bw_iconst hZ (-1) (by decide) dX12_estate_11 <|
  bw_iret hZ hE dX12_estate_12)
theorem c_X12_estate (l : Launch) (Y : Ev) (hY : Y.1 = SM)   (w : Wd) : CI l Y yX12_estate cX12_estate 3 12 [.ref (ph Y 0)] w .int (f_X12_estate w) := by
  refine CI_of (S := SM) (by decide) (Nat.le_of_ble_eq_true rfl) hY ?_
  intro Z hl hY2 hZ hE
  subst hY2
  exact t_X12_estate hZ hE w
-- WhichWillModel.fault
theorem dX12_fault_0 : decode cX12_fault 0 = .ok (.iload_n 1, 1) := by decide +kernel
theorem dX12_fault_1 : decode cX12_fault 1 = .ok (.ifCond .ne 10, 3) := by decide +kernel
theorem dX12_fault_4 : decode cX12_fault 4 = .ok (.aload_n 0, 1) := by decide +kernel
theorem dX12_fault_5 : decode cX12_fault 5 = .ok (.getfield 1, 3) := by decide +kernel
theorem dX12_fault_8 : decode cX12_fault 8 = .ok (.goto 16, 3) := by decide +kernel
theorem dX12_fault_11 : decode cX12_fault 11 = .ok (.iload_n 1, 1) := by decide +kernel
theorem dX12_fault_12 : decode cX12_fault 12 = .ok (.iconst 1, 1) := by decide +kernel
theorem dX12_fault_13 : decode cX12_fault 13 = .ok (.if_icmp .ne 10, 3) := by decide +kernel
theorem dX12_fault_16 : decode cX12_fault 16 = .ok (.aload_n 0, 1) := by decide +kernel
theorem dX12_fault_17 : decode cX12_fault 17 = .ok (.getfield 10, 3) := by decide +kernel
theorem dX12_fault_20 : decode cX12_fault 20 = .ok (.goto 4, 3) := by decide +kernel
theorem dX12_fault_23 : decode cX12_fault 23 = .ok (.iconst (-1), 1) := by decide +kernel
theorem dX12_fault_24 : decode cX12_fault 24 = .ok (.ireturn, 1) := by decide +kernel
def f_X12_fault (x1 : Int32) (w : Wd) : Option (Int32 × Wd) :=
  if x1 = 0 then
  (some (w.1 0 8, w))
  else
  if x1 = 1 then
  (some (w.1 0 9, w))
  else
  some ((-1), w)
set_option maxRecDepth 100000 in
set_option maxHeartbeats 4000000 in
theorem t_X12_fault {Z : Cz (Int32 × Wd)} (hZ : OKZ Z SM cX12_fault RX12 2 (some .int) 1) (hE : EndI Z) (x1 : Int32)  (w : Wd) : BW Z 2 0 [(0, .ref (ph (zY Z) 0)), (1, .int x1)] [] w (f_X12_fault x1 w) :=
  bw_iload_n hZ 1 rfl dX12_fault_0 <|
  bw_if_ne hZ (tgt := 11) (by decide) dX12_fault_1 (fun _ =>
  bw_iload_n hZ 1 rfl dX12_fault_11 <|
  bw_iconst hZ 1 (by decide) dX12_fault_12 <|
  bw_icmp_ne hZ (tgt := 23) (by decide) dX12_fault_13 (fun _ =>
  bw_iconst hZ (-1) (by decide) dX12_fault_23 <|
  bw_iret hZ hE dX12_fault_24) (fun _ =>
  bw_aload_n hZ 0 rfl dX12_fault_16 <|
  bw_getI hZ fl_RX12_10 (by decide) obM_0 dX12_fault_17 <|
  bw_goto hZ (tgt := 24) (by decide) dX12_fault_20 <|
  bw_iret hZ hE dX12_fault_24)) (fun _ =>
  bw_aload_n hZ 0 rfl dX12_fault_4 <|
  bw_getI hZ fl_RX12_1 (by decide) obM_0 dX12_fault_5 <|
  bw_goto hZ (tgt := 24) (by decide) dX12_fault_8 <|
  bw_iret hZ hE dX12_fault_24)
theorem c_X12_fault (l : Launch) (Y : Ev) (hY : Y.1 = SM) (x1 : Int32)  (w : Wd) : CI l Y yX12_fault cX12_fault 2 1 [.ref (ph Y 0), .int x1] w .int (f_X12_fault x1 w) := by
  refine CI_of (S := SM) (by decide) (Nat.le_of_ble_eq_true rfl) hY ?_
  intro Z hl hY2 hZ hE
  subst hY2
  exact t_X12_fault hZ hE x1 w
-- WhichWillModel.told
theorem dX12_told_0 : decode cX12_told 0 = .ok (.iload_n 1, 1) := by decide +kernel
theorem dX12_told_1 : decode cX12_told 1 = .ok (.i2l, 1) := by decide +kernel
theorem dX12_told_2 : decode cX12_told 2 = .ok (.ldc2_w 440, 3) := by decide +kernel
theorem dX12_told_5 : decode cX12_told 5 = .ok (.ldc2_w 442, 3) := by decide +kernel
theorem dX12_told_8 : decode cX12_told 8 = .ok (.aload_n 0, 1) := by decide +kernel
theorem dX12_told_9 : decode cX12_told 9 = .ok (.getfield 415, 3) := by decide +kernel
theorem dX12_told_12 : decode cX12_told 12 = .ok (.i2l, 1) := by decide +kernel
theorem dX12_told_13 : decode cX12_told 13 = .ok (.ladd, 1) := by decide +kernel
theorem dX12_told_14 : decode cX12_told 14 = .ok (.invokestatic 60, 3) := by decide +kernel
theorem dX12_told_17 : decode cX12_told 17 = .ok (.ifCond .eq 13, 3) := by decide +kernel
theorem dX12_told_20 : decode cX12_told 20 = .ok (.aload_n 0, 1) := by decide +kernel
theorem dX12_told_21 : decode cX12_told 21 = .ok (.getfield 252, 3) := by decide +kernel
theorem dX12_told_24 : decode cX12_told 24 = .ok (.iload_n 1, 1) := by decide +kernel
theorem dX12_told_25 : decode cX12_told 25 = .ok (.bipush 20, 2) := by decide +kernel
theorem dX12_told_27 : decode cX12_told 27 = .ok (.isub, 1) := by decide +kernel
theorem dX12_told_28 : decode cX12_told 28 = .ok (.iaload, 1) := by decide +kernel
theorem dX12_told_29 : decode cX12_told 29 = .ok (.ireturn, 1) := by decide +kernel
theorem dX12_told_30 : decode cX12_told 30 = .ok (.iload_n 1, 1) := by decide +kernel
theorem dX12_told_31 : decode cX12_told 31 = .ok (.i2l, 1) := by decide +kernel
theorem dX12_told_32 : decode cX12_told 32 = .ok (.ldc2_w 444, 3) := by decide +kernel
theorem dX12_told_35 : decode cX12_told 35 = .ok (.ldc2_w 446, 3) := by decide +kernel
theorem dX12_told_38 : decode cX12_told 38 = .ok (.aload_n 0, 1) := by decide +kernel
theorem dX12_told_39 : decode cX12_told 39 = .ok (.getfield 415, 3) := by decide +kernel
theorem dX12_told_42 : decode cX12_told 42 = .ok (.i2l, 1) := by decide +kernel
theorem dX12_told_43 : decode cX12_told 43 = .ok (.ladd, 1) := by decide +kernel
theorem dX12_told_44 : decode cX12_told 44 = .ok (.invokestatic 60, 3) := by decide +kernel
theorem dX12_told_47 : decode cX12_told 47 = .ok (.ifCond .eq 13, 3) := by decide +kernel
theorem dX12_told_50 : decode cX12_told 50 = .ok (.aload_n 0, 1) := by decide +kernel
theorem dX12_told_51 : decode cX12_told 51 = .ok (.getfield 255, 3) := by decide +kernel
theorem dX12_told_54 : decode cX12_told 54 = .ok (.iload_n 1, 1) := by decide +kernel
theorem dX12_told_55 : decode cX12_told 55 = .ok (.bipush 30, 2) := by decide +kernel
theorem dX12_told_57 : decode cX12_told 57 = .ok (.isub, 1) := by decide +kernel
theorem dX12_told_58 : decode cX12_told 58 = .ok (.iaload, 1) := by decide +kernel
theorem dX12_told_59 : decode cX12_told 59 = .ok (.ireturn, 1) := by decide +kernel
theorem dX12_told_60 : decode cX12_told 60 = .ok (.iload_n 1, 1) := by decide +kernel
theorem dX12_told_61 : decode cX12_told 61 = .ok (.i2l, 1) := by decide +kernel
theorem dX12_told_62 : decode cX12_told 62 = .ok (.ldc2_w 448, 3) := by decide +kernel
theorem dX12_told_65 : decode cX12_told 65 = .ok (.ldc2_w 450, 3) := by decide +kernel
theorem dX12_told_68 : decode cX12_told 68 = .ok (.aload_n 0, 1) := by decide +kernel
theorem dX12_told_69 : decode cX12_told 69 = .ok (.getfield 412, 3) := by decide +kernel
theorem dX12_told_72 : decode cX12_told 72 = .ok (.i2l, 1) := by decide +kernel
theorem dX12_told_73 : decode cX12_told 73 = .ok (.ladd, 1) := by decide +kernel
theorem dX12_told_74 : decode cX12_told 74 = .ok (.invokestatic 60, 3) := by decide +kernel
theorem dX12_told_77 : decode cX12_told 77 = .ok (.ifCond .eq 21, 3) := by decide +kernel
theorem dX12_told_80 : decode cX12_told 80 = .ok (.aload_n 0, 1) := by decide +kernel
theorem dX12_told_81 : decode cX12_told 81 = .ok (.getfield 258, 3) := by decide +kernel
theorem dX12_told_84 : decode cX12_told 84 = .ok (.iload_n 1, 1) := by decide +kernel
theorem dX12_told_85 : decode cX12_told 85 = .ok (.bipush 40, 2) := by decide +kernel
theorem dX12_told_87 : decode cX12_told 87 = .ok (.isub, 1) := by decide +kernel
theorem dX12_told_88 : decode cX12_told 88 = .ok (.baload, 1) := by decide +kernel
theorem dX12_told_89 : decode cX12_told 89 = .ok (.ifCond .eq 7, 3) := by decide +kernel
theorem dX12_told_92 : decode cX12_told 92 = .ok (.iconst 1, 1) := by decide +kernel
theorem dX12_told_93 : decode cX12_told 93 = .ok (.goto 4, 3) := by decide +kernel
theorem dX12_told_96 : decode cX12_told 96 = .ok (.iconst 0, 1) := by decide +kernel
theorem dX12_told_97 : decode cX12_told 97 = .ok (.ireturn, 1) := by decide +kernel
theorem dX12_told_98 : decode cX12_told 98 = .ok (.iload_n 1, 1) := by decide +kernel
theorem dX12_told_99 : decode cX12_told 99 = .ok (.tableswitch 145 0 10 #[57, 62, 67, 72, 77, 82, 87, 92, 108, 124, 140], 57) := by decide +kernel
theorem dX12_told_156 : decode cX12_told 156 = .ok (.aload_n 0, 1) := by decide +kernel
theorem dX12_told_157 : decode cX12_told 157 = .ok (.getfield 409, 3) := by decide +kernel
theorem dX12_told_160 : decode cX12_told 160 = .ok (.ireturn, 1) := by decide +kernel
theorem dX12_told_161 : decode cX12_told 161 = .ok (.aload_n 0, 1) := by decide +kernel
theorem dX12_told_162 : decode cX12_told 162 = .ok (.getfield 412, 3) := by decide +kernel
theorem dX12_told_165 : decode cX12_told 165 = .ok (.ireturn, 1) := by decide +kernel
theorem dX12_told_166 : decode cX12_told 166 = .ok (.aload_n 0, 1) := by decide +kernel
theorem dX12_told_167 : decode cX12_told 167 = .ok (.getfield 415, 3) := by decide +kernel
theorem dX12_told_170 : decode cX12_told 170 = .ok (.ireturn, 1) := by decide +kernel
theorem dX12_told_171 : decode cX12_told 171 = .ok (.aload_n 0, 1) := by decide +kernel
theorem dX12_told_172 : decode cX12_told 172 = .ok (.getfield 431, 3) := by decide +kernel
theorem dX12_told_175 : decode cX12_told 175 = .ok (.ireturn, 1) := by decide +kernel
theorem dX12_told_176 : decode cX12_told 176 = .ok (.aload_n 0, 1) := by decide +kernel
theorem dX12_told_177 : decode cX12_told 177 = .ok (.getfield 434, 3) := by decide +kernel
theorem dX12_told_180 : decode cX12_told 180 = .ok (.ireturn, 1) := by decide +kernel
theorem dX12_told_181 : decode cX12_told 181 = .ok (.aload_n 0, 1) := by decide +kernel
theorem dX12_told_182 : decode cX12_told 182 = .ok (.getfield 418, 3) := by decide +kernel
theorem dX12_told_185 : decode cX12_told 185 = .ok (.ireturn, 1) := by decide +kernel
theorem dX12_told_186 : decode cX12_told 186 = .ok (.aload_n 0, 1) := by decide +kernel
theorem dX12_told_187 : decode cX12_told 187 = .ok (.getfield 420, 3) := by decide +kernel
theorem dX12_told_190 : decode cX12_told 190 = .ok (.ireturn, 1) := by decide +kernel
theorem dX12_told_191 : decode cX12_told 191 = .ok (.aload_n 0, 1) := by decide +kernel
theorem dX12_told_192 : decode cX12_told 192 = .ok (.getfield 409, 3) := by decide +kernel
theorem dX12_told_195 : decode cX12_told 195 = .ok (.ifCond .ne 7, 3) := by decide +kernel
theorem dX12_told_198 : decode cX12_told 198 = .ok (.iconst (-1), 1) := by decide +kernel
theorem dX12_told_199 : decode cX12_told 199 = .ok (.goto 7, 3) := by decide +kernel
theorem dX12_told_202 : decode cX12_told 202 = .ok (.aload_n 0, 1) := by decide +kernel
theorem dX12_told_203 : decode cX12_told 203 = .ok (.getfield 422, 3) := by decide +kernel
theorem dX12_told_206 : decode cX12_told 206 = .ok (.ireturn, 1) := by decide +kernel
theorem dX12_told_207 : decode cX12_told 207 = .ok (.aload_n 0, 1) := by decide +kernel
theorem dX12_told_208 : decode cX12_told 208 = .ok (.getfield 409, 3) := by decide +kernel
theorem dX12_told_211 : decode cX12_told 211 = .ok (.ifCond .ne 7, 3) := by decide +kernel
theorem dX12_told_214 : decode cX12_told 214 = .ok (.iconst (-1), 1) := by decide +kernel
theorem dX12_told_215 : decode cX12_told 215 = .ok (.goto 7, 3) := by decide +kernel
theorem dX12_told_218 : decode cX12_told 218 = .ok (.aload_n 0, 1) := by decide +kernel
theorem dX12_told_219 : decode cX12_told 219 = .ok (.getfield 424, 3) := by decide +kernel
theorem dX12_told_222 : decode cX12_told 222 = .ok (.ireturn, 1) := by decide +kernel
theorem dX12_told_223 : decode cX12_told 223 = .ok (.aload_n 0, 1) := by decide +kernel
theorem dX12_told_224 : decode cX12_told 224 = .ok (.getfield 409, 3) := by decide +kernel
theorem dX12_told_227 : decode cX12_told 227 = .ok (.ifCond .ne 7, 3) := by decide +kernel
theorem dX12_told_230 : decode cX12_told 230 = .ok (.iconst (-1), 1) := by decide +kernel
theorem dX12_told_231 : decode cX12_told 231 = .ok (.goto 7, 3) := by decide +kernel
theorem dX12_told_234 : decode cX12_told 234 = .ok (.aload_n 0, 1) := by decide +kernel
theorem dX12_told_235 : decode cX12_told 235 = .ok (.getfield 426, 3) := by decide +kernel
theorem dX12_told_238 : decode cX12_told 238 = .ok (.ireturn, 1) := by decide +kernel
theorem dX12_told_239 : decode cX12_told 239 = .ok (.aload_n 0, 1) := by decide +kernel
theorem dX12_told_240 : decode cX12_told 240 = .ok (.getfield 241, 3) := by decide +kernel
theorem dX12_told_243 : decode cX12_told 243 = .ok (.ireturn, 1) := by decide +kernel
theorem dX12_told_244 : decode cX12_told 244 = .ok (.iconst (-1), 1) := by decide +kernel
theorem dX12_told_245 : decode cX12_told 245 = .ok (.ireturn, 1) := by decide +kernel
def f_X12_told (x1 : Int32) (w : Wd) : Option (Int32 × Wd) :=
  cl (f_X12_in (Int32.toInt64 x1) 20 (19 + (Int32.toInt64 (w.1 0 12))) w) fun r2 w1 =>
  if r2 = 0 then
  (cl (f_X12_in (Int32.toInt64 x1) 30 (29 + (Int32.toInt64 (w1.1 0 12))) w1) fun r4 w3 =>
  if r4 = 0 then
  (cl (f_X12_in (Int32.toInt64 x1) 40 (39 + (Int32.toInt64 (w3.1 0 11))) w3) fun r6 w5 =>
  if r6 = 0 then
  (if x1 = 0 then
  (some (w5.1 0 10, w5))
  else
  if x1 = 1 then
  (some (w5.1 0 11, w5))
  else
  if x1 = 2 then
  (some (w5.1 0 12, w5))
  else
  if x1 = 3 then
  (some (w5.1 0 49, w5))
  else
  if x1 = 4 then
  (some (w5.1 0 50, w5))
  else
  if x1 = 5 then
  (some (w5.1 0 14, w5))
  else
  if x1 = 6 then
  (some (w5.1 0 15, w5))
  else
  if x1 = 7 then
  (if (w5.1 0 10) = 0 then
  (some ((-1), w5))
  else
  some (w5.1 0 16, w5))
  else
  if x1 = 8 then
  (if (w5.1 0 10) = 0 then
  (some ((-1), w5))
  else
  some (w5.1 0 17, w5))
  else
  if x1 = 9 then
  (if (w5.1 0 10) = 0 then
  (some ((-1), w5))
  else
  some (w5.1 0 18, w5))
  else
  if x1 = 10 then
  (some (w5.1 0 19, w5))
  else
  some ((-1), w5))
  else
  if inb (x1 - 40) 8 = true then
  (if (w5.1 7 (Int32.toNatClampNeg (x1 - 40))) = 0 then
  (some (0, w5))
  else
  some (1, w5))
  else none)
  else
  if inb (x1 - 30) 8 = true then
  (some (w3.1 6 (Int32.toNatClampNeg (x1 - 30)), w3))
  else none)
  else
  if inb (x1 - 20) 8 = true then
  (some (w1.1 5 (Int32.toNatClampNeg (x1 - 20)), w1))
  else none
set_option maxRecDepth 100000 in
set_option maxHeartbeats 4000000 in
theorem t_X12_told {Z : Cz (Int32 × Wd)} (hZ : OKZ Z SM cX12_told RX12 2 (some .int) 2) (hE : EndI Z) (x1 : Int32)  (w : Wd) : BW Z 2 0 [(0, .ref (ph (zY Z) 0)), (1, .int x1)] [] w (f_X12_told x1 w) :=
  bw_iload_n hZ 1 rfl dX12_told_0 <|
  bw_i2l hZ dX12_told_1 <|
  bw_ldc2 hZ kk_RX12_440 dX12_told_2 <|
  bw_ldc2 hZ kk_RX12_442 dX12_told_5 <|
  bw_aload_n hZ 0 rfl dX12_told_8 <|
  bw_getI hZ fl_RX12_415 (by decide) obM_0 dX12_told_9 <|
  bw_i2l hZ dX12_told_12 <|
  bw_ladd hZ dX12_told_13 <|
  bw_callSI (As := [.long (Int32.toInt64 x1), .long 20, .long (19 + (Int32.toInt64 (w.1 0 12)))]) hZ ms_RX12_60 (by decide) (c_X12_in (zl Z) (zY Z) (hZ_S hZ) (Int32.toInt64 x1) 20 (19 + (Int32.toInt64 (w.1 0 12))) w) rfl rfl (Nat.le_of_ble_eq_true rfl) dX12_told_14 fun r2 w1 =>
  bw_if_eq hZ (tgt := 30) (by decide) dX12_told_17 (fun _ =>
  bw_iload_n hZ 1 rfl dX12_told_30 <|
  bw_i2l hZ dX12_told_31 <|
  bw_ldc2 hZ kk_RX12_444 dX12_told_32 <|
  bw_ldc2 hZ kk_RX12_446 dX12_told_35 <|
  bw_aload_n hZ 0 rfl dX12_told_38 <|
  bw_getI hZ fl_RX12_415 (by decide) obM_0 dX12_told_39 <|
  bw_i2l hZ dX12_told_42 <|
  bw_ladd hZ dX12_told_43 <|
  bw_callSI (As := [.long (Int32.toInt64 x1), .long 30, .long (29 + (Int32.toInt64 (w1.1 0 12)))]) hZ ms_RX12_60 (by decide) (c_X12_in (zl Z) (zY Z) (hZ_S hZ) (Int32.toInt64 x1) 30 (29 + (Int32.toInt64 (w1.1 0 12))) w1) rfl rfl (Nat.le_of_ble_eq_true rfl) dX12_told_44 fun r4 w3 =>
  bw_if_eq hZ (tgt := 60) (by decide) dX12_told_47 (fun _ =>
  bw_iload_n hZ 1 rfl dX12_told_60 <|
  bw_i2l hZ dX12_told_61 <|
  bw_ldc2 hZ kk_RX12_448 dX12_told_62 <|
  bw_ldc2 hZ kk_RX12_450 dX12_told_65 <|
  bw_aload_n hZ 0 rfl dX12_told_68 <|
  bw_getI hZ fl_RX12_412 (by decide) obM_0 dX12_told_69 <|
  bw_i2l hZ dX12_told_72 <|
  bw_ladd hZ dX12_told_73 <|
  bw_callSI (As := [.long (Int32.toInt64 x1), .long 40, .long (39 + (Int32.toInt64 (w3.1 0 11)))]) hZ ms_RX12_60 (by decide) (c_X12_in (zl Z) (zY Z) (hZ_S hZ) (Int32.toInt64 x1) 40 (39 + (Int32.toInt64 (w3.1 0 11))) w3) rfl rfl (Nat.le_of_ble_eq_true rfl) dX12_told_74 fun r6 w5 =>
  bw_if_eq hZ (tgt := 98) (by decide) dX12_told_77 (fun _ =>
  bw_iload_n hZ 1 rfl dX12_told_98 <|
  bw_if (fun h => bw_tabIn hZ (tgt := 156) (off := 57) 0 (by rw [h]; decide) (by decide) (by decide) (by decide) (by decide) dX12_told_99 <|
  bw_aload_n hZ 0 rfl dX12_told_156 <|
  bw_getI hZ fl_RX12_409 (by decide) obM_0 dX12_told_157 <|
  bw_iret hZ hE dX12_told_160) (fun h0 =>
  bw_if (fun h => bw_tabIn hZ (tgt := 161) (off := 62) 1 (by rw [h]; decide) (by decide) (by decide) (by decide) (by decide) dX12_told_99 <|
  bw_aload_n hZ 0 rfl dX12_told_161 <|
  bw_getI hZ fl_RX12_412 (by decide) obM_0 dX12_told_162 <|
  bw_iret hZ hE dX12_told_165) (fun h1 =>
  bw_if (fun h => bw_tabIn hZ (tgt := 166) (off := 67) 2 (by rw [h]; decide) (by decide) (by decide) (by decide) (by decide) dX12_told_99 <|
  bw_aload_n hZ 0 rfl dX12_told_166 <|
  bw_getI hZ fl_RX12_415 (by decide) obM_0 dX12_told_167 <|
  bw_iret hZ hE dX12_told_170) (fun h2 =>
  bw_if (fun h => bw_tabIn hZ (tgt := 171) (off := 72) 3 (by rw [h]; decide) (by decide) (by decide) (by decide) (by decide) dX12_told_99 <|
  bw_aload_n hZ 0 rfl dX12_told_171 <|
  bw_getI hZ fl_RX12_431 (by decide) obM_0 dX12_told_172 <|
  bw_iret hZ hE dX12_told_175) (fun h3 =>
  bw_if (fun h => bw_tabIn hZ (tgt := 176) (off := 77) 4 (by rw [h]; decide) (by decide) (by decide) (by decide) (by decide) dX12_told_99 <|
  bw_aload_n hZ 0 rfl dX12_told_176 <|
  bw_getI hZ fl_RX12_434 (by decide) obM_0 dX12_told_177 <|
  bw_iret hZ hE dX12_told_180) (fun h4 =>
  bw_if (fun h => bw_tabIn hZ (tgt := 181) (off := 82) 5 (by rw [h]; decide) (by decide) (by decide) (by decide) (by decide) dX12_told_99 <|
  bw_aload_n hZ 0 rfl dX12_told_181 <|
  bw_getI hZ fl_RX12_418 (by decide) obM_0 dX12_told_182 <|
  bw_iret hZ hE dX12_told_185) (fun h5 =>
  bw_if (fun h => bw_tabIn hZ (tgt := 186) (off := 87) 6 (by rw [h]; decide) (by decide) (by decide) (by decide) (by decide) dX12_told_99 <|
  bw_aload_n hZ 0 rfl dX12_told_186 <|
  bw_getI hZ fl_RX12_420 (by decide) obM_0 dX12_told_187 <|
  bw_iret hZ hE dX12_told_190) (fun h6 =>
  bw_if (fun h => bw_tabIn hZ (tgt := 191) (off := 92) 7 (by rw [h]; decide) (by decide) (by decide) (by decide) (by decide) dX12_told_99 <|
  bw_aload_n hZ 0 rfl dX12_told_191 <|
  bw_getI hZ fl_RX12_409 (by decide) obM_0 dX12_told_192 <|
  bw_if_ne hZ (tgt := 202) (by decide) dX12_told_195 (fun _ =>
  bw_aload_n hZ 0 rfl dX12_told_202 <|
  bw_getI hZ fl_RX12_422 (by decide) obM_0 dX12_told_203 <|
  bw_iret hZ hE dX12_told_206) (fun _ =>
  bw_iconst hZ (-1) (by decide) dX12_told_198 <|
  bw_goto hZ (tgt := 206) (by decide) dX12_told_199 <|
  bw_iret hZ hE dX12_told_206)) (fun h7 =>
  bw_if (fun h => bw_tabIn hZ (tgt := 207) (off := 108) 8 (by rw [h]; decide) (by decide) (by decide) (by decide) (by decide) dX12_told_99 <|
  bw_aload_n hZ 0 rfl dX12_told_207 <|
  bw_getI hZ fl_RX12_409 (by decide) obM_0 dX12_told_208 <|
  bw_if_ne hZ (tgt := 218) (by decide) dX12_told_211 (fun _ =>
  bw_aload_n hZ 0 rfl dX12_told_218 <|
  bw_getI hZ fl_RX12_424 (by decide) obM_0 dX12_told_219 <|
  bw_iret hZ hE dX12_told_222) (fun _ =>
  bw_iconst hZ (-1) (by decide) dX12_told_214 <|
  bw_goto hZ (tgt := 222) (by decide) dX12_told_215 <|
  bw_iret hZ hE dX12_told_222)) (fun h8 =>
  bw_if (fun h => bw_tabIn hZ (tgt := 223) (off := 124) 9 (by rw [h]; decide) (by decide) (by decide) (by decide) (by decide) dX12_told_99 <|
  bw_aload_n hZ 0 rfl dX12_told_223 <|
  bw_getI hZ fl_RX12_409 (by decide) obM_0 dX12_told_224 <|
  bw_if_ne hZ (tgt := 234) (by decide) dX12_told_227 (fun _ =>
  bw_aload_n hZ 0 rfl dX12_told_234 <|
  bw_getI hZ fl_RX12_426 (by decide) obM_0 dX12_told_235 <|
  bw_iret hZ hE dX12_told_238) (fun _ =>
  bw_iconst hZ (-1) (by decide) dX12_told_230 <|
  bw_goto hZ (tgt := 238) (by decide) dX12_told_231 <|
  bw_iret hZ hE dX12_told_238)) (fun h9 =>
  bw_if (fun h => bw_tabIn hZ (tgt := 239) (off := 140) 10 (by rw [h]; decide) (by decide) (by decide) (by decide) (by decide) dX12_told_99 <|
  bw_aload_n hZ 0 rfl dX12_told_239 <|
  bw_getI hZ fl_RX12_241 (by decide) obM_0 dX12_told_240 <|
  bw_iret hZ hE dX12_told_243) (fun h10 =>
  bw_tabOut hZ (tgt := 244) (by have q0 := ne_int h0 (n := 0) (by decide); have q1 := ne_int h1 (n := 1) (by decide); have q2 := ne_int h2 (n := 2) (by decide); have q3 := ne_int h3 (n := 3) (by decide); have q4 := ne_int h4 (n := 4) (by decide); have q5 := ne_int h5 (n := 5) (by decide); have q6 := ne_int h6 (n := 6) (by decide); have q7 := ne_int h7 (n := 7) (by decide); have q8 := ne_int h8 (n := 8) (by decide); have q9 := ne_int h9 (n := 9) (by decide); have q10 := ne_int h10 (n := 10) (by decide); omega) (by decide) dX12_told_99 <|
  bw_iconst hZ (-1) (by decide) dX12_told_244 <|
  bw_iret hZ hE dX12_told_245)))))))))))) (fun _ =>
  bw_aload_n hZ 0 rfl dX12_told_80 <|
  bw_getR hZ fl_RX12_258 obM_0 rfl dX12_told_81 <|
  bw_iload_n hZ 1 rfl dX12_told_84 <|
  bw_bipush hZ 40 (by decide) dX12_told_85 <|
  bw_isub hZ dX12_told_87 <|
  bw_zald hZ (arM_7 _) dX12_told_88 <|
  bw_if_eq hZ (tgt := 96) (by decide) dX12_told_89 (fun _ =>
  bw_iconst hZ 0 (by decide) dX12_told_96 <|
  bw_iret hZ hE dX12_told_97) (fun _ =>
  bw_iconst hZ 1 (by decide) dX12_told_92 <|
  bw_goto hZ (tgt := 97) (by decide) dX12_told_93 <|
  bw_iret hZ hE dX12_told_97))) (fun _ =>
  bw_aload_n hZ 0 rfl dX12_told_50 <|
  bw_getR hZ fl_RX12_255 obM_0 rfl dX12_told_51 <|
  bw_iload_n hZ 1 rfl dX12_told_54 <|
  bw_bipush hZ 30 (by decide) dX12_told_55 <|
  bw_isub hZ dX12_told_57 <|
  bw_iald hZ (arM_6 _) dX12_told_58 <|
  bw_iret hZ hE dX12_told_59)) (fun _ =>
  bw_aload_n hZ 0 rfl dX12_told_20 <|
  bw_getR hZ fl_RX12_252 obM_0 rfl dX12_told_21 <|
  bw_iload_n hZ 1 rfl dX12_told_24 <|
  bw_bipush hZ 20 (by decide) dX12_told_25 <|
  bw_isub hZ dX12_told_27 <|
  bw_iald hZ (arM_5 _) dX12_told_28 <|
  bw_iret hZ hE dX12_told_29)
theorem c_X12_told (l : Launch) (Y : Ev) (hY : Y.1 = SM) (x1 : Int32)  (w : Wd) : CI l Y yX12_told cX12_told 2 2 [.ref (ph Y 0), .int x1] w .int (f_X12_told x1 w) := by
  refine CI_of (S := SM) (by decide) (Nat.le_of_ble_eq_true rfl) hY ?_
  intro Z hl hY2 hZ hE
  subst hY2
  exact t_X12_told hZ hE x1 w
-- WhichWillModel.isLand
theorem dX12_isLand_0 : decode cX12_isLand 0 = .ok (.iload_n 1, 1) := by decide +kernel
theorem dX12_isLand_1 : decode cX12_isLand 1 = .ok (.i2l, 1) := by decide +kernel
theorem dX12_isLand_2 : decode cX12_isLand 2 = .ok (.lconst 0, 1) := by decide +kernel
theorem dX12_isLand_3 : decode cX12_isLand 3 = .ok (.aload_n 0, 1) := by decide +kernel
theorem dX12_isLand_4 : decode cX12_isLand 4 = .ok (.getfield 409, 3) := by decide +kernel
theorem dX12_isLand_7 : decode cX12_isLand 7 = .ok (.i2l, 1) := by decide +kernel
theorem dX12_isLand_8 : decode cX12_isLand 8 = .ok (.lconst 1, 1) := by decide +kernel
theorem dX12_isLand_9 : decode cX12_isLand 9 = .ok (.lsub, 1) := by decide +kernel
theorem dX12_isLand_10 : decode cX12_isLand 10 = .ok (.invokestatic 60, 3) := by decide +kernel
theorem dX12_isLand_13 : decode cX12_isLand 13 = .ok (.ireturn, 1) := by decide +kernel
def f_X12_isLand (x1 : Int32) (w : Wd) : Option (Int32 × Wd) :=
  cl (f_X12_in (Int32.toInt64 x1) 0 ((Int32.toInt64 (w.1 0 10)) - 1) w) fun r2 w1 =>
  if isB r2 = true then some (r2, w1) else none
set_option maxRecDepth 100000 in
set_option maxHeartbeats 4000000 in
theorem t_X12_isLand {Z : Cz (Int32 × Wd)} (hZ : OKZ Z SM cX12_isLand RX12 2 (some .boolean) 2) (hE : EndI Z) (x1 : Int32)  (w : Wd) : BW Z 2 0 [(0, .ref (ph (zY Z) 0)), (1, .int x1)] [] w (f_X12_isLand x1 w) :=
  bw_iload_n hZ 1 rfl dX12_isLand_0 <|
  bw_i2l hZ dX12_isLand_1 <|
  bw_lconst hZ 0 (by decide) dX12_isLand_2 <|
  bw_aload_n hZ 0 rfl dX12_isLand_3 <|
  bw_getI hZ fl_RX12_409 (by decide) obM_0 dX12_isLand_4 <|
  bw_i2l hZ dX12_isLand_7 <|
  bw_lconst hZ 1 (by decide) dX12_isLand_8 <|
  bw_lsub hZ dX12_isLand_9 <|
  bw_callSI (As := [.long (Int32.toInt64 x1), .long 0, .long ((Int32.toInt64 (w.1 0 10)) - 1)]) hZ ms_RX12_60 (by decide) (c_X12_in (zl Z) (zY Z) (hZ_S hZ) (Int32.toInt64 x1) 0 ((Int32.toInt64 (w.1 0 10)) - 1) w) rfl rfl (Nat.le_of_ble_eq_true rfl) dX12_isLand_10 fun r2 w1 =>
  bw_zretC hZ hE dX12_isLand_13
theorem c_X12_isLand (l : Launch) (Y : Ev) (hY : Y.1 = SM) (x1 : Int32)  (w : Wd) : CI l Y yX12_isLand cX12_isLand 2 2 [.ref (ph Y 0), .int x1] w .boolean (f_X12_isLand x1 w) := by
  refine CI_of (S := SM) (by decide) (Nat.le_of_ble_eq_true rfl) hY ?_
  intro Z hl hY2 hZ hE
  subst hY2
  exact t_X12_isLand hZ hE x1 w
-- WhichWillModel.rule
theorem dX12_rule_0 : decode cX12_rule 0 = .ok (.aload_n 0, 1) := by decide +kernel
theorem dX12_rule_1 : decode cX12_rule 1 = .ok (.iload_n 1, 1) := by decide +kernel
theorem dX12_rule_2 : decode cX12_rule 2 = .ok (.invokevirtual 452, 3) := by decide +kernel
theorem dX12_rule_5 : decode cX12_rule 5 = .ok (.ifCond .eq 29, 3) := by decide +kernel
theorem dX12_rule_8 : decode cX12_rule 8 = .ok (.iload_n 2, 1) := by decide +kernel
theorem dX12_rule_9 : decode cX12_rule 9 = .ok (.i2l, 1) := by decide +kernel
theorem dX12_rule_10 : decode cX12_rule 10 = .ok (.lconst 0, 1) := by decide +kernel
theorem dX12_rule_11 : decode cX12_rule 11 = .ok (.ldc2_w 455, 3) := by decide +kernel
theorem dX12_rule_14 : decode cX12_rule 14 = .ok (.invokestatic 60, 3) := by decide +kernel
theorem dX12_rule_17 : decode cX12_rule 17 = .ok (.ifCond .eq 17, 3) := by decide +kernel
theorem dX12_rule_20 : decode cX12_rule 20 = .ok (.aload_n 0, 1) := by decide +kernel
theorem dX12_rule_21 : decode cX12_rule 21 = .ok (.getfield 243, 3) := by decide +kernel
theorem dX12_rule_24 : decode cX12_rule 24 = .ok (.bipush 13, 2) := by decide +kernel
theorem dX12_rule_26 : decode cX12_rule 26 = .ok (.iload_n 1, 1) := by decide +kernel
theorem dX12_rule_27 : decode cX12_rule 27 = .ok (.imul, 1) := by decide +kernel
theorem dX12_rule_28 : decode cX12_rule 28 = .ok (.iload_n 2, 1) := by decide +kernel
theorem dX12_rule_29 : decode cX12_rule 29 = .ok (.iadd, 1) := by decide +kernel
theorem dX12_rule_30 : decode cX12_rule 30 = .ok (.iaload, 1) := by decide +kernel
theorem dX12_rule_31 : decode cX12_rule 31 = .ok (.goto 5, 3) := by decide +kernel
theorem dX12_rule_34 : decode cX12_rule 34 = .ok (.bipush (-2), 2) := by decide +kernel
theorem dX12_rule_36 : decode cX12_rule 36 = .ok (.ireturn, 1) := by decide +kernel
def f_X12_rule (x1 : Int32) (x2 : Int32) (w : Wd) : Option (Int32 × Wd) :=
  cl (f_X12_isLand x1 w) fun r2 w1 =>
  if r2 = 0 then
  (some ((-2), w1))
  else
  cl (f_X12_in (Int32.toInt64 x2) 0 12 w1) fun r4 w3 =>
  if r4 = 0 then
  (some ((-2), w3))
  else
  if inb ((13 * x1) + x2) 52 = true then
  (some (w3.1 2 (Int32.toNatClampNeg ((13 * x1) + x2)), w3))
  else none
set_option maxRecDepth 100000 in
set_option maxHeartbeats 4000000 in
theorem t_X12_rule {Z : Cz (Int32 × Wd)} (hZ : OKZ Z SM cX12_rule RX12 3 (some .int) 3) (hE : EndI Z) (x1 : Int32) (x2 : Int32)  (w : Wd) : BW Z 3 0 [(0, .ref (ph (zY Z) 0)), (1, .int x1), (2, .int x2)] [] w (f_X12_rule x1 x2 w) :=
  bw_aload_n hZ 0 rfl dX12_rule_0 <|
  bw_iload_n hZ 1 rfl dX12_rule_1 <|
  bw_callVI (As := [.int x1]) hZ ml_RX12_452 rc_12 obM_0 (by decide) (c_X12_isLand (zl Z) (zY Z) (hZ_S hZ) x1 w) rfl rfl (Nat.le_of_ble_eq_true rfl) dX12_rule_2 fun r2 w1 =>
  bw_if_eq hZ (tgt := 34) (by decide) dX12_rule_5 (fun _ =>
  bw_bipush hZ (-2) (by decide) dX12_rule_34 <|
  bw_iret hZ hE dX12_rule_36) (fun _ =>
  bw_iload_n hZ 2 rfl dX12_rule_8 <|
  bw_i2l hZ dX12_rule_9 <|
  bw_lconst hZ 0 (by decide) dX12_rule_10 <|
  bw_ldc2 hZ kk_RX12_455 dX12_rule_11 <|
  bw_callSI (As := [.long (Int32.toInt64 x2), .long 0, .long 12]) hZ ms_RX12_60 (by decide) (c_X12_in (zl Z) (zY Z) (hZ_S hZ) (Int32.toInt64 x2) 0 12 w1) rfl rfl (Nat.le_of_ble_eq_true rfl) dX12_rule_14 fun r4 w3 =>
  bw_if_eq hZ (tgt := 34) (by decide) dX12_rule_17 (fun _ =>
  bw_bipush hZ (-2) (by decide) dX12_rule_34 <|
  bw_iret hZ hE dX12_rule_36) (fun _ =>
  bw_aload_n hZ 0 rfl dX12_rule_20 <|
  bw_getR hZ fl_RX12_243 obM_0 rfl dX12_rule_21 <|
  bw_bipush hZ 13 (by decide) dX12_rule_24 <|
  bw_iload_n hZ 1 rfl dX12_rule_26 <|
  bw_imul hZ dX12_rule_27 <|
  bw_iload_n hZ 2 rfl dX12_rule_28 <|
  bw_iadd hZ dX12_rule_29 <|
  bw_iald hZ (arM_2 _) dX12_rule_30 <|
  bw_goto hZ (tgt := 36) (by decide) dX12_rule_31 <|
  bw_iret hZ hE dX12_rule_36))
theorem c_X12_rule (l : Launch) (Y : Ev) (hY : Y.1 = SM) (x1 : Int32) (x2 : Int32)  (w : Wd) : CI l Y yX12_rule cX12_rule 3 3 [.ref (ph Y 0), .int x1, .int x2] w .int (f_X12_rule x1 x2 w) := by
  refine CI_of (S := SM) (by decide) (Nat.le_of_ble_eq_true rfl) hY ?_
  intro Z hl hY2 hZ hE
  subst hY2
  exact t_X12_rule hZ hE x1 x2 w
