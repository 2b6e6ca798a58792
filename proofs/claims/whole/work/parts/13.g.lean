-- WhichWill$Standing.setLaw
theorem dX8_setLaw_0 : decode cX8_setLaw 0 = .ok (.aload_n 0, 1) := by decide +kernel
theorem dX8_setLaw_1 : decode cX8_setLaw 1 = .ok (.getfield 18, 3) := by decide +kernel
theorem dX8_setLaw_4 : decode cX8_setLaw 4 = .ok (.getfield 22, 3) := by decide +kernel
theorem dX8_setLaw_7 : decode cX8_setLaw 7 = .ok (.astore_n 2, 1) := by decide +kernel
theorem dX8_setLaw_8 : decode cX8_setLaw 8 = .ok (.aload_n 0, 1) := by decide +kernel
theorem dX8_setLaw_9 : decode cX8_setLaw 9 = .ok (.aload_n 2, 1) := by decide +kernel
theorem dX8_setLaw_10 : decode cX8_setLaw 10 = .ok (.iload_n 1, 1) := by decide +kernel
theorem dX8_setLaw_11 : decode cX8_setLaw 11 = .ok (.bipush 7, 2) := by decide +kernel
theorem dX8_setLaw_13 : decode cX8_setLaw 13 = .ok (.invokevirtual 30, 3) := by decide +kernel
theorem dX8_setLaw_16 : decode cX8_setLaw 16 = .ok (.ifCond .eq 7, 3) := by decide +kernel
theorem dX8_setLaw_19 : decode cX8_setLaw 19 = .ok (.iconst 1, 1) := by decide +kernel
theorem dX8_setLaw_20 : decode cX8_setLaw 20 = .ok (.goto 4, 3) := by decide +kernel
theorem dX8_setLaw_23 : decode cX8_setLaw 23 = .ok (.iconst 0, 1) := by decide +kernel
theorem dX8_setLaw_24 : decode cX8_setLaw 24 = .ok (.putfield 34, 3) := by decide +kernel
theorem dX8_setLaw_27 : decode cX8_setLaw 27 = .ok (.aload_n 0, 1) := by decide +kernel
theorem dX8_setLaw_28 : decode cX8_setLaw 28 = .ok (.aload_n 2, 1) := by decide +kernel
theorem dX8_setLaw_29 : decode cX8_setLaw 29 = .ok (.iload_n 1, 1) := by decide +kernel
theorem dX8_setLaw_30 : decode cX8_setLaw 30 = .ok (.iconst 3, 1) := by decide +kernel
theorem dX8_setLaw_31 : decode cX8_setLaw 31 = .ok (.invokevirtual 30, 3) := by decide +kernel
theorem dX8_setLaw_34 : decode cX8_setLaw 34 = .ok (.iconst 2, 1) := by decide +kernel
theorem dX8_setLaw_35 : decode cX8_setLaw 35 = .ok (.if_icmp .ne 7, 3) := by decide +kernel
theorem dX8_setLaw_38 : decode cX8_setLaw 38 = .ok (.iconst 1, 1) := by decide +kernel
theorem dX8_setLaw_39 : decode cX8_setLaw 39 = .ok (.goto 4, 3) := by decide +kernel
theorem dX8_setLaw_42 : decode cX8_setLaw 42 = .ok (.iconst 0, 1) := by decide +kernel
theorem dX8_setLaw_43 : decode cX8_setLaw 43 = .ok (.putfield 38, 3) := by decide +kernel
theorem dX8_setLaw_46 : decode cX8_setLaw 46 = .ok (.iconst 0, 1) := by decide +kernel
theorem dX8_setLaw_47 : decode cX8_setLaw 47 = .ok (.istore_n 3, 1) := by decide +kernel
theorem dX8_setLaw_48 : decode cX8_setLaw 48 = .ok (.iload_n 3, 1) := by decide +kernel
theorem dX8_setLaw_49 : decode cX8_setLaw 49 = .ok (.aload_n 0, 1) := by decide +kernel
theorem dX8_setLaw_50 : decode cX8_setLaw 50 = .ok (.getfield 18, 3) := by decide +kernel
theorem dX8_setLaw_53 : decode cX8_setLaw 53 = .ok (.getfield 41, 3) := by decide +kernel
theorem dX8_setLaw_56 : decode cX8_setLaw 56 = .ok (.if_icmp .ge 32, 3) := by decide +kernel
theorem dX8_setLaw_59 : decode cX8_setLaw 59 = .ok (.aload_n 0, 1) := by decide +kernel
theorem dX8_setLaw_60 : decode cX8_setLaw 60 = .ok (.getfield 15, 3) := by decide +kernel
theorem dX8_setLaw_63 : decode cX8_setLaw 63 = .ok (.iload_n 3, 1) := by decide +kernel
theorem dX8_setLaw_64 : decode cX8_setLaw 64 = .ok (.aload_n 0, 1) := by decide +kernel
theorem dX8_setLaw_65 : decode cX8_setLaw 65 = .ok (.aload_n 0, 1) := by decide +kernel
theorem dX8_setLaw_66 : decode cX8_setLaw 66 = .ok (.getfield 18, 3) := by decide +kernel
theorem dX8_setLaw_69 : decode cX8_setLaw 69 = .ok (.getfield 45, 3) := by decide +kernel
theorem dX8_setLaw_72 : decode cX8_setLaw 72 = .ok (.iload_n 3, 1) := by decide +kernel
theorem dX8_setLaw_73 : decode cX8_setLaw 73 = .ok (.aaload, 1) := by decide +kernel
theorem dX8_setLaw_74 : decode cX8_setLaw 74 = .ok (.getfield 49, 3) := by decide +kernel
theorem dX8_setLaw_77 : decode cX8_setLaw 77 = .ok (.iload_n 1, 1) := by decide +kernel
theorem dX8_setLaw_78 : decode cX8_setLaw 78 = .ok (.invokevirtual 54, 3) := by decide +kernel
theorem dX8_setLaw_81 : decode cX8_setLaw 81 = .ok (.iastore, 1) := by decide +kernel
theorem dX8_setLaw_82 : decode cX8_setLaw 82 = .ok (.iinc 3 1, 3) := by decide +kernel
theorem dX8_setLaw_85 : decode cX8_setLaw 85 = .ok (.goto (-37), 3) := by decide +kernel
theorem dX8_setLaw_88 : decode cX8_setLaw 88 = .ok (.aload_n 0, 1) := by decide +kernel
theorem dX8_setLaw_89 : decode cX8_setLaw 89 = .ok (.iconst 0, 1) := by decide +kernel
theorem dX8_setLaw_90 : decode cX8_setLaw 90 = .ok (.putfield 57, 3) := by decide +kernel
theorem dX8_setLaw_93 : decode cX8_setLaw 93 = .ok (.aload_n 0, 1) := by decide +kernel
theorem dX8_setLaw_94 : decode cX8_setLaw 94 = .ok (.iconst 0, 1) := by decide +kernel
theorem dX8_setLaw_95 : decode cX8_setLaw 95 = .ok (.putfield 60, 3) := by decide +kernel
theorem dX8_setLaw_98 : decode cX8_setLaw 98 = .ok (.iconst 0, 1) := by decide +kernel
theorem dX8_setLaw_99 : decode cX8_setLaw 99 = .ok (.istore_n 3, 1) := by decide +kernel
theorem dX8_setLaw_100 : decode cX8_setLaw 100 = .ok (.iload_n 3, 1) := by decide +kernel
theorem dX8_setLaw_101 : decode cX8_setLaw 101 = .ok (.aload_n 0, 1) := by decide +kernel
theorem dX8_setLaw_102 : decode cX8_setLaw 102 = .ok (.getfield 18, 3) := by decide +kernel
theorem dX8_setLaw_105 : decode cX8_setLaw 105 = .ok (.getfield 63, 3) := by decide +kernel
theorem dX8_setLaw_108 : decode cX8_setLaw 108 = .ok (.if_icmp .ge 71, 3) := by decide +kernel
theorem dX8_setLaw_111 : decode cX8_setLaw 111 = .ok (.aload_n 0, 1) := by decide +kernel
theorem dX8_setLaw_112 : decode cX8_setLaw 112 = .ok (.getfield 18, 3) := by decide +kernel
theorem dX8_setLaw_115 : decode cX8_setLaw 115 = .ok (.getfield 66, 3) := by decide +kernel
theorem dX8_setLaw_118 : decode cX8_setLaw 118 = .ok (.iload_n 3, 1) := by decide +kernel
theorem dX8_setLaw_119 : decode cX8_setLaw 119 = .ok (.aaload, 1) := by decide +kernel
theorem dX8_setLaw_120 : decode cX8_setLaw 120 = .ok (.astore 4, 2) := by decide +kernel
theorem dX8_setLaw_122 : decode cX8_setLaw 122 = .ok (.aload_n 0, 1) := by decide +kernel
theorem dX8_setLaw_123 : decode cX8_setLaw 123 = .ok (.dup, 1) := by decide +kernel
theorem dX8_setLaw_124 : decode cX8_setLaw 124 = .ok (.getfield 57, 3) := by decide +kernel
theorem dX8_setLaw_127 : decode cX8_setLaw 127 = .ok (.aload 4, 2) := by decide +kernel
theorem dX8_setLaw_129 : decode cX8_setLaw 129 = .ok (.aload_n 2, 1) := by decide +kernel
theorem dX8_setLaw_130 : decode cX8_setLaw 130 = .ok (.iload_n 1, 1) := by decide +kernel
theorem dX8_setLaw_131 : decode cX8_setLaw 131 = .ok (.iconst 0, 1) := by decide +kernel
theorem dX8_setLaw_132 : decode cX8_setLaw 132 = .ok (.invokevirtual 70, 3) := by decide +kernel
theorem dX8_setLaw_135 : decode cX8_setLaw 135 = .ok (.ifCond .eq 9, 3) := by decide +kernel
theorem dX8_setLaw_138 : decode cX8_setLaw 138 = .ok (.iconst 1, 1) := by decide +kernel
theorem dX8_setLaw_139 : decode cX8_setLaw 139 = .ok (.iload_n 3, 1) := by decide +kernel
theorem dX8_setLaw_140 : decode cX8_setLaw 140 = .ok (.ishl, 1) := by decide +kernel
theorem dX8_setLaw_141 : decode cX8_setLaw 141 = .ok (.goto 4, 3) := by decide +kernel
theorem dX8_setLaw_144 : decode cX8_setLaw 144 = .ok (.iconst 0, 1) := by decide +kernel
theorem dX8_setLaw_145 : decode cX8_setLaw 145 = .ok (.ior, 1) := by decide +kernel
theorem dX8_setLaw_146 : decode cX8_setLaw 146 = .ok (.putfield 57, 3) := by decide +kernel
theorem dX8_setLaw_149 : decode cX8_setLaw 149 = .ok (.aload_n 0, 1) := by decide +kernel
theorem dX8_setLaw_150 : decode cX8_setLaw 150 = .ok (.dup, 1) := by decide +kernel
theorem dX8_setLaw_151 : decode cX8_setLaw 151 = .ok (.getfield 60, 3) := by decide +kernel
theorem dX8_setLaw_154 : decode cX8_setLaw 154 = .ok (.aload 4, 2) := by decide +kernel
theorem dX8_setLaw_156 : decode cX8_setLaw 156 = .ok (.getfield 76, 3) := by decide +kernel
theorem dX8_setLaw_159 : decode cX8_setLaw 159 = .ok (.ifCond .eq 9, 3) := by decide +kernel
theorem dX8_setLaw_162 : decode cX8_setLaw 162 = .ok (.iconst 1, 1) := by decide +kernel
theorem dX8_setLaw_163 : decode cX8_setLaw 163 = .ok (.iload_n 3, 1) := by decide +kernel
theorem dX8_setLaw_164 : decode cX8_setLaw 164 = .ok (.ishl, 1) := by decide +kernel
theorem dX8_setLaw_165 : decode cX8_setLaw 165 = .ok (.goto 4, 3) := by decide +kernel
theorem dX8_setLaw_168 : decode cX8_setLaw 168 = .ok (.iconst 0, 1) := by decide +kernel
theorem dX8_setLaw_169 : decode cX8_setLaw 169 = .ok (.ior, 1) := by decide +kernel
theorem dX8_setLaw_170 : decode cX8_setLaw 170 = .ok (.putfield 60, 3) := by decide +kernel
theorem dX8_setLaw_173 : decode cX8_setLaw 173 = .ok (.iinc 3 1, 3) := by decide +kernel
theorem dX8_setLaw_176 : decode cX8_setLaw 176 = .ok (.goto (-76), 3) := by decide +kernel
theorem dX8_setLaw_179 : decode cX8_setLaw 179 = .ok (.return_, 1) := by decide +kernel
def X8_setLaw_b145 (k100 : Nat → Int32 → Int32 → Wd → Option (Wd)) (y0 : Nat) (y1 : Int32) (y3 : Int32) (y4 : Nat) (t0 : Int32) (t1 : Int32) (t2 : Nat) (w : Wd) : Option (Wd) :=
  lt (wI w t2 6 (t1 ||| t0)) fun w13 =>
  if (w13.1 y4 4) = 0 then
  (lt (wI w13 y0 7 ((w13.1 y0 7) ||| 0)) fun w14 =>
  k100 y0 y1 (y3 + 1) w14)
  else
  lt (wI w13 y0 7 ((w13.1 y0 7) ||| (1 <<< (y3 &&& 31)))) fun w15 =>
  k100 y0 y1 (y3 + 1) w15
set_option maxRecDepth 100000 in
set_option maxHeartbeats 4000000 in
theorem t_X8_setLaw_b145 {Z : Cz (Wd)} (hZ : OKZ Z SC cX8_setLaw RX8 5 none 3) (hE : EndV Z) (k100 : Nat → Int32 → Int32 → Wd → Option (Wd)) (hk100 : ∀ (y0 : Nat) (y1 : Int32) (y3 : Int32) (hy0 : IsS y0) (w : Wd), BW Z 5 100 [(0, .ref (ph (zY Z) y0)), (1, .int y1), (2, .ref (ph (zY Z) 31)), (3, .int y3)] [] w (k100 y0 y1 y3 w)) (y0 : Nat) (y1 : Int32) (y3 : Int32) (y4 : Nat) (t0 : Int32) (t1 : Int32) (t2 : Nat) (hy0 : IsS y0) (hy4 : IsP y4) (ht2 : IsS t2) (w : Wd) : BW Z 5 145 [(0, .ref (ph (zY Z) y0)), (1, .int y1), (2, .ref (ph (zY Z) 31)), (3, .int y3), (4, .ref (ph (zY Z) y4))] [.int t0, .int t1, .ref (ph (zY Z) t2)] w (X8_setLaw_b145 k100 y0 y1 y3 y4 t0 t1 t2 w) :=
  bw_ior hZ dX8_setLaw_145 <|
  bw_putI hZ fl_RX8_57 rfl rfl (by decide) (obS ht2) dX8_setLaw_146 fun w13 =>
  bw_aload_n hZ 0 rfl dX8_setLaw_149 <|
  bw_dup hZ rfl dX8_setLaw_150 <|
  bw_getI hZ fl_RX8_60 (by decide) (obS hy0) dX8_setLaw_151 <|
  bw_aload hZ 4 rfl dX8_setLaw_154 <|
  bw_getI hZ fl_RX8_76 (by decide) (obP hy4) dX8_setLaw_156 <|
  bw_if_eq hZ (tgt := 168) (by decide) dX8_setLaw_159 (fun _ =>
  bw_iconst hZ 0 (by decide) dX8_setLaw_168 <|
  bw_ior hZ dX8_setLaw_169 <|
  bw_putI hZ fl_RX8_60 rfl rfl (by decide) (obS hy0) dX8_setLaw_170 fun w14 =>
  bw_iinc hZ 1 3 rfl (by decide) (by decide) rfl dX8_setLaw_173 <|
  bw_goto hZ (tgt := 100) (by decide) dX8_setLaw_176 <|
  bw_sub [1, 2, 3, 0] rfl (hk100 y0 y1 (y3 + 1) hy0 w14)) (fun _ =>
  bw_iconst hZ 1 (by decide) dX8_setLaw_162 <|
  bw_iload_n hZ 3 rfl dX8_setLaw_163 <|
  bw_ishl hZ dX8_setLaw_164 <|
  bw_goto hZ (tgt := 169) (by decide) dX8_setLaw_165 <|
  bw_ior hZ dX8_setLaw_169 <|
  bw_putI hZ fl_RX8_60 rfl rfl (by decide) (obS hy0) dX8_setLaw_170 fun w15 =>
  bw_iinc hZ 1 3 rfl (by decide) (by decide) rfl dX8_setLaw_173 <|
  bw_goto hZ (tgt := 100) (by decide) dX8_setLaw_176 <|
  bw_sub [1, 2, 3, 0] rfl (hk100 y0 y1 (y3 + 1) hy0 w15))
def X8_setLaw_b100 (k100 : Nat → Int32 → Int32 → Wd → Option (Wd)) (y0 : Nat) (y1 : Int32) (y3 : Int32) (w : Wd) : Option (Wd) :=
  if (w.1 3 3) ≤ y3 then
  (some w)
  else
  if inb y3 4 = true then
  (cl (f_X6_isGoodBy (57 + 6 * Int32.toNatClampNeg y3) y1 0 w) fun r12 w11 =>
  if r12 = 0 then
  (X8_setLaw_b145 k100 y0 y1 y3 (57 + 6 * Int32.toNatClampNeg y3) 0 (w.1 y0 6) y0 w11)
  else
  X8_setLaw_b145 k100 y0 y1 y3 (57 + 6 * Int32.toNatClampNeg y3) (1 <<< (y3 &&& 31)) (w.1 y0 6) y0 w11)
  else none
set_option maxRecDepth 100000 in
set_option maxHeartbeats 4000000 in
theorem t_X8_setLaw_b100 {Z : Cz (Wd)} (hZ : OKZ Z SC cX8_setLaw RX8 5 none 3) (hE : EndV Z) (k100 : Nat → Int32 → Int32 → Wd → Option (Wd)) (hk100 : ∀ (y0 : Nat) (y1 : Int32) (y3 : Int32) (hy0 : IsS y0) (w : Wd), BW Z 5 100 [(0, .ref (ph (zY Z) y0)), (1, .int y1), (2, .ref (ph (zY Z) 31)), (3, .int y3)] [] w (k100 y0 y1 y3 w)) (y0 : Nat) (y1 : Int32) (y3 : Int32) (hy0 : IsS y0) (w : Wd) : BW Z 5 100 [(0, .ref (ph (zY Z) y0)), (1, .int y1), (2, .ref (ph (zY Z) 31)), (3, .int y3)] [] w (X8_setLaw_b100 k100 y0 y1 y3 w) :=
  bw_iload_n hZ 3 rfl dX8_setLaw_100 <|
  bw_aload_n hZ 0 rfl dX8_setLaw_101 <|
  bw_getR hZ fl_RX8_18 (obS hy0) (rfS2 hy0) dX8_setLaw_102 <|
  bw_getI hZ fl_RX8_63 (by decide) obC_3 dX8_setLaw_105 <|
  bw_icmp_ge hZ (tgt := 179) (by decide) dX8_setLaw_108 (fun _ =>
  bw_vret hZ hE dX8_setLaw_179) (fun _ =>
  bw_aload_n hZ 0 rfl dX8_setLaw_111 <|
  bw_getR hZ fl_RX8_18 (obS hy0) (rfS2 hy0) dX8_setLaw_112 <|
  bw_getR hZ fl_RX8_66 obC_3 rfl dX8_setLaw_115 <|
  bw_iload_n hZ 3 rfl dX8_setLaw_118 <|
  bw_aald (57 + 6 * Int32.toNatClampNeg y3) hZ (arC_4 _) (Or.inl ⟨rfl, rfl⟩) rfl dX8_setLaw_119 fun hi9 =>
  bw_astore hZ (by decide) rfl dX8_setLaw_120 <|
  bw_aload_n hZ 1 rfl dX8_setLaw_122 <|
  bw_dup hZ rfl dX8_setLaw_123 <|
  bw_getI hZ fl_RX8_57 (by decide) (obS hy0) dX8_setLaw_124 <|
  bw_aload hZ 0 rfl dX8_setLaw_127 <|
  bw_aload_n hZ 3 rfl dX8_setLaw_129 <|
  bw_iload_n hZ 2 rfl dX8_setLaw_130 <|
  bw_iconst hZ 0 (by decide) dX8_setLaw_131 <|
  bw_callVI (As := [.ref (ph (zY Z) 31), .int y1, .int 0]) hZ ml_RX8_70 rc_6 (obP (isP_of hi9)) (by decide) (c_X6_isGoodBy (zl Z) (zY Z) (hZ_S hZ) (57 + 6 * Int32.toNatClampNeg y3) y1 0 (isP_of hi9) w) rfl rfl (Nat.le_of_ble_eq_true rfl) dX8_setLaw_132 fun r12 w11 =>
  bw_if_eq hZ (tgt := 144) (by decide) dX8_setLaw_135 (fun _ =>
  bw_iconst hZ 0 (by decide) dX8_setLaw_144 <|
  bw_sub [1, 2, 3, 4, 0] rfl (t_X8_setLaw_b145 hZ hE k100 hk100 y0 y1 y3 (57 + 6 * Int32.toNatClampNeg y3) 0 (w.1 y0 6) y0 hy0 (isP_of hi9) hy0 w11)) (fun _ =>
  bw_iconst hZ 1 (by decide) dX8_setLaw_138 <|
  bw_iload_n hZ 4 rfl dX8_setLaw_139 <|
  bw_ishl hZ dX8_setLaw_140 <|
  bw_goto hZ (tgt := 145) (by decide) dX8_setLaw_141 <|
  bw_sub [1, 2, 3, 4, 0] rfl (t_X8_setLaw_b145 hZ hE k100 hk100 y0 y1 y3 (57 + 6 * Int32.toNatClampNeg y3) (1 <<< (y3 &&& 31)) (w.1 y0 6) y0 hy0 (isP_of hi9) hy0 w11)))
def X8_setLaw_b100_L  : Nat → Int32 → Int32 → Wd → Option (Wd) :=
  lp fu (fun _ _ _ _ => none) (fun k100 => X8_setLaw_b100 k100)
theorem t_X8_setLaw_b100_L {Z : Cz (Wd)} (hZ : OKZ Z SC cX8_setLaw RX8 5 none 3) (hE : EndV Z)  : ∀ (y0 : Nat) (y1 : Int32) (y3 : Int32) (hy0 : IsS y0) (w : Wd), BW Z 5 100 [(0, .ref (ph (zY Z) y0)), (1, .int y1), (2, .ref (ph (zY Z) 31)), (3, .int y3)] [] w (X8_setLaw_b100_L y0 y1 y3 w) :=
  lp_bw (fun k100 => ∀ (y0 : Nat) (y1 : Int32) (y3 : Int32) (hy0 : IsS y0) (w : Wd), BW Z 5 100 [(0, .ref (ph (zY Z) y0)), (1, .int y1), (2, .ref (ph (zY Z) 31)), (3, .int y3)] [] w (k100 y0 y1 y3 w)) (fun _ _ _ _ _ => bw_none) (fun k100 hk100 y0 y1 y3 hy0 w => t_X8_setLaw_b100 hZ hE k100 hk100 y0 y1 y3 hy0 w) fu
def X8_setLaw_b48 (k48 : Nat → Int32 → Int32 → Wd → Option (Wd)) (y0 : Nat) (y1 : Int32) (y3 : Int32) (w : Wd) : Option (Wd) :=
  if (w.1 3 4) ≤ y3 then
  (lt (wI w y0 6 0) fun w7 =>
  lt (wI w7 y0 7 0) fun w8 =>
  X8_setLaw_b100_L y0 y1 0 w8)
  else
  if inb y3 3 = true then
  (cl (f_X8_effectOf y0 (w.1 (81 + Int32.toNatClampNeg y3) 0) y1 w) fun r19 w18 =>
  if inb y3 3 = true then
  (lt (wI w18 (y0 + 2) (Int32.toNatClampNeg y3) r19) fun w20 =>
  k48 y0 y1 (y3 + 1) w20)
  else none)
  else none
set_option maxRecDepth 100000 in
set_option maxHeartbeats 4000000 in
theorem t_X8_setLaw_b48 {Z : Cz (Wd)} (hZ : OKZ Z SC cX8_setLaw RX8 5 none 3) (hE : EndV Z) (k48 : Nat → Int32 → Int32 → Wd → Option (Wd)) (hk48 : ∀ (y0 : Nat) (y1 : Int32) (y3 : Int32) (hy0 : IsS y0) (w : Wd), BW Z 5 48 [(0, .ref (ph (zY Z) y0)), (1, .int y1), (2, .ref (ph (zY Z) 31)), (3, .int y3)] [] w (k48 y0 y1 y3 w)) (y0 : Nat) (y1 : Int32) (y3 : Int32) (hy0 : IsS y0) (w : Wd) : BW Z 5 48 [(0, .ref (ph (zY Z) y0)), (1, .int y1), (2, .ref (ph (zY Z) 31)), (3, .int y3)] [] w (X8_setLaw_b48 k48 y0 y1 y3 w) :=
  bw_iload_n hZ 3 rfl dX8_setLaw_48 <|
  bw_aload_n hZ 0 rfl dX8_setLaw_49 <|
  bw_getR hZ fl_RX8_18 (obS hy0) (rfS2 hy0) dX8_setLaw_50 <|
  bw_getI hZ fl_RX8_41 (by decide) obC_3 dX8_setLaw_53 <|
  bw_icmp_ge hZ (tgt := 88) (by decide) dX8_setLaw_56 (fun _ =>
  bw_aload_n hZ 0 rfl dX8_setLaw_88 <|
  bw_iconst hZ 0 (by decide) dX8_setLaw_89 <|
  bw_putI hZ fl_RX8_57 rfl rfl (by decide) (obS hy0) dX8_setLaw_90 fun w7 =>
  bw_aload_n hZ 0 rfl dX8_setLaw_93 <|
  bw_iconst hZ 0 (by decide) dX8_setLaw_94 <|
  bw_putI hZ fl_RX8_60 rfl rfl (by decide) (obS hy0) dX8_setLaw_95 fun w8 =>
  bw_iconst hZ 0 (by decide) dX8_setLaw_98 <|
  bw_istore_n hZ rfl (by decide) rfl dX8_setLaw_99 <|
  bw_sub [1, 2, 3, 0] rfl (t_X8_setLaw_b100_L hZ hE y0 y1 0 hy0 w8)) (fun _ =>
  bw_aload_n hZ 0 rfl dX8_setLaw_59 <|
  bw_getR hZ fl_RX8_15 (obS hy0) (rfS3 hy0) dX8_setLaw_60 <|
  bw_iload_n hZ 3 rfl dX8_setLaw_63 <|
  bw_aload_n hZ 0 rfl dX8_setLaw_64 <|
  bw_aload_n hZ 0 rfl dX8_setLaw_65 <|
  bw_getR hZ fl_RX8_18 (obS hy0) (rfS2 hy0) dX8_setLaw_66 <|
  bw_getR hZ fl_RX8_45 obC_3 rfl dX8_setLaw_69 <|
  bw_iload_n hZ 3 rfl dX8_setLaw_72 <|
  bw_aald (81 + Int32.toNatClampNeg y3) hZ (arC_5 _) (Or.inr (Or.inl ⟨rfl, rfl⟩)) rfl dX8_setLaw_73 fun hi16 =>
  bw_getI hZ fl_RX8_49 (by decide) (obV (isV_of hi16)) dX8_setLaw_74 <|
  bw_iload_n hZ 1 rfl dX8_setLaw_77 <|
  bw_callVI (As := [.int (w.1 (81 + Int32.toNatClampNeg y3) 0), .int y1]) hZ ml_RX8_54 rc_8 (obS hy0) (by decide) (c_X8_effectOf (zl Z) (zY Z) (hZ_S hZ) y0 (w.1 (81 + Int32.toNatClampNeg y3) 0) y1 hy0 w) rfl rfl (Nat.le_of_ble_eq_true rfl) dX8_setLaw_78 fun r19 w18 =>
  bw_iast hZ (arS2 hy0 _) dX8_setLaw_81 fun w20 =>
  bw_iinc hZ 1 3 rfl (by decide) (by decide) rfl dX8_setLaw_82 <|
  bw_goto hZ (tgt := 48) (by decide) dX8_setLaw_85 <|
  bw_sub [1, 2, 3, 0] rfl (hk48 y0 y1 (y3 + 1) hy0 w20))
def X8_setLaw_b48_L  : Nat → Int32 → Int32 → Wd → Option (Wd) :=
  lp fu (fun _ _ _ _ => none) (fun k48 => X8_setLaw_b48 k48)
theorem t_X8_setLaw_b48_L {Z : Cz (Wd)} (hZ : OKZ Z SC cX8_setLaw RX8 5 none 3) (hE : EndV Z)  : ∀ (y0 : Nat) (y1 : Int32) (y3 : Int32) (hy0 : IsS y0) (w : Wd), BW Z 5 48 [(0, .ref (ph (zY Z) y0)), (1, .int y1), (2, .ref (ph (zY Z) 31)), (3, .int y3)] [] w (X8_setLaw_b48_L y0 y1 y3 w) :=
  lp_bw (fun k48 => ∀ (y0 : Nat) (y1 : Int32) (y3 : Int32) (hy0 : IsS y0) (w : Wd), BW Z 5 48 [(0, .ref (ph (zY Z) y0)), (1, .int y1), (2, .ref (ph (zY Z) 31)), (3, .int y3)] [] w (k48 y0 y1 y3 w)) (fun _ _ _ _ _ => bw_none) (fun k48 hk48 y0 y1 y3 hy0 w => t_X8_setLaw_b48 hZ hE k48 hk48 y0 y1 y3 hy0 w) fu
def X8_setLaw_b24 (y0 : Nat) (y1 : Int32) (t0 : Int32) (t1 : Nat) (w : Wd) : Option (Wd) :=
  if isB t0 = true then
  (lt (wI w t1 4 t0) fun w3 =>
  cl (f_X0_ruleOf y1 3 w3) fun r5 w4 =>
  if r5 = 2 then
  (lt (wI w4 y0 5 1) fun w21 =>
  X8_setLaw_b48_L y0 y1 0 w21)
  else
  lt (wI w4 y0 5 0) fun w6 =>
  X8_setLaw_b48_L y0 y1 0 w6)
  else none
set_option maxRecDepth 100000 in
set_option maxHeartbeats 4000000 in
theorem t_X8_setLaw_b24 {Z : Cz (Wd)} (hZ : OKZ Z SC cX8_setLaw RX8 5 none 3) (hE : EndV Z)  (y0 : Nat) (y1 : Int32) (t0 : Int32) (t1 : Nat) (hy0 : IsS y0) (ht1 : IsS t1) (w : Wd) : BW Z 5 24 [(0, .ref (ph (zY Z) y0)), (1, .int y1), (2, .ref (ph (zY Z) 31))] [.int t0, .ref (ph (zY Z) t1)] w (X8_setLaw_b24 y0 y1 t0 t1 w) :=
  bw_ck fun hb => bw_putI hZ fl_RX8_34 (isB_n hb) (isB_f hb) (by decide) (obS ht1) dX8_setLaw_24 fun w3 =>
  bw_aload_n hZ 0 rfl dX8_setLaw_27 <|
  bw_aload_n hZ 2 rfl dX8_setLaw_28 <|
  bw_iload_n hZ 1 rfl dX8_setLaw_29 <|
  bw_iconst hZ 3 (by decide) dX8_setLaw_30 <|
  bw_callVI (As := [.int y1, .int 3]) hZ ml_RX8_30 rc_0 obC_31 (by decide) (c_X0_ruleOf (zl Z) (zY Z) (hZ_S hZ) y1 3 w3) rfl rfl (Nat.le_of_ble_eq_true rfl) dX8_setLaw_31 fun r5 w4 =>
  bw_iconst hZ 2 (by decide) dX8_setLaw_34 <|
  bw_icmp_ne hZ (tgt := 42) (by decide) dX8_setLaw_35 (fun _ =>
  bw_iconst hZ 0 (by decide) dX8_setLaw_42 <|
  bw_putI hZ fl_RX8_38 rfl rfl (by decide) (obS hy0) dX8_setLaw_43 fun w6 =>
  bw_iconst hZ 0 (by decide) dX8_setLaw_46 <|
  bw_istore_n hZ rfl (by decide) rfl dX8_setLaw_47 <|
  bw_sub [1, 2, 3, 0] rfl (t_X8_setLaw_b48_L hZ hE y0 y1 0 hy0 w6)) (fun _ =>
  bw_iconst hZ 1 (by decide) dX8_setLaw_38 <|
  bw_goto hZ (tgt := 43) (by decide) dX8_setLaw_39 <|
  bw_putI hZ fl_RX8_38 rfl rfl (by decide) (obS hy0) dX8_setLaw_43 fun w21 =>
  bw_iconst hZ 0 (by decide) dX8_setLaw_46 <|
  bw_istore_n hZ rfl (by decide) rfl dX8_setLaw_47 <|
  bw_sub [1, 2, 3, 0] rfl (t_X8_setLaw_b48_L hZ hE y0 y1 0 hy0 w21))
def f_X8_setLaw (o0 : Nat) (x1 : Int32) (w : Wd) : Option (Wd) :=
  cl (f_X0_ruleOf x1 7 w) fun r2 w1 =>
  if r2 = 0 then
  (X8_setLaw_b24 o0 x1 0 o0 w1)
  else
  X8_setLaw_b24 o0 x1 1 o0 w1
set_option maxRecDepth 100000 in
set_option maxHeartbeats 4000000 in
theorem t_X8_setLaw {Z : Cz (Wd)} (hZ : OKZ Z SC cX8_setLaw RX8 5 none 3) (hE : EndV Z) (o0 : Nat) (x1 : Int32) (ho0 : IsS o0) (w : Wd) : BW Z 5 0 [(0, .ref (ph (zY Z) o0)), (1, .int x1)] [] w (f_X8_setLaw o0 x1 w) :=
  bw_aload_n hZ 0 rfl dX8_setLaw_0 <|
  bw_getR hZ fl_RX8_18 (obS ho0) (rfS2 ho0) dX8_setLaw_1 <|
  bw_getR hZ fl_RX8_22 obC_3 rfl dX8_setLaw_4 <|
  bw_astore_n hZ rfl (by decide) rfl dX8_setLaw_7 <|
  bw_aload_n hZ 1 rfl dX8_setLaw_8 <|
  bw_aload_n hZ 0 rfl dX8_setLaw_9 <|
  bw_iload_n hZ 2 rfl dX8_setLaw_10 <|
  bw_bipush hZ 7 (by decide) dX8_setLaw_11 <|
  bw_callVI (As := [.int x1, .int 7]) hZ ml_RX8_30 rc_0 obC_31 (by decide) (c_X0_ruleOf (zl Z) (zY Z) (hZ_S hZ) x1 7 w) rfl rfl (Nat.le_of_ble_eq_true rfl) dX8_setLaw_13 fun r2 w1 =>
  bw_if_eq hZ (tgt := 23) (by decide) dX8_setLaw_16 (fun _ =>
  bw_iconst hZ 0 (by decide) dX8_setLaw_23 <|
  bw_sub [1, 2, 0] rfl (t_X8_setLaw_b24 hZ hE o0 x1 0 o0 ho0 ho0 w1)) (fun _ =>
  bw_iconst hZ 1 (by decide) dX8_setLaw_19 <|
  bw_goto hZ (tgt := 24) (by decide) dX8_setLaw_20 <|
  bw_sub [1, 2, 0] rfl (t_X8_setLaw_b24 hZ hE o0 x1 1 o0 ho0 ho0 w1))
theorem c_X8_setLaw (l : Launch) (Y : Ev) (hY : Y.1 = SC) (o0 : Nat) (x1 : Int32) (ho0 : IsS o0) (w : Wd) : CV l Y yX8_setLaw cX8_setLaw 5 3 [.ref (ph Y o0), .int x1] w (f_X8_setLaw o0 x1 w) := by
  refine CV_of (S := SC) (by decide) (Nat.le_of_ble_eq_true rfl) hY ?_
  intro Z hl hY2 hZ hE
  subst hY2
  exact t_X8_setLaw hZ hE o0 x1 ho0 w
-- WhichWill$Shares.prepare
theorem dX7_prepare_0 : decode cX7_prepare 0 = .ok (.aload_n 0, 1) := by decide +kernel
theorem dX7_prepare_1 : decode cX7_prepare 1 = .ok (.getfield 40, 3) := by decide +kernel
theorem dX7_prepare_4 : decode cX7_prepare 4 = .ok (.getfield 72, 3) := by decide +kernel
theorem dX7_prepare_7 : decode cX7_prepare 7 = .ok (.astore_n 1, 1) := by decide +kernel
theorem dX7_prepare_8 : decode cX7_prepare 8 = .ok (.iconst 0, 1) := by decide +kernel
theorem dX7_prepare_9 : decode cX7_prepare 9 = .ok (.istore_n 2, 1) := by decide +kernel
theorem dX7_prepare_10 : decode cX7_prepare 10 = .ok (.iload_n 2, 1) := by decide +kernel
theorem dX7_prepare_11 : decode cX7_prepare 11 = .ok (.aload_n 1, 1) := by decide +kernel
theorem dX7_prepare_12 : decode cX7_prepare 12 = .ok (.getfield 76, 3) := by decide +kernel
theorem dX7_prepare_15 : decode cX7_prepare 15 = .ok (.getfield 82, 3) := by decide +kernel
theorem dX7_prepare_18 : decode cX7_prepare 18 = .ok (.if_icmp .ge 19, 3) := by decide +kernel
theorem dX7_prepare_21 : decode cX7_prepare 21 = .ok (.aload_n 0, 1) := by decide +kernel
theorem dX7_prepare_22 : decode cX7_prepare 22 = .ok (.getfield 23, 3) := by decide +kernel
theorem dX7_prepare_25 : decode cX7_prepare 25 = .ok (.iload_n 2, 1) := by decide +kernel
theorem dX7_prepare_26 : decode cX7_prepare 26 = .ok (.aaload, 1) := by decide +kernel
theorem dX7_prepare_27 : decode cX7_prepare 27 = .ok (.iload_n 2, 1) := by decide +kernel
theorem dX7_prepare_28 : decode cX7_prepare 28 = .ok (.invokevirtual 87, 3) := by decide +kernel
theorem dX7_prepare_31 : decode cX7_prepare 31 = .ok (.iinc 2 1, 3) := by decide +kernel
theorem dX7_prepare_34 : decode cX7_prepare 34 = .ok (.goto (-24), 3) := by decide +kernel
theorem dX7_prepare_37 : decode cX7_prepare 37 = .ok (.aload_n 0, 1) := by decide +kernel
theorem dX7_prepare_38 : decode cX7_prepare 38 = .ok (.aload_n 1, 1) := by decide +kernel
theorem dX7_prepare_39 : decode cX7_prepare 39 = .ok (.iconst (-1), 1) := by decide +kernel
theorem dX7_prepare_40 : decode cX7_prepare 40 = .ok (.invokevirtual 90, 3) := by decide +kernel
theorem dX7_prepare_43 : decode cX7_prepare 43 = .ok (.iconst 1, 1) := by decide +kernel
theorem dX7_prepare_44 : decode cX7_prepare 44 = .ok (.ishr, 1) := by decide +kernel
theorem dX7_prepare_45 : decode cX7_prepare 45 = .ok (.putfield 94, 3) := by decide +kernel
theorem dX7_prepare_48 : decode cX7_prepare 48 = .ok (.aload_n 0, 1) := by decide +kernel
theorem dX7_prepare_49 : decode cX7_prepare 49 = .ok (.iconst 1, 1) := by decide +kernel
theorem dX7_prepare_50 : decode cX7_prepare 50 = .ok (.aload_n 0, 1) := by decide +kernel
theorem dX7_prepare_51 : decode cX7_prepare 51 = .ok (.getfield 94, 3) := by decide +kernel
theorem dX7_prepare_54 : decode cX7_prepare 54 = .ok (.ishl, 1) := by decide +kernel
theorem dX7_prepare_55 : decode cX7_prepare 55 = .ok (.putfield 59, 3) := by decide +kernel
theorem dX7_prepare_58 : decode cX7_prepare 58 = .ok (.iconst 0, 1) := by decide +kernel
theorem dX7_prepare_59 : decode cX7_prepare 59 = .ok (.istore_n 2, 1) := by decide +kernel
theorem dX7_prepare_60 : decode cX7_prepare 60 = .ok (.iload_n 2, 1) := by decide +kernel
theorem dX7_prepare_61 : decode cX7_prepare 61 = .ok (.aload_n 1, 1) := by decide +kernel
theorem dX7_prepare_62 : decode cX7_prepare 62 = .ok (.getfield 97, 3) := by decide +kernel
theorem dX7_prepare_65 : decode cX7_prepare 65 = .ok (.getfield 82, 3) := by decide +kernel
theorem dX7_prepare_68 : decode cX7_prepare 68 = .ok (.if_icmp .ge 39, 3) := by decide +kernel
theorem dX7_prepare_71 : decode cX7_prepare 71 = .ok (.aload_n 0, 1) := by decide +kernel
theorem dX7_prepare_72 : decode cX7_prepare 72 = .ok (.getfield 27, 3) := by decide +kernel
theorem dX7_prepare_75 : decode cX7_prepare 75 = .ok (.iload_n 2, 1) := by decide +kernel
theorem dX7_prepare_76 : decode cX7_prepare 76 = .ok (.aload_n 1, 1) := by decide +kernel
theorem dX7_prepare_77 : decode cX7_prepare 77 = .ok (.iload_n 2, 1) := by decide +kernel
theorem dX7_prepare_78 : decode cX7_prepare 78 = .ok (.invokevirtual 90, 3) := by decide +kernel
theorem dX7_prepare_81 : decode cX7_prepare 81 = .ok (.iconst 1, 1) := by decide +kernel
theorem dX7_prepare_82 : decode cX7_prepare 82 = .ok (.ishr, 1) := by decide +kernel
theorem dX7_prepare_83 : decode cX7_prepare 83 = .ok (.iastore, 1) := by decide +kernel
theorem dX7_prepare_84 : decode cX7_prepare 84 = .ok (.aload_n 0, 1) := by decide +kernel
theorem dX7_prepare_85 : decode cX7_prepare 85 = .ok (.dup, 1) := by decide +kernel
theorem dX7_prepare_86 : decode cX7_prepare 86 = .ok (.getfield 59, 3) := by decide +kernel
theorem dX7_prepare_89 : decode cX7_prepare 89 = .ok (.iconst 1, 1) := by decide +kernel
theorem dX7_prepare_90 : decode cX7_prepare 90 = .ok (.aload_n 0, 1) := by decide +kernel
theorem dX7_prepare_91 : decode cX7_prepare 91 = .ok (.getfield 27, 3) := by decide +kernel
theorem dX7_prepare_94 : decode cX7_prepare 94 = .ok (.iload_n 2, 1) := by decide +kernel
theorem dX7_prepare_95 : decode cX7_prepare 95 = .ok (.iaload, 1) := by decide +kernel
theorem dX7_prepare_96 : decode cX7_prepare 96 = .ok (.ishl, 1) := by decide +kernel
theorem dX7_prepare_97 : decode cX7_prepare 97 = .ok (.ior, 1) := by decide +kernel
theorem dX7_prepare_98 : decode cX7_prepare 98 = .ok (.putfield 59, 3) := by decide +kernel
theorem dX7_prepare_101 : decode cX7_prepare 101 = .ok (.iinc 2 1, 3) := by decide +kernel
theorem dX7_prepare_104 : decode cX7_prepare 104 = .ok (.goto (-44), 3) := by decide +kernel
theorem dX7_prepare_107 : decode cX7_prepare 107 = .ok (.aload_n 0, 1) := by decide +kernel
theorem dX7_prepare_108 : decode cX7_prepare 108 = .ok (.aload_n 0, 1) := by decide +kernel
theorem dX7_prepare_109 : decode cX7_prepare 109 = .ok (.getfield 40, 3) := by decide +kernel
theorem dX7_prepare_112 : decode cX7_prepare 112 = .ok (.getfield 47, 3) := by decide +kernel
theorem dX7_prepare_115 : decode cX7_prepare 115 = .ok (.putfield 36, 3) := by decide +kernel
theorem dX7_prepare_118 : decode cX7_prepare 118 = .ok (.return_, 1) := by decide +kernel
def X7_prepare_b60 (k60 : Int32 → Wd → Option (Wd)) (y2 : Int32) (w : Wd) : Option (Wd) :=
  if (w.1 36 1) ≤ y2 then
  (lt (wI w 8 13 (w.1 3 6)) fun w5 =>
  some w5)
  else
  cl (f_X0_lawAndRing y2 w) fun r7 w6 =>
  if inb y2 8 = true then
  (lt (wI w6 13 (Int32.toNatClampNeg y2) (r7 >>> (1 &&& 31))) fun w8 =>
  if inb y2 8 = true then
  (lt (wI w8 8 10 ((w8.1 8 10) ||| (1 <<< ((w8.1 13 (Int32.toNatClampNeg y2)) &&& 31)))) fun w9 =>
  k60 (y2 + 1) w9)
  else none)
  else none
set_option maxRecDepth 100000 in
set_option maxHeartbeats 4000000 in
theorem t_X7_prepare_b60 {Z : Cz (Wd)} (hZ : OKZ Z SC cX7_prepare RX7 3 none 4) (hE : EndV Z) (k60 : Int32 → Wd → Option (Wd)) (hk60 : ∀ (y2 : Int32)  (w : Wd), BW Z 3 60 [(0, .ref (ph (zY Z) 8)), (1, .ref (ph (zY Z) 31)), (2, .int y2)] [] w (k60 y2 w)) (y2 : Int32)  (w : Wd) : BW Z 3 60 [(0, .ref (ph (zY Z) 8)), (1, .ref (ph (zY Z) 31)), (2, .int y2)] [] w (X7_prepare_b60 k60 y2 w) :=
  bw_iload_n hZ 2 rfl dX7_prepare_60 <|
  bw_aload_n hZ 1 rfl dX7_prepare_61 <|
  bw_getR hZ fl_RX7_97 obC_31 rfl dX7_prepare_62 <|
  bw_getI hZ fl_RX7_82 (by decide) obC_36 dX7_prepare_65 <|
  bw_icmp_ge hZ (tgt := 107) (by decide) dX7_prepare_68 (fun _ =>
  bw_aload_n hZ 0 rfl dX7_prepare_107 <|
  bw_aload_n hZ 0 rfl dX7_prepare_108 <|
  bw_getR hZ fl_RX7_40 obC_8 rfl dX7_prepare_109 <|
  bw_getI hZ fl_RX7_47 (by decide) obC_3 dX7_prepare_112 <|
  bw_putI hZ fl_RX7_36 rfl rfl (by decide) obC_8 dX7_prepare_115 fun w5 =>
  bw_vret hZ hE dX7_prepare_118) (fun _ =>
  bw_aload_n hZ 0 rfl dX7_prepare_71 <|
  bw_getR hZ fl_RX7_27 obC_8 rfl dX7_prepare_72 <|
  bw_iload_n hZ 2 rfl dX7_prepare_75 <|
  bw_aload_n hZ 1 rfl dX7_prepare_76 <|
  bw_iload_n hZ 2 rfl dX7_prepare_77 <|
  bw_callVI (As := [.int y2]) hZ ml_RX7_90 rc_0 obC_31 (by decide) (c_X0_lawAndRing (zl Z) (zY Z) (hZ_S hZ) y2 w) rfl rfl (Nat.le_of_ble_eq_true rfl) dX7_prepare_78 fun r7 w6 =>
  bw_iconst hZ 1 (by decide) dX7_prepare_81 <|
  bw_ishr hZ dX7_prepare_82 <|
  bw_iast hZ (arC_13 _) dX7_prepare_83 fun w8 =>
  bw_aload_n hZ 0 rfl dX7_prepare_84 <|
  bw_dup hZ rfl dX7_prepare_85 <|
  bw_getI hZ fl_RX7_59 (by decide) obC_8 dX7_prepare_86 <|
  bw_iconst hZ 1 (by decide) dX7_prepare_89 <|
  bw_aload_n hZ 0 rfl dX7_prepare_90 <|
  bw_getR hZ fl_RX7_27 obC_8 rfl dX7_prepare_91 <|
  bw_iload_n hZ 2 rfl dX7_prepare_94 <|
  bw_iald hZ (arC_13 _) dX7_prepare_95 <|
  bw_ishl hZ dX7_prepare_96 <|
  bw_ior hZ dX7_prepare_97 <|
  bw_putI hZ fl_RX7_59 rfl rfl (by decide) obC_8 dX7_prepare_98 fun w9 =>
  bw_iinc hZ 1 2 rfl (by decide) (by decide) rfl dX7_prepare_101 <|
  bw_goto hZ (tgt := 60) (by decide) dX7_prepare_104 <|
  bw_sub [1, 2, 0] rfl (hk60 (y2 + 1) w9))
def X7_prepare_b60_L  : Int32 → Wd → Option (Wd) :=
  lp fu (fun _ _ => none) (fun k60 => X7_prepare_b60 k60)
theorem t_X7_prepare_b60_L {Z : Cz (Wd)} (hZ : OKZ Z SC cX7_prepare RX7 3 none 4) (hE : EndV Z)  : ∀ (y2 : Int32)  (w : Wd), BW Z 3 60 [(0, .ref (ph (zY Z) 8)), (1, .ref (ph (zY Z) 31)), (2, .int y2)] [] w (X7_prepare_b60_L y2 w) :=
  lp_bw (fun k60 => ∀ (y2 : Int32)  (w : Wd), BW Z 3 60 [(0, .ref (ph (zY Z) 8)), (1, .ref (ph (zY Z) 31)), (2, .int y2)] [] w (k60 y2 w)) (fun _ _ => bw_none) (fun k60 hk60 y2 w => t_X7_prepare_b60 hZ hE k60 hk60 y2 w) fu
def X7_prepare_b10 (k10 : Int32 → Wd → Option (Wd)) (y2 : Int32) (w : Wd) : Option (Wd) :=
  if (w.1 32 1) ≤ y2 then
  (cl (f_X0_lawAndRing ((-1)) w) fun r2 w1 =>
  lt (wI w1 8 9 (r2 >>> (1 &&& 31))) fun w3 =>
  lt (wI w3 8 10 (1 <<< ((w3.1 8 9) &&& 31))) fun w4 =>
  X7_prepare_b60_L 0 w4)
  else
  if inb y2 4 = true then
  (cv (f_X8_setLaw (84 + 3 * Int32.toNatClampNeg y2) y2 w) fun w12 =>
  k10 (y2 + 1) w12)
  else none
set_option maxRecDepth 100000 in
set_option maxHeartbeats 4000000 in
theorem t_X7_prepare_b10 {Z : Cz (Wd)} (hZ : OKZ Z SC cX7_prepare RX7 3 none 4) (hE : EndV Z) (k10 : Int32 → Wd → Option (Wd)) (hk10 : ∀ (y2 : Int32)  (w : Wd), BW Z 3 10 [(0, .ref (ph (zY Z) 8)), (1, .ref (ph (zY Z) 31)), (2, .int y2)] [] w (k10 y2 w)) (y2 : Int32)  (w : Wd) : BW Z 3 10 [(0, .ref (ph (zY Z) 8)), (1, .ref (ph (zY Z) 31)), (2, .int y2)] [] w (X7_prepare_b10 k10 y2 w) :=
  bw_iload_n hZ 2 rfl dX7_prepare_10 <|
  bw_aload_n hZ 1 rfl dX7_prepare_11 <|
  bw_getR hZ fl_RX7_76 obC_31 rfl dX7_prepare_12 <|
  bw_getI hZ fl_RX7_82 (by decide) obC_32 dX7_prepare_15 <|
  bw_icmp_ge hZ (tgt := 37) (by decide) dX7_prepare_18 (fun _ =>
  bw_aload_n hZ 0 rfl dX7_prepare_37 <|
  bw_aload_n hZ 1 rfl dX7_prepare_38 <|
  bw_iconst hZ (-1) (by decide) dX7_prepare_39 <|
  bw_callVI (As := [.int ((-1))]) hZ ml_RX7_90 rc_0 obC_31 (by decide) (c_X0_lawAndRing (zl Z) (zY Z) (hZ_S hZ) ((-1)) w) rfl rfl (Nat.le_of_ble_eq_true rfl) dX7_prepare_40 fun r2 w1 =>
  bw_iconst hZ 1 (by decide) dX7_prepare_43 <|
  bw_ishr hZ dX7_prepare_44 <|
  bw_putI hZ fl_RX7_94 rfl rfl (by decide) obC_8 dX7_prepare_45 fun w3 =>
  bw_aload_n hZ 0 rfl dX7_prepare_48 <|
  bw_iconst hZ 1 (by decide) dX7_prepare_49 <|
  bw_aload_n hZ 0 rfl dX7_prepare_50 <|
  bw_getI hZ fl_RX7_94 (by decide) obC_8 dX7_prepare_51 <|
  bw_ishl hZ dX7_prepare_54 <|
  bw_putI hZ fl_RX7_59 rfl rfl (by decide) obC_8 dX7_prepare_55 fun w4 =>
  bw_iconst hZ 0 (by decide) dX7_prepare_58 <|
  bw_istore_n hZ rfl (by decide) rfl dX7_prepare_59 <|
  bw_sub [1, 2, 0] rfl (t_X7_prepare_b60_L hZ hE 0 w4)) (fun _ =>
  bw_aload_n hZ 0 rfl dX7_prepare_21 <|
  bw_getR hZ fl_RX7_23 obC_8 rfl dX7_prepare_22 <|
  bw_iload_n hZ 2 rfl dX7_prepare_25 <|
  bw_aald (84 + 3 * Int32.toNatClampNeg y2) hZ (arC_12 _) (Or.inr (Or.inr ⟨rfl, rfl⟩)) rfl dX7_prepare_26 fun hi10 =>
  bw_iload_n hZ 2 rfl dX7_prepare_27 <|
  bw_callVV (As := [.int y2]) hZ ml_RX7_87 rc_8 (obS (isS_of hi10)) (by decide) (c_X8_setLaw (zl Z) (zY Z) (hZ_S hZ) (84 + 3 * Int32.toNatClampNeg y2) y2 (isS_of hi10) w) rfl rfl (Nat.le_of_ble_eq_true rfl) dX7_prepare_28 fun w12 =>
  bw_iinc hZ 1 2 rfl (by decide) (by decide) rfl dX7_prepare_31 <|
  bw_goto hZ (tgt := 10) (by decide) dX7_prepare_34 <|
  bw_sub [1, 2, 0] rfl (hk10 (y2 + 1) w12))
def X7_prepare_b10_L  : Int32 → Wd → Option (Wd) :=
  lp fu (fun _ _ => none) (fun k10 => X7_prepare_b10 k10)
theorem t_X7_prepare_b10_L {Z : Cz (Wd)} (hZ : OKZ Z SC cX7_prepare RX7 3 none 4) (hE : EndV Z)  : ∀ (y2 : Int32)  (w : Wd), BW Z 3 10 [(0, .ref (ph (zY Z) 8)), (1, .ref (ph (zY Z) 31)), (2, .int y2)] [] w (X7_prepare_b10_L y2 w) :=
  lp_bw (fun k10 => ∀ (y2 : Int32)  (w : Wd), BW Z 3 10 [(0, .ref (ph (zY Z) 8)), (1, .ref (ph (zY Z) 31)), (2, .int y2)] [] w (k10 y2 w)) (fun _ _ => bw_none) (fun k10 hk10 y2 w => t_X7_prepare_b10 hZ hE k10 hk10 y2 w) fu
def f_X7_prepare (w : Wd) : Option (Wd) :=
  X7_prepare_b10_L 0 w
set_option maxRecDepth 100000 in
set_option maxHeartbeats 4000000 in
theorem t_X7_prepare {Z : Cz (Wd)} (hZ : OKZ Z SC cX7_prepare RX7 3 none 4) (hE : EndV Z)   (w : Wd) : BW Z 3 0 [(0, .ref (ph (zY Z) 8))] [] w (f_X7_prepare w) :=
  bw_aload_n hZ 0 rfl dX7_prepare_0 <|
  bw_getR hZ fl_RX7_40 obC_8 rfl dX7_prepare_1 <|
  bw_getR hZ fl_RX7_72 obC_3 rfl dX7_prepare_4 <|
  bw_astore_n hZ rfl (by decide) rfl dX7_prepare_7 <|
  bw_iconst hZ 0 (by decide) dX7_prepare_8 <|
  bw_istore_n hZ rfl (by decide) rfl dX7_prepare_9 <|
  bw_sub [2, 1, 0] rfl (t_X7_prepare_b10_L hZ hE 0 w)
theorem c_X7_prepare (l : Launch) (Y : Ev) (hY : Y.1 = SC)   (w : Wd) : CV l Y yX7_prepare cX7_prepare 3 4 [.ref (ph Y 8)] w (f_X7_prepare w) := by
  refine CV_of (S := SC) (by decide) (Nat.le_of_ble_eq_true rfl) hY ?_
  intro Z hl hY2 hZ hE
  subst hY2
  exact t_X7_prepare hZ hE w
-- WhichWill$Standing.setMended
theorem dX8_setMended_0 : decode cX8_setMended 0 = .ok (.iconst 1, 1) := by decide +kernel
theorem dX8_setMended_1 : decode cX8_setMended 1 = .ok (.iload_n 1, 1) := by decide +kernel
theorem dX8_setMended_2 : decode cX8_setMended 2 = .ok (.ishl, 1) := by decide +kernel
theorem dX8_setMended_3 : decode cX8_setMended 3 = .ok (.istore 4, 2) := by decide +kernel
theorem dX8_setMended_5 : decode cX8_setMended 5 = .ok (.aload_n 0, 1) := by decide +kernel
theorem dX8_setMended_6 : decode cX8_setMended 6 = .ok (.iload_n 2, 1) := by decide +kernel
theorem dX8_setMended_7 : decode cX8_setMended 7 = .ok (.ifCond .eq 13, 3) := by decide +kernel
theorem dX8_setMended_10 : decode cX8_setMended 10 = .ok (.aload_n 0, 1) := by decide +kernel
theorem dX8_setMended_11 : decode cX8_setMended 11 = .ok (.getfield 57, 3) := by decide +kernel
theorem dX8_setMended_14 : decode cX8_setMended 14 = .ok (.iload 4, 2) := by decide +kernel
theorem dX8_setMended_16 : decode cX8_setMended 16 = .ok (.ior, 1) := by decide +kernel
theorem dX8_setMended_17 : decode cX8_setMended 17 = .ok (.goto 12, 3) := by decide +kernel
theorem dX8_setMended_20 : decode cX8_setMended 20 = .ok (.aload_n 0, 1) := by decide +kernel
theorem dX8_setMended_21 : decode cX8_setMended 21 = .ok (.getfield 57, 3) := by decide +kernel
theorem dX8_setMended_24 : decode cX8_setMended 24 = .ok (.iload 4, 2) := by decide +kernel
theorem dX8_setMended_26 : decode cX8_setMended 26 = .ok (.iconst (-1), 1) := by decide +kernel
theorem dX8_setMended_27 : decode cX8_setMended 27 = .ok (.ixor, 1) := by decide +kernel
theorem dX8_setMended_28 : decode cX8_setMended 28 = .ok (.iand, 1) := by decide +kernel
theorem dX8_setMended_29 : decode cX8_setMended 29 = .ok (.putfield 57, 3) := by decide +kernel
theorem dX8_setMended_32 : decode cX8_setMended 32 = .ok (.aload_n 0, 1) := by decide +kernel
theorem dX8_setMended_33 : decode cX8_setMended 33 = .ok (.iload_n 3, 1) := by decide +kernel
theorem dX8_setMended_34 : decode cX8_setMended 34 = .ok (.ifCond .eq 13, 3) := by decide +kernel
theorem dX8_setMended_37 : decode cX8_setMended 37 = .ok (.aload_n 0, 1) := by decide +kernel
theorem dX8_setMended_38 : decode cX8_setMended 38 = .ok (.getfield 60, 3) := by decide +kernel
theorem dX8_setMended_41 : decode cX8_setMended 41 = .ok (.iload 4, 2) := by decide +kernel
theorem dX8_setMended_43 : decode cX8_setMended 43 = .ok (.ior, 1) := by decide +kernel
theorem dX8_setMended_44 : decode cX8_setMended 44 = .ok (.goto 12, 3) := by decide +kernel
theorem dX8_setMended_47 : decode cX8_setMended 47 = .ok (.aload_n 0, 1) := by decide +kernel
theorem dX8_setMended_48 : decode cX8_setMended 48 = .ok (.getfield 60, 3) := by decide +kernel
theorem dX8_setMended_51 : decode cX8_setMended 51 = .ok (.iload 4, 2) := by decide +kernel
theorem dX8_setMended_53 : decode cX8_setMended 53 = .ok (.iconst (-1), 1) := by decide +kernel
theorem dX8_setMended_54 : decode cX8_setMended 54 = .ok (.ixor, 1) := by decide +kernel
theorem dX8_setMended_55 : decode cX8_setMended 55 = .ok (.iand, 1) := by decide +kernel
theorem dX8_setMended_56 : decode cX8_setMended 56 = .ok (.putfield 60, 3) := by decide +kernel
theorem dX8_setMended_59 : decode cX8_setMended 59 = .ok (.return_, 1) := by decide +kernel
def X8_setMended_b29 (y0 : Nat) (y3 : Int32) (y4 : Int32) (t0 : Int32) (t1 : Nat) (w : Wd) : Option (Wd) :=
  lt (wI w t1 6 t0) fun w2 =>
  if y3 = 0 then
  (lt (wI w2 y0 7 ((w2.1 y0 7) &&& (y4 ^^^ ((-1))))) fun w3 =>
  some w3)
  else
  lt (wI w2 y0 7 ((w2.1 y0 7) ||| y4)) fun w4 =>
  some w4
set_option maxRecDepth 100000 in
set_option maxHeartbeats 4000000 in
theorem t_X8_setMended_b29 {Z : Cz (Wd)} (hZ : OKZ Z SC cX8_setMended RX8 5 none 1) (hE : EndV Z)  (y0 : Nat) (y3 : Int32) (y4 : Int32) (t0 : Int32) (t1 : Nat) (hy0 : IsS y0) (ht1 : IsS t1) (w : Wd) : BW Z 5 29 [(0, .ref (ph (zY Z) y0)), (3, .int y3), (4, .int y4)] [.int t0, .ref (ph (zY Z) t1)] w (X8_setMended_b29 y0 y3 y4 t0 t1 w) :=
  bw_putI hZ fl_RX8_57 rfl rfl (by decide) (obS ht1) dX8_setMended_29 fun w2 =>
  bw_aload_n hZ 0 rfl dX8_setMended_32 <|
  bw_iload_n hZ 1 rfl dX8_setMended_33 <|
  bw_if_eq hZ (tgt := 47) (by decide) dX8_setMended_34 (fun _ =>
  bw_aload_n hZ 0 rfl dX8_setMended_47 <|
  bw_getI hZ fl_RX8_60 (by decide) (obS hy0) dX8_setMended_48 <|
  bw_iload hZ 2 rfl dX8_setMended_51 <|
  bw_iconst hZ (-1) (by decide) dX8_setMended_53 <|
  bw_ixor hZ dX8_setMended_54 <|
  bw_iand hZ dX8_setMended_55 <|
  bw_putI hZ fl_RX8_60 rfl rfl (by decide) (obS hy0) dX8_setMended_56 fun w3 =>
  bw_vret hZ hE dX8_setMended_59) (fun _ =>
  bw_aload_n hZ 0 rfl dX8_setMended_37 <|
  bw_getI hZ fl_RX8_60 (by decide) (obS hy0) dX8_setMended_38 <|
  bw_iload hZ 2 rfl dX8_setMended_41 <|
  bw_ior hZ dX8_setMended_43 <|
  bw_goto hZ (tgt := 56) (by decide) dX8_setMended_44 <|
  bw_putI hZ fl_RX8_60 rfl rfl (by decide) (obS hy0) dX8_setMended_56 fun w4 =>
  bw_vret hZ hE dX8_setMended_59)
def f_X8_setMended (o0 : Nat) (x1 : Int32) (x2 : Int32) (x3 : Int32) (w : Wd) : Option (Wd) :=
  lt (1 <<< (x1 &&& 31)) fun v1 =>
  if x2 = 0 then
  (X8_setMended_b29 o0 x3 v1 ((w.1 o0 6) &&& (v1 ^^^ ((-1)))) o0 w)
  else
  X8_setMended_b29 o0 x3 v1 ((w.1 o0 6) ||| v1) o0 w
set_option maxRecDepth 100000 in
set_option maxHeartbeats 4000000 in
theorem t_X8_setMended {Z : Cz (Wd)} (hZ : OKZ Z SC cX8_setMended RX8 5 none 1) (hE : EndV Z) (o0 : Nat) (x1 : Int32) (x2 : Int32) (x3 : Int32) (ho0 : IsS o0) (w : Wd) : BW Z 5 0 [(0, .ref (ph (zY Z) o0)), (1, .int x1), (2, .int x2), (3, .int x3)] [] w (f_X8_setMended o0 x1 x2 x3 w) :=
  bw_iconst hZ 1 (by decide) dX8_setMended_0 <|
  bw_iload_n hZ 1 rfl dX8_setMended_1 <|
  bw_ishl hZ dX8_setMended_2 <|
  bw_nm fun v1 =>
  bw_istore hZ (by decide) rfl dX8_setMended_3 <|
  bw_aload_n hZ 1 rfl dX8_setMended_5 <|
  bw_iload_n hZ 3 rfl dX8_setMended_6 <|
  bw_if_eq hZ (tgt := 20) (by decide) dX8_setMended_7 (fun _ =>
  bw_aload_n hZ 1 rfl dX8_setMended_20 <|
  bw_getI hZ fl_RX8_57 (by decide) (obS ho0) dX8_setMended_21 <|
  bw_iload hZ 0 rfl dX8_setMended_24 <|
  bw_iconst hZ (-1) (by decide) dX8_setMended_26 <|
  bw_ixor hZ dX8_setMended_27 <|
  bw_iand hZ dX8_setMended_28 <|
  bw_sub [1, 4, 0] rfl (t_X8_setMended_b29 hZ hE o0 x3 v1 ((w.1 o0 6) &&& (v1 ^^^ ((-1)))) o0 ho0 ho0 w)) (fun _ =>
  bw_aload_n hZ 1 rfl dX8_setMended_10 <|
  bw_getI hZ fl_RX8_57 (by decide) (obS ho0) dX8_setMended_11 <|
  bw_iload hZ 0 rfl dX8_setMended_14 <|
  bw_ior hZ dX8_setMended_16 <|
  bw_goto hZ (tgt := 29) (by decide) dX8_setMended_17 <|
  bw_sub [1, 4, 0] rfl (t_X8_setMended_b29 hZ hE o0 x3 v1 ((w.1 o0 6) ||| v1) o0 ho0 ho0 w))
theorem c_X8_setMended (l : Launch) (Y : Ev) (hY : Y.1 = SC) (o0 : Nat) (x1 : Int32) (x2 : Int32) (x3 : Int32) (ho0 : IsS o0) (w : Wd) : CV l Y yX8_setMended cX8_setMended 5 1 [.ref (ph Y o0), .int x1, .int x2, .int x3] w (f_X8_setMended o0 x1 x2 x3 w) := by
  refine CV_of (S := SC) (by decide) (Nat.le_of_ble_eq_true rfl) hY ?_
  intro Z hl hY2 hZ hE
  subst hY2
  exact t_X8_setMended hZ hE o0 x1 x2 x3 ho0 w
-- WhichWill$Shares.mendFor
theorem dX7_mendFor_0 : decode cX7_mendFor 0 = .ok (.aload_n 0, 1) := by decide +kernel
theorem dX7_mendFor_1 : decode cX7_mendFor 1 = .ok (.invokevirtual 52, 3) := by decide +kernel
theorem dX7_mendFor_4 : decode cX7_mendFor 4 = .ok (.aload_n 0, 1) := by decide +kernel
theorem dX7_mendFor_5 : decode cX7_mendFor 5 = .ok (.getfield 23, 3) := by decide +kernel
theorem dX7_mendFor_8 : decode cX7_mendFor 8 = .ok (.aload_n 0, 1) := by decide +kernel
theorem dX7_mendFor_9 : decode cX7_mendFor 9 = .ok (.getfield 27, 3) := by decide +kernel
theorem dX7_mendFor_12 : decode cX7_mendFor 12 = .ok (.iload_n 1, 1) := by decide +kernel
theorem dX7_mendFor_13 : decode cX7_mendFor 13 = .ok (.iaload, 1) := by decide +kernel
theorem dX7_mendFor_14 : decode cX7_mendFor 14 = .ok (.aaload, 1) := by decide +kernel
theorem dX7_mendFor_15 : decode cX7_mendFor 15 = .ok (.iload_n 2, 1) := by decide +kernel
theorem dX7_mendFor_16 : decode cX7_mendFor 16 = .ok (.iload_n 3, 1) := by decide +kernel
theorem dX7_mendFor_17 : decode cX7_mendFor 17 = .ok (.iload 4, 2) := by decide +kernel
theorem dX7_mendFor_19 : decode cX7_mendFor 19 = .ok (.invokevirtual 100, 3) := by decide +kernel
theorem dX7_mendFor_22 : decode cX7_mendFor 22 = .ok (.return_, 1) := by decide +kernel
def f_X7_mendFor (x1 : Int32) (x2 : Int32) (x3 : Int32) (x4 : Int32) (w : Wd) : Option (Wd) :=
  cv (f_X7_prepare w) fun w1 =>
  if inb x1 8 = true then
  (if inb (w1.1 13 (Int32.toNatClampNeg x1)) 4 = true then
  (cv (f_X8_setMended (84 + 3 * Int32.toNatClampNeg (w1.1 13 (Int32.toNatClampNeg x1))) x2 x3 x4 w1) fun w4 =>
  some w4)
  else none)
  else none
set_option maxRecDepth 100000 in
set_option maxHeartbeats 4000000 in
theorem t_X7_mendFor {Z : Cz (Wd)} (hZ : OKZ Z SC cX7_mendFor RX7 5 none 5) (hE : EndV Z) (x1 : Int32) (x2 : Int32) (x3 : Int32) (x4 : Int32)  (w : Wd) : BW Z 5 0 [(0, .ref (ph (zY Z) 8)), (1, .int x1), (2, .int x2), (3, .int x3), (4, .int x4)] [] w (f_X7_mendFor x1 x2 x3 x4 w) :=
  bw_aload_n hZ 0 rfl dX7_mendFor_0 <|
  bw_callVV (As := []) hZ ml_RX7_52 rc_7 obC_8 (by decide) (c_X7_prepare (zl Z) (zY Z) (hZ_S hZ) w) rfl rfl (Nat.le_of_ble_eq_true rfl) dX7_mendFor_1 fun w1 =>
  bw_aload_n hZ 0 rfl dX7_mendFor_4 <|
  bw_getR hZ fl_RX7_23 obC_8 rfl dX7_mendFor_5 <|
  bw_aload_n hZ 0 rfl dX7_mendFor_8 <|
  bw_getR hZ fl_RX7_27 obC_8 rfl dX7_mendFor_9 <|
  bw_iload_n hZ 1 rfl dX7_mendFor_12 <|
  bw_iald hZ (arC_13 _) dX7_mendFor_13 <|
  bw_aald (84 + 3 * Int32.toNatClampNeg (w1.1 13 (Int32.toNatClampNeg x1))) hZ (arC_12 _) (Or.inr (Or.inr ⟨rfl, rfl⟩)) rfl dX7_mendFor_14 fun hi2 =>
  bw_iload_n hZ 2 rfl dX7_mendFor_15 <|
  bw_iload_n hZ 3 rfl dX7_mendFor_16 <|
  bw_iload hZ 4 rfl dX7_mendFor_17 <|
  bw_callVV (As := [.int x2, .int x3, .int x4]) hZ ml_RX7_100 rc_8 (obS (isS_of hi2)) (by decide) (c_X8_setMended (zl Z) (zY Z) (hZ_S hZ) (84 + 3 * Int32.toNatClampNeg (w1.1 13 (Int32.toNatClampNeg x1))) x2 x3 x4 (isS_of hi2) w1) rfl rfl (Nat.le_of_ble_eq_true rfl) dX7_mendFor_19 fun w4 =>
  bw_vret hZ hE dX7_mendFor_22
theorem c_X7_mendFor (l : Launch) (Y : Ev) (hY : Y.1 = SC) (x1 : Int32) (x2 : Int32) (x3 : Int32) (x4 : Int32)  (w : Wd) : CV l Y yX7_mendFor cX7_mendFor 5 5 [.ref (ph Y 8), .int x1, .int x2, .int x3, .int x4] w (f_X7_mendFor x1 x2 x3 x4 w) := by
  refine CV_of (S := SC) (by decide) (Nat.le_of_ble_eq_true rfl) hY ?_
  intro Z hl hY2 hZ hE
  subst hY2
  exact t_X7_mendFor hZ hE x1 x2 x3 x4 w
-- WhichWill$Mender.isEnough
theorem dX3_isEnough_0 : decode cX3_isEnough 0 = .ok (.aload_n 0, 1) := by decide +kernel
theorem dX3_isEnough_1 : decode cX3_isEnough 1 = .ok (.getfield 15, 3) := by decide +kernel
theorem dX3_isEnough_4 : decode cX3_isEnough 4 = .ok (.getfield 68, 3) := by decide +kernel
theorem dX3_isEnough_7 : decode cX3_isEnough 7 = .ok (.aload_n 0, 1) := by decide +kernel
theorem dX3_isEnough_8 : decode cX3_isEnough 8 = .ok (.getfield 23, 3) := by decide +kernel
theorem dX3_isEnough_11 : decode cX3_isEnough 11 = .ok (.aaload, 1) := by decide +kernel
theorem dX3_isEnough_12 : decode cX3_isEnough 12 = .ok (.aload_n 0, 1) := by decide +kernel
theorem dX3_isEnough_13 : decode cX3_isEnough 13 = .ok (.getfield 15, 3) := by decide +kernel
theorem dX3_isEnough_16 : decode cX3_isEnough 16 = .ok (.getfield 33, 3) := by decide +kernel
theorem dX3_isEnough_19 : decode cX3_isEnough 19 = .ok (.aload_n 0, 1) := by decide +kernel
theorem dX3_isEnough_20 : decode cX3_isEnough 20 = .ok (.getfield 45, 3) := by decide +kernel
theorem dX3_isEnough_23 : decode cX3_isEnough 23 = .ok (.iload_n 1, 1) := by decide +kernel
theorem dX3_isEnough_24 : decode cX3_isEnough 24 = .ok (.invokevirtual 72, 3) := by decide +kernel
theorem dX3_isEnough_27 : decode cX3_isEnough 27 = .ok (.istore_n 2, 1) := by decide +kernel
theorem dX3_isEnough_28 : decode cX3_isEnough 28 = .ok (.aload_n 0, 1) := by decide +kernel
theorem dX3_isEnough_29 : decode cX3_isEnough 29 = .ok (.getfield 15, 3) := by decide +kernel
theorem dX3_isEnough_32 : decode cX3_isEnough 32 = .ok (.getfield 68, 3) := by decide +kernel
theorem dX3_isEnough_35 : decode cX3_isEnough 35 = .ok (.aload_n 0, 1) := by decide +kernel
theorem dX3_isEnough_36 : decode cX3_isEnough 36 = .ok (.getfield 23, 3) := by decide +kernel
theorem dX3_isEnough_39 : decode cX3_isEnough 39 = .ok (.aaload, 1) := by decide +kernel
theorem dX3_isEnough_40 : decode cX3_isEnough 40 = .ok (.getfield 78, 3) := by decide +kernel
theorem dX3_isEnough_43 : decode cX3_isEnough 43 = .ok (.ifCond .ne 10, 3) := by decide +kernel
theorem dX3_isEnough_46 : decode cX3_isEnough 46 = .ok (.iload_n 1, 1) := by decide +kernel
theorem dX3_isEnough_47 : decode cX3_isEnough 47 = .ok (.bipush 16, 2) := by decide +kernel
theorem dX3_isEnough_49 : decode cX3_isEnough 49 = .ok (.iand, 1) := by decide +kernel
theorem dX3_isEnough_50 : decode cX3_isEnough 50 = .ok (.ifCond .eq 7, 3) := by decide +kernel
theorem dX3_isEnough_53 : decode cX3_isEnough 53 = .ok (.iconst 1, 1) := by decide +kernel
theorem dX3_isEnough_54 : decode cX3_isEnough 54 = .ok (.goto 4, 3) := by decide +kernel
theorem dX3_isEnough_57 : decode cX3_isEnough 57 = .ok (.iconst 0, 1) := by decide +kernel
theorem dX3_isEnough_58 : decode cX3_isEnough 58 = .ok (.istore_n 3, 1) := by decide +kernel
theorem dX3_isEnough_59 : decode cX3_isEnough 59 = .ok (.iload_n 1, 1) := by decide +kernel
theorem dX3_isEnough_60 : decode cX3_isEnough 60 = .ok (.bipush 32, 2) := by decide +kernel
theorem dX3_isEnough_62 : decode cX3_isEnough 62 = .ok (.iand, 1) := by decide +kernel
theorem dX3_isEnough_63 : decode cX3_isEnough 63 = .ok (.ifCond .eq 7, 3) := by decide +kernel
theorem dX3_isEnough_66 : decode cX3_isEnough 66 = .ok (.iconst 1, 1) := by decide +kernel
theorem dX3_isEnough_67 : decode cX3_isEnough 67 = .ok (.goto 4, 3) := by decide +kernel
theorem dX3_isEnough_70 : decode cX3_isEnough 70 = .ok (.iconst 0, 1) := by decide +kernel
theorem dX3_isEnough_71 : decode cX3_isEnough 71 = .ok (.istore 4, 2) := by decide +kernel
theorem dX3_isEnough_73 : decode cX3_isEnough 73 = .ok (.iload_n 2, 1) := by decide +kernel
theorem dX3_isEnough_74 : decode cX3_isEnough 74 = .ok (.ifCond .eq 7, 3) := by decide +kernel
theorem dX3_isEnough_77 : decode cX3_isEnough 77 = .ok (.iconst 1, 1) := by decide +kernel
theorem dX3_isEnough_78 : decode cX3_isEnough 78 = .ok (.goto 4, 3) := by decide +kernel
theorem dX3_isEnough_81 : decode cX3_isEnough 81 = .ok (.iconst 0, 1) := by decide +kernel
theorem dX3_isEnough_82 : decode cX3_isEnough 82 = .ok (.iload_n 3, 1) := by decide +kernel
theorem dX3_isEnough_83 : decode cX3_isEnough 83 = .ok (.ifCond .eq 7, 3) := by decide +kernel
theorem dX3_isEnough_86 : decode cX3_isEnough 86 = .ok (.iconst 2, 1) := by decide +kernel
theorem dX3_isEnough_87 : decode cX3_isEnough 87 = .ok (.goto 4, 3) := by decide +kernel
theorem dX3_isEnough_90 : decode cX3_isEnough 90 = .ok (.iconst 0, 1) := by decide +kernel
theorem dX3_isEnough_91 : decode cX3_isEnough 91 = .ok (.iadd, 1) := by decide +kernel
theorem dX3_isEnough_92 : decode cX3_isEnough 92 = .ok (.iload 4, 2) := by decide +kernel
theorem dX3_isEnough_94 : decode cX3_isEnough 94 = .ok (.ifCond .eq 7, 3) := by decide +kernel
theorem dX3_isEnough_97 : decode cX3_isEnough 97 = .ok (.iconst 4, 1) := by decide +kernel
theorem dX3_isEnough_98 : decode cX3_isEnough 98 = .ok (.goto 4, 3) := by decide +kernel
theorem dX3_isEnough_101 : decode cX3_isEnough 101 = .ok (.iconst 0, 1) := by decide +kernel
theorem dX3_isEnough_102 : decode cX3_isEnough 102 = .ok (.iadd, 1) := by decide +kernel
theorem dX3_isEnough_103 : decode cX3_isEnough 103 = .ok (.istore 5, 2) := by decide +kernel
theorem dX3_isEnough_105 : decode cX3_isEnough 105 = .ok (.aload_n 0, 1) := by decide +kernel
theorem dX3_isEnough_106 : decode cX3_isEnough 106 = .ok (.getfield 9, 3) := by decide +kernel
theorem dX3_isEnough_109 : decode cX3_isEnough 109 = .ok (.iload 5, 2) := by decide +kernel
theorem dX3_isEnough_111 : decode cX3_isEnough 111 = .ok (.iaload, 1) := by decide +kernel
theorem dX3_isEnough_112 : decode cX3_isEnough 112 = .ok (.ifCond .ne 41, 3) := by decide +kernel
theorem dX3_isEnough_115 : decode cX3_isEnough 115 = .ok (.aload_n 0, 1) := by decide +kernel
theorem dX3_isEnough_116 : decode cX3_isEnough 116 = .ok (.getfield 19, 3) := by decide +kernel
theorem dX3_isEnough_119 : decode cX3_isEnough 119 = .ok (.aload_n 0, 1) := by decide +kernel
theorem dX3_isEnough_120 : decode cX3_isEnough 120 = .ok (.getfield 27, 3) := by decide +kernel
theorem dX3_isEnough_123 : decode cX3_isEnough 123 = .ok (.aload_n 0, 1) := by decide +kernel
theorem dX3_isEnough_124 : decode cX3_isEnough 124 = .ok (.getfield 23, 3) := by decide +kernel
theorem dX3_isEnough_127 : decode cX3_isEnough 127 = .ok (.iload_n 2, 1) := by decide +kernel
theorem dX3_isEnough_128 : decode cX3_isEnough 128 = .ok (.iload_n 3, 1) := by decide +kernel
theorem dX3_isEnough_129 : decode cX3_isEnough 129 = .ok (.invokevirtual 82, 3) := by decide +kernel
theorem dX3_isEnough_132 : decode cX3_isEnough 132 = .ok (.aload_n 0, 1) := by decide +kernel
theorem dX3_isEnough_133 : decode cX3_isEnough 133 = .ok (.getfield 9, 3) := by decide +kernel
theorem dX3_isEnough_136 : decode cX3_isEnough 136 = .ok (.iload 5, 2) := by decide +kernel
theorem dX3_isEnough_138 : decode cX3_isEnough 138 = .ok (.aload_n 0, 1) := by decide +kernel
theorem dX3_isEnough_139 : decode cX3_isEnough 139 = .ok (.iload 4, 2) := by decide +kernel
theorem dX3_isEnough_141 : decode cX3_isEnough 141 = .ok (.invokevirtual 86, 3) := by decide +kernel
theorem dX3_isEnough_144 : decode cX3_isEnough 144 = .ok (.ifCond .eq 7, 3) := by decide +kernel
theorem dX3_isEnough_147 : decode cX3_isEnough 147 = .ok (.iconst 1, 1) := by decide +kernel
theorem dX3_isEnough_148 : decode cX3_isEnough 148 = .ok (.goto 4, 3) := by decide +kernel
theorem dX3_isEnough_151 : decode cX3_isEnough 151 = .ok (.iconst 2, 1) := by decide +kernel
theorem dX3_isEnough_152 : decode cX3_isEnough 152 = .ok (.iastore, 1) := by decide +kernel
theorem dX3_isEnough_153 : decode cX3_isEnough 153 = .ok (.aload_n 0, 1) := by decide +kernel
theorem dX3_isEnough_154 : decode cX3_isEnough 154 = .ok (.getfield 9, 3) := by decide +kernel
theorem dX3_isEnough_157 : decode cX3_isEnough 157 = .ok (.iload 5, 2) := by decide +kernel
theorem dX3_isEnough_159 : decode cX3_isEnough 159 = .ok (.iaload, 1) := by decide +kernel
theorem dX3_isEnough_160 : decode cX3_isEnough 160 = .ok (.iconst 1, 1) := by decide +kernel
theorem dX3_isEnough_161 : decode cX3_isEnough 161 = .ok (.if_icmp .ne 7, 3) := by decide +kernel
theorem dX3_isEnough_164 : decode cX3_isEnough 164 = .ok (.iconst 1, 1) := by decide +kernel
theorem dX3_isEnough_165 : decode cX3_isEnough 165 = .ok (.goto 4, 3) := by decide +kernel
theorem dX3_isEnough_168 : decode cX3_isEnough 168 = .ok (.iconst 0, 1) := by decide +kernel
theorem dX3_isEnough_169 : decode cX3_isEnough 169 = .ok (.ireturn, 1) := by decide +kernel
def X3_isEnough_b153 (y5 : Int32) (w : Wd) : Option (Int32 × Wd) :=
  if inb y5 8 = true then
  (if (w.1 29 (Int32.toNatClampNeg y5)) = 1 then
  (some (1, w))
  else
  some (0, w))
  else none
set_option maxRecDepth 100000 in
set_option maxHeartbeats 4000000 in
theorem t_X3_isEnough_b153 {Z : Cz (Int32 × Wd)} (hZ : OKZ Z SC cX3_isEnough RX3 6 (some .boolean) 6) (hE : EndI Z)  (y5 : Int32)  (w : Wd) : BW Z 6 153 [(0, .ref (ph (zY Z) 28)), (5, .int y5)] [] w (X3_isEnough_b153 y5 w) :=
  bw_aload_n hZ 0 rfl dX3_isEnough_153 <|
  bw_getR hZ fl_RX3_9 obC_28 rfl dX3_isEnough_154 <|
  bw_iload hZ 1 rfl dX3_isEnough_157 <|
  bw_iald hZ (arC_29 _) dX3_isEnough_159 <|
  bw_iconst hZ 1 (by decide) dX3_isEnough_160 <|
  bw_icmp_ne hZ (tgt := 168) (by decide) dX3_isEnough_161 (fun _ =>
  bw_iconst hZ 0 (by decide) dX3_isEnough_168 <|
  bw_zret hZ hE (by decide) dX3_isEnough_169) (fun _ =>
  bw_iconst hZ 1 (by decide) dX3_isEnough_164 <|
  bw_goto hZ (tgt := 169) (by decide) dX3_isEnough_165 <|
  bw_zret hZ hE (by decide) dX3_isEnough_169)
def X3_isEnough_b102 (y2 : Int32) (y3 : Int32) (y4 : Int32) (t0 : Int32) (t1 : Int32) (w : Wd) : Option (Int32 × Wd) :=
  lt (t1 + t0) fun v7 =>
  if inb v7 8 = true then
  (if (w.1 29 (Int32.toNatClampNeg v7)) = 0 then
  (cv (f_X7_mendFor (w.1 28 4) (w.1 28 3) y2 y3 w) fun w8 =>
  cl (f_X3_goesRightInAll y4 w8) fun r10 w9 =>
  if r10 = 0 then
  (if inb v7 8 = true then
  (lt (wI w9 29 (Int32.toNatClampNeg v7) 2) fun w11 =>
  X3_isEnough_b153 v7 w11)
  else none)
  else
  if inb v7 8 = true then
  (lt (wI w9 29 (Int32.toNatClampNeg v7) 1) fun w12 =>
  X3_isEnough_b153 v7 w12)
  else none)
  else
  X3_isEnough_b153 v7 w)
  else none
set_option maxRecDepth 100000 in
set_option maxHeartbeats 4000000 in
theorem t_X3_isEnough_b102 {Z : Cz (Int32 × Wd)} (hZ : OKZ Z SC cX3_isEnough RX3 6 (some .boolean) 6) (hE : EndI Z)  (y2 : Int32) (y3 : Int32) (y4 : Int32) (t0 : Int32) (t1 : Int32)  (w : Wd) : BW Z 6 102 [(0, .ref (ph (zY Z) 28)), (2, .int y2), (3, .int y3), (4, .int y4)] [.int t0, .int t1] w (X3_isEnough_b102 y2 y3 y4 t0 t1 w) :=
  bw_iadd hZ dX3_isEnough_102 <|
  bw_nm fun v7 =>
  bw_istore hZ (by decide) rfl dX3_isEnough_103 <|
  bw_aload_n hZ 1 rfl dX3_isEnough_105 <|
  bw_getR hZ fl_RX3_9 obC_28 rfl dX3_isEnough_106 <|
  bw_iload hZ 0 rfl dX3_isEnough_109 <|
  bw_iald hZ (arC_29 _) dX3_isEnough_111 <|
  bw_if_ne hZ (tgt := 153) (by decide) dX3_isEnough_112 (fun _ =>
  bw_sub [1, 0] rfl (t_X3_isEnough_b153 hZ hE v7 w)) (fun _ =>
  bw_aload_n hZ 1 rfl dX3_isEnough_115 <|
  bw_getR hZ fl_RX3_19 obC_28 rfl dX3_isEnough_116 <|
  bw_aload_n hZ 1 rfl dX3_isEnough_119 <|
  bw_getI hZ fl_RX3_27 (by decide) obC_28 dX3_isEnough_120 <|
  bw_aload_n hZ 1 rfl dX3_isEnough_123 <|
  bw_getI hZ fl_RX3_23 (by decide) obC_28 dX3_isEnough_124 <|
  bw_iload_n hZ 2 rfl dX3_isEnough_127 <|
  bw_iload_n hZ 3 rfl dX3_isEnough_128 <|
  bw_callVV (As := [.int (w.1 28 4), .int (w.1 28 3), .int y2, .int y3]) hZ ml_RX3_82 rc_7 obC_8 (by decide) (c_X7_mendFor (zl Z) (zY Z) (hZ_S hZ) (w.1 28 4) (w.1 28 3) y2 y3 w) rfl rfl (Nat.le_of_ble_eq_true rfl) dX3_isEnough_129 fun w8 =>
  bw_aload_n hZ 1 rfl dX3_isEnough_132 <|
  bw_getR hZ fl_RX3_9 obC_28 rfl dX3_isEnough_133 <|
  bw_iload hZ 0 rfl dX3_isEnough_136 <|
  bw_aload_n hZ 1 rfl dX3_isEnough_138 <|
  bw_iload hZ 4 rfl dX3_isEnough_139 <|
  bw_callVI (As := [.int y4]) hZ ml_RX3_86 rc_3 obC_28 (by decide) (c_X3_goesRightInAll (zl Z) (zY Z) (hZ_S hZ) y4 w8) rfl rfl (Nat.le_of_ble_eq_true rfl) dX3_isEnough_141 fun r10 w9 =>
  bw_if_eq hZ (tgt := 151) (by decide) dX3_isEnough_144 (fun _ =>
  bw_iconst hZ 2 (by decide) dX3_isEnough_151 <|
  bw_iast hZ (arC_29 _) dX3_isEnough_152 fun w11 =>
  bw_sub [1, 0] rfl (t_X3_isEnough_b153 hZ hE v7 w11)) (fun _ =>
  bw_iconst hZ 1 (by decide) dX3_isEnough_147 <|
  bw_goto hZ (tgt := 152) (by decide) dX3_isEnough_148 <|
  bw_iast hZ (arC_29 _) dX3_isEnough_152 fun w12 =>
  bw_sub [1, 0] rfl (t_X3_isEnough_b153 hZ hE v7 w12)))
def X3_isEnough_b91 (y2 : Int32) (y3 : Int32) (y4 : Int32) (t0 : Int32) (t1 : Int32) (w : Wd) : Option (Int32 × Wd) :=
  if y4 = 0 then
  (X3_isEnough_b102 y2 y3 y4 0 (t1 + t0) w)
  else
  X3_isEnough_b102 y2 y3 y4 4 (t1 + t0) w
set_option maxRecDepth 100000 in
set_option maxHeartbeats 4000000 in
theorem t_X3_isEnough_b91 {Z : Cz (Int32 × Wd)} (hZ : OKZ Z SC cX3_isEnough RX3 6 (some .boolean) 6) (hE : EndI Z)  (y2 : Int32) (y3 : Int32) (y4 : Int32) (t0 : Int32) (t1 : Int32)  (w : Wd) : BW Z 6 91 [(0, .ref (ph (zY Z) 28)), (2, .int y2), (3, .int y3), (4, .int y4)] [.int t0, .int t1] w (X3_isEnough_b91 y2 y3 y4 t0 t1 w) :=
  bw_iadd hZ dX3_isEnough_91 <|
  bw_iload hZ 3 rfl dX3_isEnough_92 <|
  bw_if_eq hZ (tgt := 101) (by decide) dX3_isEnough_94 (fun _ =>
  bw_iconst hZ 0 (by decide) dX3_isEnough_101 <|
  bw_sub [0, 1, 2, 3] rfl (t_X3_isEnough_b102 hZ hE y2 y3 y4 0 (t1 + t0) w)) (fun _ =>
  bw_iconst hZ 4 (by decide) dX3_isEnough_97 <|
  bw_goto hZ (tgt := 102) (by decide) dX3_isEnough_98 <|
  bw_sub [0, 1, 2, 3] rfl (t_X3_isEnough_b102 hZ hE y2 y3 y4 4 (t1 + t0) w))
def X3_isEnough_b82 (y2 : Int32) (y3 : Int32) (y4 : Int32) (t0 : Int32) (w : Wd) : Option (Int32 × Wd) :=
  if y3 = 0 then
  (X3_isEnough_b91 y2 y3 y4 0 t0 w)
  else
  X3_isEnough_b91 y2 y3 y4 2 t0 w
set_option maxRecDepth 100000 in
set_option maxHeartbeats 4000000 in
theorem t_X3_isEnough_b82 {Z : Cz (Int32 × Wd)} (hZ : OKZ Z SC cX3_isEnough RX3 6 (some .boolean) 6) (hE : EndI Z)  (y2 : Int32) (y3 : Int32) (y4 : Int32) (t0 : Int32)  (w : Wd) : BW Z 6 82 [(0, .ref (ph (zY Z) 28)), (2, .int y2), (3, .int y3), (4, .int y4)] [.int t0] w (X3_isEnough_b82 y2 y3 y4 t0 w) :=
  bw_iload_n hZ 2 rfl dX3_isEnough_82 <|
  bw_if_eq hZ (tgt := 90) (by decide) dX3_isEnough_83 (fun _ =>
  bw_iconst hZ 0 (by decide) dX3_isEnough_90 <|
  bw_sub [0, 1, 2, 3] rfl (t_X3_isEnough_b91 hZ hE y2 y3 y4 0 t0 w)) (fun _ =>
  bw_iconst hZ 2 (by decide) dX3_isEnough_86 <|
  bw_goto hZ (tgt := 91) (by decide) dX3_isEnough_87 <|
  bw_sub [0, 1, 2, 3] rfl (t_X3_isEnough_b91 hZ hE y2 y3 y4 2 t0 w))
def X3_isEnough_b71 (y2 : Int32) (y3 : Int32) (t0 : Int32) (w : Wd) : Option (Int32 × Wd) :=
  if y2 = 0 then
  (X3_isEnough_b82 y2 y3 t0 0 w)
  else
  X3_isEnough_b82 y2 y3 t0 1 w
set_option maxRecDepth 100000 in
set_option maxHeartbeats 4000000 in
theorem t_X3_isEnough_b71 {Z : Cz (Int32 × Wd)} (hZ : OKZ Z SC cX3_isEnough RX3 6 (some .boolean) 6) (hE : EndI Z)  (y2 : Int32) (y3 : Int32) (t0 : Int32)  (w : Wd) : BW Z 6 71 [(0, .ref (ph (zY Z) 28)), (2, .int y2), (3, .int y3)] [.int t0] w (X3_isEnough_b71 y2 y3 t0 w) :=
  bw_istore hZ (by decide) rfl dX3_isEnough_71 <|
  bw_iload_n hZ 2 rfl dX3_isEnough_73 <|
  bw_if_eq hZ (tgt := 81) (by decide) dX3_isEnough_74 (fun _ =>
  bw_iconst hZ 0 (by decide) dX3_isEnough_81 <|
  bw_sub [1, 2, 3, 0] rfl (t_X3_isEnough_b82 hZ hE y2 y3 t0 0 w)) (fun _ =>
  bw_iconst hZ 1 (by decide) dX3_isEnough_77 <|
  bw_goto hZ (tgt := 82) (by decide) dX3_isEnough_78 <|
  bw_sub [1, 2, 3, 0] rfl (t_X3_isEnough_b82 hZ hE y2 y3 t0 1 w))
def X3_isEnough_b58 (y1 : Int32) (y2 : Int32) (t0 : Int32) (w : Wd) : Option (Int32 × Wd) :=
  if (y1 &&& 32) = 0 then
  (X3_isEnough_b71 y2 t0 0 w)
  else
  X3_isEnough_b71 y2 t0 1 w
set_option maxRecDepth 100000 in
set_option maxHeartbeats 4000000 in
theorem t_X3_isEnough_b58 {Z : Cz (Int32 × Wd)} (hZ : OKZ Z SC cX3_isEnough RX3 6 (some .boolean) 6) (hE : EndI Z)  (y1 : Int32) (y2 : Int32) (t0 : Int32)  (w : Wd) : BW Z 6 58 [(0, .ref (ph (zY Z) 28)), (1, .int y1), (2, .int y2)] [.int t0] w (X3_isEnough_b58 y1 y2 t0 w) :=
  bw_istore_n hZ rfl (by decide) rfl dX3_isEnough_58 <|
  bw_iload_n hZ 2 rfl dX3_isEnough_59 <|
  bw_bipush hZ 32 (by decide) dX3_isEnough_60 <|
  bw_iand hZ dX3_isEnough_62 <|
  bw_if_eq hZ (tgt := 70) (by decide) dX3_isEnough_63 (fun _ =>
  bw_iconst hZ 0 (by decide) dX3_isEnough_70 <|
  bw_sub [1, 3, 0] rfl (t_X3_isEnough_b71 hZ hE y2 t0 0 w)) (fun _ =>
  bw_iconst hZ 1 (by decide) dX3_isEnough_66 <|
  bw_goto hZ (tgt := 71) (by decide) dX3_isEnough_67 <|
  bw_sub [1, 3, 0] rfl (t_X3_isEnough_b71 hZ hE y2 t0 1 w))
def f_X3_isEnough (x1 : Int32) (w : Wd) : Option (Int32 × Wd) :=
  if inb (w.1 28 3) 4 = true then
  (cl (f_X6_isGoodBy (57 + 6 * Int32.toNatClampNeg (w.1 28 3)) (w.1 28 6) x1 w) fun r4 w3 =>
  if inb (w3.1 28 3) 4 = true then
  (if (w3.1 (57 + 6 * Int32.toNatClampNeg (w3.1 28 3)) 4) = 0 then
  (if (x1 &&& 16) = 0 then
  (X3_isEnough_b58 x1 r4 0 w3)
  else
  X3_isEnough_b58 x1 r4 1 w3)
  else
  X3_isEnough_b58 x1 r4 1 w3)
  else none)
  else none
set_option maxRecDepth 100000 in
set_option maxHeartbeats 4000000 in
theorem t_X3_isEnough {Z : Cz (Int32 × Wd)} (hZ : OKZ Z SC cX3_isEnough RX3 6 (some .boolean) 6) (hE : EndI Z) (x1 : Int32)  (w : Wd) : BW Z 6 0 [(0, .ref (ph (zY Z) 28)), (1, .int x1)] [] w (f_X3_isEnough x1 w) :=
  bw_aload_n hZ 0 rfl dX3_isEnough_0 <|
  bw_getR hZ fl_RX3_15 obC_28 rfl dX3_isEnough_1 <|
  bw_getR hZ fl_RX3_68 obC_3 rfl dX3_isEnough_4 <|
  bw_aload_n hZ 0 rfl dX3_isEnough_7 <|
  bw_getI hZ fl_RX3_23 (by decide) obC_28 dX3_isEnough_8 <|
  bw_aald (57 + 6 * Int32.toNatClampNeg (w.1 28 3)) hZ (arC_4 _) (Or.inl ⟨rfl, rfl⟩) rfl dX3_isEnough_11 fun hi1 =>
  bw_aload_n hZ 0 rfl dX3_isEnough_12 <|
  bw_getR hZ fl_RX3_15 obC_28 rfl dX3_isEnough_13 <|
  bw_getR hZ fl_RX3_33 obC_3 rfl dX3_isEnough_16 <|
  bw_aload_n hZ 0 rfl dX3_isEnough_19 <|
  bw_getI hZ fl_RX3_45 (by decide) obC_28 dX3_isEnough_20 <|
  bw_iload_n hZ 1 rfl dX3_isEnough_23 <|
  bw_callVI (As := [.ref (ph (zY Z) 31), .int (w.1 28 6), .int x1]) hZ ml_RX3_72 rc_6 (obP (isP_of hi1)) (by decide) (c_X6_isGoodBy (zl Z) (zY Z) (hZ_S hZ) (57 + 6 * Int32.toNatClampNeg (w.1 28 3)) (w.1 28 6) x1 (isP_of hi1) w) rfl rfl (Nat.le_of_ble_eq_true rfl) dX3_isEnough_24 fun r4 w3 =>
  bw_istore_n hZ rfl (by decide) rfl dX3_isEnough_27 <|
  bw_aload_n hZ 1 rfl dX3_isEnough_28 <|
  bw_getR hZ fl_RX3_15 obC_28 rfl dX3_isEnough_29 <|
  bw_getR hZ fl_RX3_68 obC_3 rfl dX3_isEnough_32 <|
  bw_aload_n hZ 1 rfl dX3_isEnough_35 <|
  bw_getI hZ fl_RX3_23 (by decide) obC_28 dX3_isEnough_36 <|
  bw_aald (57 + 6 * Int32.toNatClampNeg (w3.1 28 3)) hZ (arC_4 _) (Or.inl ⟨rfl, rfl⟩) rfl dX3_isEnough_39 fun hi5 =>
  bw_getI hZ fl_RX3_78 (by decide) (obP (isP_of hi5)) dX3_isEnough_40 <|
  bw_if_ne hZ (tgt := 53) (by decide) dX3_isEnough_43 (fun _ =>
  bw_iconst hZ 1 (by decide) dX3_isEnough_53 <|
  bw_goto hZ (tgt := 58) (by decide) dX3_isEnough_54 <|
  bw_sub [1, 2, 0] rfl (t_X3_isEnough_b58 hZ hE x1 r4 1 w3)) (fun _ =>
  bw_iload_n hZ 2 rfl dX3_isEnough_46 <|
  bw_bipush hZ 16 (by decide) dX3_isEnough_47 <|
  bw_iand hZ dX3_isEnough_49 <|
  bw_if_eq hZ (tgt := 57) (by decide) dX3_isEnough_50 (fun _ =>
  bw_iconst hZ 0 (by decide) dX3_isEnough_57 <|
  bw_sub [1, 2, 0] rfl (t_X3_isEnough_b58 hZ hE x1 r4 0 w3)) (fun _ =>
  bw_iconst hZ 1 (by decide) dX3_isEnough_53 <|
  bw_goto hZ (tgt := 58) (by decide) dX3_isEnough_54 <|
  bw_sub [1, 2, 0] rfl (t_X3_isEnough_b58 hZ hE x1 r4 1 w3)))
theorem c_X3_isEnough (l : Launch) (Y : Ev) (hY : Y.1 = SC) (x1 : Int32)  (w : Wd) : CI l Y yX3_isEnough cX3_isEnough 6 6 [.ref (ph Y 28), .int x1] w .boolean (f_X3_isEnough x1 w) := by
  refine CI_of (S := SC) (by decide) (Nat.le_of_ble_eq_true rfl) hY ?_
  intro Z hl hY2 hZ hE
  subst hY2
  exact t_X3_isEnough hZ hE x1 w
-- WhichWill$Shares.forgetMending
theorem dX7_forgetMending_0 : decode cX7_forgetMending 0 = .ok (.aload_n 0, 1) := by decide +kernel
theorem dX7_forgetMending_1 : decode cX7_forgetMending 1 = .ok (.iconst (-1), 1) := by decide +kernel
theorem dX7_forgetMending_2 : decode cX7_forgetMending 2 = .ok (.putfield 36, 3) := by decide +kernel
theorem dX7_forgetMending_5 : decode cX7_forgetMending 5 = .ok (.return_, 1) := by decide +kernel
def f_X7_forgetMending (w : Wd) : Option (Wd) :=
  lt (wI w 8 13 ((-1))) fun w1 =>
  some w1
set_option maxRecDepth 100000 in
set_option maxHeartbeats 4000000 in
theorem t_X7_forgetMending {Z : Cz (Wd)} (hZ : OKZ Z SC cX7_forgetMending RX7 1 none 1) (hE : EndV Z)   (w : Wd) : BW Z 1 0 [(0, .ref (ph (zY Z) 8))] [] w (f_X7_forgetMending w) :=
  bw_aload_n hZ 0 rfl dX7_forgetMending_0 <|
  bw_iconst hZ (-1) (by decide) dX7_forgetMending_1 <|
  bw_putI hZ fl_RX7_36 rfl rfl (by decide) obC_8 dX7_forgetMending_2 fun w1 =>
  bw_vret hZ hE dX7_forgetMending_5
theorem c_X7_forgetMending (l : Launch) (Y : Ev) (hY : Y.1 = SC)   (w : Wd) : CV l Y yX7_forgetMending cX7_forgetMending 1 1 [.ref (ph Y 8)] w (f_X7_forgetMending w) := by
  refine CV_of (S := SC) (by decide) (Nat.le_of_ble_eq_true rfl) hY ?_
  intro Z hl hY2 hZ hE
  subst hY2
  exact t_X7_forgetMending hZ hE w
-- WhichWill$Mender.fewestChanges
theorem dX3_fewestChanges_0 : decode cX3_fewestChanges 0 = .ok (.aload_n 0, 1) := by decide +kernel
theorem dX3_fewestChanges_1 : decode cX3_fewestChanges 1 = .ok (.iload_n 1, 1) := by decide +kernel
theorem dX3_fewestChanges_2 : decode cX3_fewestChanges 2 = .ok (.putfield 23, 3) := by decide +kernel
theorem dX3_fewestChanges_5 : decode cX3_fewestChanges 5 = .ok (.aload_n 0, 1) := by decide +kernel
theorem dX3_fewestChanges_6 : decode cX3_fewestChanges 6 = .ok (.iload_n 2, 1) := by decide +kernel
theorem dX3_fewestChanges_7 : decode cX3_fewestChanges 7 = .ok (.putfield 27, 3) := by decide +kernel
theorem dX3_fewestChanges_10 : decode cX3_fewestChanges 10 = .ok (.aload_n 0, 1) := by decide +kernel
theorem dX3_fewestChanges_11 : decode cX3_fewestChanges 11 = .ok (.iload_n 3, 1) := by decide +kernel
theorem dX3_fewestChanges_12 : decode cX3_fewestChanges 12 = .ok (.putfield 30, 3) := by decide +kernel
theorem dX3_fewestChanges_15 : decode cX3_fewestChanges 15 = .ok (.aload_n 0, 1) := by decide +kernel
theorem dX3_fewestChanges_16 : decode cX3_fewestChanges 16 = .ok (.aload_n 0, 1) := by decide +kernel
theorem dX3_fewestChanges_17 : decode cX3_fewestChanges 17 = .ok (.getfield 15, 3) := by decide +kernel
theorem dX3_fewestChanges_20 : decode cX3_fewestChanges 20 = .ok (.getfield 33, 3) := by decide +kernel
theorem dX3_fewestChanges_23 : decode cX3_fewestChanges 23 = .ok (.iload_n 2, 1) := by decide +kernel
theorem dX3_fewestChanges_24 : decode cX3_fewestChanges 24 = .ok (.invokevirtual 39, 3) := by decide +kernel
theorem dX3_fewestChanges_27 : decode cX3_fewestChanges 27 = .ok (.iconst 1, 1) := by decide +kernel
theorem dX3_fewestChanges_28 : decode cX3_fewestChanges 28 = .ok (.ishr, 1) := by decide +kernel
theorem dX3_fewestChanges_29 : decode cX3_fewestChanges 29 = .ok (.putfield 45, 3) := by decide +kernel
theorem dX3_fewestChanges_32 : decode cX3_fewestChanges 32 = .ok (.aload_n 0, 1) := by decide +kernel
theorem dX3_fewestChanges_33 : decode cX3_fewestChanges 33 = .ok (.getfield 9, 3) := by decide +kernel
theorem dX3_fewestChanges_36 : decode cX3_fewestChanges 36 = .ok (.iconst 0, 1) := by decide +kernel
theorem dX3_fewestChanges_37 : decode cX3_fewestChanges 37 = .ok (.invokestatic 48, 3) := by decide +kernel
theorem dX3_fewestChanges_40 : decode cX3_fewestChanges 40 = .ok (.iconst (-1), 1) := by decide +kernel
theorem dX3_fewestChanges_41 : decode cX3_fewestChanges 41 = .ok (.istore 4, 2) := by decide +kernel
theorem dX3_fewestChanges_43 : decode cX3_fewestChanges 43 = .ok (.iconst 0, 1) := by decide +kernel
theorem dX3_fewestChanges_44 : decode cX3_fewestChanges 44 = .ok (.istore 5, 2) := by decide +kernel
theorem dX3_fewestChanges_46 : decode cX3_fewestChanges 46 = .ok (.iload 5, 2) := by decide +kernel
theorem dX3_fewestChanges_48 : decode cX3_fewestChanges 48 = .ok (.bipush 6, 2) := by decide +kernel
theorem dX3_fewestChanges_50 : decode cX3_fewestChanges 50 = .ok (.if_icmp .gt 60, 3) := by decide +kernel
theorem dX3_fewestChanges_53 : decode cX3_fewestChanges 53 = .ok (.iload 4, 2) := by decide +kernel
theorem dX3_fewestChanges_55 : decode cX3_fewestChanges 55 = .ok (.iconst (-1), 1) := by decide +kernel
theorem dX3_fewestChanges_56 : decode cX3_fewestChanges 56 = .ok (.if_icmp .ne 54, 3) := by decide +kernel
theorem dX3_fewestChanges_59 : decode cX3_fewestChanges 59 = .ok (.iconst 0, 1) := by decide +kernel
theorem dX3_fewestChanges_60 : decode cX3_fewestChanges 60 = .ok (.istore 6, 2) := by decide +kernel
theorem dX3_fewestChanges_62 : decode cX3_fewestChanges 62 = .ok (.iload 6, 2) := by decide +kernel
theorem dX3_fewestChanges_64 : decode cX3_fewestChanges 64 = .ok (.bipush 64, 2) := by decide +kernel
theorem dX3_fewestChanges_66 : decode cX3_fewestChanges 66 = .ok (.if_icmp .ge 38, 3) := by decide +kernel
theorem dX3_fewestChanges_69 : decode cX3_fewestChanges 69 = .ok (.iload 4, 2) := by decide +kernel
theorem dX3_fewestChanges_71 : decode cX3_fewestChanges 71 = .ok (.iconst (-1), 1) := by decide +kernel
theorem dX3_fewestChanges_72 : decode cX3_fewestChanges 72 = .ok (.if_icmp .ne 32, 3) := by decide +kernel
theorem dX3_fewestChanges_75 : decode cX3_fewestChanges 75 = .ok (.iload 6, 2) := by decide +kernel
theorem dX3_fewestChanges_77 : decode cX3_fewestChanges 77 = .ok (.invokestatic 54, 3) := by decide +kernel
theorem dX3_fewestChanges_80 : decode cX3_fewestChanges 80 = .ok (.iload 5, 2) := by decide +kernel
theorem dX3_fewestChanges_82 : decode cX3_fewestChanges 82 = .ok (.if_icmp .ne 16, 3) := by decide +kernel
theorem dX3_fewestChanges_85 : decode cX3_fewestChanges 85 = .ok (.aload_n 0, 1) := by decide +kernel
theorem dX3_fewestChanges_86 : decode cX3_fewestChanges 86 = .ok (.iload 6, 2) := by decide +kernel
theorem dX3_fewestChanges_88 : decode cX3_fewestChanges 88 = .ok (.invokevirtual 59, 3) := by decide +kernel
theorem dX3_fewestChanges_91 : decode cX3_fewestChanges 91 = .ok (.ifCond .eq 7, 3) := by decide +kernel
theorem dX3_fewestChanges_94 : decode cX3_fewestChanges 94 = .ok (.iload 6, 2) := by decide +kernel
theorem dX3_fewestChanges_96 : decode cX3_fewestChanges 96 = .ok (.istore 4, 2) := by decide +kernel
theorem dX3_fewestChanges_98 : decode cX3_fewestChanges 98 = .ok (.iinc 6 1, 3) := by decide +kernel
theorem dX3_fewestChanges_101 : decode cX3_fewestChanges 101 = .ok (.goto (-39), 3) := by decide +kernel
theorem dX3_fewestChanges_104 : decode cX3_fewestChanges 104 = .ok (.iinc 5 1, 3) := by decide +kernel
theorem dX3_fewestChanges_107 : decode cX3_fewestChanges 107 = .ok (.goto (-61), 3) := by decide +kernel
theorem dX3_fewestChanges_110 : decode cX3_fewestChanges 110 = .ok (.aload_n 0, 1) := by decide +kernel
theorem dX3_fewestChanges_111 : decode cX3_fewestChanges 111 = .ok (.getfield 19, 3) := by decide +kernel
theorem dX3_fewestChanges_114 : decode cX3_fewestChanges 114 = .ok (.invokevirtual 63, 3) := by decide +kernel
theorem dX3_fewestChanges_117 : decode cX3_fewestChanges 117 = .ok (.iload 4, 2) := by decide +kernel
theorem dX3_fewestChanges_119 : decode cX3_fewestChanges 119 = .ok (.ireturn, 1) := by decide +kernel
def X3_fewestChanges_b110 (y4 : Int32) (w : Wd) : Option (Int32 × Wd) :=
  cv (f_X7_forgetMending w) fun w8 =>
  some (y4, w8)
set_option maxRecDepth 100000 in
set_option maxHeartbeats 4000000 in
theorem t_X3_fewestChanges_b110 {Z : Cz (Int32 × Wd)} (hZ : OKZ Z SC cX3_fewestChanges RX3 7 (some .int) 7) (hE : EndI Z)  (y4 : Int32)  (w : Wd) : BW Z 7 110 [(0, .ref (ph (zY Z) 28)), (4, .int y4)] [] w (X3_fewestChanges_b110 y4 w) :=
  bw_aload_n hZ 0 rfl dX3_fewestChanges_110 <|
  bw_getR hZ fl_RX3_19 obC_28 rfl dX3_fewestChanges_111 <|
  bw_callVV (As := []) hZ ml_RX3_63 rc_7 obC_8 (by decide) (c_X7_forgetMending (zl Z) (zY Z) (hZ_S hZ) w) rfl rfl (Nat.le_of_ble_eq_true rfl) dX3_fewestChanges_114 fun w8 =>
  bw_iload hZ 1 rfl dX3_fewestChanges_117 <|
  bw_iret hZ hE dX3_fewestChanges_119
def X3_fewestChanges_b62 (k46 : Int32 → Int32 → Wd → Option (Int32 × Wd)) (k62 : Int32 → Int32 → Int32 → Wd → Option (Int32 × Wd)) (y4 : Int32) (y5 : Int32) (y6 : Int32) (w : Wd) : Option (Int32 × Wd) :=
  if 64 ≤ y6 then
  (k46 y4 (y5 + 1) w)
  else
  if y4 = ((-1)) then
  (cl (f_J6_bitCount_0f7a4 y6 w) fun r10 w9 =>
  if r10 = y5 then
  (cl (f_X3_isEnough y6 w9) fun r12 w11 =>
  if r12 = 0 then
  (k62 y4 y5 (y6 + 1) w11)
  else
  k62 y6 y5 (y6 + 1) w11)
  else
  k62 y4 y5 (y6 + 1) w9)
  else
  k46 y4 (y5 + 1) w
set_option maxRecDepth 100000 in
set_option maxHeartbeats 4000000 in
theorem t_X3_fewestChanges_b62 {Z : Cz (Int32 × Wd)} (hZ : OKZ Z SC cX3_fewestChanges RX3 7 (some .int) 7) (hE : EndI Z) (k46 : Int32 → Int32 → Wd → Option (Int32 × Wd)) (hk46 : ∀ (y4 : Int32) (y5 : Int32)  (w : Wd), BW Z 7 46 [(0, .ref (ph (zY Z) 28)), (4, .int y4), (5, .int y5)] [] w (k46 y4 y5 w)) (k62 : Int32 → Int32 → Int32 → Wd → Option (Int32 × Wd)) (hk62 : ∀ (y4 : Int32) (y5 : Int32) (y6 : Int32)  (w : Wd), BW Z 7 62 [(0, .ref (ph (zY Z) 28)), (4, .int y4), (5, .int y5), (6, .int y6)] [] w (k62 y4 y5 y6 w)) (y4 : Int32) (y5 : Int32) (y6 : Int32)  (w : Wd) : BW Z 7 62 [(0, .ref (ph (zY Z) 28)), (4, .int y4), (5, .int y5), (6, .int y6)] [] w (X3_fewestChanges_b62 k46 k62 y4 y5 y6 w) :=
  bw_iload hZ 3 rfl dX3_fewestChanges_62 <|
  bw_bipush hZ 64 (by decide) dX3_fewestChanges_64 <|
  bw_icmp_ge hZ (tgt := 104) (by decide) dX3_fewestChanges_66 (fun _ =>
  bw_iinc hZ 1 2 rfl (by decide) (by decide) rfl dX3_fewestChanges_104 <|
  bw_goto hZ (tgt := 46) (by decide) dX3_fewestChanges_107 <|
  bw_sub [1, 2, 0] rfl (hk46 y4 (y5 + 1) w)) (fun _ =>
  bw_iload hZ 1 rfl dX3_fewestChanges_69 <|
  bw_iconst hZ (-1) (by decide) dX3_fewestChanges_71 <|
  bw_icmp_ne hZ (tgt := 104) (by decide) dX3_fewestChanges_72 (fun _ =>
  bw_iinc hZ 1 2 rfl (by decide) (by decide) rfl dX3_fewestChanges_104 <|
  bw_goto hZ (tgt := 46) (by decide) dX3_fewestChanges_107 <|
  bw_sub [1, 2, 0] rfl (hk46 y4 (y5 + 1) w)) (fun _ =>
  bw_iload hZ 3 rfl dX3_fewestChanges_75 <|
  bw_callSI (As := [.int y6]) hZ ms_RX3_54 (by decide) (c_J6_bitCount_0f7a4 (zl Z) (zY Z) (hZ_S hZ) y6 w) rfl rfl (Nat.le_of_ble_eq_true rfl) dX3_fewestChanges_77 fun r10 w9 =>
  bw_iload hZ 2 rfl dX3_fewestChanges_80 <|
  bw_icmp_ne hZ (tgt := 98) (by decide) dX3_fewestChanges_82 (fun _ =>
  bw_iinc hZ 1 3 rfl (by decide) (by decide) rfl dX3_fewestChanges_98 <|
  bw_goto hZ (tgt := 62) (by decide) dX3_fewestChanges_101 <|
  bw_sub [1, 2, 3, 0] rfl (hk62 y4 y5 (y6 + 1) w9)) (fun _ =>
  bw_aload_n hZ 0 rfl dX3_fewestChanges_85 <|
  bw_iload hZ 3 rfl dX3_fewestChanges_86 <|
  bw_callVI (As := [.int y6]) hZ ml_RX3_59 rc_3 obC_28 (by decide) (c_X3_isEnough (zl Z) (zY Z) (hZ_S hZ) y6 w9) rfl rfl (Nat.le_of_ble_eq_true rfl) dX3_fewestChanges_88 fun r12 w11 =>
  bw_if_eq hZ (tgt := 98) (by decide) dX3_fewestChanges_91 (fun _ =>
  bw_iinc hZ 1 3 rfl (by decide) (by decide) rfl dX3_fewestChanges_98 <|
  bw_goto hZ (tgt := 62) (by decide) dX3_fewestChanges_101 <|
  bw_sub [1, 2, 3, 0] rfl (hk62 y4 y5 (y6 + 1) w11)) (fun _ =>
  bw_iload hZ 3 rfl dX3_fewestChanges_94 <|
  bw_istore hZ (by decide) rfl dX3_fewestChanges_96 <|
  bw_iinc hZ 1 3 rfl (by decide) (by decide) rfl dX3_fewestChanges_98 <|
  bw_goto hZ (tgt := 62) (by decide) dX3_fewestChanges_101 <|
  bw_sub [2, 1, 3, 0] rfl (hk62 y6 y5 (y6 + 1) w11)))))
def X3_fewestChanges_b62_L (k46 : Int32 → Int32 → Wd → Option (Int32 × Wd)) : Int32 → Int32 → Int32 → Wd → Option (Int32 × Wd) :=
  lp fu (fun _ _ _ _ => none) (fun k62 => X3_fewestChanges_b62 k46 k62)
theorem t_X3_fewestChanges_b62_L {Z : Cz (Int32 × Wd)} (hZ : OKZ Z SC cX3_fewestChanges RX3 7 (some .int) 7) (hE : EndI Z) (k46 : Int32 → Int32 → Wd → Option (Int32 × Wd)) (hk46 : ∀ (y4 : Int32) (y5 : Int32)  (w : Wd), BW Z 7 46 [(0, .ref (ph (zY Z) 28)), (4, .int y4), (5, .int y5)] [] w (k46 y4 y5 w)) : ∀ (y4 : Int32) (y5 : Int32) (y6 : Int32)  (w : Wd), BW Z 7 62 [(0, .ref (ph (zY Z) 28)), (4, .int y4), (5, .int y5), (6, .int y6)] [] w (X3_fewestChanges_b62_L k46 y4 y5 y6 w) :=
  lp_bw (fun k62 => ∀ (y4 : Int32) (y5 : Int32) (y6 : Int32)  (w : Wd), BW Z 7 62 [(0, .ref (ph (zY Z) 28)), (4, .int y4), (5, .int y5), (6, .int y6)] [] w (k62 y4 y5 y6 w)) (fun _ _ _ _ => bw_none) (fun k62 hk62 y4 y5 y6 w => t_X3_fewestChanges_b62 hZ hE k46 hk46 k62 hk62 y4 y5 y6 w) fu
def X3_fewestChanges_b46 (k46 : Int32 → Int32 → Wd → Option (Int32 × Wd)) (y4 : Int32) (y5 : Int32) (w : Wd) : Option (Int32 × Wd) :=
  if 6 < y5 then
  (X3_fewestChanges_b110 y4 w)
  else
  if y4 = ((-1)) then
  (X3_fewestChanges_b62_L k46 y4 y5 0 w)
  else
  X3_fewestChanges_b110 y4 w
set_option maxRecDepth 100000 in
set_option maxHeartbeats 4000000 in
theorem t_X3_fewestChanges_b46 {Z : Cz (Int32 × Wd)} (hZ : OKZ Z SC cX3_fewestChanges RX3 7 (some .int) 7) (hE : EndI Z) (k46 : Int32 → Int32 → Wd → Option (Int32 × Wd)) (hk46 : ∀ (y4 : Int32) (y5 : Int32)  (w : Wd), BW Z 7 46 [(0, .ref (ph (zY Z) 28)), (4, .int y4), (5, .int y5)] [] w (k46 y4 y5 w)) (y4 : Int32) (y5 : Int32)  (w : Wd) : BW Z 7 46 [(0, .ref (ph (zY Z) 28)), (4, .int y4), (5, .int y5)] [] w (X3_fewestChanges_b46 k46 y4 y5 w) :=
  bw_iload hZ 2 rfl dX3_fewestChanges_46 <|
  bw_bipush hZ 6 (by decide) dX3_fewestChanges_48 <|
  bw_icmp_gt hZ (tgt := 110) (by decide) dX3_fewestChanges_50 (fun _ =>
  bw_sub [0, 1] rfl (t_X3_fewestChanges_b110 hZ hE y4 w)) (fun _ =>
  bw_iload hZ 1 rfl dX3_fewestChanges_53 <|
  bw_iconst hZ (-1) (by decide) dX3_fewestChanges_55 <|
  bw_icmp_ne hZ (tgt := 110) (by decide) dX3_fewestChanges_56 (fun _ =>
  bw_sub [0, 1] rfl (t_X3_fewestChanges_b110 hZ hE y4 w)) (fun _ =>
  bw_iconst hZ 0 (by decide) dX3_fewestChanges_59 <|
  bw_istore hZ (by decide) rfl dX3_fewestChanges_60 <|
  bw_sub [1, 2, 3, 0] rfl (t_X3_fewestChanges_b62_L hZ hE k46 hk46 y4 y5 0 w)))
def X3_fewestChanges_b46_L  : Int32 → Int32 → Wd → Option (Int32 × Wd) :=
  lp fu (fun _ _ _ => none) (fun k46 => X3_fewestChanges_b46 k46)
theorem t_X3_fewestChanges_b46_L {Z : Cz (Int32 × Wd)} (hZ : OKZ Z SC cX3_fewestChanges RX3 7 (some .int) 7) (hE : EndI Z)  : ∀ (y4 : Int32) (y5 : Int32)  (w : Wd), BW Z 7 46 [(0, .ref (ph (zY Z) 28)), (4, .int y4), (5, .int y5)] [] w (X3_fewestChanges_b46_L y4 y5 w) :=
  lp_bw (fun k46 => ∀ (y4 : Int32) (y5 : Int32)  (w : Wd), BW Z 7 46 [(0, .ref (ph (zY Z) 28)), (4, .int y4), (5, .int y5)] [] w (k46 y4 y5 w)) (fun _ _ _ => bw_none) (fun k46 hk46 y4 y5 w => t_X3_fewestChanges_b46 hZ hE k46 hk46 y4 y5 w) fu
def f_X3_fewestChanges (x1 : Int32) (x2 : Int32) (x3 : Int32) (w : Wd) : Option (Int32 × Wd) :=
  lt (wI w 28 3 x1) fun w1 =>
  lt (wI w1 28 4 x2) fun w2 =>
  lt (wI w2 28 5 x3) fun w3 =>
  cl (f_X0_lawAndRing x2 w3) fun r5 w4 =>
  lt (wI w4 28 6 (r5 >>> (1 &&& 31))) fun w6 =>
  cv (f_J7_fill_53178 29 8 0 w6) fun w7 =>
  X3_fewestChanges_b46_L ((-1)) 0 w7
set_option maxRecDepth 100000 in
set_option maxHeartbeats 4000000 in
theorem t_X3_fewestChanges {Z : Cz (Int32 × Wd)} (hZ : OKZ Z SC cX3_fewestChanges RX3 7 (some .int) 7) (hE : EndI Z) (x1 : Int32) (x2 : Int32) (x3 : Int32)  (w : Wd) : BW Z 7 0 [(0, .ref (ph (zY Z) 28)), (1, .int x1), (2, .int x2), (3, .int x3)] [] w (f_X3_fewestChanges x1 x2 x3 w) :=
  bw_aload_n hZ 0 rfl dX3_fewestChanges_0 <|
  bw_iload_n hZ 1 rfl dX3_fewestChanges_1 <|
  bw_putI hZ fl_RX3_23 rfl rfl (by decide) obC_28 dX3_fewestChanges_2 fun w1 =>
  bw_aload_n hZ 0 rfl dX3_fewestChanges_5 <|
  bw_iload_n hZ 2 rfl dX3_fewestChanges_6 <|
  bw_putI hZ fl_RX3_27 rfl rfl (by decide) obC_28 dX3_fewestChanges_7 fun w2 =>
  bw_aload_n hZ 0 rfl dX3_fewestChanges_10 <|
  bw_iload_n hZ 3 rfl dX3_fewestChanges_11 <|
  bw_putI hZ fl_RX3_30 rfl rfl (by decide) obC_28 dX3_fewestChanges_12 fun w3 =>
  bw_aload_n hZ 0 rfl dX3_fewestChanges_15 <|
  bw_aload_n hZ 0 rfl dX3_fewestChanges_16 <|
  bw_getR hZ fl_RX3_15 obC_28 rfl dX3_fewestChanges_17 <|
  bw_getR hZ fl_RX3_33 obC_3 rfl dX3_fewestChanges_20 <|
  bw_iload_n hZ 2 rfl dX3_fewestChanges_23 <|
  bw_callVI (As := [.int x2]) hZ ml_RX3_39 rc_0 obC_31 (by decide) (c_X0_lawAndRing (zl Z) (zY Z) (hZ_S hZ) x2 w3) rfl rfl (Nat.le_of_ble_eq_true rfl) dX3_fewestChanges_24 fun r5 w4 =>
  bw_iconst hZ 1 (by decide) dX3_fewestChanges_27 <|
  bw_ishr hZ dX3_fewestChanges_28 <|
  bw_putI hZ fl_RX3_45 rfl rfl (by decide) obC_28 dX3_fewestChanges_29 fun w6 =>
  bw_aload_n hZ 0 rfl dX3_fewestChanges_32 <|
  bw_getR hZ fl_RX3_9 obC_28 rfl dX3_fewestChanges_33 <|
  bw_iconst hZ 0 (by decide) dX3_fewestChanges_36 <|
  bw_callSV (As := [.ref (ph (zY Z) 29), .int 0]) hZ ms_RX3_48 (by decide) (c_J7_fill_53178 (zl Z) (zY Z) (hZ_S hZ) 29 8 0 (arC_29 _) w6) rfl rfl (Nat.le_of_ble_eq_true rfl) dX3_fewestChanges_37 fun w7 =>
  bw_iconst hZ (-1) (by decide) dX3_fewestChanges_40 <|
  bw_istore hZ (by decide) rfl dX3_fewestChanges_41 <|
  bw_iconst hZ 0 (by decide) dX3_fewestChanges_43 <|
  bw_istore hZ (by decide) rfl dX3_fewestChanges_44 <|
  bw_sub [2, 1, 0] rfl (t_X3_fewestChanges_b46_L hZ hE ((-1)) 0 w7)
theorem c_X3_fewestChanges (l : Launch) (Y : Ev) (hY : Y.1 = SC) (x1 : Int32) (x2 : Int32) (x3 : Int32)  (w : Wd) : CI l Y yX3_fewestChanges cX3_fewestChanges 7 7 [.ref (ph Y 28), .int x1, .int x2, .int x3] w .int (f_X3_fewestChanges x1 x2 x3 w) := by
  refine CI_of (S := SC) (by decide) (Nat.le_of_ble_eq_true rfl) hY ?_
  intro Z hl hY2 hZ hE
  subst hY2
  exact t_X3_fewestChanges hZ hE x1 x2 x3 w
-- WhichWill$Outcomes.isRow
theorem dX5_isRow_0 : decode cX5_isRow 0 = .ok (.iconst 0, 1) := by decide +kernel
theorem dX5_isRow_1 : decode cX5_isRow 1 = .ok (.istore_n 3, 1) := by decide +kernel
theorem dX5_isRow_2 : decode cX5_isRow 2 = .ok (.iload_n 3, 1) := by decide +kernel
theorem dX5_isRow_3 : decode cX5_isRow 3 = .ok (.bipush 8, 2) := by decide +kernel
theorem dX5_isRow_5 : decode cX5_isRow 5 = .ok (.if_icmp .ge 28, 3) := by decide +kernel
theorem dX5_isRow_8 : decode cX5_isRow 8 = .ok (.aload_n 0, 1) := by decide +kernel
theorem dX5_isRow_9 : decode cX5_isRow 9 = .ok (.getfield 19, 3) := by decide +kernel
theorem dX5_isRow_12 : decode cX5_isRow 12 = .ok (.iload_n 1, 1) := by decide +kernel
theorem dX5_isRow_13 : decode cX5_isRow 13 = .ok (.bipush 8, 2) := by decide +kernel
theorem dX5_isRow_15 : decode cX5_isRow 15 = .ok (.imul, 1) := by decide +kernel
theorem dX5_isRow_16 : decode cX5_isRow 16 = .ok (.iload_n 3, 1) := by decide +kernel
theorem dX5_isRow_17 : decode cX5_isRow 17 = .ok (.iadd, 1) := by decide +kernel
theorem dX5_isRow_18 : decode cX5_isRow 18 = .ok (.iaload, 1) := by decide +kernel
theorem dX5_isRow_19 : decode cX5_isRow 19 = .ok (.aload_n 2, 1) := by decide +kernel
theorem dX5_isRow_20 : decode cX5_isRow 20 = .ok (.iload_n 3, 1) := by decide +kernel
theorem dX5_isRow_21 : decode cX5_isRow 21 = .ok (.iaload, 1) := by decide +kernel
theorem dX5_isRow_22 : decode cX5_isRow 22 = .ok (.if_icmp .eq 5, 3) := by decide +kernel
theorem dX5_isRow_25 : decode cX5_isRow 25 = .ok (.iconst 0, 1) := by decide +kernel
theorem dX5_isRow_26 : decode cX5_isRow 26 = .ok (.ireturn, 1) := by decide +kernel
theorem dX5_isRow_27 : decode cX5_isRow 27 = .ok (.iinc 3 1, 3) := by decide +kernel
theorem dX5_isRow_30 : decode cX5_isRow 30 = .ok (.goto (-28), 3) := by decide +kernel
theorem dX5_isRow_33 : decode cX5_isRow 33 = .ok (.iconst 1, 1) := by decide +kernel
theorem dX5_isRow_34 : decode cX5_isRow 34 = .ok (.ireturn, 1) := by decide +kernel
def X5_isRow_b2 (cp : Nat) (k2 : Int32 → Int32 → Wd → Option (Int32 × Wd)) (y1 : Int32) (y3 : Int32) (w : Wd) : Option (Int32 × Wd) :=
  if 8 ≤ y3 then
  (some (1, w))
  else
  if inb ((y1 * 8) + y3) (8 * cp) = true then
  (if inb y3 8 = true then
  (if (w.1 18 (Int32.toNatClampNeg ((y1 * 8) + y3))) = (w.1 11 (Int32.toNatClampNeg y3)) then
  (k2 y1 (y3 + 1) w)
  else
  some (0, w))
  else none)
  else none
set_option maxRecDepth 100000 in
set_option maxHeartbeats 4000000 in
theorem t_X5_isRow_b2 {Z : Cz (Int32 × Wd)} (hZ : OKZ Z SC cX5_isRow RX5 4 (some .boolean) 1) (hE : EndI Z) (k2 : Int32 → Int32 → Wd → Option (Int32 × Wd)) (hk2 : ∀ (y1 : Int32) (y3 : Int32)  (w : Wd), BW Z 4 2 [(0, .ref (ph (zY Z) 16)), (1, .int y1), (2, .ref (ph (zY Z) 11)), (3, .int y3)] [] w (k2 y1 y3 w)) (y1 : Int32) (y3 : Int32)  (w : Wd) : BW Z 4 2 [(0, .ref (ph (zY Z) 16)), (1, .int y1), (2, .ref (ph (zY Z) 11)), (3, .int y3)] [] w (X5_isRow_b2 (yc (zY Z)) k2 y1 y3 w) :=
  bw_iload_n hZ 3 rfl dX5_isRow_2 <|
  bw_bipush hZ 8 (by decide) dX5_isRow_3 <|
  bw_icmp_ge hZ (tgt := 33) (by decide) dX5_isRow_5 (fun _ =>
  bw_iconst hZ 1 (by decide) dX5_isRow_33 <|
  bw_zret hZ hE (by decide) dX5_isRow_34) (fun _ =>
  bw_aload_n hZ 0 rfl dX5_isRow_8 <|
  bw_getR hZ fl_RX5_19 obC_16 rfl dX5_isRow_9 <|
  bw_iload_n hZ 1 rfl dX5_isRow_12 <|
  bw_bipush hZ 8 (by decide) dX5_isRow_13 <|
  bw_imul hZ dX5_isRow_15 <|
  bw_iload_n hZ 3 rfl dX5_isRow_16 <|
  bw_iadd hZ dX5_isRow_17 <|
  bw_iald hZ (arC_18 _) dX5_isRow_18 <|
  bw_aload_n hZ 2 rfl dX5_isRow_19 <|
  bw_iload_n hZ 3 rfl dX5_isRow_20 <|
  bw_iald hZ (arC_11 _) dX5_isRow_21 <|
  bw_icmp_eq hZ (tgt := 27) (by decide) dX5_isRow_22 (fun _ =>
  bw_iinc hZ 1 3 rfl (by decide) (by decide) rfl dX5_isRow_27 <|
  bw_goto hZ (tgt := 2) (by decide) dX5_isRow_30 <|
  bw_sub [1, 2, 3, 0] rfl (hk2 y1 (y3 + 1) w)) (fun _ =>
  bw_iconst hZ 0 (by decide) dX5_isRow_25 <|
  bw_zret hZ hE (by decide) dX5_isRow_26))
def X5_isRow_b2_L (cp : Nat) : Int32 → Int32 → Wd → Option (Int32 × Wd) :=
  lp fu (fun _ _ _ => none) (fun k2 => X5_isRow_b2 cp k2)
theorem t_X5_isRow_b2_L {Z : Cz (Int32 × Wd)} (hZ : OKZ Z SC cX5_isRow RX5 4 (some .boolean) 1) (hE : EndI Z)  : ∀ (y1 : Int32) (y3 : Int32)  (w : Wd), BW Z 4 2 [(0, .ref (ph (zY Z) 16)), (1, .int y1), (2, .ref (ph (zY Z) 11)), (3, .int y3)] [] w (X5_isRow_b2_L (yc (zY Z)) y1 y3 w) :=
  lp_bw (fun k2 => ∀ (y1 : Int32) (y3 : Int32)  (w : Wd), BW Z 4 2 [(0, .ref (ph (zY Z) 16)), (1, .int y1), (2, .ref (ph (zY Z) 11)), (3, .int y3)] [] w (k2 y1 y3 w)) (fun _ _ _ => bw_none) (fun k2 hk2 y1 y3 w => t_X5_isRow_b2 hZ hE k2 hk2 y1 y3 w) fu
def f_X5_isRow (cp : Nat) (x1 : Int32) (w : Wd) : Option (Int32 × Wd) :=
  X5_isRow_b2_L cp x1 0 w
set_option maxRecDepth 100000 in
set_option maxHeartbeats 4000000 in
theorem t_X5_isRow {Z : Cz (Int32 × Wd)} (hZ : OKZ Z SC cX5_isRow RX5 4 (some .boolean) 1) (hE : EndI Z) (x1 : Int32)  (w : Wd) : BW Z 4 0 [(0, .ref (ph (zY Z) 16)), (1, .int x1), (2, .ref (ph (zY Z) 11))] [] w (f_X5_isRow (yc (zY Z)) x1 w) :=
  bw_iconst hZ 0 (by decide) dX5_isRow_0 <|
  bw_istore_n hZ rfl (by decide) rfl dX5_isRow_1 <|
  bw_sub [1, 2, 3, 0] rfl (t_X5_isRow_b2_L hZ hE x1 0 w)
theorem c_X5_isRow (l : Launch) (Y : Ev) (hY : Y.1 = SC) (x1 : Int32)  (w : Wd) : CI l Y yX5_isRow cX5_isRow 4 1 [.ref (ph Y 16), .int x1, .ref (ph Y 11)] w .boolean (f_X5_isRow (yc Y) x1 w) := by
  refine CI_of (S := SC) (by decide) (Nat.le_of_ble_eq_true rfl) hY ?_
  intro Z hl hY2 hZ hE
  subst hY2
  exact t_X5_isRow hZ hE x1 w
-- WhichWill$Outcomes.sumIn
theorem dX5_sumIn_0 : decode cX5_sumIn 0 = .ok (.aload_n 0, 1) := by decide +kernel
theorem dX5_sumIn_1 : decode cX5_sumIn 1 = .ok (.getfield 19, 3) := by decide +kernel
theorem dX5_sumIn_4 : decode cX5_sumIn 4 = .ok (.aload_n 0, 1) := by decide +kernel
theorem dX5_sumIn_5 : decode cX5_sumIn 5 = .ok (.getfield 9, 3) := by decide +kernel
theorem dX5_sumIn_8 : decode cX5_sumIn 8 = .ok (.iload_n 1, 1) := by decide +kernel
theorem dX5_sumIn_9 : decode cX5_sumIn 9 = .ok (.iaload, 1) := by decide +kernel
theorem dX5_sumIn_10 : decode cX5_sumIn 10 = .ok (.bipush 8, 2) := by decide +kernel
theorem dX5_sumIn_12 : decode cX5_sumIn 12 = .ok (.imul, 1) := by decide +kernel
theorem dX5_sumIn_13 : decode cX5_sumIn 13 = .ok (.iload_n 2, 1) := by decide +kernel
theorem dX5_sumIn_14 : decode cX5_sumIn 14 = .ok (.iadd, 1) := by decide +kernel
theorem dX5_sumIn_15 : decode cX5_sumIn 15 = .ok (.iaload, 1) := by decide +kernel
theorem dX5_sumIn_16 : decode cX5_sumIn 16 = .ok (.ireturn, 1) := by decide +kernel
def f_X5_sumIn (cp : Nat) (x1 : Int32) (x2 : Int32) (w : Wd) : Option (Int32 × Wd) :=
  if inb x1 5760 = true then
  (if inb (((w.1 17 (Int32.toNatClampNeg x1)) * 8) + x2) (8 * cp) = true then
  (some (w.1 18 (Int32.toNatClampNeg (((w.1 17 (Int32.toNatClampNeg x1)) * 8) + x2)), w))
  else none)
  else none
set_option maxRecDepth 100000 in
set_option maxHeartbeats 4000000 in
theorem t_X5_sumIn {Z : Cz (Int32 × Wd)} (hZ : OKZ Z SC cX5_sumIn RX5 3 (some .int) 1) (hE : EndI Z) (x1 : Int32) (x2 : Int32)  (w : Wd) : BW Z 3 0 [(0, .ref (ph (zY Z) 16)), (1, .int x1), (2, .int x2)] [] w (f_X5_sumIn (yc (zY Z)) x1 x2 w) :=
  bw_aload_n hZ 0 rfl dX5_sumIn_0 <|
  bw_getR hZ fl_RX5_19 obC_16 rfl dX5_sumIn_1 <|
  bw_aload_n hZ 0 rfl dX5_sumIn_4 <|
  bw_getR hZ fl_RX5_9 obC_16 rfl dX5_sumIn_5 <|
  bw_iload_n hZ 1 rfl dX5_sumIn_8 <|
  bw_iald hZ (arC_17 _) dX5_sumIn_9 <|
  bw_bipush hZ 8 (by decide) dX5_sumIn_10 <|
  bw_imul hZ dX5_sumIn_12 <|
  bw_iload_n hZ 2 rfl dX5_sumIn_13 <|
  bw_iadd hZ dX5_sumIn_14 <|
  bw_iald hZ (arC_18 _) dX5_sumIn_15 <|
  bw_iret hZ hE dX5_sumIn_16
theorem c_X5_sumIn (l : Launch) (Y : Ev) (hY : Y.1 = SC) (x1 : Int32) (x2 : Int32)  (w : Wd) : CI l Y yX5_sumIn cX5_sumIn 3 1 [.ref (ph Y 16), .int x1, .int x2] w .int (f_X5_sumIn (yc Y) x1 x2 w) := by
  refine CI_of (S := SC) (by decide) (Nat.le_of_ble_eq_true rfl) hY ?_
  intro Z hl hY2 hZ hE
  subst hY2
  exact t_X5_sumIn hZ hE x1 x2 w
-- WhichWill$Outcomes.leastOf
theorem dX5_leastOf_0 : decode cX5_leastOf 0 = .ok (.iconst 0, 1) := by decide +kernel
theorem dX5_leastOf_1 : decode cX5_leastOf 1 = .ok (.istore_n 2, 1) := by decide +kernel
theorem dX5_leastOf_2 : decode cX5_leastOf 2 = .ok (.iconst 0, 1) := by decide +kernel
theorem dX5_leastOf_3 : decode cX5_leastOf 3 = .ok (.istore_n 3, 1) := by decide +kernel
theorem dX5_leastOf_4 : decode cX5_leastOf 4 = .ok (.iload_n 3, 1) := by decide +kernel
theorem dX5_leastOf_5 : decode cX5_leastOf 5 = .ok (.aload_n 0, 1) := by decide +kernel
theorem dX5_leastOf_6 : decode cX5_leastOf 6 = .ok (.getfield 47, 3) := by decide +kernel
theorem dX5_leastOf_9 : decode cX5_leastOf 9 = .ok (.if_icmp .ge 70, 3) := by decide +kernel
theorem dX5_leastOf_12 : decode cX5_leastOf 12 = .ok (.iconst 0, 1) := by decide +kernel
theorem dX5_leastOf_13 : decode cX5_leastOf 13 = .ok (.istore 4, 2) := by decide +kernel
theorem dX5_leastOf_15 : decode cX5_leastOf 15 = .ok (.iconst 0, 1) := by decide +kernel
theorem dX5_leastOf_16 : decode cX5_leastOf 16 = .ok (.istore 5, 2) := by decide +kernel
theorem dX5_leastOf_18 : decode cX5_leastOf 18 = .ok (.iload 5, 2) := by decide +kernel
theorem dX5_leastOf_20 : decode cX5_leastOf 20 = .ok (.bipush 8, 2) := by decide +kernel
theorem dX5_leastOf_22 : decode cX5_leastOf 22 = .ok (.if_icmp .ge 35, 3) := by decide +kernel
theorem dX5_leastOf_25 : decode cX5_leastOf 25 = .ok (.iload_n 1, 1) := by decide +kernel
theorem dX5_leastOf_26 : decode cX5_leastOf 26 = .ok (.iload 5, 2) := by decide +kernel
theorem dX5_leastOf_28 : decode cX5_leastOf 28 = .ok (.ishr, 1) := by decide +kernel
theorem dX5_leastOf_29 : decode cX5_leastOf 29 = .ok (.iconst 1, 1) := by decide +kernel
theorem dX5_leastOf_30 : decode cX5_leastOf 30 = .ok (.iand, 1) := by decide +kernel
theorem dX5_leastOf_31 : decode cX5_leastOf 31 = .ok (.ifCond .eq 20, 3) := by decide +kernel
theorem dX5_leastOf_34 : decode cX5_leastOf 34 = .ok (.iload 4, 2) := by decide +kernel
theorem dX5_leastOf_36 : decode cX5_leastOf 36 = .ok (.aload_n 0, 1) := by decide +kernel
theorem dX5_leastOf_37 : decode cX5_leastOf 37 = .ok (.getfield 19, 3) := by decide +kernel
theorem dX5_leastOf_40 : decode cX5_leastOf 40 = .ok (.iload_n 3, 1) := by decide +kernel
theorem dX5_leastOf_41 : decode cX5_leastOf 41 = .ok (.bipush 8, 2) := by decide +kernel
theorem dX5_leastOf_43 : decode cX5_leastOf 43 = .ok (.imul, 1) := by decide +kernel
theorem dX5_leastOf_44 : decode cX5_leastOf 44 = .ok (.iload 5, 2) := by decide +kernel
theorem dX5_leastOf_46 : decode cX5_leastOf 46 = .ok (.iadd, 1) := by decide +kernel
theorem dX5_leastOf_47 : decode cX5_leastOf 47 = .ok (.iaload, 1) := by decide +kernel
theorem dX5_leastOf_48 : decode cX5_leastOf 48 = .ok (.iadd, 1) := by decide +kernel
theorem dX5_leastOf_49 : decode cX5_leastOf 49 = .ok (.istore 4, 2) := by decide +kernel
theorem dX5_leastOf_51 : decode cX5_leastOf 51 = .ok (.iinc 5 1, 3) := by decide +kernel
theorem dX5_leastOf_54 : decode cX5_leastOf 54 = .ok (.goto (-36), 3) := by decide +kernel
theorem dX5_leastOf_57 : decode cX5_leastOf 57 = .ok (.iload_n 3, 1) := by decide +kernel
theorem dX5_leastOf_58 : decode cX5_leastOf 58 = .ok (.ifCond .ne 8, 3) := by decide +kernel
theorem dX5_leastOf_61 : decode cX5_leastOf 61 = .ok (.iload 4, 2) := by decide +kernel
theorem dX5_leastOf_63 : decode cX5_leastOf 63 = .ok (.goto 9, 3) := by decide +kernel
theorem dX5_leastOf_66 : decode cX5_leastOf 66 = .ok (.iload_n 2, 1) := by decide +kernel
theorem dX5_leastOf_67 : decode cX5_leastOf 67 = .ok (.iload 4, 2) := by decide +kernel
theorem dX5_leastOf_69 : decode cX5_leastOf 69 = .ok (.invokestatic 100, 3) := by decide +kernel
theorem dX5_leastOf_72 : decode cX5_leastOf 72 = .ok (.istore_n 2, 1) := by decide +kernel
theorem dX5_leastOf_73 : decode cX5_leastOf 73 = .ok (.iinc 3 1, 3) := by decide +kernel
theorem dX5_leastOf_76 : decode cX5_leastOf 76 = .ok (.goto (-72), 3) := by decide +kernel
theorem dX5_leastOf_79 : decode cX5_leastOf 79 = .ok (.iload_n 2, 1) := by decide +kernel
theorem dX5_leastOf_80 : decode cX5_leastOf 80 = .ok (.ireturn, 1) := by decide +kernel
def X5_leastOf_b18 (cp : Nat) (k4 : Int32 → Int32 → Int32 → Wd → Option (Int32 × Wd)) (k18 : Int32 → Int32 → Int32 → Int32 → Int32 → Wd → Option (Int32 × Wd)) (y1 : Int32) (y2 : Int32) (y3 : Int32) (y4 : Int32) (y5 : Int32) (w : Wd) : Option (Int32 × Wd) :=
  if 8 ≤ y5 then
  (if y3 = 0 then
  (k4 y1 y4 (y3 + 1) w)
  else
  lt (if y4 < y2 then y4 else y2) fun v1 =>
  k4 y1 v1 (y3 + 1) w)
  else
  if ((y1 >>> (y5 &&& 31)) &&& 1) = 0 then
  (k18 y1 y2 y3 y4 (y5 + 1) w)
  else
  if inb ((y3 * 8) + y5) (8 * cp) = true then
  (lt (y4 + (w.1 18 (Int32.toNatClampNeg ((y3 * 8) + y5)))) fun v2 =>
  k18 y1 y2 y3 v2 (y5 + 1) w)
  else none
set_option maxRecDepth 100000 in
set_option maxHeartbeats 4000000 in
theorem t_X5_leastOf_b18 {Z : Cz (Int32 × Wd)} (hZ : OKZ Z SC cX5_leastOf RX5 6 (some .int) 1) (hE : EndI Z) (k4 : Int32 → Int32 → Int32 → Wd → Option (Int32 × Wd)) (hk4 : ∀ (y1 : Int32) (y2 : Int32) (y3 : Int32)  (w : Wd), BW Z 6 4 [(0, .ref (ph (zY Z) 16)), (1, .int y1), (2, .int y2), (3, .int y3)] [] w (k4 y1 y2 y3 w)) (k18 : Int32 → Int32 → Int32 → Int32 → Int32 → Wd → Option (Int32 × Wd)) (hk18 : ∀ (y1 : Int32) (y2 : Int32) (y3 : Int32) (y4 : Int32) (y5 : Int32)  (w : Wd), BW Z 6 18 [(0, .ref (ph (zY Z) 16)), (1, .int y1), (2, .int y2), (3, .int y3), (4, .int y4), (5, .int y5)] [] w (k18 y1 y2 y3 y4 y5 w)) (y1 : Int32) (y2 : Int32) (y3 : Int32) (y4 : Int32) (y5 : Int32)  (w : Wd) : BW Z 6 18 [(0, .ref (ph (zY Z) 16)), (1, .int y1), (2, .int y2), (3, .int y3), (4, .int y4), (5, .int y5)] [] w (X5_leastOf_b18 (yc (zY Z)) k4 k18 y1 y2 y3 y4 y5 w) :=
  bw_iload hZ 5 rfl dX5_leastOf_18 <|
  bw_bipush hZ 8 (by decide) dX5_leastOf_20 <|
  bw_icmp_ge hZ (tgt := 57) (by decide) dX5_leastOf_22 (fun _ =>
  bw_iload_n hZ 3 rfl dX5_leastOf_57 <|
  bw_if_ne hZ (tgt := 66) (by decide) dX5_leastOf_58 (fun _ =>
  bw_iload_n hZ 2 rfl dX5_leastOf_66 <|
  bw_iload hZ 4 rfl dX5_leastOf_67 <|
  bw_mmin hZ kl_RX5_100 km_min (by decide) (Nat.le_of_ble_eq_true rfl) dX5_leastOf_69 <|
  bw_nm fun v1 =>
  bw_istore_n hZ rfl (by decide) rfl dX5_leastOf_72 <|
  bw_iinc hZ 1 3 rfl (by decide) (by decide) rfl dX5_leastOf_73 <|
  bw_goto hZ (tgt := 4) (by decide) dX5_leastOf_76 <|
  bw_sub [2, 3, 1, 0] rfl (hk4 y1 v1 (y3 + 1) w)) (fun _ =>
  bw_iload hZ 4 rfl dX5_leastOf_61 <|
  bw_goto hZ (tgt := 72) (by decide) dX5_leastOf_63 <|
  bw_istore_n hZ rfl (by decide) rfl dX5_leastOf_72 <|
  bw_iinc hZ 1 3 rfl (by decide) (by decide) rfl dX5_leastOf_73 <|
  bw_goto hZ (tgt := 4) (by decide) dX5_leastOf_76 <|
  bw_sub [2, 3, 1, 0] rfl (hk4 y1 y4 (y3 + 1) w))) (fun _ =>
  bw_iload_n hZ 1 rfl dX5_leastOf_25 <|
  bw_iload hZ 5 rfl dX5_leastOf_26 <|
  bw_ishr hZ dX5_leastOf_28 <|
  bw_iconst hZ 1 (by decide) dX5_leastOf_29 <|
  bw_iand hZ dX5_leastOf_30 <|
  bw_if_eq hZ (tgt := 51) (by decide) dX5_leastOf_31 (fun _ =>
  bw_iinc hZ 1 5 rfl (by decide) (by decide) rfl dX5_leastOf_51 <|
  bw_goto hZ (tgt := 18) (by decide) dX5_leastOf_54 <|
  bw_sub [1, 2, 3, 4, 5, 0] rfl (hk18 y1 y2 y3 y4 (y5 + 1) w)) (fun _ =>
  bw_iload hZ 4 rfl dX5_leastOf_34 <|
  bw_aload_n hZ 0 rfl dX5_leastOf_36 <|
  bw_getR hZ fl_RX5_19 obC_16 rfl dX5_leastOf_37 <|
  bw_iload_n hZ 3 rfl dX5_leastOf_40 <|
  bw_bipush hZ 8 (by decide) dX5_leastOf_41 <|
  bw_imul hZ dX5_leastOf_43 <|
  bw_iload hZ 5 rfl dX5_leastOf_44 <|
  bw_iadd hZ dX5_leastOf_46 <|
  bw_iald hZ (arC_18 _) dX5_leastOf_47 <|
  bw_iadd hZ dX5_leastOf_48 <|
  bw_nm fun v2 =>
  bw_istore hZ (by decide) rfl dX5_leastOf_49 <|
  bw_iinc hZ 1 5 rfl (by decide) (by decide) rfl dX5_leastOf_51 <|
  bw_goto hZ (tgt := 18) (by decide) dX5_leastOf_54 <|
  bw_sub [2, 3, 4, 5, 1, 0] rfl (hk18 y1 y2 y3 v2 (y5 + 1) w)))
def X5_leastOf_b18_L (cp : Nat) (k4 : Int32 → Int32 → Int32 → Wd → Option (Int32 × Wd)) : Int32 → Int32 → Int32 → Int32 → Int32 → Wd → Option (Int32 × Wd) :=
  lp fu (fun _ _ _ _ _ _ => none) (fun k18 => X5_leastOf_b18 cp k4 k18)
theorem t_X5_leastOf_b18_L {Z : Cz (Int32 × Wd)} (hZ : OKZ Z SC cX5_leastOf RX5 6 (some .int) 1) (hE : EndI Z) (k4 : Int32 → Int32 → Int32 → Wd → Option (Int32 × Wd)) (hk4 : ∀ (y1 : Int32) (y2 : Int32) (y3 : Int32)  (w : Wd), BW Z 6 4 [(0, .ref (ph (zY Z) 16)), (1, .int y1), (2, .int y2), (3, .int y3)] [] w (k4 y1 y2 y3 w)) : ∀ (y1 : Int32) (y2 : Int32) (y3 : Int32) (y4 : Int32) (y5 : Int32)  (w : Wd), BW Z 6 18 [(0, .ref (ph (zY Z) 16)), (1, .int y1), (2, .int y2), (3, .int y3), (4, .int y4), (5, .int y5)] [] w (X5_leastOf_b18_L (yc (zY Z)) k4 y1 y2 y3 y4 y5 w) :=
  lp_bw (fun k18 => ∀ (y1 : Int32) (y2 : Int32) (y3 : Int32) (y4 : Int32) (y5 : Int32)  (w : Wd), BW Z 6 18 [(0, .ref (ph (zY Z) 16)), (1, .int y1), (2, .int y2), (3, .int y3), (4, .int y4), (5, .int y5)] [] w (k18 y1 y2 y3 y4 y5 w)) (fun _ _ _ _ _ _ => bw_none) (fun k18 hk18 y1 y2 y3 y4 y5 w => t_X5_leastOf_b18 hZ hE k4 hk4 k18 hk18 y1 y2 y3 y4 y5 w) fu
def X5_leastOf_b4 (cp : Nat) (k4 : Int32 → Int32 → Int32 → Wd → Option (Int32 × Wd)) (y1 : Int32) (y2 : Int32) (y3 : Int32) (w : Wd) : Option (Int32 × Wd) :=
  if (w.1 16 1) ≤ y3 then
  (some (y2, w))
  else
  X5_leastOf_b18_L cp k4 y1 y2 y3 0 0 w
set_option maxRecDepth 100000 in
set_option maxHeartbeats 4000000 in
theorem t_X5_leastOf_b4 {Z : Cz (Int32 × Wd)} (hZ : OKZ Z SC cX5_leastOf RX5 6 (some .int) 1) (hE : EndI Z) (k4 : Int32 → Int32 → Int32 → Wd → Option (Int32 × Wd)) (hk4 : ∀ (y1 : Int32) (y2 : Int32) (y3 : Int32)  (w : Wd), BW Z 6 4 [(0, .ref (ph (zY Z) 16)), (1, .int y1), (2, .int y2), (3, .int y3)] [] w (k4 y1 y2 y3 w)) (y1 : Int32) (y2 : Int32) (y3 : Int32)  (w : Wd) : BW Z 6 4 [(0, .ref (ph (zY Z) 16)), (1, .int y1), (2, .int y2), (3, .int y3)] [] w (X5_leastOf_b4 (yc (zY Z)) k4 y1 y2 y3 w) :=
  bw_iload_n hZ 3 rfl dX5_leastOf_4 <|
  bw_aload_n hZ 0 rfl dX5_leastOf_5 <|
  bw_getI hZ fl_RX5_47 (by decide) obC_16 dX5_leastOf_6 <|
  bw_icmp_ge hZ (tgt := 79) (by decide) dX5_leastOf_9 (fun _ =>
  bw_iload_n hZ 2 rfl dX5_leastOf_79 <|
  bw_iret hZ hE dX5_leastOf_80) (fun _ =>
  bw_iconst hZ 0 (by decide) dX5_leastOf_12 <|
  bw_istore hZ (by decide) rfl dX5_leastOf_13 <|
  bw_iconst hZ 0 (by decide) dX5_leastOf_15 <|
  bw_istore hZ (by decide) rfl dX5_leastOf_16 <|
  bw_sub [2, 3, 4, 5, 1, 0] rfl (t_X5_leastOf_b18_L hZ hE k4 hk4 y1 y2 y3 0 0 w))
def X5_leastOf_b4_L (cp : Nat) : Int32 → Int32 → Int32 → Wd → Option (Int32 × Wd) :=
  lp fu (fun _ _ _ _ => none) (fun k4 => X5_leastOf_b4 cp k4)
theorem t_X5_leastOf_b4_L {Z : Cz (Int32 × Wd)} (hZ : OKZ Z SC cX5_leastOf RX5 6 (some .int) 1) (hE : EndI Z)  : ∀ (y1 : Int32) (y2 : Int32) (y3 : Int32)  (w : Wd), BW Z 6 4 [(0, .ref (ph (zY Z) 16)), (1, .int y1), (2, .int y2), (3, .int y3)] [] w (X5_leastOf_b4_L (yc (zY Z)) y1 y2 y3 w) :=
  lp_bw (fun k4 => ∀ (y1 : Int32) (y2 : Int32) (y3 : Int32)  (w : Wd), BW Z 6 4 [(0, .ref (ph (zY Z) 16)), (1, .int y1), (2, .int y2), (3, .int y3)] [] w (k4 y1 y2 y3 w)) (fun _ _ _ _ => bw_none) (fun k4 hk4 y1 y2 y3 w => t_X5_leastOf_b4 hZ hE k4 hk4 y1 y2 y3 w) fu
def f_X5_leastOf (cp : Nat) (x1 : Int32) (w : Wd) : Option (Int32 × Wd) :=
  X5_leastOf_b4_L cp x1 0 0 w
set_option maxRecDepth 100000 in
set_option maxHeartbeats 4000000 in
theorem t_X5_leastOf {Z : Cz (Int32 × Wd)} (hZ : OKZ Z SC cX5_leastOf RX5 6 (some .int) 1) (hE : EndI Z) (x1 : Int32)  (w : Wd) : BW Z 6 0 [(0, .ref (ph (zY Z) 16)), (1, .int x1)] [] w (f_X5_leastOf (yc (zY Z)) x1 w) :=
  bw_iconst hZ 0 (by decide) dX5_leastOf_0 <|
  bw_istore_n hZ rfl (by decide) rfl dX5_leastOf_1 <|
  bw_iconst hZ 0 (by decide) dX5_leastOf_2 <|
  bw_istore_n hZ rfl (by decide) rfl dX5_leastOf_3 <|
  bw_sub [2, 3, 1, 0] rfl (t_X5_leastOf_b4_L hZ hE x1 0 0 w)
theorem c_X5_leastOf (l : Launch) (Y : Ev) (hY : Y.1 = SC) (x1 : Int32)  (w : Wd) : CI l Y yX5_leastOf cX5_leastOf 6 1 [.ref (ph Y 16), .int x1] w .int (f_X5_leastOf (yc Y) x1 w) := by
  refine CI_of (S := SC) (by decide) (Nat.le_of_ble_eq_true rfl) hY ?_
  intro Z hl hY2 hZ hE
  subst hY2
  exact t_X5_leastOf hZ hE x1 w
-- WhichWill$Outcomes.greatestOf
theorem dX5_greatestOf_0 : decode cX5_greatestOf 0 = .ok (.iconst 0, 1) := by decide +kernel
theorem dX5_greatestOf_1 : decode cX5_greatestOf 1 = .ok (.istore_n 2, 1) := by decide +kernel
theorem dX5_greatestOf_2 : decode cX5_greatestOf 2 = .ok (.iconst 0, 1) := by decide +kernel
theorem dX5_greatestOf_3 : decode cX5_greatestOf 3 = .ok (.istore_n 3, 1) := by decide +kernel
theorem dX5_greatestOf_4 : decode cX5_greatestOf 4 = .ok (.iload_n 3, 1) := by decide +kernel
theorem dX5_greatestOf_5 : decode cX5_greatestOf 5 = .ok (.aload_n 0, 1) := by decide +kernel
theorem dX5_greatestOf_6 : decode cX5_greatestOf 6 = .ok (.getfield 47, 3) := by decide +kernel
theorem dX5_greatestOf_9 : decode cX5_greatestOf 9 = .ok (.if_icmp .ge 25, 3) := by decide +kernel
theorem dX5_greatestOf_12 : decode cX5_greatestOf 12 = .ok (.iload_n 2, 1) := by decide +kernel
theorem dX5_greatestOf_13 : decode cX5_greatestOf 13 = .ok (.aload_n 0, 1) := by decide +kernel
theorem dX5_greatestOf_14 : decode cX5_greatestOf 14 = .ok (.getfield 19, 3) := by decide +kernel
theorem dX5_greatestOf_17 : decode cX5_greatestOf 17 = .ok (.iload_n 3, 1) := by decide +kernel
theorem dX5_greatestOf_18 : decode cX5_greatestOf 18 = .ok (.bipush 8, 2) := by decide +kernel
theorem dX5_greatestOf_20 : decode cX5_greatestOf 20 = .ok (.imul, 1) := by decide +kernel
theorem dX5_greatestOf_21 : decode cX5_greatestOf 21 = .ok (.iload_n 1, 1) := by decide +kernel
theorem dX5_greatestOf_22 : decode cX5_greatestOf 22 = .ok (.iadd, 1) := by decide +kernel
theorem dX5_greatestOf_23 : decode cX5_greatestOf 23 = .ok (.iaload, 1) := by decide +kernel
theorem dX5_greatestOf_24 : decode cX5_greatestOf 24 = .ok (.invokestatic 106, 3) := by decide +kernel
theorem dX5_greatestOf_27 : decode cX5_greatestOf 27 = .ok (.istore_n 2, 1) := by decide +kernel
theorem dX5_greatestOf_28 : decode cX5_greatestOf 28 = .ok (.iinc 3 1, 3) := by decide +kernel
theorem dX5_greatestOf_31 : decode cX5_greatestOf 31 = .ok (.goto (-27), 3) := by decide +kernel
theorem dX5_greatestOf_34 : decode cX5_greatestOf 34 = .ok (.iload_n 2, 1) := by decide +kernel
theorem dX5_greatestOf_35 : decode cX5_greatestOf 35 = .ok (.ireturn, 1) := by decide +kernel
def X5_greatestOf_b4 (cp : Nat) (k4 : Int32 → Int32 → Int32 → Wd → Option (Int32 × Wd)) (y1 : Int32) (y2 : Int32) (y3 : Int32) (w : Wd) : Option (Int32 × Wd) :=
  if (w.1 16 1) ≤ y3 then
  (some (y2, w))
  else
  if inb ((y3 * 8) + y1) (8 * cp) = true then
  (lt (if y2 < (w.1 18 (Int32.toNatClampNeg ((y3 * 8) + y1))) then w.1 18 (Int32.toNatClampNeg ((y3 * 8) + y1)) else y2) fun v1 =>
  k4 y1 v1 (y3 + 1) w)
  else none
set_option maxRecDepth 100000 in
set_option maxHeartbeats 4000000 in
theorem t_X5_greatestOf_b4 {Z : Cz (Int32 × Wd)} (hZ : OKZ Z SC cX5_greatestOf RX5 4 (some .int) 1) (hE : EndI Z) (k4 : Int32 → Int32 → Int32 → Wd → Option (Int32 × Wd)) (hk4 : ∀ (y1 : Int32) (y2 : Int32) (y3 : Int32)  (w : Wd), BW Z 4 4 [(0, .ref (ph (zY Z) 16)), (1, .int y1), (2, .int y2), (3, .int y3)] [] w (k4 y1 y2 y3 w)) (y1 : Int32) (y2 : Int32) (y3 : Int32)  (w : Wd) : BW Z 4 4 [(0, .ref (ph (zY Z) 16)), (1, .int y1), (2, .int y2), (3, .int y3)] [] w (X5_greatestOf_b4 (yc (zY Z)) k4 y1 y2 y3 w) :=
  bw_iload_n hZ 3 rfl dX5_greatestOf_4 <|
  bw_aload_n hZ 0 rfl dX5_greatestOf_5 <|
  bw_getI hZ fl_RX5_47 (by decide) obC_16 dX5_greatestOf_6 <|
  bw_icmp_ge hZ (tgt := 34) (by decide) dX5_greatestOf_9 (fun _ =>
  bw_iload_n hZ 2 rfl dX5_greatestOf_34 <|
  bw_iret hZ hE dX5_greatestOf_35) (fun _ =>
  bw_iload_n hZ 2 rfl dX5_greatestOf_12 <|
  bw_aload_n hZ 0 rfl dX5_greatestOf_13 <|
  bw_getR hZ fl_RX5_19 obC_16 rfl dX5_greatestOf_14 <|
  bw_iload_n hZ 3 rfl dX5_greatestOf_17 <|
  bw_bipush hZ 8 (by decide) dX5_greatestOf_18 <|
  bw_imul hZ dX5_greatestOf_20 <|
  bw_iload_n hZ 1 rfl dX5_greatestOf_21 <|
  bw_iadd hZ dX5_greatestOf_22 <|
  bw_iald hZ (arC_18 _) dX5_greatestOf_23 <|
  bw_mmax hZ kl_RX5_106 km_max (by decide) (Nat.le_of_ble_eq_true rfl) dX5_greatestOf_24 <|
  bw_nm fun v1 =>
  bw_istore_n hZ rfl (by decide) rfl dX5_greatestOf_27 <|
  bw_iinc hZ 1 3 rfl (by decide) (by decide) rfl dX5_greatestOf_28 <|
  bw_goto hZ (tgt := 4) (by decide) dX5_greatestOf_31 <|
  bw_sub [2, 3, 1, 0] rfl (hk4 y1 v1 (y3 + 1) w))
def X5_greatestOf_b4_L (cp : Nat) : Int32 → Int32 → Int32 → Wd → Option (Int32 × Wd) :=
  lp fu (fun _ _ _ _ => none) (fun k4 => X5_greatestOf_b4 cp k4)
theorem t_X5_greatestOf_b4_L {Z : Cz (Int32 × Wd)} (hZ : OKZ Z SC cX5_greatestOf RX5 4 (some .int) 1) (hE : EndI Z)  : ∀ (y1 : Int32) (y2 : Int32) (y3 : Int32)  (w : Wd), BW Z 4 4 [(0, .ref (ph (zY Z) 16)), (1, .int y1), (2, .int y2), (3, .int y3)] [] w (X5_greatestOf_b4_L (yc (zY Z)) y1 y2 y3 w) :=
  lp_bw (fun k4 => ∀ (y1 : Int32) (y2 : Int32) (y3 : Int32)  (w : Wd), BW Z 4 4 [(0, .ref (ph (zY Z) 16)), (1, .int y1), (2, .int y2), (3, .int y3)] [] w (k4 y1 y2 y3 w)) (fun _ _ _ _ => bw_none) (fun k4 hk4 y1 y2 y3 w => t_X5_greatestOf_b4 hZ hE k4 hk4 y1 y2 y3 w) fu
def f_X5_greatestOf (cp : Nat) (x1 : Int32) (w : Wd) : Option (Int32 × Wd) :=
  X5_greatestOf_b4_L cp x1 0 0 w
set_option maxRecDepth 100000 in
set_option maxHeartbeats 4000000 in
theorem t_X5_greatestOf {Z : Cz (Int32 × Wd)} (hZ : OKZ Z SC cX5_greatestOf RX5 4 (some .int) 1) (hE : EndI Z) (x1 : Int32)  (w : Wd) : BW Z 4 0 [(0, .ref (ph (zY Z) 16)), (1, .int x1)] [] w (f_X5_greatestOf (yc (zY Z)) x1 w) :=
  bw_iconst hZ 0 (by decide) dX5_greatestOf_0 <|
  bw_istore_n hZ rfl (by decide) rfl dX5_greatestOf_1 <|
  bw_iconst hZ 0 (by decide) dX5_greatestOf_2 <|
  bw_istore_n hZ rfl (by decide) rfl dX5_greatestOf_3 <|
  bw_sub [2, 3, 1, 0] rfl (t_X5_greatestOf_b4_L hZ hE x1 0 0 w)
theorem c_X5_greatestOf (l : Launch) (Y : Ev) (hY : Y.1 = SC) (x1 : Int32)  (w : Wd) : CI l Y yX5_greatestOf cX5_greatestOf 4 1 [.ref (ph Y 16), .int x1] w .int (f_X5_greatestOf (yc Y) x1 w) := by
  refine CI_of (S := SC) (by decide) (Nat.le_of_ble_eq_true rfl) hY ?_
  intro Z hl hY2 hZ hE
  subst hY2
  exact t_X5_greatestOf hZ hE x1 w
-- WhichWill$Outcomes.hangOn
theorem dX5_hangOn_0 : decode cX5_hangOn 0 = .ok (.aload_n 0, 1) := by decide +kernel
theorem dX5_hangOn_1 : decode cX5_hangOn 1 = .ok (.getfield 34, 3) := by decide +kernel
theorem dX5_hangOn_4 : decode cX5_hangOn 4 = .ok (.invokevirtual 56, 3) := by decide +kernel
theorem dX5_hangOn_7 : decode cX5_hangOn 7 = .ok (.istore_n 2, 1) := by decide +kernel
theorem dX5_hangOn_8 : decode cX5_hangOn 8 = .ok (.iconst 0, 1) := by decide +kernel
theorem dX5_hangOn_9 : decode cX5_hangOn 9 = .ok (.istore_n 3, 1) := by decide +kernel
theorem dX5_hangOn_10 : decode cX5_hangOn 10 = .ok (.iload_n 3, 1) := by decide +kernel
theorem dX5_hangOn_11 : decode cX5_hangOn 11 = .ok (.iload_n 2, 1) := by decide +kernel
theorem dX5_hangOn_12 : decode cX5_hangOn 12 = .ok (.if_icmp .ge 30, 3) := by decide +kernel
theorem dX5_hangOn_15 : decode cX5_hangOn 15 = .ok (.aload_n 0, 1) := by decide +kernel
theorem dX5_hangOn_16 : decode cX5_hangOn 16 = .ok (.getfield 9, 3) := by decide +kernel
theorem dX5_hangOn_19 : decode cX5_hangOn 19 = .ok (.iload_n 3, 1) := by decide +kernel
theorem dX5_hangOn_20 : decode cX5_hangOn 20 = .ok (.iaload, 1) := by decide +kernel
theorem dX5_hangOn_21 : decode cX5_hangOn 21 = .ok (.aload_n 0, 1) := by decide +kernel
theorem dX5_hangOn_22 : decode cX5_hangOn 22 = .ok (.getfield 9, 3) := by decide +kernel
theorem dX5_hangOn_25 : decode cX5_hangOn 25 = .ok (.iload_n 3, 1) := by decide +kernel
theorem dX5_hangOn_26 : decode cX5_hangOn 26 = .ok (.iconst 1, 1) := by decide +kernel
theorem dX5_hangOn_27 : decode cX5_hangOn 27 = .ok (.iload_n 1, 1) := by decide +kernel
theorem dX5_hangOn_28 : decode cX5_hangOn 28 = .ok (.ishl, 1) := by decide +kernel
theorem dX5_hangOn_29 : decode cX5_hangOn 29 = .ok (.ixor, 1) := by decide +kernel
theorem dX5_hangOn_30 : decode cX5_hangOn 30 = .ok (.iaload, 1) := by decide +kernel
theorem dX5_hangOn_31 : decode cX5_hangOn 31 = .ok (.if_icmp .eq 5, 3) := by decide +kernel
theorem dX5_hangOn_34 : decode cX5_hangOn 34 = .ok (.iconst 1, 1) := by decide +kernel
theorem dX5_hangOn_35 : decode cX5_hangOn 35 = .ok (.ireturn, 1) := by decide +kernel
theorem dX5_hangOn_36 : decode cX5_hangOn 36 = .ok (.iinc 3 1, 3) := by decide +kernel
theorem dX5_hangOn_39 : decode cX5_hangOn 39 = .ok (.goto (-29), 3) := by decide +kernel
theorem dX5_hangOn_42 : decode cX5_hangOn 42 = .ok (.iconst 0, 1) := by decide +kernel
theorem dX5_hangOn_43 : decode cX5_hangOn 43 = .ok (.ireturn, 1) := by decide +kernel
def X5_hangOn_b10 (k10 : Int32 → Int32 → Int32 → Wd → Option (Int32 × Wd)) (y1 : Int32) (y2 : Int32) (y3 : Int32) (w : Wd) : Option (Int32 × Wd) :=
  if y2 ≤ y3 then
  (some (0, w))
  else
  if inb y3 5760 = true then
  (if inb (y3 ^^^ (1 <<< (y1 &&& 31))) 5760 = true then
  (if (w.1 17 (Int32.toNatClampNeg y3)) = (w.1 17 (Int32.toNatClampNeg (y3 ^^^ (1 <<< (y1 &&& 31))))) then
  (k10 y1 y2 (y3 + 1) w)
  else
  some (1, w))
  else none)
  else none
set_option maxRecDepth 100000 in
set_option maxHeartbeats 4000000 in
theorem t_X5_hangOn_b10 {Z : Cz (Int32 × Wd)} (hZ : OKZ Z SC cX5_hangOn RX5 4 (some .boolean) 2) (hE : EndI Z) (k10 : Int32 → Int32 → Int32 → Wd → Option (Int32 × Wd)) (hk10 : ∀ (y1 : Int32) (y2 : Int32) (y3 : Int32)  (w : Wd), BW Z 4 10 [(0, .ref (ph (zY Z) 16)), (1, .int y1), (2, .int y2), (3, .int y3)] [] w (k10 y1 y2 y3 w)) (y1 : Int32) (y2 : Int32) (y3 : Int32)  (w : Wd) : BW Z 4 10 [(0, .ref (ph (zY Z) 16)), (1, .int y1), (2, .int y2), (3, .int y3)] [] w (X5_hangOn_b10 k10 y1 y2 y3 w) :=
  bw_iload_n hZ 3 rfl dX5_hangOn_10 <|
  bw_iload_n hZ 2 rfl dX5_hangOn_11 <|
  bw_icmp_ge hZ (tgt := 42) (by decide) dX5_hangOn_12 (fun _ =>
  bw_iconst hZ 0 (by decide) dX5_hangOn_42 <|
  bw_zret hZ hE (by decide) dX5_hangOn_43) (fun _ =>
  bw_aload_n hZ 0 rfl dX5_hangOn_15 <|
  bw_getR hZ fl_RX5_9 obC_16 rfl dX5_hangOn_16 <|
  bw_iload_n hZ 3 rfl dX5_hangOn_19 <|
  bw_iald hZ (arC_17 _) dX5_hangOn_20 <|
  bw_aload_n hZ 0 rfl dX5_hangOn_21 <|
  bw_getR hZ fl_RX5_9 obC_16 rfl dX5_hangOn_22 <|
  bw_iload_n hZ 3 rfl dX5_hangOn_25 <|
  bw_iconst hZ 1 (by decide) dX5_hangOn_26 <|
  bw_iload_n hZ 1 rfl dX5_hangOn_27 <|
  bw_ishl hZ dX5_hangOn_28 <|
  bw_ixor hZ dX5_hangOn_29 <|
  bw_iald hZ (arC_17 _) dX5_hangOn_30 <|
  bw_icmp_eq hZ (tgt := 36) (by decide) dX5_hangOn_31 (fun _ =>
  bw_iinc hZ 1 3 rfl (by decide) (by decide) rfl dX5_hangOn_36 <|
  bw_goto hZ (tgt := 10) (by decide) dX5_hangOn_39 <|
  bw_sub [1, 2, 3, 0] rfl (hk10 y1 y2 (y3 + 1) w)) (fun _ =>
  bw_iconst hZ 1 (by decide) dX5_hangOn_34 <|
  bw_zret hZ hE (by decide) dX5_hangOn_35))
def X5_hangOn_b10_L  : Int32 → Int32 → Int32 → Wd → Option (Int32 × Wd) :=
  lp fu (fun _ _ _ _ => none) (fun k10 => X5_hangOn_b10 k10)
theorem t_X5_hangOn_b10_L {Z : Cz (Int32 × Wd)} (hZ : OKZ Z SC cX5_hangOn RX5 4 (some .boolean) 2) (hE : EndI Z)  : ∀ (y1 : Int32) (y2 : Int32) (y3 : Int32)  (w : Wd), BW Z 4 10 [(0, .ref (ph (zY Z) 16)), (1, .int y1), (2, .int y2), (3, .int y3)] [] w (X5_hangOn_b10_L y1 y2 y3 w) :=
  lp_bw (fun k10 => ∀ (y1 : Int32) (y2 : Int32) (y3 : Int32)  (w : Wd), BW Z 4 10 [(0, .ref (ph (zY Z) 16)), (1, .int y1), (2, .int y2), (3, .int y3)] [] w (k10 y1 y2 y3 w)) (fun _ _ _ _ => bw_none) (fun k10 hk10 y1 y2 y3 w => t_X5_hangOn_b10 hZ hE k10 hk10 y1 y2 y3 w) fu
def f_X5_hangOn (x1 : Int32) (w : Wd) : Option (Int32 × Wd) :=
  cl (f_X2_waysFound w) fun r2 w1 =>
  X5_hangOn_b10_L x1 r2 0 w1
set_option maxRecDepth 100000 in
set_option maxHeartbeats 4000000 in
theorem t_X5_hangOn {Z : Cz (Int32 × Wd)} (hZ : OKZ Z SC cX5_hangOn RX5 4 (some .boolean) 2) (hE : EndI Z) (x1 : Int32)  (w : Wd) : BW Z 4 0 [(0, .ref (ph (zY Z) 16)), (1, .int x1)] [] w (f_X5_hangOn x1 w) :=
  bw_aload_n hZ 0 rfl dX5_hangOn_0 <|
  bw_getR hZ fl_RX5_34 obC_16 rfl dX5_hangOn_1 <|
  bw_callVI (As := []) hZ ml_RX5_56 rc_2 obC_3 (by decide) (c_X2_waysFound (zl Z) (zY Z) (hZ_S hZ) w) rfl rfl (Nat.le_of_ble_eq_true rfl) dX5_hangOn_4 fun r2 w1 =>
  bw_istore_n hZ rfl (by decide) rfl dX5_hangOn_7 <|
  bw_iconst hZ 0 (by decide) dX5_hangOn_8 <|
  bw_istore_n hZ rfl (by decide) rfl dX5_hangOn_9 <|
  bw_sub [2, 3, 1, 0] rfl (t_X5_hangOn_b10_L hZ hE x1 r2 0 w1)
theorem c_X5_hangOn (l : Launch) (Y : Ev) (hY : Y.1 = SC) (x1 : Int32)  (w : Wd) : CI l Y yX5_hangOn cX5_hangOn 4 2 [.ref (ph Y 16), .int x1] w .boolean (f_X5_hangOn x1 w) := by
  refine CI_of (S := SC) (by decide) (Nat.le_of_ble_eq_true rfl) hY ?_
  intro Z hl hY2 hZ hE
  subst hY2
  exact t_X5_hangOn hZ hE x1 w
-- WhichWill$Outcomes.greaterOfAnswers
theorem dX5_greaterOfAnswers_0 : decode cX5_greaterOfAnswers 0 = .ok (.iconst 0, 1) := by decide +kernel
theorem dX5_greaterOfAnswers_1 : decode cX5_greaterOfAnswers 1 = .ok (.istore_n 1, 1) := by decide +kernel
theorem dX5_greaterOfAnswers_2 : decode cX5_greaterOfAnswers 2 = .ok (.iconst 0, 1) := by decide +kernel
theorem dX5_greaterOfAnswers_3 : decode cX5_greaterOfAnswers 3 = .ok (.istore_n 2, 1) := by decide +kernel
theorem dX5_greaterOfAnswers_4 : decode cX5_greaterOfAnswers 4 = .ok (.iconst 0, 1) := by decide +kernel
theorem dX5_greaterOfAnswers_5 : decode cX5_greaterOfAnswers 5 = .ok (.istore_n 3, 1) := by decide +kernel
theorem dX5_greaterOfAnswers_6 : decode cX5_greaterOfAnswers 6 = .ok (.iload_n 3, 1) := by decide +kernel
theorem dX5_greaterOfAnswers_7 : decode cX5_greaterOfAnswers 7 = .ok (.aload_n 0, 1) := by decide +kernel
theorem dX5_greaterOfAnswers_8 : decode cX5_greaterOfAnswers 8 = .ok (.getfield 47, 3) := by decide +kernel
theorem dX5_greaterOfAnswers_11 : decode cX5_greaterOfAnswers 11 = .ok (.if_icmp .ge 31, 3) := by decide +kernel
theorem dX5_greaterOfAnswers_14 : decode cX5_greaterOfAnswers 14 = .ok (.iload_n 1, 1) := by decide +kernel
theorem dX5_greaterOfAnswers_15 : decode cX5_greaterOfAnswers 15 = .ok (.aload_n 0, 1) := by decide +kernel
theorem dX5_greaterOfAnswers_16 : decode cX5_greaterOfAnswers 16 = .ok (.getfield 25, 3) := by decide +kernel
theorem dX5_greaterOfAnswers_19 : decode cX5_greaterOfAnswers 19 = .ok (.iload_n 3, 1) := by decide +kernel
theorem dX5_greaterOfAnswers_20 : decode cX5_greaterOfAnswers 20 = .ok (.iaload, 1) := by decide +kernel
theorem dX5_greaterOfAnswers_21 : decode cX5_greaterOfAnswers 21 = .ok (.iconst 1, 1) := by decide +kernel
theorem dX5_greaterOfAnswers_22 : decode cX5_greaterOfAnswers 22 = .ok (.iand, 1) := by decide +kernel
theorem dX5_greaterOfAnswers_23 : decode cX5_greaterOfAnswers 23 = .ok (.iadd, 1) := by decide +kernel
theorem dX5_greaterOfAnswers_24 : decode cX5_greaterOfAnswers 24 = .ok (.istore_n 1, 1) := by decide +kernel
theorem dX5_greaterOfAnswers_25 : decode cX5_greaterOfAnswers 25 = .ok (.iload_n 2, 1) := by decide +kernel
theorem dX5_greaterOfAnswers_26 : decode cX5_greaterOfAnswers 26 = .ok (.aload_n 0, 1) := by decide +kernel
theorem dX5_greaterOfAnswers_27 : decode cX5_greaterOfAnswers 27 = .ok (.getfield 25, 3) := by decide +kernel
theorem dX5_greaterOfAnswers_30 : decode cX5_greaterOfAnswers 30 = .ok (.iload_n 3, 1) := by decide +kernel
theorem dX5_greaterOfAnswers_31 : decode cX5_greaterOfAnswers 31 = .ok (.iaload, 1) := by decide +kernel
theorem dX5_greaterOfAnswers_32 : decode cX5_greaterOfAnswers 32 = .ok (.iconst 1, 1) := by decide +kernel
theorem dX5_greaterOfAnswers_33 : decode cX5_greaterOfAnswers 33 = .ok (.ishr, 1) := by decide +kernel
theorem dX5_greaterOfAnswers_34 : decode cX5_greaterOfAnswers 34 = .ok (.iadd, 1) := by decide +kernel
theorem dX5_greaterOfAnswers_35 : decode cX5_greaterOfAnswers 35 = .ok (.istore_n 2, 1) := by decide +kernel
theorem dX5_greaterOfAnswers_36 : decode cX5_greaterOfAnswers 36 = .ok (.iinc 3 1, 3) := by decide +kernel
theorem dX5_greaterOfAnswers_39 : decode cX5_greaterOfAnswers 39 = .ok (.goto (-33), 3) := by decide +kernel
theorem dX5_greaterOfAnswers_42 : decode cX5_greaterOfAnswers 42 = .ok (.iload_n 1, 1) := by decide +kernel
theorem dX5_greaterOfAnswers_43 : decode cX5_greaterOfAnswers 43 = .ok (.iload_n 2, 1) := by decide +kernel
theorem dX5_greaterOfAnswers_44 : decode cX5_greaterOfAnswers 44 = .ok (.invokestatic 106, 3) := by decide +kernel
theorem dX5_greaterOfAnswers_47 : decode cX5_greaterOfAnswers 47 = .ok (.ireturn, 1) := by decide +kernel
def X5_greaterOfAnswers_b6 (cp : Nat) (k6 : Int32 → Int32 → Int32 → Wd → Option (Int32 × Wd)) (y1 : Int32) (y2 : Int32) (y3 : Int32) (w : Wd) : Option (Int32 × Wd) :=
  if (w.1 16 1) ≤ y3 then
  (some (if y1 < y2 then y2 else y1, w))
  else
  if inb y3 cp = true then
  (lt (y1 + ((w.1 20 (Int32.toNatClampNeg y3)) &&& 1)) fun v1 =>
  if inb y3 cp = true then
  (lt (y2 + ((w.1 20 (Int32.toNatClampNeg y3)) >>> (1 &&& 31))) fun v2 =>
  k6 v1 v2 (y3 + 1) w)
  else none)
  else none
set_option maxRecDepth 100000 in
set_option maxHeartbeats 4000000 in
theorem t_X5_greaterOfAnswers_b6 {Z : Cz (Int32 × Wd)} (hZ : OKZ Z SC cX5_greaterOfAnswers RX5 4 (some .int) 1) (hE : EndI Z) (k6 : Int32 → Int32 → Int32 → Wd → Option (Int32 × Wd)) (hk6 : ∀ (y1 : Int32) (y2 : Int32) (y3 : Int32)  (w : Wd), BW Z 4 6 [(0, .ref (ph (zY Z) 16)), (1, .int y1), (2, .int y2), (3, .int y3)] [] w (k6 y1 y2 y3 w)) (y1 : Int32) (y2 : Int32) (y3 : Int32)  (w : Wd) : BW Z 4 6 [(0, .ref (ph (zY Z) 16)), (1, .int y1), (2, .int y2), (3, .int y3)] [] w (X5_greaterOfAnswers_b6 (yc (zY Z)) k6 y1 y2 y3 w) :=
  bw_iload_n hZ 3 rfl dX5_greaterOfAnswers_6 <|
  bw_aload_n hZ 0 rfl dX5_greaterOfAnswers_7 <|
  bw_getI hZ fl_RX5_47 (by decide) obC_16 dX5_greaterOfAnswers_8 <|
  bw_icmp_ge hZ (tgt := 42) (by decide) dX5_greaterOfAnswers_11 (fun _ =>
  bw_iload_n hZ 1 rfl dX5_greaterOfAnswers_42 <|
  bw_iload_n hZ 2 rfl dX5_greaterOfAnswers_43 <|
  bw_mmax hZ kl_RX5_106 km_max (by decide) (Nat.le_of_ble_eq_true rfl) dX5_greaterOfAnswers_44 <|
  bw_iret hZ hE dX5_greaterOfAnswers_47) (fun _ =>
  bw_iload_n hZ 1 rfl dX5_greaterOfAnswers_14 <|
  bw_aload_n hZ 0 rfl dX5_greaterOfAnswers_15 <|
  bw_getR hZ fl_RX5_25 obC_16 rfl dX5_greaterOfAnswers_16 <|
  bw_iload_n hZ 3 rfl dX5_greaterOfAnswers_19 <|
  bw_iald hZ (arC_20 _) dX5_greaterOfAnswers_20 <|
  bw_iconst hZ 1 (by decide) dX5_greaterOfAnswers_21 <|
  bw_iand hZ dX5_greaterOfAnswers_22 <|
  bw_iadd hZ dX5_greaterOfAnswers_23 <|
  bw_nm fun v1 =>
  bw_istore_n hZ rfl (by decide) rfl dX5_greaterOfAnswers_24 <|
  bw_iload_n hZ 2 rfl dX5_greaterOfAnswers_25 <|
  bw_aload_n hZ 1 rfl dX5_greaterOfAnswers_26 <|
  bw_getR hZ fl_RX5_25 obC_16 rfl dX5_greaterOfAnswers_27 <|
  bw_iload_n hZ 3 rfl dX5_greaterOfAnswers_30 <|
  bw_iald hZ (arC_20 _) dX5_greaterOfAnswers_31 <|
  bw_iconst hZ 1 (by decide) dX5_greaterOfAnswers_32 <|
  bw_ishr hZ dX5_greaterOfAnswers_33 <|
  bw_iadd hZ dX5_greaterOfAnswers_34 <|
  bw_nm fun v2 =>
  bw_istore_n hZ rfl (by decide) rfl dX5_greaterOfAnswers_35 <|
  bw_iinc hZ 1 3 rfl (by decide) (by decide) rfl dX5_greaterOfAnswers_36 <|
  bw_goto hZ (tgt := 6) (by decide) dX5_greaterOfAnswers_39 <|
  bw_sub [3, 2, 1, 0] rfl (hk6 v1 v2 (y3 + 1) w))
def X5_greaterOfAnswers_b6_L (cp : Nat) : Int32 → Int32 → Int32 → Wd → Option (Int32 × Wd) :=
  lp fu (fun _ _ _ _ => none) (fun k6 => X5_greaterOfAnswers_b6 cp k6)
theorem t_X5_greaterOfAnswers_b6_L {Z : Cz (Int32 × Wd)} (hZ : OKZ Z SC cX5_greaterOfAnswers RX5 4 (some .int) 1) (hE : EndI Z)  : ∀ (y1 : Int32) (y2 : Int32) (y3 : Int32)  (w : Wd), BW Z 4 6 [(0, .ref (ph (zY Z) 16)), (1, .int y1), (2, .int y2), (3, .int y3)] [] w (X5_greaterOfAnswers_b6_L (yc (zY Z)) y1 y2 y3 w) :=
  lp_bw (fun k6 => ∀ (y1 : Int32) (y2 : Int32) (y3 : Int32)  (w : Wd), BW Z 4 6 [(0, .ref (ph (zY Z) 16)), (1, .int y1), (2, .int y2), (3, .int y3)] [] w (k6 y1 y2 y3 w)) (fun _ _ _ _ => bw_none) (fun k6 hk6 y1 y2 y3 w => t_X5_greaterOfAnswers_b6 hZ hE k6 hk6 y1 y2 y3 w) fu
def f_X5_greaterOfAnswers (cp : Nat) (w : Wd) : Option (Int32 × Wd) :=
  X5_greaterOfAnswers_b6_L cp 0 0 0 w
set_option maxRecDepth 100000 in
set_option maxHeartbeats 4000000 in
theorem t_X5_greaterOfAnswers {Z : Cz (Int32 × Wd)} (hZ : OKZ Z SC cX5_greaterOfAnswers RX5 4 (some .int) 1) (hE : EndI Z)   (w : Wd) : BW Z 4 0 [(0, .ref (ph (zY Z) 16))] [] w (f_X5_greaterOfAnswers (yc (zY Z)) w) :=
  bw_iconst hZ 0 (by decide) dX5_greaterOfAnswers_0 <|
  bw_istore_n hZ rfl (by decide) rfl dX5_greaterOfAnswers_1 <|
  bw_iconst hZ 0 (by decide) dX5_greaterOfAnswers_2 <|
  bw_istore_n hZ rfl (by decide) rfl dX5_greaterOfAnswers_3 <|
  bw_iconst hZ 0 (by decide) dX5_greaterOfAnswers_4 <|
  bw_istore_n hZ rfl (by decide) rfl dX5_greaterOfAnswers_5 <|
  bw_sub [3, 2, 1, 0] rfl (t_X5_greaterOfAnswers_b6_L hZ hE 0 0 0 w)
theorem c_X5_greaterOfAnswers (l : Launch) (Y : Ev) (hY : Y.1 = SC)   (w : Wd) : CI l Y yX5_greaterOfAnswers cX5_greaterOfAnswers 4 1 [.ref (ph Y 16)] w .int (f_X5_greaterOfAnswers (yc Y) w) := by
  refine CI_of (S := SC) (by decide) (Nat.le_of_ble_eq_true rfl) hY ?_
  intro Z hl hY2 hZ hE
  subst hY2
  exact t_X5_greaterOfAnswers hZ hE w
-- WhichWill$Outcomes.unlikeByFact
theorem dX5_unlikeByFact_0 : decode cX5_unlikeByFact 0 = .ok (.aload_n 0, 1) := by decide +kernel
theorem dX5_unlikeByFact_1 : decode cX5_unlikeByFact 1 = .ok (.getfield 25, 3) := by decide +kernel
theorem dX5_unlikeByFact_4 : decode cX5_unlikeByFact 4 = .ok (.iconst 0, 1) := by decide +kernel
theorem dX5_unlikeByFact_5 : decode cX5_unlikeByFact 5 = .ok (.invokestatic 50, 3) := by decide +kernel
theorem dX5_unlikeByFact_8 : decode cX5_unlikeByFact 8 = .ok (.aload_n 0, 1) := by decide +kernel
theorem dX5_unlikeByFact_9 : decode cX5_unlikeByFact 9 = .ok (.getfield 34, 3) := by decide +kernel
theorem dX5_unlikeByFact_12 : decode cX5_unlikeByFact 12 = .ok (.invokevirtual 56, 3) := by decide +kernel
theorem dX5_unlikeByFact_15 : decode cX5_unlikeByFact 15 = .ok (.istore_n 2, 1) := by decide +kernel
theorem dX5_unlikeByFact_16 : decode cX5_unlikeByFact 16 = .ok (.iconst 0, 1) := by decide +kernel
theorem dX5_unlikeByFact_17 : decode cX5_unlikeByFact 17 = .ok (.istore_n 3, 1) := by decide +kernel
theorem dX5_unlikeByFact_18 : decode cX5_unlikeByFact 18 = .ok (.iload_n 3, 1) := by decide +kernel
theorem dX5_unlikeByFact_19 : decode cX5_unlikeByFact 19 = .ok (.iload_n 2, 1) := by decide +kernel
theorem dX5_unlikeByFact_20 : decode cX5_unlikeByFact 20 = .ok (.if_icmp .ge 36, 3) := by decide +kernel
theorem dX5_unlikeByFact_23 : decode cX5_unlikeByFact 23 = .ok (.aload_n 0, 1) := by decide +kernel
theorem dX5_unlikeByFact_24 : decode cX5_unlikeByFact 24 = .ok (.getfield 25, 3) := by decide +kernel
theorem dX5_unlikeByFact_27 : decode cX5_unlikeByFact 27 = .ok (.aload_n 0, 1) := by decide +kernel
theorem dX5_unlikeByFact_28 : decode cX5_unlikeByFact 28 = .ok (.getfield 9, 3) := by decide +kernel
theorem dX5_unlikeByFact_31 : decode cX5_unlikeByFact 31 = .ok (.iload_n 3, 1) := by decide +kernel
theorem dX5_unlikeByFact_32 : decode cX5_unlikeByFact 32 = .ok (.iaload, 1) := by decide +kernel
theorem dX5_unlikeByFact_33 : decode cX5_unlikeByFact 33 = .ok (.dup2, 1) := by decide +kernel
theorem dX5_unlikeByFact_34 : decode cX5_unlikeByFact 34 = .ok (.iaload, 1) := by decide +kernel
theorem dX5_unlikeByFact_35 : decode cX5_unlikeByFact 35 = .ok (.iload_n 3, 1) := by decide +kernel
theorem dX5_unlikeByFact_36 : decode cX5_unlikeByFact 36 = .ok (.iload_n 1, 1) := by decide +kernel
theorem dX5_unlikeByFact_37 : decode cX5_unlikeByFact 37 = .ok (.ishr, 1) := by decide +kernel
theorem dX5_unlikeByFact_38 : decode cX5_unlikeByFact 38 = .ok (.iconst 1, 1) := by decide +kernel
theorem dX5_unlikeByFact_39 : decode cX5_unlikeByFact 39 = .ok (.iand, 1) := by decide +kernel
theorem dX5_unlikeByFact_40 : decode cX5_unlikeByFact 40 = .ok (.ifCond .eq 7, 3) := by decide +kernel
theorem dX5_unlikeByFact_43 : decode cX5_unlikeByFact 43 = .ok (.iconst 1, 1) := by decide +kernel
theorem dX5_unlikeByFact_44 : decode cX5_unlikeByFact 44 = .ok (.goto 4, 3) := by decide +kernel
theorem dX5_unlikeByFact_47 : decode cX5_unlikeByFact 47 = .ok (.iconst 2, 1) := by decide +kernel
theorem dX5_unlikeByFact_48 : decode cX5_unlikeByFact 48 = .ok (.ior, 1) := by decide +kernel
theorem dX5_unlikeByFact_49 : decode cX5_unlikeByFact 49 = .ok (.iastore, 1) := by decide +kernel
theorem dX5_unlikeByFact_50 : decode cX5_unlikeByFact 50 = .ok (.iinc 3 1, 3) := by decide +kernel
theorem dX5_unlikeByFact_53 : decode cX5_unlikeByFact 53 = .ok (.goto (-35), 3) := by decide +kernel
theorem dX5_unlikeByFact_56 : decode cX5_unlikeByFact 56 = .ok (.aload_n 0, 1) := by decide +kernel
theorem dX5_unlikeByFact_57 : decode cX5_unlikeByFact 57 = .ok (.invokevirtual 119, 3) := by decide +kernel
theorem dX5_unlikeByFact_60 : decode cX5_unlikeByFact 60 = .ok (.ireturn, 1) := by decide +kernel
def X5_unlikeByFact_b18 (cp : Nat) (k18 : Int32 → Int32 → Int32 → Wd → Option (Int32 × Wd)) (y1 : Int32) (y2 : Int32) (y3 : Int32) (w : Wd) : Option (Int32 × Wd) :=
  if y2 ≤ y3 then
  (cl (f_X5_greaterOfAnswers cp w) fun r5 w4 =>
  some (r5, w4))
  else
  if inb y3 5760 = true then
  (if inb (w.1 17 (Int32.toNatClampNeg y3)) cp = true then
  (if ((y3 >>> (y1 &&& 31)) &&& 1) = 0 then
  (if inb (w.1 17 (Int32.toNatClampNeg y3)) cp = true then
  (lt (wI w 20 (Int32.toNatClampNeg (w.1 17 (Int32.toNatClampNeg y3))) ((w.1 20 (Int32.toNatClampNeg (w.1 17 (Int32.toNatClampNeg y3)))) ||| 2)) fun w6 =>
  k18 y1 y2 (y3 + 1) w6)
  else none)
  else
  if inb (w.1 17 (Int32.toNatClampNeg y3)) cp = true then
  (lt (wI w 20 (Int32.toNatClampNeg (w.1 17 (Int32.toNatClampNeg y3))) ((w.1 20 (Int32.toNatClampNeg (w.1 17 (Int32.toNatClampNeg y3)))) ||| 1)) fun w7 =>
  k18 y1 y2 (y3 + 1) w7)
  else none)
  else none)
  else none
set_option maxRecDepth 100000 in
set_option maxHeartbeats 4000000 in
theorem t_X5_unlikeByFact_b18 {Z : Cz (Int32 × Wd)} (hZ : OKZ Z SC cX5_unlikeByFact RX5 4 (some .int) 2) (hE : EndI Z) (k18 : Int32 → Int32 → Int32 → Wd → Option (Int32 × Wd)) (hk18 : ∀ (y1 : Int32) (y2 : Int32) (y3 : Int32)  (w : Wd), BW Z 4 18 [(0, .ref (ph (zY Z) 16)), (1, .int y1), (2, .int y2), (3, .int y3)] [] w (k18 y1 y2 y3 w)) (y1 : Int32) (y2 : Int32) (y3 : Int32)  (w : Wd) : BW Z 4 18 [(0, .ref (ph (zY Z) 16)), (1, .int y1), (2, .int y2), (3, .int y3)] [] w (X5_unlikeByFact_b18 (yc (zY Z)) k18 y1 y2 y3 w) :=
  bw_iload_n hZ 3 rfl dX5_unlikeByFact_18 <|
  bw_iload_n hZ 2 rfl dX5_unlikeByFact_19 <|
  bw_icmp_ge hZ (tgt := 56) (by decide) dX5_unlikeByFact_20 (fun _ =>
  bw_aload_n hZ 0 rfl dX5_unlikeByFact_56 <|
  bw_callVI (As := []) hZ ml_RX5_119 rc_5 obC_16 (by decide) (c_X5_greaterOfAnswers (zl Z) (zY Z) (hZ_S hZ) w) rfl rfl (Nat.le_of_ble_eq_true rfl) dX5_unlikeByFact_57 fun r5 w4 =>
  bw_iret hZ hE dX5_unlikeByFact_60) (fun _ =>
  bw_aload_n hZ 0 rfl dX5_unlikeByFact_23 <|
  bw_getR hZ fl_RX5_25 obC_16 rfl dX5_unlikeByFact_24 <|
  bw_aload_n hZ 0 rfl dX5_unlikeByFact_27 <|
  bw_getR hZ fl_RX5_9 obC_16 rfl dX5_unlikeByFact_28 <|
  bw_iload_n hZ 3 rfl dX5_unlikeByFact_31 <|
  bw_iald hZ (arC_17 _) dX5_unlikeByFact_32 <|
  bw_dup2 hZ rfl rfl dX5_unlikeByFact_33 <|
  bw_iald hZ (arC_20 _) dX5_unlikeByFact_34 <|
  bw_iload_n hZ 3 rfl dX5_unlikeByFact_35 <|
  bw_iload_n hZ 1 rfl dX5_unlikeByFact_36 <|
  bw_ishr hZ dX5_unlikeByFact_37 <|
  bw_iconst hZ 1 (by decide) dX5_unlikeByFact_38 <|
  bw_iand hZ dX5_unlikeByFact_39 <|
  bw_if_eq hZ (tgt := 47) (by decide) dX5_unlikeByFact_40 (fun _ =>
  bw_iconst hZ 2 (by decide) dX5_unlikeByFact_47 <|
  bw_ior hZ dX5_unlikeByFact_48 <|
  bw_iast hZ (arC_20 _) dX5_unlikeByFact_49 fun w6 =>
  bw_iinc hZ 1 3 rfl (by decide) (by decide) rfl dX5_unlikeByFact_50 <|
  bw_goto hZ (tgt := 18) (by decide) dX5_unlikeByFact_53 <|
  bw_sub [1, 2, 3, 0] rfl (hk18 y1 y2 (y3 + 1) w6)) (fun _ =>
  bw_iconst hZ 1 (by decide) dX5_unlikeByFact_43 <|
  bw_goto hZ (tgt := 48) (by decide) dX5_unlikeByFact_44 <|
  bw_ior hZ dX5_unlikeByFact_48 <|
  bw_iast hZ (arC_20 _) dX5_unlikeByFact_49 fun w7 =>
  bw_iinc hZ 1 3 rfl (by decide) (by decide) rfl dX5_unlikeByFact_50 <|
  bw_goto hZ (tgt := 18) (by decide) dX5_unlikeByFact_53 <|
  bw_sub [1, 2, 3, 0] rfl (hk18 y1 y2 (y3 + 1) w7)))
def X5_unlikeByFact_b18_L (cp : Nat) : Int32 → Int32 → Int32 → Wd → Option (Int32 × Wd) :=
  lp fu (fun _ _ _ _ => none) (fun k18 => X5_unlikeByFact_b18 cp k18)
theorem t_X5_unlikeByFact_b18_L {Z : Cz (Int32 × Wd)} (hZ : OKZ Z SC cX5_unlikeByFact RX5 4 (some .int) 2) (hE : EndI Z)  : ∀ (y1 : Int32) (y2 : Int32) (y3 : Int32)  (w : Wd), BW Z 4 18 [(0, .ref (ph (zY Z) 16)), (1, .int y1), (2, .int y2), (3, .int y3)] [] w (X5_unlikeByFact_b18_L (yc (zY Z)) y1 y2 y3 w) :=
  lp_bw (fun k18 => ∀ (y1 : Int32) (y2 : Int32) (y3 : Int32)  (w : Wd), BW Z 4 18 [(0, .ref (ph (zY Z) 16)), (1, .int y1), (2, .int y2), (3, .int y3)] [] w (k18 y1 y2 y3 w)) (fun _ _ _ _ => bw_none) (fun k18 hk18 y1 y2 y3 w => t_X5_unlikeByFact_b18 hZ hE k18 hk18 y1 y2 y3 w) fu
def f_X5_unlikeByFact (cp : Nat) (x1 : Int32) (w : Wd) : Option (Int32 × Wd) :=
  cv (f_J7_fill_53178 20 cp 0 w) fun w1 =>
  cl (f_X2_waysFound w1) fun r3 w2 =>
  X5_unlikeByFact_b18_L cp x1 r3 0 w2
set_option maxRecDepth 100000 in
set_option maxHeartbeats 4000000 in
theorem t_X5_unlikeByFact {Z : Cz (Int32 × Wd)} (hZ : OKZ Z SC cX5_unlikeByFact RX5 4 (some .int) 2) (hE : EndI Z) (x1 : Int32)  (w : Wd) : BW Z 4 0 [(0, .ref (ph (zY Z) 16)), (1, .int x1)] [] w (f_X5_unlikeByFact (yc (zY Z)) x1 w) :=
  bw_aload_n hZ 0 rfl dX5_unlikeByFact_0 <|
  bw_getR hZ fl_RX5_25 obC_16 rfl dX5_unlikeByFact_1 <|
  bw_iconst hZ 0 (by decide) dX5_unlikeByFact_4 <|
  bw_callSV (As := [.ref (ph (zY Z) 20), .int 0]) hZ ms_RX5_50 (by decide) (c_J7_fill_53178 (zl Z) (zY Z) (hZ_S hZ) 20 (yc (zY Z)) 0 (arC_20 _) w) rfl rfl (Nat.le_of_ble_eq_true rfl) dX5_unlikeByFact_5 fun w1 =>
  bw_aload_n hZ 0 rfl dX5_unlikeByFact_8 <|
  bw_getR hZ fl_RX5_34 obC_16 rfl dX5_unlikeByFact_9 <|
  bw_callVI (As := []) hZ ml_RX5_56 rc_2 obC_3 (by decide) (c_X2_waysFound (zl Z) (zY Z) (hZ_S hZ) w1) rfl rfl (Nat.le_of_ble_eq_true rfl) dX5_unlikeByFact_12 fun r3 w2 =>
  bw_istore_n hZ rfl (by decide) rfl dX5_unlikeByFact_15 <|
  bw_iconst hZ 0 (by decide) dX5_unlikeByFact_16 <|
  bw_istore_n hZ rfl (by decide) rfl dX5_unlikeByFact_17 <|
  bw_sub [2, 3, 1, 0] rfl (t_X5_unlikeByFact_b18_L hZ hE x1 r3 0 w2)
theorem c_X5_unlikeByFact (l : Launch) (Y : Ev) (hY : Y.1 = SC) (x1 : Int32)  (w : Wd) : CI l Y yX5_unlikeByFact cX5_unlikeByFact 4 2 [.ref (ph Y 16), .int x1] w .int (f_X5_unlikeByFact (yc Y) x1 w) := by
  refine CI_of (S := SC) (by decide) (Nat.le_of_ble_eq_true rfl) hY ?_
  intro Z hl hY2 hZ hE
  subst hY2
  exact t_X5_unlikeByFact hZ hE x1 w
-- WhichWill$Outcomes.unlikeByOrder
theorem dX5_unlikeByOrder_0 : decode cX5_unlikeByOrder 0 = .ok (.aload_n 0, 1) := by decide +kernel
theorem dX5_unlikeByOrder_1 : decode cX5_unlikeByOrder 1 = .ok (.getfield 25, 3) := by decide +kernel
theorem dX5_unlikeByOrder_4 : decode cX5_unlikeByOrder 4 = .ok (.iconst 0, 1) := by decide +kernel
theorem dX5_unlikeByOrder_5 : decode cX5_unlikeByOrder 5 = .ok (.invokestatic 50, 3) := by decide +kernel
theorem dX5_unlikeByOrder_8 : decode cX5_unlikeByOrder 8 = .ok (.aload_n 0, 1) := by decide +kernel
theorem dX5_unlikeByOrder_9 : decode cX5_unlikeByOrder 9 = .ok (.getfield 34, 3) := by decide +kernel
theorem dX5_unlikeByOrder_12 : decode cX5_unlikeByOrder 12 = .ok (.invokevirtual 56, 3) := by decide +kernel
theorem dX5_unlikeByOrder_15 : decode cX5_unlikeByOrder 15 = .ok (.istore_n 3, 1) := by decide +kernel
theorem dX5_unlikeByOrder_16 : decode cX5_unlikeByOrder 16 = .ok (.iconst 0, 1) := by decide +kernel
theorem dX5_unlikeByOrder_17 : decode cX5_unlikeByOrder 17 = .ok (.istore 4, 2) := by decide +kernel
theorem dX5_unlikeByOrder_19 : decode cX5_unlikeByOrder 19 = .ok (.iconst 0, 1) := by decide +kernel
theorem dX5_unlikeByOrder_20 : decode cX5_unlikeByOrder 20 = .ok (.istore 5, 2) := by decide +kernel
theorem dX5_unlikeByOrder_22 : decode cX5_unlikeByOrder 22 = .ok (.iload 5, 2) := by decide +kernel
theorem dX5_unlikeByOrder_24 : decode cX5_unlikeByOrder 24 = .ok (.iload_n 3, 1) := by decide +kernel
theorem dX5_unlikeByOrder_25 : decode cX5_unlikeByOrder 25 = .ok (.if_icmp .ge 58, 3) := by decide +kernel
theorem dX5_unlikeByOrder_28 : decode cX5_unlikeByOrder 28 = .ok (.iload 5, 2) := by decide +kernel
theorem dX5_unlikeByOrder_30 : decode cX5_unlikeByOrder 30 = .ok (.bipush 8, 2) := by decide +kernel
theorem dX5_unlikeByOrder_32 : decode cX5_unlikeByOrder 32 = .ok (.irem, 1) := by decide +kernel
theorem dX5_unlikeByOrder_33 : decode cX5_unlikeByOrder 33 = .ok (.ifCond .ne 27, 3) := by decide +kernel
theorem dX5_unlikeByOrder_36 : decode cX5_unlikeByOrder 36 = .ok (.aload_n 0, 1) := by decide +kernel
theorem dX5_unlikeByOrder_37 : decode cX5_unlikeByOrder 37 = .ok (.getfield 34, 3) := by decide +kernel
theorem dX5_unlikeByOrder_40 : decode cX5_unlikeByOrder 40 = .ok (.iload 5, 2) := by decide +kernel
theorem dX5_unlikeByOrder_42 : decode cX5_unlikeByOrder 42 = .ok (.bipush 8, 2) := by decide +kernel
theorem dX5_unlikeByOrder_44 : decode cX5_unlikeByOrder 44 = .ok (.idiv, 1) := by decide +kernel
theorem dX5_unlikeByOrder_45 : decode cX5_unlikeByOrder 45 = .ok (.iload_n 1, 1) := by decide +kernel
theorem dX5_unlikeByOrder_46 : decode cX5_unlikeByOrder 46 = .ok (.iload_n 2, 1) := by decide +kernel
theorem dX5_unlikeByOrder_47 : decode cX5_unlikeByOrder 47 = .ok (.invokevirtual 122, 3) := by decide +kernel
theorem dX5_unlikeByOrder_50 : decode cX5_unlikeByOrder 50 = .ok (.ifCond .eq 7, 3) := by decide +kernel
theorem dX5_unlikeByOrder_53 : decode cX5_unlikeByOrder 53 = .ok (.iconst 1, 1) := by decide +kernel
theorem dX5_unlikeByOrder_54 : decode cX5_unlikeByOrder 54 = .ok (.goto 4, 3) := by decide +kernel
theorem dX5_unlikeByOrder_57 : decode cX5_unlikeByOrder 57 = .ok (.iconst 2, 1) := by decide +kernel
theorem dX5_unlikeByOrder_58 : decode cX5_unlikeByOrder 58 = .ok (.istore 4, 2) := by decide +kernel
theorem dX5_unlikeByOrder_60 : decode cX5_unlikeByOrder 60 = .ok (.aload_n 0, 1) := by decide +kernel
theorem dX5_unlikeByOrder_61 : decode cX5_unlikeByOrder 61 = .ok (.getfield 25, 3) := by decide +kernel
theorem dX5_unlikeByOrder_64 : decode cX5_unlikeByOrder 64 = .ok (.aload_n 0, 1) := by decide +kernel
theorem dX5_unlikeByOrder_65 : decode cX5_unlikeByOrder 65 = .ok (.getfield 9, 3) := by decide +kernel
theorem dX5_unlikeByOrder_68 : decode cX5_unlikeByOrder 68 = .ok (.iload 5, 2) := by decide +kernel
theorem dX5_unlikeByOrder_70 : decode cX5_unlikeByOrder 70 = .ok (.iaload, 1) := by decide +kernel
theorem dX5_unlikeByOrder_71 : decode cX5_unlikeByOrder 71 = .ok (.dup2, 1) := by decide +kernel
theorem dX5_unlikeByOrder_72 : decode cX5_unlikeByOrder 72 = .ok (.iaload, 1) := by decide +kernel
theorem dX5_unlikeByOrder_73 : decode cX5_unlikeByOrder 73 = .ok (.iload 4, 2) := by decide +kernel
theorem dX5_unlikeByOrder_75 : decode cX5_unlikeByOrder 75 = .ok (.ior, 1) := by decide +kernel
theorem dX5_unlikeByOrder_76 : decode cX5_unlikeByOrder 76 = .ok (.iastore, 1) := by decide +kernel
theorem dX5_unlikeByOrder_77 : decode cX5_unlikeByOrder 77 = .ok (.iinc 5 1, 3) := by decide +kernel
theorem dX5_unlikeByOrder_80 : decode cX5_unlikeByOrder 80 = .ok (.goto (-58), 3) := by decide +kernel
theorem dX5_unlikeByOrder_83 : decode cX5_unlikeByOrder 83 = .ok (.aload_n 0, 1) := by decide +kernel
theorem dX5_unlikeByOrder_84 : decode cX5_unlikeByOrder 84 = .ok (.invokevirtual 119, 3) := by decide +kernel
theorem dX5_unlikeByOrder_87 : decode cX5_unlikeByOrder 87 = .ok (.ireturn, 1) := by decide +kernel
def X5_unlikeByOrder_b60 (cp : Nat) (k22 : Int32 → Int32 → Int32 → Int32 → Int32 → Wd → Option (Int32 × Wd)) (y1 : Int32) (y2 : Int32) (y3 : Int32) (y4 : Int32) (y5 : Int32) (w : Wd) : Option (Int32 × Wd) :=
  if inb y5 5760 = true then
  (if inb (w.1 17 (Int32.toNatClampNeg y5)) cp = true then
  (if inb (w.1 17 (Int32.toNatClampNeg y5)) cp = true then
  (lt (wI w 20 (Int32.toNatClampNeg (w.1 17 (Int32.toNatClampNeg y5))) ((w.1 20 (Int32.toNatClampNeg (w.1 17 (Int32.toNatClampNeg y5)))) ||| y4)) fun w6 =>
  k22 y1 y2 y3 y4 (y5 + 1) w6)
  else none)
  else none)
  else none
set_option maxRecDepth 100000 in
set_option maxHeartbeats 4000000 in
theorem t_X5_unlikeByOrder_b60 {Z : Cz (Int32 × Wd)} (hZ : OKZ Z SC cX5_unlikeByOrder RX5 6 (some .int) 3) (hE : EndI Z) (k22 : Int32 → Int32 → Int32 → Int32 → Int32 → Wd → Option (Int32 × Wd)) (hk22 : ∀ (y1 : Int32) (y2 : Int32) (y3 : Int32) (y4 : Int32) (y5 : Int32)  (w : Wd), BW Z 6 22 [(0, .ref (ph (zY Z) 16)), (1, .int y1), (2, .int y2), (3, .int y3), (4, .int y4), (5, .int y5)] [] w (k22 y1 y2 y3 y4 y5 w)) (y1 : Int32) (y2 : Int32) (y3 : Int32) (y4 : Int32) (y5 : Int32)  (w : Wd) : BW Z 6 60 [(0, .ref (ph (zY Z) 16)), (1, .int y1), (2, .int y2), (3, .int y3), (4, .int y4), (5, .int y5)] [] w (X5_unlikeByOrder_b60 (yc (zY Z)) k22 y1 y2 y3 y4 y5 w) :=
  bw_aload_n hZ 0 rfl dX5_unlikeByOrder_60 <|
  bw_getR hZ fl_RX5_25 obC_16 rfl dX5_unlikeByOrder_61 <|
  bw_aload_n hZ 0 rfl dX5_unlikeByOrder_64 <|
  bw_getR hZ fl_RX5_9 obC_16 rfl dX5_unlikeByOrder_65 <|
  bw_iload hZ 5 rfl dX5_unlikeByOrder_68 <|
  bw_iald hZ (arC_17 _) dX5_unlikeByOrder_70 <|
  bw_dup2 hZ rfl rfl dX5_unlikeByOrder_71 <|
  bw_iald hZ (arC_20 _) dX5_unlikeByOrder_72 <|
  bw_iload hZ 4 rfl dX5_unlikeByOrder_73 <|
  bw_ior hZ dX5_unlikeByOrder_75 <|
  bw_iast hZ (arC_20 _) dX5_unlikeByOrder_76 fun w6 =>
  bw_iinc hZ 1 5 rfl (by decide) (by decide) rfl dX5_unlikeByOrder_77 <|
  bw_goto hZ (tgt := 22) (by decide) dX5_unlikeByOrder_80 <|
  bw_sub [1, 2, 3, 4, 5, 0] rfl (hk22 y1 y2 y3 y4 (y5 + 1) w6)
def X5_unlikeByOrder_b22 (cp : Nat) (k22 : Int32 → Int32 → Int32 → Int32 → Int32 → Wd → Option (Int32 × Wd)) (y1 : Int32) (y2 : Int32) (y3 : Int32) (y4 : Int32) (y5 : Int32) (w : Wd) : Option (Int32 × Wd) :=
  if y3 ≤ y5 then
  (cl (f_X5_greaterOfAnswers cp w) fun r5 w4 =>
  some (r5, w4))
  else
  if (y5 - y5 / 8 * 8) = 0 then
  (cl (f_X2_isAhead (y5 / 8) y1 y2 w) fun r8 w7 =>
  if r8 = 0 then
  (X5_unlikeByOrder_b60 cp k22 y1 y2 y3 2 y5 w7)
  else
  X5_unlikeByOrder_b60 cp k22 y1 y2 y3 1 y5 w7)
  else
  X5_unlikeByOrder_b60 cp k22 y1 y2 y3 y4 y5 w
set_option maxRecDepth 100000 in
set_option maxHeartbeats 4000000 in
theorem t_X5_unlikeByOrder_b22 {Z : Cz (Int32 × Wd)} (hZ : OKZ Z SC cX5_unlikeByOrder RX5 6 (some .int) 3) (hE : EndI Z) (k22 : Int32 → Int32 → Int32 → Int32 → Int32 → Wd → Option (Int32 × Wd)) (hk22 : ∀ (y1 : Int32) (y2 : Int32) (y3 : Int32) (y4 : Int32) (y5 : Int32)  (w : Wd), BW Z 6 22 [(0, .ref (ph (zY Z) 16)), (1, .int y1), (2, .int y2), (3, .int y3), (4, .int y4), (5, .int y5)] [] w (k22 y1 y2 y3 y4 y5 w)) (y1 : Int32) (y2 : Int32) (y3 : Int32) (y4 : Int32) (y5 : Int32)  (w : Wd) : BW Z 6 22 [(0, .ref (ph (zY Z) 16)), (1, .int y1), (2, .int y2), (3, .int y3), (4, .int y4), (5, .int y5)] [] w (X5_unlikeByOrder_b22 (yc (zY Z)) k22 y1 y2 y3 y4 y5 w) :=
  bw_iload hZ 5 rfl dX5_unlikeByOrder_22 <|
  bw_iload_n hZ 3 rfl dX5_unlikeByOrder_24 <|
  bw_icmp_ge hZ (tgt := 83) (by decide) dX5_unlikeByOrder_25 (fun _ =>
  bw_aload_n hZ 0 rfl dX5_unlikeByOrder_83 <|
  bw_callVI (As := []) hZ ml_RX5_119 rc_5 obC_16 (by decide) (c_X5_greaterOfAnswers (zl Z) (zY Z) (hZ_S hZ) w) rfl rfl (Nat.le_of_ble_eq_true rfl) dX5_unlikeByOrder_84 fun r5 w4 =>
  bw_iret hZ hE dX5_unlikeByOrder_87) (fun _ =>
  bw_iload hZ 5 rfl dX5_unlikeByOrder_28 <|
  bw_bipush hZ 8 (by decide) dX5_unlikeByOrder_30 <|
  bw_iremN hZ (by decide) dX5_unlikeByOrder_32 <|
  bw_if_ne hZ (tgt := 60) (by decide) dX5_unlikeByOrder_33 (fun _ =>
  bw_sub [0, 1, 2, 3, 4, 5] rfl (t_X5_unlikeByOrder_b60 hZ hE k22 hk22 y1 y2 y3 y4 y5 w)) (fun _ =>
  bw_aload_n hZ 0 rfl dX5_unlikeByOrder_36 <|
  bw_getR hZ fl_RX5_34 obC_16 rfl dX5_unlikeByOrder_37 <|
  bw_iload hZ 5 rfl dX5_unlikeByOrder_40 <|
  bw_bipush hZ 8 (by decide) dX5_unlikeByOrder_42 <|
  bw_idivN hZ (by decide) dX5_unlikeByOrder_44 <|
  bw_iload_n hZ 1 rfl dX5_unlikeByOrder_45 <|
  bw_iload_n hZ 2 rfl dX5_unlikeByOrder_46 <|
  bw_callVI (As := [.int (y5 / 8), .int y1, .int y2]) hZ ml_RX5_122 rc_2 obC_3 (by decide) (c_X2_isAhead (zl Z) (zY Z) (hZ_S hZ) (y5 / 8) y1 y2 w) rfl rfl (Nat.le_of_ble_eq_true rfl) dX5_unlikeByOrder_47 fun r8 w7 =>
  bw_if_eq hZ (tgt := 57) (by decide) dX5_unlikeByOrder_50 (fun _ =>
  bw_iconst hZ 2 (by decide) dX5_unlikeByOrder_57 <|
  bw_istore hZ (by decide) rfl dX5_unlikeByOrder_58 <|
  bw_sub [1, 2, 3, 4, 0, 5] rfl (t_X5_unlikeByOrder_b60 hZ hE k22 hk22 y1 y2 y3 2 y5 w7)) (fun _ =>
  bw_iconst hZ 1 (by decide) dX5_unlikeByOrder_53 <|
  bw_goto hZ (tgt := 58) (by decide) dX5_unlikeByOrder_54 <|
  bw_istore hZ (by decide) rfl dX5_unlikeByOrder_58 <|
  bw_sub [1, 2, 3, 4, 0, 5] rfl (t_X5_unlikeByOrder_b60 hZ hE k22 hk22 y1 y2 y3 1 y5 w7))))
def X5_unlikeByOrder_b22_L (cp : Nat) : Int32 → Int32 → Int32 → Int32 → Int32 → Wd → Option (Int32 × Wd) :=
  lp fu (fun _ _ _ _ _ _ => none) (fun k22 => X5_unlikeByOrder_b22 cp k22)
theorem t_X5_unlikeByOrder_b22_L {Z : Cz (Int32 × Wd)} (hZ : OKZ Z SC cX5_unlikeByOrder RX5 6 (some .int) 3) (hE : EndI Z)  : ∀ (y1 : Int32) (y2 : Int32) (y3 : Int32) (y4 : Int32) (y5 : Int32)  (w : Wd), BW Z 6 22 [(0, .ref (ph (zY Z) 16)), (1, .int y1), (2, .int y2), (3, .int y3), (4, .int y4), (5, .int y5)] [] w (X5_unlikeByOrder_b22_L (yc (zY Z)) y1 y2 y3 y4 y5 w) :=
  lp_bw (fun k22 => ∀ (y1 : Int32) (y2 : Int32) (y3 : Int32) (y4 : Int32) (y5 : Int32)  (w : Wd), BW Z 6 22 [(0, .ref (ph (zY Z) 16)), (1, .int y1), (2, .int y2), (3, .int y3), (4, .int y4), (5, .int y5)] [] w (k22 y1 y2 y3 y4 y5 w)) (fun _ _ _ _ _ _ => bw_none) (fun k22 hk22 y1 y2 y3 y4 y5 w => t_X5_unlikeByOrder_b22 hZ hE k22 hk22 y1 y2 y3 y4 y5 w) fu
def f_X5_unlikeByOrder (cp : Nat) (x1 : Int32) (x2 : Int32) (w : Wd) : Option (Int32 × Wd) :=
  cv (f_J7_fill_53178 20 cp 0 w) fun w1 =>
  cl (f_X2_waysFound w1) fun r3 w2 =>
  X5_unlikeByOrder_b22_L cp x1 x2 r3 0 0 w2
set_option maxRecDepth 100000 in
set_option maxHeartbeats 4000000 in
theorem t_X5_unlikeByOrder {Z : Cz (Int32 × Wd)} (hZ : OKZ Z SC cX5_unlikeByOrder RX5 6 (some .int) 3) (hE : EndI Z) (x1 : Int32) (x2 : Int32)  (w : Wd) : BW Z 6 0 [(0, .ref (ph (zY Z) 16)), (1, .int x1), (2, .int x2)] [] w (f_X5_unlikeByOrder (yc (zY Z)) x1 x2 w) :=
  bw_aload_n hZ 0 rfl dX5_unlikeByOrder_0 <|
  bw_getR hZ fl_RX5_25 obC_16 rfl dX5_unlikeByOrder_1 <|
  bw_iconst hZ 0 (by decide) dX5_unlikeByOrder_4 <|
  bw_callSV (As := [.ref (ph (zY Z) 20), .int 0]) hZ ms_RX5_50 (by decide) (c_J7_fill_53178 (zl Z) (zY Z) (hZ_S hZ) 20 (yc (zY Z)) 0 (arC_20 _) w) rfl rfl (Nat.le_of_ble_eq_true rfl) dX5_unlikeByOrder_5 fun w1 =>
  bw_aload_n hZ 0 rfl dX5_unlikeByOrder_8 <|
  bw_getR hZ fl_RX5_34 obC_16 rfl dX5_unlikeByOrder_9 <|
  bw_callVI (As := []) hZ ml_RX5_56 rc_2 obC_3 (by decide) (c_X2_waysFound (zl Z) (zY Z) (hZ_S hZ) w1) rfl rfl (Nat.le_of_ble_eq_true rfl) dX5_unlikeByOrder_12 fun r3 w2 =>
  bw_istore_n hZ rfl (by decide) rfl dX5_unlikeByOrder_15 <|
  bw_iconst hZ 0 (by decide) dX5_unlikeByOrder_16 <|
  bw_istore hZ (by decide) rfl dX5_unlikeByOrder_17 <|
  bw_iconst hZ 0 (by decide) dX5_unlikeByOrder_19 <|
  bw_istore hZ (by decide) rfl dX5_unlikeByOrder_20 <|
  bw_sub [3, 4, 5, 2, 1, 0] rfl (t_X5_unlikeByOrder_b22_L hZ hE x1 x2 r3 0 0 w2)
theorem c_X5_unlikeByOrder (l : Launch) (Y : Ev) (hY : Y.1 = SC) (x1 : Int32) (x2 : Int32)  (w : Wd) : CI l Y yX5_unlikeByOrder cX5_unlikeByOrder 6 3 [.ref (ph Y 16), .int x1, .int x2] w .int (f_X5_unlikeByOrder (yc Y) x1 x2 w) := by
  refine CI_of (S := SC) (by decide) (Nat.le_of_ble_eq_true rfl) hY ?_
  intro Z hl hY2 hZ hE
  subst hY2
  exact t_X5_unlikeByOrder hZ hE x1 x2 w
-- WhichWill$Outcomes.bestQuestion
theorem dX5_bestQuestion_0 : decode cX5_bestQuestion 0 = .ok (.iconst (-1), 1) := by decide +kernel
theorem dX5_bestQuestion_1 : decode cX5_bestQuestion 1 = .ok (.istore_n 1, 1) := by decide +kernel
theorem dX5_bestQuestion_2 : decode cX5_bestQuestion 2 = .ok (.aload_n 0, 1) := by decide +kernel
theorem dX5_bestQuestion_3 : decode cX5_bestQuestion 3 = .ok (.getfield 47, 3) := by decide +kernel
theorem dX5_bestQuestion_6 : decode cX5_bestQuestion 6 = .ok (.istore_n 2, 1) := by decide +kernel
theorem dX5_bestQuestion_7 : decode cX5_bestQuestion 7 = .ok (.iconst 0, 1) := by decide +kernel
theorem dX5_bestQuestion_8 : decode cX5_bestQuestion 8 = .ok (.istore_n 3, 1) := by decide +kernel
theorem dX5_bestQuestion_9 : decode cX5_bestQuestion 9 = .ok (.iload_n 3, 1) := by decide +kernel
theorem dX5_bestQuestion_10 : decode cX5_bestQuestion 10 = .ok (.iconst 3, 1) := by decide +kernel
theorem dX5_bestQuestion_11 : decode cX5_bestQuestion 11 = .ok (.if_icmp .ge 27, 3) := by decide +kernel
theorem dX5_bestQuestion_14 : decode cX5_bestQuestion 14 = .ok (.aload_n 0, 1) := by decide +kernel
theorem dX5_bestQuestion_15 : decode cX5_bestQuestion 15 = .ok (.iload_n 3, 1) := by decide +kernel
theorem dX5_bestQuestion_16 : decode cX5_bestQuestion 16 = .ok (.invokevirtual 109, 3) := by decide +kernel
theorem dX5_bestQuestion_19 : decode cX5_bestQuestion 19 = .ok (.istore 4, 2) := by decide +kernel
theorem dX5_bestQuestion_21 : decode cX5_bestQuestion 21 = .ok (.iload 4, 2) := by decide +kernel
theorem dX5_bestQuestion_23 : decode cX5_bestQuestion 23 = .ok (.iload_n 2, 1) := by decide +kernel
theorem dX5_bestQuestion_24 : decode cX5_bestQuestion 24 = .ok (.if_icmp .ge 8, 3) := by decide +kernel
theorem dX5_bestQuestion_27 : decode cX5_bestQuestion 27 = .ok (.iload 4, 2) := by decide +kernel
theorem dX5_bestQuestion_29 : decode cX5_bestQuestion 29 = .ok (.istore_n 2, 1) := by decide +kernel
theorem dX5_bestQuestion_30 : decode cX5_bestQuestion 30 = .ok (.iload_n 3, 1) := by decide +kernel
theorem dX5_bestQuestion_31 : decode cX5_bestQuestion 31 = .ok (.istore_n 1, 1) := by decide +kernel
theorem dX5_bestQuestion_32 : decode cX5_bestQuestion 32 = .ok (.iinc 3 1, 3) := by decide +kernel
theorem dX5_bestQuestion_35 : decode cX5_bestQuestion 35 = .ok (.goto (-26), 3) := by decide +kernel
theorem dX5_bestQuestion_38 : decode cX5_bestQuestion 38 = .ok (.aload_n 0, 1) := by decide +kernel
theorem dX5_bestQuestion_39 : decode cX5_bestQuestion 39 = .ok (.getfield 34, 3) := by decide +kernel
theorem dX5_bestQuestion_42 : decode cX5_bestQuestion 42 = .ok (.invokevirtual 113, 3) := by decide +kernel
theorem dX5_bestQuestion_45 : decode cX5_bestQuestion 45 = .ok (.istore_n 3, 1) := by decide +kernel
theorem dX5_bestQuestion_46 : decode cX5_bestQuestion 46 = .ok (.iconst 0, 1) := by decide +kernel
theorem dX5_bestQuestion_47 : decode cX5_bestQuestion 47 = .ok (.istore 4, 2) := by decide +kernel
theorem dX5_bestQuestion_49 : decode cX5_bestQuestion 49 = .ok (.iload 4, 2) := by decide +kernel
theorem dX5_bestQuestion_51 : decode cX5_bestQuestion 51 = .ok (.iload_n 3, 1) := by decide +kernel
theorem dX5_bestQuestion_52 : decode cX5_bestQuestion 52 = .ok (.if_icmp .ge 58, 3) := by decide +kernel
theorem dX5_bestQuestion_55 : decode cX5_bestQuestion 55 = .ok (.iload 4, 2) := by decide +kernel
theorem dX5_bestQuestion_57 : decode cX5_bestQuestion 57 = .ok (.iconst 1, 1) := by decide +kernel
theorem dX5_bestQuestion_58 : decode cX5_bestQuestion 58 = .ok (.iadd, 1) := by decide +kernel
theorem dX5_bestQuestion_59 : decode cX5_bestQuestion 59 = .ok (.istore 5, 2) := by decide +kernel
theorem dX5_bestQuestion_61 : decode cX5_bestQuestion 61 = .ok (.iload 5, 2) := by decide +kernel
theorem dX5_bestQuestion_63 : decode cX5_bestQuestion 63 = .ok (.iload_n 3, 1) := by decide +kernel
theorem dX5_bestQuestion_64 : decode cX5_bestQuestion 64 = .ok (.if_icmp .ge 40, 3) := by decide +kernel
theorem dX5_bestQuestion_67 : decode cX5_bestQuestion 67 = .ok (.aload_n 0, 1) := by decide +kernel
theorem dX5_bestQuestion_68 : decode cX5_bestQuestion 68 = .ok (.iload 4, 2) := by decide +kernel
theorem dX5_bestQuestion_70 : decode cX5_bestQuestion 70 = .ok (.iload 5, 2) := by decide +kernel
theorem dX5_bestQuestion_72 : decode cX5_bestQuestion 72 = .ok (.invokevirtual 116, 3) := by decide +kernel
theorem dX5_bestQuestion_75 : decode cX5_bestQuestion 75 = .ok (.istore 6, 2) := by decide +kernel
theorem dX5_bestQuestion_77 : decode cX5_bestQuestion 77 = .ok (.iload 6, 2) := by decide +kernel
theorem dX5_bestQuestion_79 : decode cX5_bestQuestion 79 = .ok (.iload_n 2, 1) := by decide +kernel
theorem dX5_bestQuestion_80 : decode cX5_bestQuestion 80 = .ok (.if_icmp .ge 18, 3) := by decide +kernel
theorem dX5_bestQuestion_83 : decode cX5_bestQuestion 83 = .ok (.iload 6, 2) := by decide +kernel
theorem dX5_bestQuestion_85 : decode cX5_bestQuestion 85 = .ok (.istore_n 2, 1) := by decide +kernel
theorem dX5_bestQuestion_86 : decode cX5_bestQuestion 86 = .ok (.bipush 10, 2) := by decide +kernel
theorem dX5_bestQuestion_88 : decode cX5_bestQuestion 88 = .ok (.bipush 10, 2) := by decide +kernel
theorem dX5_bestQuestion_90 : decode cX5_bestQuestion 90 = .ok (.iload 4, 2) := by decide +kernel
theorem dX5_bestQuestion_92 : decode cX5_bestQuestion 92 = .ok (.imul, 1) := by decide +kernel
theorem dX5_bestQuestion_93 : decode cX5_bestQuestion 93 = .ok (.iadd, 1) := by decide +kernel
theorem dX5_bestQuestion_94 : decode cX5_bestQuestion 94 = .ok (.iload 5, 2) := by decide +kernel
theorem dX5_bestQuestion_96 : decode cX5_bestQuestion 96 = .ok (.iadd, 1) := by decide +kernel
theorem dX5_bestQuestion_97 : decode cX5_bestQuestion 97 = .ok (.istore_n 1, 1) := by decide +kernel
theorem dX5_bestQuestion_98 : decode cX5_bestQuestion 98 = .ok (.iinc 5 1, 3) := by decide +kernel
theorem dX5_bestQuestion_101 : decode cX5_bestQuestion 101 = .ok (.goto (-40), 3) := by decide +kernel
theorem dX5_bestQuestion_104 : decode cX5_bestQuestion 104 = .ok (.iinc 4 1, 3) := by decide +kernel
theorem dX5_bestQuestion_107 : decode cX5_bestQuestion 107 = .ok (.goto (-58), 3) := by decide +kernel
theorem dX5_bestQuestion_110 : decode cX5_bestQuestion 110 = .ok (.iload_n 1, 1) := by decide +kernel
theorem dX5_bestQuestion_111 : decode cX5_bestQuestion 111 = .ok (.ireturn, 1) := by decide +kernel
def X5_bestQuestion_b61 (cp : Nat) (k49 : Int32 → Int32 → Int32 → Int32 → Wd → Option (Int32 × Wd)) (k61 : Int32 → Int32 → Int32 → Int32 → Int32 → Wd → Option (Int32 × Wd)) (y1 : Int32) (y2 : Int32) (y3 : Int32) (y4 : Int32) (y5 : Int32) (w : Wd) : Option (Int32 × Wd) :=
  if y3 ≤ y5 then
  (k49 y1 y2 y3 (y4 + 1) w)
  else
  cl (f_X5_unlikeByOrder cp y4 y5 w) fun r6 w5 =>
  if y2 ≤ r6 then
  (k61 y1 y2 y3 y4 (y5 + 1) w5)
  else
  lt ((10 + (10 * y4)) + y5) fun v7 =>
  k61 v7 r6 y3 y4 (y5 + 1) w5
set_option maxRecDepth 100000 in
set_option maxHeartbeats 4000000 in
theorem t_X5_bestQuestion_b61 {Z : Cz (Int32 × Wd)} (hZ : OKZ Z SC cX5_bestQuestion RX5 7 (some .int) 4) (hE : EndI Z) (k49 : Int32 → Int32 → Int32 → Int32 → Wd → Option (Int32 × Wd)) (hk49 : ∀ (y1 : Int32) (y2 : Int32) (y3 : Int32) (y4 : Int32)  (w : Wd), BW Z 7 49 [(0, .ref (ph (zY Z) 16)), (1, .int y1), (2, .int y2), (3, .int y3), (4, .int y4)] [] w (k49 y1 y2 y3 y4 w)) (k61 : Int32 → Int32 → Int32 → Int32 → Int32 → Wd → Option (Int32 × Wd)) (hk61 : ∀ (y1 : Int32) (y2 : Int32) (y3 : Int32) (y4 : Int32) (y5 : Int32)  (w : Wd), BW Z 7 61 [(0, .ref (ph (zY Z) 16)), (1, .int y1), (2, .int y2), (3, .int y3), (4, .int y4), (5, .int y5)] [] w (k61 y1 y2 y3 y4 y5 w)) (y1 : Int32) (y2 : Int32) (y3 : Int32) (y4 : Int32) (y5 : Int32)  (w : Wd) : BW Z 7 61 [(0, .ref (ph (zY Z) 16)), (1, .int y1), (2, .int y2), (3, .int y3), (4, .int y4), (5, .int y5)] [] w (X5_bestQuestion_b61 (yc (zY Z)) k49 k61 y1 y2 y3 y4 y5 w) :=
  bw_iload hZ 5 rfl dX5_bestQuestion_61 <|
  bw_iload_n hZ 3 rfl dX5_bestQuestion_63 <|
  bw_icmp_ge hZ (tgt := 104) (by decide) dX5_bestQuestion_64 (fun _ =>
  bw_iinc hZ 1 4 rfl (by decide) (by decide) rfl dX5_bestQuestion_104 <|
  bw_goto hZ (tgt := 49) (by decide) dX5_bestQuestion_107 <|
  bw_sub [1, 2, 3, 4, 0] rfl (hk49 y1 y2 y3 (y4 + 1) w)) (fun _ =>
  bw_aload_n hZ 0 rfl dX5_bestQuestion_67 <|
  bw_iload hZ 4 rfl dX5_bestQuestion_68 <|
  bw_iload hZ 5 rfl dX5_bestQuestion_70 <|
  bw_callVI (As := [.int y4, .int y5]) hZ ml_RX5_116 rc_5 obC_16 (by decide) (c_X5_unlikeByOrder (zl Z) (zY Z) (hZ_S hZ) y4 y5 w) rfl rfl (Nat.le_of_ble_eq_true rfl) dX5_bestQuestion_72 fun r6 w5 =>
  bw_istore hZ (by decide) rfl dX5_bestQuestion_75 <|
  bw_iload hZ 0 rfl dX5_bestQuestion_77 <|
  bw_iload_n hZ 3 rfl dX5_bestQuestion_79 <|
  bw_icmp_ge hZ (tgt := 98) (by decide) dX5_bestQuestion_80 (fun _ =>
  bw_iinc hZ 1 6 rfl (by decide) (by decide) rfl dX5_bestQuestion_98 <|
  bw_goto hZ (tgt := 61) (by decide) dX5_bestQuestion_101 <|
  bw_sub [2, 3, 4, 5, 6, 0] rfl (hk61 y1 y2 y3 y4 (y5 + 1) w5)) (fun _ =>
  bw_iload hZ 0 rfl dX5_bestQuestion_83 <|
  bw_istore_n hZ rfl (by decide) rfl dX5_bestQuestion_85 <|
  bw_bipush hZ 10 (by decide) dX5_bestQuestion_86 <|
  bw_bipush hZ 10 (by decide) dX5_bestQuestion_88 <|
  bw_iload hZ 5 rfl dX5_bestQuestion_90 <|
  bw_imul hZ dX5_bestQuestion_92 <|
  bw_iadd hZ dX5_bestQuestion_93 <|
  bw_iload hZ 6 rfl dX5_bestQuestion_94 <|
  bw_iadd hZ dX5_bestQuestion_96 <|
  bw_nm fun v7 =>
  bw_istore_n hZ rfl (by decide) rfl dX5_bestQuestion_97 <|
  bw_iinc hZ 1 6 rfl (by decide) (by decide) rfl dX5_bestQuestion_98 <|
  bw_goto hZ (tgt := 61) (by decide) dX5_bestQuestion_101 <|
  bw_sub [4, 1, 2, 5, 6, 0] rfl (hk61 v7 r6 y3 y4 (y5 + 1) w5)))
def X5_bestQuestion_b61_L (cp : Nat) (k49 : Int32 → Int32 → Int32 → Int32 → Wd → Option (Int32 × Wd)) : Int32 → Int32 → Int32 → Int32 → Int32 → Wd → Option (Int32 × Wd) :=
  lp fu (fun _ _ _ _ _ _ => none) (fun k61 => X5_bestQuestion_b61 cp k49 k61)
theorem t_X5_bestQuestion_b61_L {Z : Cz (Int32 × Wd)} (hZ : OKZ Z SC cX5_bestQuestion RX5 7 (some .int) 4) (hE : EndI Z) (k49 : Int32 → Int32 → Int32 → Int32 → Wd → Option (Int32 × Wd)) (hk49 : ∀ (y1 : Int32) (y2 : Int32) (y3 : Int32) (y4 : Int32)  (w : Wd), BW Z 7 49 [(0, .ref (ph (zY Z) 16)), (1, .int y1), (2, .int y2), (3, .int y3), (4, .int y4)] [] w (k49 y1 y2 y3 y4 w)) : ∀ (y1 : Int32) (y2 : Int32) (y3 : Int32) (y4 : Int32) (y5 : Int32)  (w : Wd), BW Z 7 61 [(0, .ref (ph (zY Z) 16)), (1, .int y1), (2, .int y2), (3, .int y3), (4, .int y4), (5, .int y5)] [] w (X5_bestQuestion_b61_L (yc (zY Z)) k49 y1 y2 y3 y4 y5 w) :=
  lp_bw (fun k61 => ∀ (y1 : Int32) (y2 : Int32) (y3 : Int32) (y4 : Int32) (y5 : Int32)  (w : Wd), BW Z 7 61 [(0, .ref (ph (zY Z) 16)), (1, .int y1), (2, .int y2), (3, .int y3), (4, .int y4), (5, .int y5)] [] w (k61 y1 y2 y3 y4 y5 w)) (fun _ _ _ _ _ _ => bw_none) (fun k61 hk61 y1 y2 y3 y4 y5 w => t_X5_bestQuestion_b61 hZ hE k49 hk49 k61 hk61 y1 y2 y3 y4 y5 w) fu
def X5_bestQuestion_b49 (cp : Nat) (k49 : Int32 → Int32 → Int32 → Int32 → Wd → Option (Int32 × Wd)) (y1 : Int32) (y2 : Int32) (y3 : Int32) (y4 : Int32) (w : Wd) : Option (Int32 × Wd) :=
  if y3 ≤ y4 then
  (some (y1, w))
  else
  lt (y4 + 1) fun v4 =>
  X5_bestQuestion_b61_L cp k49 y1 y2 y3 y4 v4 w
set_option maxRecDepth 100000 in
set_option maxHeartbeats 4000000 in
theorem t_X5_bestQuestion_b49 {Z : Cz (Int32 × Wd)} (hZ : OKZ Z SC cX5_bestQuestion RX5 7 (some .int) 4) (hE : EndI Z) (k49 : Int32 → Int32 → Int32 → Int32 → Wd → Option (Int32 × Wd)) (hk49 : ∀ (y1 : Int32) (y2 : Int32) (y3 : Int32) (y4 : Int32)  (w : Wd), BW Z 7 49 [(0, .ref (ph (zY Z) 16)), (1, .int y1), (2, .int y2), (3, .int y3), (4, .int y4)] [] w (k49 y1 y2 y3 y4 w)) (y1 : Int32) (y2 : Int32) (y3 : Int32) (y4 : Int32)  (w : Wd) : BW Z 7 49 [(0, .ref (ph (zY Z) 16)), (1, .int y1), (2, .int y2), (3, .int y3), (4, .int y4)] [] w (X5_bestQuestion_b49 (yc (zY Z)) k49 y1 y2 y3 y4 w) :=
  bw_iload hZ 4 rfl dX5_bestQuestion_49 <|
  bw_iload_n hZ 3 rfl dX5_bestQuestion_51 <|
  bw_icmp_ge hZ (tgt := 110) (by decide) dX5_bestQuestion_52 (fun _ =>
  bw_iload_n hZ 1 rfl dX5_bestQuestion_110 <|
  bw_iret hZ hE dX5_bestQuestion_111) (fun _ =>
  bw_iload hZ 4 rfl dX5_bestQuestion_55 <|
  bw_iconst hZ 1 (by decide) dX5_bestQuestion_57 <|
  bw_iadd hZ dX5_bestQuestion_58 <|
  bw_nm fun v4 =>
  bw_istore hZ (by decide) rfl dX5_bestQuestion_59 <|
  bw_sub [1, 2, 3, 4, 5, 0] rfl (t_X5_bestQuestion_b61_L hZ hE k49 hk49 y1 y2 y3 y4 v4 w))
def X5_bestQuestion_b49_L (cp : Nat) : Int32 → Int32 → Int32 → Int32 → Wd → Option (Int32 × Wd) :=
  lp fu (fun _ _ _ _ _ => none) (fun k49 => X5_bestQuestion_b49 cp k49)
theorem t_X5_bestQuestion_b49_L {Z : Cz (Int32 × Wd)} (hZ : OKZ Z SC cX5_bestQuestion RX5 7 (some .int) 4) (hE : EndI Z)  : ∀ (y1 : Int32) (y2 : Int32) (y3 : Int32) (y4 : Int32)  (w : Wd), BW Z 7 49 [(0, .ref (ph (zY Z) 16)), (1, .int y1), (2, .int y2), (3, .int y3), (4, .int y4)] [] w (X5_bestQuestion_b49_L (yc (zY Z)) y1 y2 y3 y4 w) :=
  lp_bw (fun k49 => ∀ (y1 : Int32) (y2 : Int32) (y3 : Int32) (y4 : Int32)  (w : Wd), BW Z 7 49 [(0, .ref (ph (zY Z) 16)), (1, .int y1), (2, .int y2), (3, .int y3), (4, .int y4)] [] w (k49 y1 y2 y3 y4 w)) (fun _ _ _ _ _ => bw_none) (fun k49 hk49 y1 y2 y3 y4 w => t_X5_bestQuestion_b49 hZ hE k49 hk49 y1 y2 y3 y4 w) fu
def X5_bestQuestion_b9 (cp : Nat) (k9 : Int32 → Int32 → Int32 → Wd → Option (Int32 × Wd)) (y1 : Int32) (y2 : Int32) (y3 : Int32) (w : Wd) : Option (Int32 × Wd) :=
  if 3 ≤ y3 then
  (cl (f_X2_itemsTold w) fun r3 w2 =>
  X5_bestQuestion_b49_L cp y1 y2 r3 0 w2)
  else
  cl (f_X5_unlikeByFact cp y3 w) fun r9 w8 =>
  if y2 ≤ r9 then
  (k9 y1 y2 (y3 + 1) w8)
  else
  k9 y3 r9 (y3 + 1) w8
set_option maxRecDepth 100000 in
set_option maxHeartbeats 4000000 in
theorem t_X5_bestQuestion_b9 {Z : Cz (Int32 × Wd)} (hZ : OKZ Z SC cX5_bestQuestion RX5 7 (some .int) 4) (hE : EndI Z) (k9 : Int32 → Int32 → Int32 → Wd → Option (Int32 × Wd)) (hk9 : ∀ (y1 : Int32) (y2 : Int32) (y3 : Int32)  (w : Wd), BW Z 7 9 [(0, .ref (ph (zY Z) 16)), (1, .int y1), (2, .int y2), (3, .int y3)] [] w (k9 y1 y2 y3 w)) (y1 : Int32) (y2 : Int32) (y3 : Int32)  (w : Wd) : BW Z 7 9 [(0, .ref (ph (zY Z) 16)), (1, .int y1), (2, .int y2), (3, .int y3)] [] w (X5_bestQuestion_b9 (yc (zY Z)) k9 y1 y2 y3 w) :=
  bw_iload_n hZ 3 rfl dX5_bestQuestion_9 <|
  bw_iconst hZ 3 (by decide) dX5_bestQuestion_10 <|
  bw_icmp_ge hZ (tgt := 38) (by decide) dX5_bestQuestion_11 (fun _ =>
  bw_aload_n hZ 0 rfl dX5_bestQuestion_38 <|
  bw_getR hZ fl_RX5_34 obC_16 rfl dX5_bestQuestion_39 <|
  bw_callVI (As := []) hZ ml_RX5_113 rc_2 obC_3 (by decide) (c_X2_itemsTold (zl Z) (zY Z) (hZ_S hZ) w) rfl rfl (Nat.le_of_ble_eq_true rfl) dX5_bestQuestion_42 fun r3 w2 =>
  bw_istore_n hZ rfl (by decide) rfl dX5_bestQuestion_45 <|
  bw_iconst hZ 0 (by decide) dX5_bestQuestion_46 <|
  bw_istore hZ (by decide) rfl dX5_bestQuestion_47 <|
  bw_sub [2, 3, 4, 1, 0] rfl (t_X5_bestQuestion_b49_L hZ hE y1 y2 r3 0 w2)) (fun _ =>
  bw_aload_n hZ 0 rfl dX5_bestQuestion_14 <|
  bw_iload_n hZ 3 rfl dX5_bestQuestion_15 <|
  bw_callVI (As := [.int y3]) hZ ml_RX5_109 rc_5 obC_16 (by decide) (c_X5_unlikeByFact (zl Z) (zY Z) (hZ_S hZ) y3 w) rfl rfl (Nat.le_of_ble_eq_true rfl) dX5_bestQuestion_16 fun r9 w8 =>
  bw_istore hZ (by decide) rfl dX5_bestQuestion_19 <|
  bw_iload hZ 0 rfl dX5_bestQuestion_21 <|
  bw_iload_n hZ 3 rfl dX5_bestQuestion_23 <|
  bw_icmp_ge hZ (tgt := 32) (by decide) dX5_bestQuestion_24 (fun _ =>
  bw_iinc hZ 1 4 rfl (by decide) (by decide) rfl dX5_bestQuestion_32 <|
  bw_goto hZ (tgt := 9) (by decide) dX5_bestQuestion_35 <|
  bw_sub [2, 3, 4, 0] rfl (hk9 y1 y2 (y3 + 1) w8)) (fun _ =>
  bw_iload hZ 0 rfl dX5_bestQuestion_27 <|
  bw_istore_n hZ rfl (by decide) rfl dX5_bestQuestion_29 <|
  bw_iload_n hZ 4 rfl dX5_bestQuestion_30 <|
  bw_istore_n hZ rfl (by decide) rfl dX5_bestQuestion_31 <|
  bw_iinc hZ 1 4 rfl (by decide) (by decide) rfl dX5_bestQuestion_32 <|
  bw_goto hZ (tgt := 9) (by decide) dX5_bestQuestion_35 <|
  bw_sub [4, 1, 2, 0] rfl (hk9 y3 r9 (y3 + 1) w8)))
def X5_bestQuestion_b9_L (cp : Nat) : Int32 → Int32 → Int32 → Wd → Option (Int32 × Wd) :=
  lp fu (fun _ _ _ _ => none) (fun k9 => X5_bestQuestion_b9 cp k9)
theorem t_X5_bestQuestion_b9_L {Z : Cz (Int32 × Wd)} (hZ : OKZ Z SC cX5_bestQuestion RX5 7 (some .int) 4) (hE : EndI Z)  : ∀ (y1 : Int32) (y2 : Int32) (y3 : Int32)  (w : Wd), BW Z 7 9 [(0, .ref (ph (zY Z) 16)), (1, .int y1), (2, .int y2), (3, .int y3)] [] w (X5_bestQuestion_b9_L (yc (zY Z)) y1 y2 y3 w) :=
  lp_bw (fun k9 => ∀ (y1 : Int32) (y2 : Int32) (y3 : Int32)  (w : Wd), BW Z 7 9 [(0, .ref (ph (zY Z) 16)), (1, .int y1), (2, .int y2), (3, .int y3)] [] w (k9 y1 y2 y3 w)) (fun _ _ _ _ => bw_none) (fun k9 hk9 y1 y2 y3 w => t_X5_bestQuestion_b9 hZ hE k9 hk9 y1 y2 y3 w) fu
def f_X5_bestQuestion (cp : Nat) (w : Wd) : Option (Int32 × Wd) :=
  lt (w.1 16 1) fun v1 =>
  X5_bestQuestion_b9_L cp ((-1)) v1 0 w
set_option maxRecDepth 100000 in
set_option maxHeartbeats 4000000 in
theorem t_X5_bestQuestion {Z : Cz (Int32 × Wd)} (hZ : OKZ Z SC cX5_bestQuestion RX5 7 (some .int) 4) (hE : EndI Z)   (w : Wd) : BW Z 7 0 [(0, .ref (ph (zY Z) 16))] [] w (f_X5_bestQuestion (yc (zY Z)) w) :=
  bw_iconst hZ (-1) (by decide) dX5_bestQuestion_0 <|
  bw_istore_n hZ rfl (by decide) rfl dX5_bestQuestion_1 <|
  bw_aload_n hZ 1 rfl dX5_bestQuestion_2 <|
  bw_getI hZ fl_RX5_47 (by decide) obC_16 dX5_bestQuestion_3 <|
  bw_nm fun v1 =>
  bw_istore_n hZ rfl (by decide) rfl dX5_bestQuestion_6 <|
  bw_iconst hZ 0 (by decide) dX5_bestQuestion_7 <|
  bw_istore_n hZ rfl (by decide) rfl dX5_bestQuestion_8 <|
  bw_sub [3, 2, 1, 0] rfl (t_X5_bestQuestion_b9_L hZ hE ((-1)) v1 0 w)
theorem c_X5_bestQuestion (l : Launch) (Y : Ev) (hY : Y.1 = SC)   (w : Wd) : CI l Y yX5_bestQuestion cX5_bestQuestion 7 4 [.ref (ph Y 16)] w .int (f_X5_bestQuestion (yc Y) w) := by
  refine CI_of (S := SC) (by decide) (Nat.le_of_ble_eq_true rfl) hY ?_
  intro Z hl hY2 hZ hE
  subst hY2
  exact t_X5_bestQuestion hZ hE w
-- WhichWill$Paper.clear
theorem dX6_clear_0 : decode cX6_clear 0 = .ok (.aload_n 0, 1) := by decide +kernel
theorem dX6_clear_1 : decode cX6_clear 1 = .ok (.iconst 0, 1) := by decide +kernel
theorem dX6_clear_2 : decode cX6_clear 2 = .ok (.putfield 27, 3) := by decide +kernel
theorem dX6_clear_5 : decode cX6_clear 5 = .ok (.aload_n 0, 1) := by decide +kernel
theorem dX6_clear_6 : decode cX6_clear 6 = .ok (.sipush 9999, 3) := by decide +kernel
theorem dX6_clear_9 : decode cX6_clear 9 = .ok (.putfield 31, 3) := by decide +kernel
theorem dX6_clear_12 : decode cX6_clear 12 = .ok (.aload_n 0, 1) := by decide +kernel
theorem dX6_clear_13 : decode cX6_clear 13 = .ok (.iconst 0, 1) := by decide +kernel
theorem dX6_clear_14 : decode cX6_clear 14 = .ok (.putfield 34, 3) := by decide +kernel
theorem dX6_clear_17 : decode cX6_clear 17 = .ok (.aload_n 0, 1) := by decide +kernel
theorem dX6_clear_18 : decode cX6_clear 18 = .ok (.iconst 0, 1) := by decide +kernel
theorem dX6_clear_19 : decode cX6_clear 19 = .ok (.putfield 37, 3) := by decide +kernel
theorem dX6_clear_22 : decode cX6_clear 22 = .ok (.aload_n 0, 1) := by decide +kernel
theorem dX6_clear_23 : decode cX6_clear 23 = .ok (.iconst 0, 1) := by decide +kernel
theorem dX6_clear_24 : decode cX6_clear 24 = .ok (.putfield 40, 3) := by decide +kernel
theorem dX6_clear_27 : decode cX6_clear 27 = .ok (.aload_n 0, 1) := by decide +kernel
theorem dX6_clear_28 : decode cX6_clear 28 = .ok (.iconst 0, 1) := by decide +kernel
theorem dX6_clear_29 : decode cX6_clear 29 = .ok (.putfield 44, 3) := by decide +kernel
theorem dX6_clear_32 : decode cX6_clear 32 = .ok (.aload_n 0, 1) := by decide +kernel
theorem dX6_clear_33 : decode cX6_clear 33 = .ok (.iconst 0, 1) := by decide +kernel
theorem dX6_clear_34 : decode cX6_clear 34 = .ok (.putfield 47, 3) := by decide +kernel
theorem dX6_clear_37 : decode cX6_clear 37 = .ok (.aload_n 0, 1) := by decide +kernel
theorem dX6_clear_38 : decode cX6_clear 38 = .ok (.iconst (-1), 1) := by decide +kernel
theorem dX6_clear_39 : decode cX6_clear 39 = .ok (.putfield 50, 3) := by decide +kernel
theorem dX6_clear_42 : decode cX6_clear 42 = .ok (.aload_n 0, 1) := by decide +kernel
theorem dX6_clear_43 : decode cX6_clear 43 = .ok (.iconst 0, 1) := by decide +kernel
theorem dX6_clear_44 : decode cX6_clear 44 = .ok (.putfield 53, 3) := by decide +kernel
theorem dX6_clear_47 : decode cX6_clear 47 = .ok (.aload_n 0, 1) := by decide +kernel
theorem dX6_clear_48 : decode cX6_clear 48 = .ok (.iconst 0, 1) := by decide +kernel
theorem dX6_clear_49 : decode cX6_clear 49 = .ok (.putfield 56, 3) := by decide +kernel
theorem dX6_clear_52 : decode cX6_clear 52 = .ok (.aload_n 0, 1) := by decide +kernel
theorem dX6_clear_53 : decode cX6_clear 53 = .ok (.iconst 0, 1) := by decide +kernel
theorem dX6_clear_54 : decode cX6_clear 54 = .ok (.putfield 59, 3) := by decide +kernel
theorem dX6_clear_57 : decode cX6_clear 57 = .ok (.aload_n 0, 1) := by decide +kernel
theorem dX6_clear_58 : decode cX6_clear 58 = .ok (.iconst 0, 1) := by decide +kernel
theorem dX6_clear_59 : decode cX6_clear 59 = .ok (.putfield 62, 3) := by decide +kernel
theorem dX6_clear_62 : decode cX6_clear 62 = .ok (.return_, 1) := by decide +kernel
def f_X6_clear (o0 : Nat) (w : Wd) : Option (Wd) :=
  lt (wI w o0 0 0) fun w1 =>
  lt (wI w1 o0 1 9999) fun w2 =>
  lt (wI w2 o0 2 0) fun w3 =>
  lt (wI w3 o0 3 0) fun w4 =>
  lt (wI w4 o0 4 0) fun w5 =>
  lt (wI w5 o0 5 0) fun w6 =>
  lt (wI w6 o0 6 0) fun w7 =>
  lt (wI w7 o0 7 ((-1))) fun w8 =>
  lt (wI w8 o0 8 0) fun w9 =>
  lt (wI w9 o0 14 0) fun w10 =>
  lt (wI w10 o0 15 0) fun w11 =>
  lt (wI w11 o0 16 0) fun w12 =>
  some w12
set_option maxRecDepth 100000 in
set_option maxHeartbeats 4000000 in
theorem t_X6_clear {Z : Cz (Wd)} (hZ : OKZ Z SC cX6_clear RX6 1 none 1) (hE : EndV Z) (o0 : Nat) (ho0 : IsP o0) (w : Wd) : BW Z 1 0 [(0, .ref (ph (zY Z) o0))] [] w (f_X6_clear o0 w) :=
  bw_aload_n hZ 0 rfl dX6_clear_0 <|
  bw_iconst hZ 0 (by decide) dX6_clear_1 <|
  bw_putI hZ fl_RX6_27 rfl rfl (by decide) (obP ho0) dX6_clear_2 fun w1 =>
  bw_aload_n hZ 0 rfl dX6_clear_5 <|
  bw_sipush hZ 9999 (by decide) dX6_clear_6 <|
  bw_putI hZ fl_RX6_31 rfl rfl (by decide) (obP ho0) dX6_clear_9 fun w2 =>
  bw_aload_n hZ 0 rfl dX6_clear_12 <|
  bw_iconst hZ 0 (by decide) dX6_clear_13 <|
  bw_putI hZ fl_RX6_34 rfl rfl (by decide) (obP ho0) dX6_clear_14 fun w3 =>
  bw_aload_n hZ 0 rfl dX6_clear_17 <|
  bw_iconst hZ 0 (by decide) dX6_clear_18 <|
  bw_putI hZ fl_RX6_37 rfl rfl (by decide) (obP ho0) dX6_clear_19 fun w4 =>
  bw_aload_n hZ 0 rfl dX6_clear_22 <|
  bw_iconst hZ 0 (by decide) dX6_clear_23 <|
  bw_putI hZ fl_RX6_40 rfl rfl (by decide) (obP ho0) dX6_clear_24 fun w5 =>
  bw_aload_n hZ 0 rfl dX6_clear_27 <|
  bw_iconst hZ 0 (by decide) dX6_clear_28 <|
  bw_putI hZ fl_RX6_44 rfl rfl (by decide) (obP ho0) dX6_clear_29 fun w6 =>
  bw_aload_n hZ 0 rfl dX6_clear_32 <|
  bw_iconst hZ 0 (by decide) dX6_clear_33 <|
  bw_putI hZ fl_RX6_47 rfl rfl (by decide) (obP ho0) dX6_clear_34 fun w7 =>
  bw_aload_n hZ 0 rfl dX6_clear_37 <|
  bw_iconst hZ (-1) (by decide) dX6_clear_38 <|
  bw_putI hZ fl_RX6_50 rfl rfl (by decide) (obP ho0) dX6_clear_39 fun w8 =>
  bw_aload_n hZ 0 rfl dX6_clear_42 <|
  bw_iconst hZ 0 (by decide) dX6_clear_43 <|
  bw_putI hZ fl_RX6_53 rfl rfl (by decide) (obP ho0) dX6_clear_44 fun w9 =>
  bw_aload_n hZ 0 rfl dX6_clear_47 <|
  bw_iconst hZ 0 (by decide) dX6_clear_48 <|
  bw_putI hZ fl_RX6_56 rfl rfl (by decide) (obP ho0) dX6_clear_49 fun w10 =>
  bw_aload_n hZ 0 rfl dX6_clear_52 <|
  bw_iconst hZ 0 (by decide) dX6_clear_53 <|
  bw_putI hZ fl_RX6_59 rfl rfl (by decide) (obP ho0) dX6_clear_54 fun w11 =>
  bw_aload_n hZ 0 rfl dX6_clear_57 <|
  bw_iconst hZ 0 (by decide) dX6_clear_58 <|
  bw_putI hZ fl_RX6_62 rfl rfl (by decide) (obP ho0) dX6_clear_59 fun w12 =>
  bw_vret hZ hE dX6_clear_62
theorem c_X6_clear (l : Launch) (Y : Ev) (hY : Y.1 = SC) (o0 : Nat) (ho0 : IsP o0) (w : Wd) : CV l Y yX6_clear cX6_clear 1 1 [.ref (ph Y o0)] w (f_X6_clear o0 w) := by
  refine CV_of (S := SC) (by decide) (Nat.le_of_ble_eq_true rfl) hY ?_
  intro Z hl hY2 hZ hE
  subst hY2
  exact t_X6_clear hZ hE o0 ho0 w
-- WhichWill$Paper.passOnce
theorem dX6_passOnce_0 : decode cX6_passOnce 0 = .ok (.aload_n 0, 1) := by decide +kernel
theorem dX6_passOnce_1 : decode cX6_passOnce 1 = .ok (.iload_n 2, 1) := by decide +kernel
theorem dX6_passOnce_2 : decode cX6_passOnce 2 = .ok (.invokevirtual 147, 3) := by decide +kernel
theorem dX6_passOnce_5 : decode cX6_passOnce 5 = .ok (.ifCond .eq 8, 3) := by decide +kernel
theorem dX6_passOnce_8 : decode cX6_passOnce 8 = .ok (.aload_n 1, 1) := by decide +kernel
theorem dX6_passOnce_9 : decode cX6_passOnce 9 = .ok (.iconst 3, 1) := by decide +kernel
theorem dX6_passOnce_10 : decode cX6_passOnce 10 = .ok (.invokevirtual 143, 3) := by decide +kernel
theorem dX6_passOnce_13 : decode cX6_passOnce 13 = .ok (.aload_n 0, 1) := by decide +kernel
theorem dX6_passOnce_14 : decode cX6_passOnce 14 = .ok (.dup, 1) := by decide +kernel
theorem dX6_passOnce_15 : decode cX6_passOnce 15 = .ok (.getfield 56, 3) := by decide +kernel
theorem dX6_passOnce_18 : decode cX6_passOnce 18 = .ok (.iload_n 2, 1) := by decide +kernel
theorem dX6_passOnce_19 : decode cX6_passOnce 19 = .ok (.ior, 1) := by decide +kernel
theorem dX6_passOnce_20 : decode cX6_passOnce 20 = .ok (.putfield 56, 3) := by decide +kernel
theorem dX6_passOnce_23 : decode cX6_passOnce 23 = .ok (.aload_n 1, 1) := by decide +kernel
theorem dX6_passOnce_24 : decode cX6_passOnce 24 = .ok (.invokevirtual 151, 3) := by decide +kernel
theorem dX6_passOnce_27 : decode cX6_passOnce 27 = .ok (.return_, 1) := by decide +kernel
def X6_passOnce_b13 (y0 : Nat) (y2 : Int32) (w : Wd) : Option (Wd) :=
  lt (wI w y0 14 ((w.1 y0 14) ||| y2)) fun w3 =>
  cv (f_X10_step w3) fun w4 =>
  some w4
set_option maxRecDepth 100000 in
set_option maxHeartbeats 4000000 in
theorem t_X6_passOnce_b13 {Z : Cz (Wd)} (hZ : OKZ Z SC cX6_passOnce RX6 3 none 2) (hE : EndV Z)  (y0 : Nat) (y2 : Int32) (hy0 : IsP y0) (w : Wd) : BW Z 3 13 [(0, .ref (ph (zY Z) y0)), (1, .ref (ph (zY Z) 1)), (2, .int y2)] [] w (X6_passOnce_b13 y0 y2 w) :=
  bw_aload_n hZ 0 rfl dX6_passOnce_13 <|
  bw_dup hZ rfl dX6_passOnce_14 <|
  bw_getI hZ fl_RX6_56 (by decide) (obP hy0) dX6_passOnce_15 <|
  bw_iload_n hZ 2 rfl dX6_passOnce_18 <|
  bw_ior hZ dX6_passOnce_19 <|
  bw_putI hZ fl_RX6_56 rfl rfl (by decide) (obP hy0) dX6_passOnce_20 fun w3 =>
  bw_aload_n hZ 1 rfl dX6_passOnce_23 <|
  bw_callVV (As := []) hZ ml_RX6_151 rc_10 obC_1 (by decide) (c_X10_step (zl Z) (zY Z) (hZ_S hZ) w3) rfl rfl (Nat.le_of_ble_eq_true rfl) dX6_passOnce_24 fun w4 =>
  bw_vret hZ hE dX6_passOnce_27
def f_X6_passOnce (o0 : Nat) (x2 : Int32) (w : Wd) : Option (Wd) :=
  cl (f_X6_isMarked o0 x2 w) fun r2 w1 =>
  if r2 = 0 then
  (X6_passOnce_b13 o0 x2 w1)
  else
  cv (f_X10_fail 3 w1) fun w5 =>
  X6_passOnce_b13 o0 x2 w5
set_option maxRecDepth 100000 in
set_option maxHeartbeats 4000000 in
theorem t_X6_passOnce {Z : Cz (Wd)} (hZ : OKZ Z SC cX6_passOnce RX6 3 none 2) (hE : EndV Z) (o0 : Nat) (x2 : Int32) (ho0 : IsP o0) (w : Wd) : BW Z 3 0 [(0, .ref (ph (zY Z) o0)), (1, .ref (ph (zY Z) 1)), (2, .int x2)] [] w (f_X6_passOnce o0 x2 w) :=
  bw_aload_n hZ 0 rfl dX6_passOnce_0 <|
  bw_iload_n hZ 2 rfl dX6_passOnce_1 <|
  bw_callVI (As := [.int x2]) hZ ml_RX6_147 rc_6 (obP ho0) (by decide) (c_X6_isMarked (zl Z) (zY Z) (hZ_S hZ) o0 x2 ho0 w) rfl rfl (Nat.le_of_ble_eq_true rfl) dX6_passOnce_2 fun r2 w1 =>
  bw_if_eq hZ (tgt := 13) (by decide) dX6_passOnce_5 (fun _ =>
  bw_sub [0, 1, 2] rfl (t_X6_passOnce_b13 hZ hE o0 x2 ho0 w1)) (fun _ =>
  bw_aload_n hZ 1 rfl dX6_passOnce_8 <|
  bw_iconst hZ 3 (by decide) dX6_passOnce_9 <|
  bw_callVV (As := [.int 3]) hZ ml_RX6_143 rc_10 obC_1 (by decide) (c_X10_fail (zl Z) (zY Z) (hZ_S hZ) 3 w1) rfl rfl (Nat.le_of_ble_eq_true rfl) dX6_passOnce_10 fun w5 =>
  bw_sub [0, 1, 2] rfl (t_X6_passOnce_b13 hZ hE o0 x2 ho0 w5))
theorem c_X6_passOnce (l : Launch) (Y : Ev) (hY : Y.1 = SC) (o0 : Nat) (x2 : Int32) (ho0 : IsP o0) (w : Wd) : CV l Y yX6_passOnce cX6_passOnce 3 2 [.ref (ph Y o0), .ref (ph Y 1), .int x2] w (f_X6_passOnce o0 x2 w) := by
  refine CV_of (S := SC) (by decide) (Nat.le_of_ble_eq_true rfl) hY ?_
  intro Z hl hY2 hZ hE
  subst hY2
  exact t_X6_passOnce hZ hE o0 x2 ho0 w
-- WhichWill$Paper.readDays
theorem dX6_readDays_0 : decode cX6_readDays 0 = .ok (.aload_n 0, 1) := by decide +kernel
theorem dX6_readDays_1 : decode cX6_readDays 1 = .ok (.aload_n 1, 1) := by decide +kernel
theorem dX6_readDays_2 : decode cX6_readDays 2 = .ok (.bipush 8, 2) := by decide +kernel
theorem dX6_readDays_4 : decode cX6_readDays 4 = .ok (.invokevirtual 99, 3) := by decide +kernel
theorem dX6_readDays_7 : decode cX6_readDays 7 = .ok (.aload_n 0, 1) := by decide +kernel
theorem dX6_readDays_8 : decode cX6_readDays 8 = .ok (.aload_n 1, 1) := by decide +kernel
theorem dX6_readDays_9 : decode cX6_readDays 9 = .ok (.iconst 0, 1) := by decide +kernel
theorem dX6_readDays_10 : decode cX6_readDays 10 = .ok (.sipush 9999, 3) := by decide +kernel
theorem dX6_readDays_13 : decode cX6_readDays 13 = .ok (.invokevirtual 154, 3) := by decide +kernel
theorem dX6_readDays_16 : decode cX6_readDays 16 = .ok (.putfield 27, 3) := by decide +kernel
theorem dX6_readDays_19 : decode cX6_readDays 19 = .ok (.aload_n 0, 1) := by decide +kernel
theorem dX6_readDays_20 : decode cX6_readDays 20 = .ok (.aload_n 1, 1) := by decide +kernel
theorem dX6_readDays_21 : decode cX6_readDays 21 = .ok (.aload_n 0, 1) := by decide +kernel
theorem dX6_readDays_22 : decode cX6_readDays 22 = .ok (.getfield 27, 3) := by decide +kernel
theorem dX6_readDays_25 : decode cX6_readDays 25 = .ok (.sipush 9999, 3) := by decide +kernel
theorem dX6_readDays_28 : decode cX6_readDays 28 = .ok (.invokevirtual 154, 3) := by decide +kernel
theorem dX6_readDays_31 : decode cX6_readDays 31 = .ok (.putfield 31, 3) := by decide +kernel
theorem dX6_readDays_34 : decode cX6_readDays 34 = .ok (.return_, 1) := by decide +kernel
def f_X6_readDays (o0 : Nat) (w : Wd) : Option (Wd) :=
  cv (f_X6_passOnce o0 8 w) fun w1 =>
  cl (f_X10_number 0 9999 w1) fun r3 w2 =>
  lt (wI w2 o0 0 r3) fun w4 =>
  cl (f_X10_number (w4.1 o0 0) 9999 w4) fun r6 w5 =>
  lt (wI w5 o0 1 r6) fun w7 =>
  some w7
set_option maxRecDepth 100000 in
set_option maxHeartbeats 4000000 in
theorem t_X6_readDays {Z : Cz (Wd)} (hZ : OKZ Z SC cX6_readDays RX6 2 none 3) (hE : EndV Z) (o0 : Nat) (ho0 : IsP o0) (w : Wd) : BW Z 2 0 [(0, .ref (ph (zY Z) o0)), (1, .ref (ph (zY Z) 1))] [] w (f_X6_readDays o0 w) :=
  bw_aload_n hZ 0 rfl dX6_readDays_0 <|
  bw_aload_n hZ 1 rfl dX6_readDays_1 <|
  bw_bipush hZ 8 (by decide) dX6_readDays_2 <|
  bw_callVV (As := [.ref (ph (zY Z) 1), .int 8]) hZ ml_RX6_99 rc_6 (obP ho0) (by decide) (c_X6_passOnce (zl Z) (zY Z) (hZ_S hZ) o0 8 ho0 w) rfl rfl (Nat.le_of_ble_eq_true rfl) dX6_readDays_4 fun w1 =>
  bw_aload_n hZ 0 rfl dX6_readDays_7 <|
  bw_aload_n hZ 1 rfl dX6_readDays_8 <|
  bw_iconst hZ 0 (by decide) dX6_readDays_9 <|
  bw_sipush hZ 9999 (by decide) dX6_readDays_10 <|
  bw_callVI (As := [.int 0, .int 9999]) hZ ml_RX6_154 rc_10 obC_1 (by decide) (c_X10_number (zl Z) (zY Z) (hZ_S hZ) 0 9999 w1) rfl rfl (Nat.le_of_ble_eq_true rfl) dX6_readDays_13 fun r3 w2 =>
  bw_putI hZ fl_RX6_27 rfl rfl (by decide) (obP ho0) dX6_readDays_16 fun w4 =>
  bw_aload_n hZ 0 rfl dX6_readDays_19 <|
  bw_aload_n hZ 1 rfl dX6_readDays_20 <|
  bw_aload_n hZ 0 rfl dX6_readDays_21 <|
  bw_getI hZ fl_RX6_27 (by decide) (obP ho0) dX6_readDays_22 <|
  bw_sipush hZ 9999 (by decide) dX6_readDays_25 <|
  bw_callVI (As := [.int (w4.1 o0 0), .int 9999]) hZ ml_RX6_154 rc_10 obC_1 (by decide) (c_X10_number (zl Z) (zY Z) (hZ_S hZ) (w4.1 o0 0) 9999 w4) rfl rfl (Nat.le_of_ble_eq_true rfl) dX6_readDays_28 fun r6 w5 =>
  bw_putI hZ fl_RX6_31 rfl rfl (by decide) (obP ho0) dX6_readDays_31 fun w7 =>
  bw_vret hZ hE dX6_readDays_34
theorem c_X6_readDays (l : Launch) (Y : Ev) (hY : Y.1 = SC) (o0 : Nat) (ho0 : IsP o0) (w : Wd) : CV l Y yX6_readDays cX6_readDays 2 3 [.ref (ph Y o0), .ref (ph Y 1)] w (f_X6_readDays o0 w) := by
  refine CV_of (S := SC) (by decide) (Nat.le_of_ble_eq_true rfl) hY ?_
  intro Z hl hY2 hZ hE
  subst hY2
  exact t_X6_readDays hZ hE o0 ho0 w
-- WhichWill$Tape.need
theorem dX10_need_0 : decode cX10_need 0 = .ok (.aload_n 0, 1) := by decide +kernel
theorem dX10_need_1 : decode cX10_need 1 = .ok (.aload_n 1, 1) := by decide +kernel
theorem dX10_need_2 : decode cX10_need 2 = .ok (.invokevirtual 53, 3) := by decide +kernel
theorem dX10_need_5 : decode cX10_need 5 = .ok (.ifCond .eq 10, 3) := by decide +kernel
theorem dX10_need_8 : decode cX10_need 8 = .ok (.aload_n 0, 1) := by decide +kernel
theorem dX10_need_9 : decode cX10_need 9 = .ok (.invokevirtual 28, 3) := by decide +kernel
theorem dX10_need_12 : decode cX10_need 12 = .ok (.goto 8, 3) := by decide +kernel
theorem dX10_need_15 : decode cX10_need 15 = .ok (.aload_n 0, 1) := by decide +kernel
theorem dX10_need_16 : decode cX10_need 16 = .ok (.iconst 1, 1) := by decide +kernel
theorem dX10_need_17 : decode cX10_need 17 = .ok (.invokevirtual 57, 3) := by decide +kernel
theorem dX10_need_20 : decode cX10_need 20 = .ok (.return_, 1) := by decide +kernel
def f_X10_need (s1 : Nat) (w : Wd) : Option (Wd) :=
  cl (f_X10_is s1 w) fun r2 w1 =>
  if r2 = 0 then
  (cv (f_X10_fail 1 w1) fun w3 =>
  some w3)
  else
  cv (f_X10_step w1) fun w4 =>
  some w4
set_option maxRecDepth 100000 in
set_option maxHeartbeats 4000000 in
theorem t_X10_need {Z : Cz (Wd)} (hZ : OKZ Z SC cX10_need RX10 2 none 6) (hE : EndV Z) (s1 : Nat) (hs1 : s1 < sNum) (w : Wd) : BW Z 2 0 [(0, .ref (ph (zY Z) 1)), (1, .ref (sK (zY Z) s1))] [] w (f_X10_need s1 w) :=
  bw_aload_n hZ 0 rfl dX10_need_0 <|
  bw_aload_n hZ 1 rfl dX10_need_1 <|
  bw_callVI (As := [.ref (sK (zY Z) s1)]) hZ ml_RX10_53 rc_10 obC_1 (by decide) (c_X10_is (zl Z) (zY Z) (hZ_S hZ) s1 hs1 w) rfl rfl (Nat.le_of_ble_eq_true rfl) dX10_need_2 fun r2 w1 =>
  bw_if_eq hZ (tgt := 15) (by decide) dX10_need_5 (fun _ =>
  bw_aload_n hZ 0 rfl dX10_need_15 <|
  bw_iconst hZ 1 (by decide) dX10_need_16 <|
  bw_callVV (As := [.int 1]) hZ ml_RX10_57 rc_10 obC_1 (by decide) (c_X10_fail (zl Z) (zY Z) (hZ_S hZ) 1 w1) rfl rfl (Nat.le_of_ble_eq_true rfl) dX10_need_17 fun w3 =>
  bw_vret hZ hE dX10_need_20) (fun _ =>
  bw_aload_n hZ 0 rfl dX10_need_8 <|
  bw_callVV (As := []) hZ ml_RX10_28 rc_10 obC_1 (by decide) (c_X10_step (zl Z) (zY Z) (hZ_S hZ) w1) rfl rfl (Nat.le_of_ble_eq_true rfl) dX10_need_9 fun w4 =>
  bw_goto hZ (tgt := 20) (by decide) dX10_need_12 <|
  bw_vret hZ hE dX10_need_20)
theorem c_X10_need (l : Launch) (Y : Ev) (hY : Y.1 = SC) (s1 : Nat) (hs1 : s1 < sNum) (w : Wd) : CV l Y yX10_need cX10_need 2 6 [.ref (ph Y 1), .ref (sK Y s1)] w (f_X10_need s1 w) := by
  refine CV_of (S := SC) (by decide) (Nat.le_of_ble_eq_true rfl) hY ?_
  intro Z hl hY2 hZ hE
  subst hY2
  exact t_X10_need hZ hE s1 hs1 w
-- WhichWill$Paper.readIf
theorem dX6_readIf_0 : decode cX6_readIf 0 = .ok (.aload_n 0, 1) := by decide +kernel
theorem dX6_readIf_1 : decode cX6_readIf 1 = .ok (.getfield 21, 3) := by decide +kernel
theorem dX6_readIf_4 : decode cX6_readIf 4 = .ok (.aload_n 0, 1) := by decide +kernel
theorem dX6_readIf_5 : decode cX6_readIf 5 = .ok (.getfield 53, 3) := by decide +kernel
theorem dX6_readIf_8 : decode cX6_readIf 8 = .ok (.iconst 0, 1) := by decide +kernel
theorem dX6_readIf_9 : decode cX6_readIf 9 = .ok (.iastore, 1) := by decide +kernel
theorem dX6_readIf_10 : decode cX6_readIf 10 = .ok (.aload_n 0, 1) := by decide +kernel
theorem dX6_readIf_11 : decode cX6_readIf 11 = .ok (.getfield 24, 3) := by decide +kernel
theorem dX6_readIf_14 : decode cX6_readIf 14 = .ok (.aload_n 0, 1) := by decide +kernel
theorem dX6_readIf_15 : decode cX6_readIf 15 = .ok (.getfield 53, 3) := by decide +kernel
theorem dX6_readIf_18 : decode cX6_readIf 18 = .ok (.iconst (-1), 1) := by decide +kernel
theorem dX6_readIf_19 : decode cX6_readIf 19 = .ok (.iastore, 1) := by decide +kernel
theorem dX6_readIf_20 : decode cX6_readIf 20 = .ok (.aload_n 1, 1) := by decide +kernel
theorem dX6_readIf_21 : decode cX6_readIf 21 = .ok (.ldc 185, 2) := by decide +kernel
theorem dX6_readIf_23 : decode cX6_readIf 23 = .ok (.invokevirtual 126, 3) := by decide +kernel
theorem dX6_readIf_26 : decode cX6_readIf 26 = .ok (.ifCond .ne 4, 3) := by decide +kernel
theorem dX6_readIf_29 : decode cX6_readIf 29 = .ok (.return_, 1) := by decide +kernel
theorem dX6_readIf_30 : decode cX6_readIf 30 = .ok (.aload_n 1, 1) := by decide +kernel
theorem dX6_readIf_31 : decode cX6_readIf 31 = .ok (.ldc 187, 2) := by decide +kernel
theorem dX6_readIf_33 : decode cX6_readIf 33 = .ok (.invokevirtual 126, 3) := by decide +kernel
theorem dX6_readIf_36 : decode cX6_readIf 36 = .ok (.ifCond .eq 42, 3) := by decide +kernel
theorem dX6_readIf_39 : decode cX6_readIf 39 = .ok (.aload_n 0, 1) := by decide +kernel
theorem dX6_readIf_40 : decode cX6_readIf 40 = .ok (.getfield 24, 3) := by decide +kernel
theorem dX6_readIf_43 : decode cX6_readIf 43 = .ok (.aload_n 0, 1) := by decide +kernel
theorem dX6_readIf_44 : decode cX6_readIf 44 = .ok (.getfield 53, 3) := by decide +kernel
theorem dX6_readIf_47 : decode cX6_readIf 47 = .ok (.aload_n 1, 1) := by decide +kernel
theorem dX6_readIf_48 : decode cX6_readIf 48 = .ok (.iconst 0, 1) := by decide +kernel
theorem dX6_readIf_49 : decode cX6_readIf 49 = .ok (.iconst 2, 1) := by decide +kernel
theorem dX6_readIf_50 : decode cX6_readIf 50 = .ok (.invokevirtual 154, 3) := by decide +kernel
theorem dX6_readIf_53 : decode cX6_readIf 53 = .ok (.iastore, 1) := by decide +kernel
theorem dX6_readIf_54 : decode cX6_readIf 54 = .ok (.aload_n 0, 1) := by decide +kernel
theorem dX6_readIf_55 : decode cX6_readIf 55 = .ok (.getfield 21, 3) := by decide +kernel
theorem dX6_readIf_58 : decode cX6_readIf 58 = .ok (.aload_n 0, 1) := by decide +kernel
theorem dX6_readIf_59 : decode cX6_readIf 59 = .ok (.getfield 53, 3) := by decide +kernel
theorem dX6_readIf_62 : decode cX6_readIf 62 = .ok (.aload_n 1, 1) := by decide +kernel
theorem dX6_readIf_63 : decode cX6_readIf 63 = .ok (.ldc 189, 2) := by decide +kernel
theorem dX6_readIf_65 : decode cX6_readIf 65 = .ok (.invokevirtual 126, 3) := by decide +kernel
theorem dX6_readIf_68 : decode cX6_readIf 68 = .ok (.ifCond .eq 7, 3) := by decide +kernel
theorem dX6_readIf_71 : decode cX6_readIf 71 = .ok (.iconst 4, 1) := by decide +kernel
theorem dX6_readIf_72 : decode cX6_readIf 72 = .ok (.goto 4, 3) := by decide +kernel
theorem dX6_readIf_75 : decode cX6_readIf 75 = .ok (.iconst 3, 1) := by decide +kernel
theorem dX6_readIf_76 : decode cX6_readIf 76 = .ok (.iastore, 1) := by decide +kernel
theorem dX6_readIf_77 : decode cX6_readIf 77 = .ok (.return_, 1) := by decide +kernel
theorem dX6_readIf_78 : decode cX6_readIf 78 = .ok (.aload_n 0, 1) := by decide +kernel
theorem dX6_readIf_79 : decode cX6_readIf 79 = .ok (.getfield 24, 3) := by decide +kernel
theorem dX6_readIf_82 : decode cX6_readIf 82 = .ok (.aload_n 0, 1) := by decide +kernel
theorem dX6_readIf_83 : decode cX6_readIf 83 = .ok (.getfield 53, 3) := by decide +kernel
theorem dX6_readIf_86 : decode cX6_readIf 86 = .ok (.aload_n 1, 1) := by decide +kernel
theorem dX6_readIf_87 : decode cX6_readIf 87 = .ok (.aload_n 2, 1) := by decide +kernel
theorem dX6_readIf_88 : decode cX6_readIf 88 = .ok (.getfield 162, 3) := by decide +kernel
theorem dX6_readIf_91 : decode cX6_readIf 91 = .ok (.iconst 0, 1) := by decide +kernel
theorem dX6_readIf_92 : decode cX6_readIf 92 = .ok (.invokevirtual 168, 3) := by decide +kernel
theorem dX6_readIf_95 : decode cX6_readIf 95 = .ok (.iastore, 1) := by decide +kernel
theorem dX6_readIf_96 : decode cX6_readIf 96 = .ok (.aload_n 1, 1) := by decide +kernel
theorem dX6_readIf_97 : decode cX6_readIf 97 = .ok (.ldc 191, 2) := by decide +kernel
theorem dX6_readIf_99 : decode cX6_readIf 99 = .ok (.invokevirtual 126, 3) := by decide +kernel
theorem dX6_readIf_102 : decode cX6_readIf 102 = .ok (.ifCond .eq 16, 3) := by decide +kernel
theorem dX6_readIf_105 : decode cX6_readIf 105 = .ok (.aload_n 0, 1) := by decide +kernel
theorem dX6_readIf_106 : decode cX6_readIf 106 = .ok (.getfield 21, 3) := by decide +kernel
theorem dX6_readIf_109 : decode cX6_readIf 109 = .ok (.aload_n 0, 1) := by decide +kernel
theorem dX6_readIf_110 : decode cX6_readIf 110 = .ok (.getfield 53, 3) := by decide +kernel
theorem dX6_readIf_113 : decode cX6_readIf 113 = .ok (.iconst 1, 1) := by decide +kernel
theorem dX6_readIf_114 : decode cX6_readIf 114 = .ok (.iastore, 1) := by decide +kernel
theorem dX6_readIf_115 : decode cX6_readIf 115 = .ok (.goto 19, 3) := by decide +kernel
theorem dX6_readIf_118 : decode cX6_readIf 118 = .ok (.aload_n 1, 1) := by decide +kernel
theorem dX6_readIf_119 : decode cX6_readIf 119 = .ok (.ldc 193, 2) := by decide +kernel
theorem dX6_readIf_121 : decode cX6_readIf 121 = .ok (.invokevirtual 175, 3) := by decide +kernel
theorem dX6_readIf_124 : decode cX6_readIf 124 = .ok (.aload_n 0, 1) := by decide +kernel
theorem dX6_readIf_125 : decode cX6_readIf 125 = .ok (.getfield 21, 3) := by decide +kernel
theorem dX6_readIf_128 : decode cX6_readIf 128 = .ok (.aload_n 0, 1) := by decide +kernel
theorem dX6_readIf_129 : decode cX6_readIf 129 = .ok (.getfield 53, 3) := by decide +kernel
theorem dX6_readIf_132 : decode cX6_readIf 132 = .ok (.iconst 2, 1) := by decide +kernel
theorem dX6_readIf_133 : decode cX6_readIf 133 = .ok (.iastore, 1) := by decide +kernel
theorem dX6_readIf_134 : decode cX6_readIf 134 = .ok (.return_, 1) := by decide +kernel
def f_X6_readIf (o0 : Nat) (w : Wd) : Option (Wd) :=
  if inb (w.1 o0 8) 8 = true then
  (lt (wI w (o0 + 4) (Int32.toNatClampNeg (w.1 o0 8)) 0) fun w1 =>
  if inb (w1.1 o0 8) 8 = true then
  (lt (wI w1 (o0 + 5) (Int32.toNatClampNeg (w1.1 o0 8)) ((-1))) fun w2 =>
  cl (f_X10_passes 37 w2) fun r4 w3 =>
  if r4 = 0 then
  (some w3)
  else
  cl (f_X10_passes 38 w3) fun r6 w5 =>
  if r6 = 0 then
  (cl (f_X10_known 34 8 0 w5) fun r8 w7 =>
  if inb (w5.1 o0 8) 8 = true then
  (lt (wI w7 (o0 + 5) (Int32.toNatClampNeg (w5.1 o0 8)) r8) fun w9 =>
  cl (f_X10_passes 26 w9) fun r11 w10 =>
  if r11 = 0 then
  (cv (f_X10_need 40 w10) fun w12 =>
  if inb (w12.1 o0 8) 8 = true then
  (lt (wI w12 (o0 + 4) (Int32.toNatClampNeg (w12.1 o0 8)) 2) fun w13 =>
  some w13)
  else none)
  else
  if inb (w10.1 o0 8) 8 = true then
  (lt (wI w10 (o0 + 4) (Int32.toNatClampNeg (w10.1 o0 8)) 1) fun w14 =>
  some w14)
  else none)
  else none)
  else
  cl (f_X10_number 0 2 w5) fun r16 w15 =>
  if inb (w5.1 o0 8) 8 = true then
  (lt (wI w15 (o0 + 5) (Int32.toNatClampNeg (w5.1 o0 8)) r16) fun w17 =>
  cl (f_X10_passes 39 w17) fun r19 w18 =>
  if r19 = 0 then
  (if inb (w17.1 o0 8) 8 = true then
  (lt (wI w18 (o0 + 4) (Int32.toNatClampNeg (w17.1 o0 8)) 3) fun w20 =>
  some w20)
  else none)
  else
  if inb (w17.1 o0 8) 8 = true then
  (lt (wI w18 (o0 + 4) (Int32.toNatClampNeg (w17.1 o0 8)) 4) fun w21 =>
  some w21)
  else none)
  else none)
  else none)
  else none
set_option maxRecDepth 100000 in
set_option maxHeartbeats 4000000 in
theorem t_X6_readIf {Z : Cz (Wd)} (hZ : OKZ Z SC cX6_readIf RX6 3 none 7) (hE : EndV Z) (o0 : Nat) (ho0 : IsP o0) (w : Wd) : BW Z 3 0 [(0, .ref (ph (zY Z) o0)), (1, .ref (ph (zY Z) 1)), (2, .ref (ph (zY Z) 31))] [] w (f_X6_readIf o0 w) :=
  bw_aload_n hZ 0 rfl dX6_readIf_0 <|
  bw_getR hZ fl_RX6_21 (obP ho0) (rfP12 ho0) dX6_readIf_1 <|
  bw_aload_n hZ 0 rfl dX6_readIf_4 <|
  bw_getI hZ fl_RX6_53 (by decide) (obP ho0) dX6_readIf_5 <|
  bw_iconst hZ 0 (by decide) dX6_readIf_8 <|
  bw_iast hZ (arP4 ho0 _) dX6_readIf_9 fun w1 =>
  bw_aload_n hZ 0 rfl dX6_readIf_10 <|
  bw_getR hZ fl_RX6_24 (obP ho0) (rfP13 ho0) dX6_readIf_11 <|
  bw_aload_n hZ 0 rfl dX6_readIf_14 <|
  bw_getI hZ fl_RX6_53 (by decide) (obP ho0) dX6_readIf_15 <|
  bw_iconst hZ (-1) (by decide) dX6_readIf_18 <|
  bw_iast hZ (arP5 ho0 _) dX6_readIf_19 fun w2 =>
  bw_aload_n hZ 1 rfl dX6_readIf_20 <|
  bw_ldcS hZ 39 rfl dX6_readIf_21 <|
  bw_callVI (As := [.ref (sK (zY Z) 37)]) hZ ml_RX6_126 rc_10 obC_1 (by decide) (c_X10_passes (zl Z) (zY Z) (hZ_S hZ) 37 (by decide) w2) rfl rfl (Nat.le_of_ble_eq_true rfl) dX6_readIf_23 fun r4 w3 =>
  bw_if_ne hZ (tgt := 30) (by decide) dX6_readIf_26 (fun _ =>
  bw_aload_n hZ 1 rfl dX6_readIf_30 <|
  bw_ldcS hZ 40 rfl dX6_readIf_31 <|
  bw_callVI (As := [.ref (sK (zY Z) 38)]) hZ ml_RX6_126 rc_10 obC_1 (by decide) (c_X10_passes (zl Z) (zY Z) (hZ_S hZ) 38 (by decide) w3) rfl rfl (Nat.le_of_ble_eq_true rfl) dX6_readIf_33 fun r6 w5 =>
  bw_if_eq hZ (tgt := 78) (by decide) dX6_readIf_36 (fun _ =>
  bw_aload_n hZ 0 rfl dX6_readIf_78 <|
  bw_getR hZ fl_RX6_24 (obP ho0) (rfP13 ho0) dX6_readIf_79 <|
  bw_aload_n hZ 0 rfl dX6_readIf_82 <|
  bw_getI hZ fl_RX6_53 (by decide) (obP ho0) dX6_readIf_83 <|
  bw_aload_n hZ 1 rfl dX6_readIf_86 <|
  bw_aload_n hZ 2 rfl dX6_readIf_87 <|
  bw_getR hZ fl_RX6_162 obC_31 rfl dX6_readIf_88 <|
  bw_iconst hZ 0 (by decide) dX6_readIf_91 <|
  bw_callVI (As := [.ref (ph (zY Z) 34), .int 0]) hZ ml_RX6_168 rc_10 obC_1 (by decide) (c_X10_known (zl Z) (zY Z) (hZ_S hZ) 34 8 0 isN34 w5) rfl rfl (Nat.le_of_ble_eq_true rfl) dX6_readIf_92 fun r8 w7 =>
  bw_iast hZ (arP5 ho0 _) dX6_readIf_95 fun w9 =>
  bw_aload_n hZ 1 rfl dX6_readIf_96 <|
  bw_ldcS hZ 42 rfl dX6_readIf_97 <|
  bw_callVI (As := [.ref (sK (zY Z) 26)]) hZ ml_RX6_126 rc_10 obC_1 (by decide) (c_X10_passes (zl Z) (zY Z) (hZ_S hZ) 26 (by decide) w9) rfl rfl (Nat.le_of_ble_eq_true rfl) dX6_readIf_99 fun r11 w10 =>
  bw_if_eq hZ (tgt := 118) (by decide) dX6_readIf_102 (fun _ =>
  bw_aload_n hZ 1 rfl dX6_readIf_118 <|
  bw_ldcS hZ 43 rfl dX6_readIf_119 <|
  bw_callVV (As := [.ref (sK (zY Z) 40)]) hZ ml_RX6_175 rc_10 obC_1 (by decide) (c_X10_need (zl Z) (zY Z) (hZ_S hZ) 40 (by decide) w10) rfl rfl (Nat.le_of_ble_eq_true rfl) dX6_readIf_121 fun w12 =>
  bw_aload_n hZ 0 rfl dX6_readIf_124 <|
  bw_getR hZ fl_RX6_21 (obP ho0) (rfP12 ho0) dX6_readIf_125 <|
  bw_aload_n hZ 0 rfl dX6_readIf_128 <|
  bw_getI hZ fl_RX6_53 (by decide) (obP ho0) dX6_readIf_129 <|
  bw_iconst hZ 2 (by decide) dX6_readIf_132 <|
  bw_iast hZ (arP4 ho0 _) dX6_readIf_133 fun w13 =>
  bw_vret hZ hE dX6_readIf_134) (fun _ =>
  bw_aload_n hZ 0 rfl dX6_readIf_105 <|
  bw_getR hZ fl_RX6_21 (obP ho0) (rfP12 ho0) dX6_readIf_106 <|
  bw_aload_n hZ 0 rfl dX6_readIf_109 <|
  bw_getI hZ fl_RX6_53 (by decide) (obP ho0) dX6_readIf_110 <|
  bw_iconst hZ 1 (by decide) dX6_readIf_113 <|
  bw_iast hZ (arP4 ho0 _) dX6_readIf_114 fun w14 =>
  bw_goto hZ (tgt := 134) (by decide) dX6_readIf_115 <|
  bw_vret hZ hE dX6_readIf_134)) (fun _ =>
  bw_aload_n hZ 0 rfl dX6_readIf_39 <|
  bw_getR hZ fl_RX6_24 (obP ho0) (rfP13 ho0) dX6_readIf_40 <|
  bw_aload_n hZ 0 rfl dX6_readIf_43 <|
  bw_getI hZ fl_RX6_53 (by decide) (obP ho0) dX6_readIf_44 <|
  bw_aload_n hZ 1 rfl dX6_readIf_47 <|
  bw_iconst hZ 0 (by decide) dX6_readIf_48 <|
  bw_iconst hZ 2 (by decide) dX6_readIf_49 <|
  bw_callVI (As := [.int 0, .int 2]) hZ ml_RX6_154 rc_10 obC_1 (by decide) (c_X10_number (zl Z) (zY Z) (hZ_S hZ) 0 2 w5) rfl rfl (Nat.le_of_ble_eq_true rfl) dX6_readIf_50 fun r16 w15 =>
  bw_iast hZ (arP5 ho0 _) dX6_readIf_53 fun w17 =>
  bw_aload_n hZ 0 rfl dX6_readIf_54 <|
  bw_getR hZ fl_RX6_21 (obP ho0) (rfP12 ho0) dX6_readIf_55 <|
  bw_aload_n hZ 0 rfl dX6_readIf_58 <|
  bw_getI hZ fl_RX6_53 (by decide) (obP ho0) dX6_readIf_59 <|
  bw_aload_n hZ 1 rfl dX6_readIf_62 <|
  bw_ldcS hZ 41 rfl dX6_readIf_63 <|
  bw_callVI (As := [.ref (sK (zY Z) 39)]) hZ ml_RX6_126 rc_10 obC_1 (by decide) (c_X10_passes (zl Z) (zY Z) (hZ_S hZ) 39 (by decide) w17) rfl rfl (Nat.le_of_ble_eq_true rfl) dX6_readIf_65 fun r19 w18 =>
  bw_if_eq hZ (tgt := 75) (by decide) dX6_readIf_68 (fun _ =>
  bw_iconst hZ 3 (by decide) dX6_readIf_75 <|
  bw_iast hZ (arP4 ho0 _) dX6_readIf_76 fun w20 =>
  bw_vret hZ hE dX6_readIf_77) (fun _ =>
  bw_iconst hZ 4 (by decide) dX6_readIf_71 <|
  bw_goto hZ (tgt := 76) (by decide) dX6_readIf_72 <|
  bw_iast hZ (arP4 ho0 _) dX6_readIf_76 fun w21 =>
  bw_vret hZ hE dX6_readIf_77))) (fun _ =>
  bw_vret hZ hE dX6_readIf_29)
theorem c_X6_readIf (l : Launch) (Y : Ev) (hY : Y.1 = SC) (o0 : Nat) (ho0 : IsP o0) (w : Wd) : CV l Y yX6_readIf cX6_readIf 3 7 [.ref (ph Y o0), .ref (ph Y 1), .ref (ph Y 31)] w (f_X6_readIf o0 w) := by
  refine CV_of (S := SC) (by decide) (Nat.le_of_ble_eq_true rfl) hY ?_
  intro Z hl hY2 hZ hE
  subst hY2
  exact t_X6_readIf hZ hE o0 ho0 w
-- WhichWill$Paper.readGift
theorem dX6_readGift_0 : decode cX6_readGift 0 = .ok (.aload_n 0, 1) := by decide +kernel
theorem dX6_readGift_1 : decode cX6_readGift 1 = .ok (.getfield 53, 3) := by decide +kernel
theorem dX6_readGift_4 : decode cX6_readGift 4 = .ok (.bipush 8, 2) := by decide +kernel
theorem dX6_readGift_6 : decode cX6_readGift 6 = .ok (.if_icmp .lt 9, 3) := by decide +kernel
theorem dX6_readGift_9 : decode cX6_readGift 9 = .ok (.aload_n 1, 1) := by decide +kernel
theorem dX6_readGift_10 : decode cX6_readGift 10 = .ok (.iconst 4, 1) := by decide +kernel
theorem dX6_readGift_11 : decode cX6_readGift 11 = .ok (.invokevirtual 143, 3) := by decide +kernel
theorem dX6_readGift_14 : decode cX6_readGift 14 = .ok (.return_, 1) := by decide +kernel
theorem dX6_readGift_15 : decode cX6_readGift 15 = .ok (.aload_n 0, 1) := by decide +kernel
theorem dX6_readGift_16 : decode cX6_readGift 16 = .ok (.getfield 9, 3) := by decide +kernel
theorem dX6_readGift_19 : decode cX6_readGift 19 = .ok (.aload_n 0, 1) := by decide +kernel
theorem dX6_readGift_20 : decode cX6_readGift 20 = .ok (.getfield 53, 3) := by decide +kernel
theorem dX6_readGift_23 : decode cX6_readGift 23 = .ok (.iconst (-1), 1) := by decide +kernel
theorem dX6_readGift_24 : decode cX6_readGift 24 = .ok (.iastore, 1) := by decide +kernel
theorem dX6_readGift_25 : decode cX6_readGift 25 = .ok (.aload_n 0, 1) := by decide +kernel
theorem dX6_readGift_26 : decode cX6_readGift 26 = .ok (.getfield 15, 3) := by decide +kernel
theorem dX6_readGift_29 : decode cX6_readGift 29 = .ok (.aload_n 0, 1) := by decide +kernel
theorem dX6_readGift_30 : decode cX6_readGift 30 = .ok (.getfield 53, 3) := by decide +kernel
theorem dX6_readGift_33 : decode cX6_readGift 33 = .ok (.iconst 0, 1) := by decide +kernel
theorem dX6_readGift_34 : decode cX6_readGift 34 = .ok (.iastore, 1) := by decide +kernel
theorem dX6_readGift_35 : decode cX6_readGift 35 = .ok (.aload_n 1, 1) := by decide +kernel
theorem dX6_readGift_36 : decode cX6_readGift 36 = .ok (.ldc 113, 2) := by decide +kernel
theorem dX6_readGift_38 : decode cX6_readGift 38 = .ok (.invokevirtual 126, 3) := by decide +kernel
theorem dX6_readGift_41 : decode cX6_readGift 41 = .ok (.ifCond .eq 48, 3) := by decide +kernel
theorem dX6_readGift_44 : decode cX6_readGift 44 = .ok (.aload_n 0, 1) := by decide +kernel
theorem dX6_readGift_45 : decode cX6_readGift 45 = .ok (.getfield 9, 3) := by decide +kernel
theorem dX6_readGift_48 : decode cX6_readGift 48 = .ok (.aload_n 0, 1) := by decide +kernel
theorem dX6_readGift_49 : decode cX6_readGift 49 = .ok (.getfield 53, 3) := by decide +kernel
theorem dX6_readGift_52 : decode cX6_readGift 52 = .ok (.aload_n 1, 1) := by decide +kernel
theorem dX6_readGift_53 : decode cX6_readGift 53 = .ok (.aload_n 2, 1) := by decide +kernel
theorem dX6_readGift_54 : decode cX6_readGift 54 = .ok (.getfield 172, 3) := by decide +kernel
theorem dX6_readGift_57 : decode cX6_readGift 57 = .ok (.aload_n 0, 1) := by decide +kernel
theorem dX6_readGift_58 : decode cX6_readGift 58 = .ok (.getfield 59, 3) := by decide +kernel
theorem dX6_readGift_61 : decode cX6_readGift 61 = .ok (.invokevirtual 168, 3) := by decide +kernel
theorem dX6_readGift_64 : decode cX6_readGift 64 = .ok (.iastore, 1) := by decide +kernel
theorem dX6_readGift_65 : decode cX6_readGift 65 = .ok (.aload_n 0, 1) := by decide +kernel
theorem dX6_readGift_66 : decode cX6_readGift 66 = .ok (.dup, 1) := by decide +kernel
theorem dX6_readGift_67 : decode cX6_readGift 67 = .ok (.getfield 59, 3) := by decide +kernel
theorem dX6_readGift_70 : decode cX6_readGift 70 = .ok (.aload_n 0, 1) := by decide +kernel
theorem dX6_readGift_71 : decode cX6_readGift 71 = .ok (.getfield 9, 3) := by decide +kernel
theorem dX6_readGift_74 : decode cX6_readGift 74 = .ok (.aload_n 0, 1) := by decide +kernel
theorem dX6_readGift_75 : decode cX6_readGift 75 = .ok (.getfield 53, 3) := by decide +kernel
theorem dX6_readGift_78 : decode cX6_readGift 78 = .ok (.iaload, 1) := by decide +kernel
theorem dX6_readGift_79 : decode cX6_readGift 79 = .ok (.invokestatic 138, 3) := by decide +kernel
theorem dX6_readGift_82 : decode cX6_readGift 82 = .ok (.ior, 1) := by decide +kernel
theorem dX6_readGift_83 : decode cX6_readGift 83 = .ok (.putfield 59, 3) := by decide +kernel
theorem dX6_readGift_86 : decode cX6_readGift 86 = .ok (.goto 25, 3) := by decide +kernel
theorem dX6_readGift_89 : decode cX6_readGift 89 = .ok (.aload_n 1, 1) := by decide +kernel
theorem dX6_readGift_90 : decode cX6_readGift 90 = .ok (.ldc 115, 2) := by decide +kernel
theorem dX6_readGift_92 : decode cX6_readGift 92 = .ok (.invokevirtual 175, 3) := by decide +kernel
theorem dX6_readGift_95 : decode cX6_readGift 95 = .ok (.aload_n 0, 1) := by decide +kernel
theorem dX6_readGift_96 : decode cX6_readGift 96 = .ok (.getfield 15, 3) := by decide +kernel
theorem dX6_readGift_99 : decode cX6_readGift 99 = .ok (.aload_n 0, 1) := by decide +kernel
theorem dX6_readGift_100 : decode cX6_readGift 100 = .ok (.getfield 53, 3) := by decide +kernel
theorem dX6_readGift_103 : decode cX6_readGift 103 = .ok (.aload_n 1, 1) := by decide +kernel
theorem dX6_readGift_104 : decode cX6_readGift 104 = .ok (.iconst 1, 1) := by decide +kernel
theorem dX6_readGift_105 : decode cX6_readGift 105 = .ok (.ldc 179, 2) := by decide +kernel
theorem dX6_readGift_107 : decode cX6_readGift 107 = .ok (.invokevirtual 154, 3) := by decide +kernel
theorem dX6_readGift_110 : decode cX6_readGift 110 = .ok (.iastore, 1) := by decide +kernel
theorem dX6_readGift_111 : decode cX6_readGift 111 = .ok (.aload_n 1, 1) := by decide +kernel
theorem dX6_readGift_112 : decode cX6_readGift 112 = .ok (.ldc 180, 2) := by decide +kernel
theorem dX6_readGift_114 : decode cX6_readGift 114 = .ok (.invokevirtual 175, 3) := by decide +kernel
theorem dX6_readGift_117 : decode cX6_readGift 117 = .ok (.aload_n 0, 1) := by decide +kernel
theorem dX6_readGift_118 : decode cX6_readGift 118 = .ok (.getfield 18, 3) := by decide +kernel
theorem dX6_readGift_121 : decode cX6_readGift 121 = .ok (.aload_n 0, 1) := by decide +kernel
theorem dX6_readGift_122 : decode cX6_readGift 122 = .ok (.getfield 53, 3) := by decide +kernel
theorem dX6_readGift_125 : decode cX6_readGift 125 = .ok (.aload_n 1, 1) := by decide +kernel
theorem dX6_readGift_126 : decode cX6_readGift 126 = .ok (.aload_n 2, 1) := by decide +kernel
theorem dX6_readGift_127 : decode cX6_readGift 127 = .ok (.getfield 162, 3) := by decide +kernel
theorem dX6_readGift_130 : decode cX6_readGift 130 = .ok (.iconst 0, 1) := by decide +kernel
theorem dX6_readGift_131 : decode cX6_readGift 131 = .ok (.invokevirtual 168, 3) := by decide +kernel
theorem dX6_readGift_134 : decode cX6_readGift 134 = .ok (.iastore, 1) := by decide +kernel
theorem dX6_readGift_135 : decode cX6_readGift 135 = .ok (.aload_n 0, 1) := by decide +kernel
theorem dX6_readGift_136 : decode cX6_readGift 136 = .ok (.dup, 1) := by decide +kernel
theorem dX6_readGift_137 : decode cX6_readGift 137 = .ok (.getfield 62, 3) := by decide +kernel
theorem dX6_readGift_140 : decode cX6_readGift 140 = .ok (.aload_n 0, 1) := by decide +kernel
theorem dX6_readGift_141 : decode cX6_readGift 141 = .ok (.getfield 18, 3) := by decide +kernel
theorem dX6_readGift_144 : decode cX6_readGift 144 = .ok (.aload_n 0, 1) := by decide +kernel
theorem dX6_readGift_145 : decode cX6_readGift 145 = .ok (.getfield 53, 3) := by decide +kernel
theorem dX6_readGift_148 : decode cX6_readGift 148 = .ok (.iaload, 1) := by decide +kernel
theorem dX6_readGift_149 : decode cX6_readGift 149 = .ok (.invokestatic 138, 3) := by decide +kernel
theorem dX6_readGift_152 : decode cX6_readGift 152 = .ok (.ior, 1) := by decide +kernel
theorem dX6_readGift_153 : decode cX6_readGift 153 = .ok (.putfield 62, 3) := by decide +kernel
theorem dX6_readGift_156 : decode cX6_readGift 156 = .ok (.aload_n 0, 1) := by decide +kernel
theorem dX6_readGift_157 : decode cX6_readGift 157 = .ok (.aload_n 1, 1) := by decide +kernel
theorem dX6_readGift_158 : decode cX6_readGift 158 = .ok (.aload_n 2, 1) := by decide +kernel
theorem dX6_readGift_159 : decode cX6_readGift 159 = .ok (.invokevirtual 182, 3) := by decide +kernel
theorem dX6_readGift_162 : decode cX6_readGift 162 = .ok (.aload_n 0, 1) := by decide +kernel
theorem dX6_readGift_163 : decode cX6_readGift 163 = .ok (.dup, 1) := by decide +kernel
theorem dX6_readGift_164 : decode cX6_readGift 164 = .ok (.getfield 53, 3) := by decide +kernel
theorem dX6_readGift_167 : decode cX6_readGift 167 = .ok (.iconst 1, 1) := by decide +kernel
theorem dX6_readGift_168 : decode cX6_readGift 168 = .ok (.iadd, 1) := by decide +kernel
theorem dX6_readGift_169 : decode cX6_readGift 169 = .ok (.putfield 53, 3) := by decide +kernel
theorem dX6_readGift_172 : decode cX6_readGift 172 = .ok (.return_, 1) := by decide +kernel
def X6_readGift_b111 (y0 : Nat) (w : Wd) : Option (Wd) :=
  cv (f_X10_need 36 w) fun w9 =>
  cl (f_X10_known 34 8 0 w9) fun r11 w10 =>
  if inb (w9.1 y0 8) 8 = true then
  (lt (wI w10 (y0 + 3) (Int32.toNatClampNeg (w9.1 y0 8)) r11) fun w12 =>
  if inb (w12.1 y0 8) 8 = true then
  (cl (f_X6_bit (w12.1 (y0 + 3) (Int32.toNatClampNeg (w12.1 y0 8))) w12) fun r14 w13 =>
  lt (wI w13 y0 16 ((w12.1 y0 16) ||| r14)) fun w15 =>
  cv (f_X6_readIf y0 w15) fun w16 =>
  lt (wI w16 y0 8 ((w16.1 y0 8) + 1)) fun w17 =>
  some w17)
  else none)
  else none
set_option maxRecDepth 100000 in
set_option maxHeartbeats 4000000 in
theorem t_X6_readGift_b111 {Z : Cz (Wd)} (hZ : OKZ Z SC cX6_readGift RX6 3 none 8) (hE : EndV Z)  (y0 : Nat) (hy0 : IsP y0) (w : Wd) : BW Z 3 111 [(0, .ref (ph (zY Z) y0)), (1, .ref (ph (zY Z) 1)), (2, .ref (ph (zY Z) 31))] [] w (X6_readGift_b111 y0 w) :=
  bw_aload_n hZ 1 rfl dX6_readGift_111 <|
  bw_ldcS hZ 38 rfl dX6_readGift_112 <|
  bw_callVV (As := [.ref (sK (zY Z) 36)]) hZ ml_RX6_175 rc_10 obC_1 (by decide) (c_X10_need (zl Z) (zY Z) (hZ_S hZ) 36 (by decide) w) rfl rfl (Nat.le_of_ble_eq_true rfl) dX6_readGift_114 fun w9 =>
  bw_aload_n hZ 0 rfl dX6_readGift_117 <|
  bw_getR hZ fl_RX6_18 (obP hy0) (rfP11 hy0) dX6_readGift_118 <|
  bw_aload_n hZ 0 rfl dX6_readGift_121 <|
  bw_getI hZ fl_RX6_53 (by decide) (obP hy0) dX6_readGift_122 <|
  bw_aload_n hZ 1 rfl dX6_readGift_125 <|
  bw_aload_n hZ 2 rfl dX6_readGift_126 <|
  bw_getR hZ fl_RX6_162 obC_31 rfl dX6_readGift_127 <|
  bw_iconst hZ 0 (by decide) dX6_readGift_130 <|
  bw_callVI (As := [.ref (ph (zY Z) 34), .int 0]) hZ ml_RX6_168 rc_10 obC_1 (by decide) (c_X10_known (zl Z) (zY Z) (hZ_S hZ) 34 8 0 isN34 w9) rfl rfl (Nat.le_of_ble_eq_true rfl) dX6_readGift_131 fun r11 w10 =>
  bw_iast hZ (arP3 hy0 _) dX6_readGift_134 fun w12 =>
  bw_aload_n hZ 0 rfl dX6_readGift_135 <|
  bw_dup hZ rfl dX6_readGift_136 <|
  bw_getI hZ fl_RX6_62 (by decide) (obP hy0) dX6_readGift_137 <|
  bw_aload_n hZ 0 rfl dX6_readGift_140 <|
  bw_getR hZ fl_RX6_18 (obP hy0) (rfP11 hy0) dX6_readGift_141 <|
  bw_aload_n hZ 0 rfl dX6_readGift_144 <|
  bw_getI hZ fl_RX6_53 (by decide) (obP hy0) dX6_readGift_145 <|
  bw_iald hZ (arP3 hy0 _) dX6_readGift_148 <|
  bw_callSI (As := [.int (w12.1 (y0 + 3) (Int32.toNatClampNeg (w12.1 y0 8)))]) hZ ms_RX6_138 (by decide) (c_X6_bit (zl Z) (zY Z) (hZ_S hZ) (w12.1 (y0 + 3) (Int32.toNatClampNeg (w12.1 y0 8))) w12) rfl rfl (Nat.le_of_ble_eq_true rfl) dX6_readGift_149 fun r14 w13 =>
  bw_ior hZ dX6_readGift_152 <|
  bw_putI hZ fl_RX6_62 rfl rfl (by decide) (obP hy0) dX6_readGift_153 fun w15 =>
  bw_aload_n hZ 0 rfl dX6_readGift_156 <|
  bw_aload_n hZ 1 rfl dX6_readGift_157 <|
  bw_aload_n hZ 2 rfl dX6_readGift_158 <|
  bw_callVV (As := [.ref (ph (zY Z) 1), .ref (ph (zY Z) 31)]) hZ ml_RX6_182 rc_6 (obP hy0) (by decide) (c_X6_readIf (zl Z) (zY Z) (hZ_S hZ) y0 hy0 w15) rfl rfl (Nat.le_of_ble_eq_true rfl) dX6_readGift_159 fun w16 =>
  bw_aload_n hZ 0 rfl dX6_readGift_162 <|
  bw_dup hZ rfl dX6_readGift_163 <|
  bw_getI hZ fl_RX6_53 (by decide) (obP hy0) dX6_readGift_164 <|
  bw_iconst hZ 1 (by decide) dX6_readGift_167 <|
  bw_iadd hZ dX6_readGift_168 <|
  bw_putI hZ fl_RX6_53 rfl rfl (by decide) (obP hy0) dX6_readGift_169 fun w17 =>
  bw_vret hZ hE dX6_readGift_172
def f_X6_readGift (o0 : Nat) (w : Wd) : Option (Wd) :=
  if (w.1 o0 8) < 8 then
  (if inb (w.1 o0 8) 8 = true then
  (lt (wI w (o0 + 1) (Int32.toNatClampNeg (w.1 o0 8)) ((-1))) fun w1 =>
  if inb (w1.1 o0 8) 8 = true then
  (lt (wI w1 (o0 + 2) (Int32.toNatClampNeg (w1.1 o0 8)) 0) fun w2 =>
  cl (f_X10_passes 34 w2) fun r4 w3 =>
  if r4 = 0 then
  (cv (f_X10_need 35 w3) fun w5 =>
  cl (f_X10_number 1 99999 w5) fun r7 w6 =>
  if inb (w5.1 o0 8) 8 = true then
  (lt (wI w6 (o0 + 2) (Int32.toNatClampNeg (w5.1 o0 8)) r7) fun w8 =>
  X6_readGift_b111 o0 w8)
  else none)
  else
  cl (f_X10_known 36 8 (w3.1 o0 15) w3) fun r19 w18 =>
  if inb (w3.1 o0 8) 8 = true then
  (lt (wI w18 (o0 + 1) (Int32.toNatClampNeg (w3.1 o0 8)) r19) fun w20 =>
  if inb (w20.1 o0 8) 8 = true then
  (cl (f_X6_bit (w20.1 (o0 + 1) (Int32.toNatClampNeg (w20.1 o0 8))) w20) fun r22 w21 =>
  lt (wI w21 o0 15 ((w20.1 o0 15) ||| r22)) fun w23 =>
  X6_readGift_b111 o0 w23)
  else none)
  else none)
  else none)
  else none)
  else
  cv (f_X10_fail 4 w) fun w24 =>
  some w24
set_option maxRecDepth 100000 in
set_option maxHeartbeats 4000000 in
theorem t_X6_readGift {Z : Cz (Wd)} (hZ : OKZ Z SC cX6_readGift RX6 3 none 8) (hE : EndV Z) (o0 : Nat) (ho0 : IsP o0) (w : Wd) : BW Z 3 0 [(0, .ref (ph (zY Z) o0)), (1, .ref (ph (zY Z) 1)), (2, .ref (ph (zY Z) 31))] [] w (f_X6_readGift o0 w) :=
  bw_aload_n hZ 0 rfl dX6_readGift_0 <|
  bw_getI hZ fl_RX6_53 (by decide) (obP ho0) dX6_readGift_1 <|
  bw_bipush hZ 8 (by decide) dX6_readGift_4 <|
  bw_icmp_lt hZ (tgt := 15) (by decide) dX6_readGift_6 (fun _ =>
  bw_aload_n hZ 0 rfl dX6_readGift_15 <|
  bw_getR hZ fl_RX6_9 (obP ho0) (rfP9 ho0) dX6_readGift_16 <|
  bw_aload_n hZ 0 rfl dX6_readGift_19 <|
  bw_getI hZ fl_RX6_53 (by decide) (obP ho0) dX6_readGift_20 <|
  bw_iconst hZ (-1) (by decide) dX6_readGift_23 <|
  bw_iast hZ (arP1 ho0 _) dX6_readGift_24 fun w1 =>
  bw_aload_n hZ 0 rfl dX6_readGift_25 <|
  bw_getR hZ fl_RX6_15 (obP ho0) (rfP10 ho0) dX6_readGift_26 <|
  bw_aload_n hZ 0 rfl dX6_readGift_29 <|
  bw_getI hZ fl_RX6_53 (by decide) (obP ho0) dX6_readGift_30 <|
  bw_iconst hZ 0 (by decide) dX6_readGift_33 <|
  bw_iast hZ (arP2 ho0 _) dX6_readGift_34 fun w2 =>
  bw_aload_n hZ 1 rfl dX6_readGift_35 <|
  bw_ldcS hZ 36 rfl dX6_readGift_36 <|
  bw_callVI (As := [.ref (sK (zY Z) 34)]) hZ ml_RX6_126 rc_10 obC_1 (by decide) (c_X10_passes (zl Z) (zY Z) (hZ_S hZ) 34 (by decide) w2) rfl rfl (Nat.le_of_ble_eq_true rfl) dX6_readGift_38 fun r4 w3 =>
  bw_if_eq hZ (tgt := 89) (by decide) dX6_readGift_41 (fun _ =>
  bw_aload_n hZ 1 rfl dX6_readGift_89 <|
  bw_ldcS hZ 37 rfl dX6_readGift_90 <|
  bw_callVV (As := [.ref (sK (zY Z) 35)]) hZ ml_RX6_175 rc_10 obC_1 (by decide) (c_X10_need (zl Z) (zY Z) (hZ_S hZ) 35 (by decide) w3) rfl rfl (Nat.le_of_ble_eq_true rfl) dX6_readGift_92 fun w5 =>
  bw_aload_n hZ 0 rfl dX6_readGift_95 <|
  bw_getR hZ fl_RX6_15 (obP ho0) (rfP10 ho0) dX6_readGift_96 <|
  bw_aload_n hZ 0 rfl dX6_readGift_99 <|
  bw_getI hZ fl_RX6_53 (by decide) (obP ho0) dX6_readGift_100 <|
  bw_aload_n hZ 1 rfl dX6_readGift_103 <|
  bw_iconst hZ 1 (by decide) dX6_readGift_104 <|
  bw_ldc hZ kk_RX6_179 dX6_readGift_105 <|
  bw_callVI (As := [.int 1, .int 99999]) hZ ml_RX6_154 rc_10 obC_1 (by decide) (c_X10_number (zl Z) (zY Z) (hZ_S hZ) 1 99999 w5) rfl rfl (Nat.le_of_ble_eq_true rfl) dX6_readGift_107 fun r7 w6 =>
  bw_iast hZ (arP2 ho0 _) dX6_readGift_110 fun w8 =>
  bw_sub [0, 1, 2] rfl (t_X6_readGift_b111 hZ hE o0 ho0 w8)) (fun _ =>
  bw_aload_n hZ 0 rfl dX6_readGift_44 <|
  bw_getR hZ fl_RX6_9 (obP ho0) (rfP9 ho0) dX6_readGift_45 <|
  bw_aload_n hZ 0 rfl dX6_readGift_48 <|
  bw_getI hZ fl_RX6_53 (by decide) (obP ho0) dX6_readGift_49 <|
  bw_aload_n hZ 1 rfl dX6_readGift_52 <|
  bw_aload_n hZ 2 rfl dX6_readGift_53 <|
  bw_getR hZ fl_RX6_172 obC_31 rfl dX6_readGift_54 <|
  bw_aload_n hZ 0 rfl dX6_readGift_57 <|
  bw_getI hZ fl_RX6_59 (by decide) (obP ho0) dX6_readGift_58 <|
  bw_callVI (As := [.ref (ph (zY Z) 36), .int (w3.1 o0 15)]) hZ ml_RX6_168 rc_10 obC_1 (by decide) (c_X10_known (zl Z) (zY Z) (hZ_S hZ) 36 8 (w3.1 o0 15) isN36 w3) rfl rfl (Nat.le_of_ble_eq_true rfl) dX6_readGift_61 fun r19 w18 =>
  bw_iast hZ (arP1 ho0 _) dX6_readGift_64 fun w20 =>
  bw_aload_n hZ 0 rfl dX6_readGift_65 <|
  bw_dup hZ rfl dX6_readGift_66 <|
  bw_getI hZ fl_RX6_59 (by decide) (obP ho0) dX6_readGift_67 <|
  bw_aload_n hZ 0 rfl dX6_readGift_70 <|
  bw_getR hZ fl_RX6_9 (obP ho0) (rfP9 ho0) dX6_readGift_71 <|
  bw_aload_n hZ 0 rfl dX6_readGift_74 <|
  bw_getI hZ fl_RX6_53 (by decide) (obP ho0) dX6_readGift_75 <|
  bw_iald hZ (arP1 ho0 _) dX6_readGift_78 <|
  bw_callSI (As := [.int (w20.1 (o0 + 1) (Int32.toNatClampNeg (w20.1 o0 8)))]) hZ ms_RX6_138 (by decide) (c_X6_bit (zl Z) (zY Z) (hZ_S hZ) (w20.1 (o0 + 1) (Int32.toNatClampNeg (w20.1 o0 8))) w20) rfl rfl (Nat.le_of_ble_eq_true rfl) dX6_readGift_79 fun r22 w21 =>
  bw_ior hZ dX6_readGift_82 <|
  bw_putI hZ fl_RX6_59 rfl rfl (by decide) (obP ho0) dX6_readGift_83 fun w23 =>
  bw_goto hZ (tgt := 111) (by decide) dX6_readGift_86 <|
  bw_sub [0, 1, 2] rfl (t_X6_readGift_b111 hZ hE o0 ho0 w23))) (fun _ =>
  bw_aload_n hZ 1 rfl dX6_readGift_9 <|
  bw_iconst hZ 4 (by decide) dX6_readGift_10 <|
  bw_callVV (As := [.int 4]) hZ ml_RX6_143 rc_10 obC_1 (by decide) (c_X10_fail (zl Z) (zY Z) (hZ_S hZ) 4 w) rfl rfl (Nat.le_of_ble_eq_true rfl) dX6_readGift_11 fun w24 =>
  bw_vret hZ hE dX6_readGift_14)
theorem c_X6_readGift (l : Launch) (Y : Ev) (hY : Y.1 = SC) (o0 : Nat) (ho0 : IsP o0) (w : Wd) : CV l Y yX6_readGift cX6_readGift 3 8 [.ref (ph Y o0), .ref (ph Y 1), .ref (ph Y 31)] w (f_X6_readGift o0 w) := by
  refine CV_of (S := SC) (by decide) (Nat.le_of_ble_eq_true rfl) hY ?_
  intro Z hl hY2 hZ hE
  subst hY2
  exact t_X6_readGift hZ hE o0 ho0 w
