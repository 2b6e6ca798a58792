-- WhichWill$Outcomes.numberOf
theorem dX5_numberOf_0 : decode cX5_numberOf 0 = .ok (.iconst 0, 1) := by decide +kernel
theorem dX5_numberOf_1 : decode cX5_numberOf 1 = .ok (.istore_n 2, 1) := by decide +kernel
theorem dX5_numberOf_2 : decode cX5_numberOf 2 = .ok (.iconst 0, 1) := by decide +kernel
theorem dX5_numberOf_3 : decode cX5_numberOf 3 = .ok (.istore_n 3, 1) := by decide +kernel
theorem dX5_numberOf_4 : decode cX5_numberOf 4 = .ok (.iload_n 3, 1) := by decide +kernel
theorem dX5_numberOf_5 : decode cX5_numberOf 5 = .ok (.bipush 8, 2) := by decide +kernel
theorem dX5_numberOf_7 : decode cX5_numberOf 7 = .ok (.if_icmp .ge 18, 3) := by decide +kernel
theorem dX5_numberOf_10 : decode cX5_numberOf 10 = .ok (.iload_n 2, 1) := by decide +kernel
theorem dX5_numberOf_11 : decode cX5_numberOf 11 = .ok (.bipush 31, 2) := by decide +kernel
theorem dX5_numberOf_13 : decode cX5_numberOf 13 = .ok (.imul, 1) := by decide +kernel
theorem dX5_numberOf_14 : decode cX5_numberOf 14 = .ok (.aload_n 1, 1) := by decide +kernel
theorem dX5_numberOf_15 : decode cX5_numberOf 15 = .ok (.iload_n 3, 1) := by decide +kernel
theorem dX5_numberOf_16 : decode cX5_numberOf 16 = .ok (.iaload, 1) := by decide +kernel
theorem dX5_numberOf_17 : decode cX5_numberOf 17 = .ok (.iadd, 1) := by decide +kernel
theorem dX5_numberOf_18 : decode cX5_numberOf 18 = .ok (.istore_n 2, 1) := by decide +kernel
theorem dX5_numberOf_19 : decode cX5_numberOf 19 = .ok (.iinc 3 1, 3) := by decide +kernel
theorem dX5_numberOf_22 : decode cX5_numberOf 22 = .ok (.goto (-18), 3) := by decide +kernel
theorem dX5_numberOf_25 : decode cX5_numberOf 25 = .ok (.iload_n 2, 1) := by decide +kernel
theorem dX5_numberOf_26 : decode cX5_numberOf 26 = .ok (.iload_n 2, 1) := by decide +kernel
theorem dX5_numberOf_27 : decode cX5_numberOf 27 = .ok (.bipush 8, 2) := by decide +kernel
theorem dX5_numberOf_29 : decode cX5_numberOf 29 = .ok (.iushr, 1) := by decide +kernel
theorem dX5_numberOf_30 : decode cX5_numberOf 30 = .ok (.ixor, 1) := by decide +kernel
theorem dX5_numberOf_31 : decode cX5_numberOf 31 = .ok (.iload_n 2, 1) := by decide +kernel
theorem dX5_numberOf_32 : decode cX5_numberOf 32 = .ok (.bipush 16, 2) := by decide +kernel
theorem dX5_numberOf_34 : decode cX5_numberOf 34 = .ok (.iushr, 1) := by decide +kernel
theorem dX5_numberOf_35 : decode cX5_numberOf 35 = .ok (.ixor, 1) := by decide +kernel
theorem dX5_numberOf_36 : decode cX5_numberOf 36 = .ok (.sipush 255, 3) := by decide +kernel
theorem dX5_numberOf_39 : decode cX5_numberOf 39 = .ok (.iand, 1) := by decide +kernel
theorem dX5_numberOf_40 : decode cX5_numberOf 40 = .ok (.istore_n 2, 1) := by decide +kernel
theorem dX5_numberOf_41 : decode cX5_numberOf 41 = .ok (.aload_n 0, 1) := by decide +kernel
theorem dX5_numberOf_42 : decode cX5_numberOf 42 = .ok (.getfield 28, 3) := by decide +kernel
theorem dX5_numberOf_45 : decode cX5_numberOf 45 = .ok (.iload_n 2, 1) := by decide +kernel
theorem dX5_numberOf_46 : decode cX5_numberOf 46 = .ok (.iaload, 1) := by decide +kernel
theorem dX5_numberOf_47 : decode cX5_numberOf 47 = .ok (.istore_n 3, 1) := by decide +kernel
theorem dX5_numberOf_48 : decode cX5_numberOf 48 = .ok (.iconst 0, 1) := by decide +kernel
theorem dX5_numberOf_49 : decode cX5_numberOf 49 = .ok (.istore 4, 2) := by decide +kernel
theorem dX5_numberOf_51 : decode cX5_numberOf 51 = .ok (.iload 4, 2) := by decide +kernel
theorem dX5_numberOf_53 : decode cX5_numberOf 53 = .ok (.aload_n 0, 1) := by decide +kernel
theorem dX5_numberOf_54 : decode cX5_numberOf 54 = .ok (.getfield 47, 3) := by decide +kernel
theorem dX5_numberOf_57 : decode cX5_numberOf 57 = .ok (.if_icmp .ge 32, 3) := by decide +kernel
theorem dX5_numberOf_60 : decode cX5_numberOf 60 = .ok (.iload_n 3, 1) := by decide +kernel
theorem dX5_numberOf_61 : decode cX5_numberOf 61 = .ok (.iconst (-1), 1) := by decide +kernel
theorem dX5_numberOf_62 : decode cX5_numberOf 62 = .ok (.if_icmp .eq 27, 3) := by decide +kernel
theorem dX5_numberOf_65 : decode cX5_numberOf 65 = .ok (.aload_n 0, 1) := by decide +kernel
theorem dX5_numberOf_66 : decode cX5_numberOf 66 = .ok (.iload_n 3, 1) := by decide +kernel
theorem dX5_numberOf_67 : decode cX5_numberOf 67 = .ok (.aload_n 1, 1) := by decide +kernel
theorem dX5_numberOf_68 : decode cX5_numberOf 68 = .ok (.invokevirtual 82, 3) := by decide +kernel
theorem dX5_numberOf_71 : decode cX5_numberOf 71 = .ok (.ifCond .eq 5, 3) := by decide +kernel
theorem dX5_numberOf_74 : decode cX5_numberOf 74 = .ok (.iload_n 3, 1) := by decide +kernel
theorem dX5_numberOf_75 : decode cX5_numberOf 75 = .ok (.ireturn, 1) := by decide +kernel
theorem dX5_numberOf_76 : decode cX5_numberOf 76 = .ok (.aload_n 0, 1) := by decide +kernel
theorem dX5_numberOf_77 : decode cX5_numberOf 77 = .ok (.getfield 22, 3) := by decide +kernel
theorem dX5_numberOf_80 : decode cX5_numberOf 80 = .ok (.iload_n 3, 1) := by decide +kernel
theorem dX5_numberOf_81 : decode cX5_numberOf 81 = .ok (.iaload, 1) := by decide +kernel
theorem dX5_numberOf_82 : decode cX5_numberOf 82 = .ok (.istore_n 3, 1) := by decide +kernel
theorem dX5_numberOf_83 : decode cX5_numberOf 83 = .ok (.iinc 4 1, 3) := by decide +kernel
theorem dX5_numberOf_86 : decode cX5_numberOf 86 = .ok (.goto (-35), 3) := by decide +kernel
theorem dX5_numberOf_89 : decode cX5_numberOf 89 = .ok (.aload_n 0, 1) := by decide +kernel
theorem dX5_numberOf_90 : decode cX5_numberOf 90 = .ok (.aload_n 1, 1) := by decide +kernel
theorem dX5_numberOf_91 : decode cX5_numberOf 91 = .ok (.iload_n 2, 1) := by decide +kernel
theorem dX5_numberOf_92 : decode cX5_numberOf 92 = .ok (.invokevirtual 86, 3) := by decide +kernel
theorem dX5_numberOf_95 : decode cX5_numberOf 95 = .ok (.ireturn, 1) := by decide +kernel
def X5_numberOf_b89 (cp : Nat) (y2 : Int32) (w : Wd) : Option (Int32 × Wd × Nat) :=
  clm (f_X5_addRow cp y2 w) fun r5 w3 cp4 =>
  some (r5, w3, cp4)
theorem m_X5_numberOf_b89 (cp : Nat)  (y2 : Int32) (w : Wd) : Mono cI cp (X5_numberOf_b89 cp y2 w) :=
  (mo_clm (m_f_X5_addRow cp y2 w) fun r5 w3 cp4 => mo_some)
set_option maxRecDepth 100000 in
set_option maxHeartbeats 4000000 in
theorem t_X5_numberOf_b89 {Y0 : Ev} {Z : Cz (Int32 × Wd × Nat)} (hZ : OKZ Z SC cX5_numberOf RX5 5 (some .int) 7) (hE : EndM QMI cI Y0 Z)  (y2 : Int32)  (w : Wd) : BW Z 5 89 [(0, .ref (ph (zY Z) 16)), (1, .ref (ph (zY Z) 11)), (2, .int y2)] [] w (X5_numberOf_b89 (yc (zY Z)) y2 w) :=
  bw_aload_n hZ 0 rfl dX5_numberOf_89 <|
  bw_aload_n hZ 1 rfl dX5_numberOf_90 <|
  bw_iload_n hZ 2 rfl dX5_numberOf_91 <|
  bw_callMI (As := [.ref (ph (zY Z) 11), .int y2]) hZ hE ml_RX5_86 rc_5 obC_16 (by decide) (c_X5_addRow (zl Z) (zY Z) (hZ_S hZ) y2 w) rfl (fun Y => [(0, .ref (ph Y 16)), (1, .ref (ph Y 11)), (2, .int y2)]) (fun Y => []) rfl rfl (fun Y1 h => by have h11 := h.2.2.2.2.2.2.1 11 rfl; have h16 := h.2.2.2.2.2.2.1 16 rfl; simp only [h11, h16, and_self]) (Nat.le_of_ble_eq_true rfl) dX5_numberOf_92 (fun r5 w3 cp4 => mo_some) fun Z hZ hE _ r5 w3 =>
  bw_iretM hZ hE dX5_numberOf_95
def X5_numberOf_b51 (cp : Nat) (k51 : Nat → Int32 → Int32 → Int32 → Wd → Option (Int32 × Wd × Nat)) (y2 : Int32) (y3 : Int32) (y4 : Int32) (w : Wd) : Option (Int32 × Wd × Nat) :=
  if (w.1 16 1) ≤ y4 then
  (X5_numberOf_b89 cp y2 w)
  else
  if y3 = ((-1)) then
  (X5_numberOf_b89 cp y2 w)
  else
  cl (f_X5_isRow cp y3 w) fun r7 w6 =>
  if r7 = 0 then
  (if inb y3 cp = true then
  (lt (w6.1 19 (Int32.toNatClampNeg y3)) fun v8 =>
  k51 cp y2 v8 (y4 + 1) w6)
  else none)
  else
  some (y3, w6, cp)
theorem m_X5_numberOf_b51 (cp : Nat) (k51 : Nat → Int32 → Int32 → Int32 → Wd → Option (Int32 × Wd × Nat)) (hm51 : ∀ (cp : Nat) (y2 : Int32) (y3 : Int32) (y4 : Int32) (w : Wd), Mono cI cp (k51 cp y2 y3 y4 w)) (y2 : Int32) (y3 : Int32) (y4 : Int32) (w : Wd) : Mono cI cp (X5_numberOf_b51 cp k51 y2 y3 y4 w) :=
  (mo_if (m_X5_numberOf_b89 cp y2 w) (mo_if (m_X5_numberOf_b89 cp y2 w) (mo_cl fun r7 w6 => (mo_if (mo_if (mo_lt fun v8 => (hm51 cp y2 v8 (y4 + 1) w6)) mo_none) mo_some))))
set_option maxRecDepth 100000 in
set_option maxHeartbeats 4000000 in
theorem t_X5_numberOf_b51 {Y0 : Ev} {Z : Cz (Int32 × Wd × Nat)} (hZ : OKZ Z SC cX5_numberOf RX5 5 (some .int) 7) (hE : EndM QMI cI Y0 Z) (k51 : Nat → Int32 → Int32 → Int32 → Wd → Option (Int32 × Wd × Nat)) (hm51 : ∀ (cp : Nat) (y2 : Int32) (y3 : Int32) (y4 : Int32) (w : Wd), Mono cI cp (k51 cp y2 y3 y4 w)) (hk51 : ∀ {Z : Cz (Int32 × Wd × Nat)} (hZ : OKZ Z SC cX5_numberOf RX5 5 (some .int) 7) (hE : EndM QMI cI Y0 Z) (y2 : Int32) (y3 : Int32) (y4 : Int32)  (w : Wd), BW Z 5 51 [(0, .ref (ph (zY Z) 16)), (1, .ref (ph (zY Z) 11)), (2, .int y2), (3, .int y3), (4, .int y4)] [] w (k51 (yc (zY Z)) y2 y3 y4 w)) (y2 : Int32) (y3 : Int32) (y4 : Int32)  (w : Wd) : BW Z 5 51 [(0, .ref (ph (zY Z) 16)), (1, .ref (ph (zY Z) 11)), (2, .int y2), (3, .int y3), (4, .int y4)] [] w (X5_numberOf_b51 (yc (zY Z)) k51 y2 y3 y4 w) :=
  bw_iload hZ 4 rfl dX5_numberOf_51 <|
  bw_aload_n hZ 0 rfl dX5_numberOf_53 <|
  bw_getI hZ fl_RX5_47 (by decide) obC_16 dX5_numberOf_54 <|
  bw_icmp_ge hZ (tgt := 89) (by decide) dX5_numberOf_57 (fun _ =>
  bw_sub [0, 1, 2] rfl (t_X5_numberOf_b89 hZ hE y2 w)) (fun _ =>
  bw_iload_n hZ 3 rfl dX5_numberOf_60 <|
  bw_iconst hZ (-1) (by decide) dX5_numberOf_61 <|
  bw_icmp_eq hZ (tgt := 89) (by decide) dX5_numberOf_62 (fun _ =>
  bw_sub [0, 1, 2] rfl (t_X5_numberOf_b89 hZ hE y2 w)) (fun _ =>
  bw_aload_n hZ 0 rfl dX5_numberOf_65 <|
  bw_iload_n hZ 3 rfl dX5_numberOf_66 <|
  bw_aload_n hZ 1 rfl dX5_numberOf_67 <|
  bw_callVI (As := [.int y3, .ref (ph (zY Z) 11)]) hZ ml_RX5_82 rc_5 obC_16 (by decide) (c_X5_isRow (zl Z) (zY Z) (hZ_S hZ) y3 w) rfl rfl (Nat.le_of_ble_eq_true rfl) dX5_numberOf_68 fun r7 w6 =>
  bw_if_eq hZ (tgt := 76) (by decide) dX5_numberOf_71 (fun _ =>
  bw_aload_n hZ 0 rfl dX5_numberOf_76 <|
  bw_getR hZ fl_RX5_22 obC_16 rfl dX5_numberOf_77 <|
  bw_iload_n hZ 3 rfl dX5_numberOf_80 <|
  bw_iald hZ (arC_19 _) dX5_numberOf_81 <|
  bw_nm fun v8 =>
  bw_istore_n hZ rfl (by decide) rfl dX5_numberOf_82 <|
  bw_iinc hZ 1 4 rfl (by decide) (by decide) rfl dX5_numberOf_83 <|
  bw_goto hZ (tgt := 51) (by decide) dX5_numberOf_86 <|
  bw_sub [2, 3, 4, 1, 0] rfl (hk51 hZ hE y2 v8 (y4 + 1) w6)) (fun _ =>
  bw_iload_n hZ 3 rfl dX5_numberOf_74 <|
  bw_iretM hZ hE dX5_numberOf_75)))
def X5_numberOf_b51_L (cp : Nat) (y2 : Int32) (y3 : Int32) (y4 : Int32) (w : Wd) : Option (Int32 × Wd × Nat) :=
  lp fu (fun _ _ _ _ _ => none) (fun k51 cp y2 y3 y4 w => X5_numberOf_b51 cp k51 y2 y3 y4 w) cp y2 y3 y4 w
theorem m_X5_numberOf_b51_L (cp : Nat)  (y2 : Int32) (y3 : Int32) (y4 : Int32) (w : Wd) : Mono cI cp (X5_numberOf_b51_L cp y2 y3 y4 w) :=
  lp_bw (fun (k51 : Nat → Int32 → Int32 → Int32 → Wd → Option (Int32 × Wd × Nat)) => ∀ (cp : Nat) (y2 : Int32) (y3 : Int32) (y4 : Int32) (w : Wd), Mono cI cp (k51 cp y2 y3 y4 w)) (fun _ _ _ _ _ => mo_none) (fun k51 hm51 cp y2 y3 y4 w => m_X5_numberOf_b51 cp k51 hm51 y2 y3 y4 w) fu cp y2 y3 y4 w
theorem t_X5_numberOf_b51_L {Y0 : Ev} {Z : Cz (Int32 × Wd × Nat)} (hZ : OKZ Z SC cX5_numberOf RX5 5 (some .int) 7) (hE : EndM QMI cI Y0 Z)  (y2 : Int32) (y3 : Int32) (y4 : Int32)  (w : Wd) : BW Z 5 51 [(0, .ref (ph (zY Z) 16)), (1, .ref (ph (zY Z) 11)), (2, .int y2), (3, .int y3), (4, .int y4)] [] w (X5_numberOf_b51_L (yc (zY Z)) y2 y3 y4 w) :=
  (lp_bw (fun (k51 : Nat → Int32 → Int32 → Int32 → Wd → Option (Int32 × Wd × Nat)) => (∀ (cp : Nat) (y2 : Int32) (y3 : Int32) (y4 : Int32) (w : Wd), Mono cI cp (k51 cp y2 y3 y4 w)) ∧ ∀ {Z : Cz (Int32 × Wd × Nat)} (hZ : OKZ Z SC cX5_numberOf RX5 5 (some .int) 7) (hE : EndM QMI cI Y0 Z) (y2 : Int32) (y3 : Int32) (y4 : Int32)  (w : Wd), BW Z 5 51 [(0, .ref (ph (zY Z) 16)), (1, .ref (ph (zY Z) 11)), (2, .int y2), (3, .int y3), (4, .int y4)] [] w (k51 (yc (zY Z)) y2 y3 y4 w)) ⟨fun _ _ _ _ _ => mo_none, fun _ _ _ _ _ _ => bw_none⟩ (fun k51 hb => ⟨fun cp y2 y3 y4 w => m_X5_numberOf_b51 cp k51 hb.1 y2 y3 y4 w, fun {Z} hZ hE y2 y3 y4 w => t_X5_numberOf_b51 hZ hE k51 hb.1 hb.2 y2 y3 y4 w⟩) fu).2 hZ hE y2 y3 y4 w
def X5_numberOf_b4 (cp : Nat) (k4 : Nat → Int32 → Int32 → Wd → Option (Int32 × Wd × Nat)) (y2 : Int32) (y3 : Int32) (w : Wd) : Option (Int32 × Wd × Nat) :=
  if 8 ≤ y3 then
  (lt (((y2 ^^^ ((y2.toUInt32 >>> (Int32.toUInt32 8 &&& Int32.toUInt32 31)).toInt32)) ^^^ ((y2.toUInt32 >>> (Int32.toUInt32 16 &&& Int32.toUInt32 31)).toInt32)) &&& 255) fun v1 =>
  if inb v1 256 = true then
  (lt (w.1 21 (Int32.toNatClampNeg v1)) fun v2 =>
  X5_numberOf_b51_L cp v1 v2 0 w)
  else none)
  else
  if inb y3 8 = true then
  (lt ((y2 * 31) + (w.1 11 (Int32.toNatClampNeg y3))) fun v9 =>
  k4 cp v9 (y3 + 1) w)
  else none
theorem m_X5_numberOf_b4 (cp : Nat) (k4 : Nat → Int32 → Int32 → Wd → Option (Int32 × Wd × Nat)) (hm4 : ∀ (cp : Nat) (y2 : Int32) (y3 : Int32) (w : Wd), Mono cI cp (k4 cp y2 y3 w)) (y2 : Int32) (y3 : Int32) (w : Wd) : Mono cI cp (X5_numberOf_b4 cp k4 y2 y3 w) :=
  (mo_if (mo_lt fun v1 => (mo_if (mo_lt fun v2 => (m_X5_numberOf_b51_L cp v1 v2 0 w)) mo_none)) (mo_if (mo_lt fun v9 => (hm4 cp v9 (y3 + 1) w)) mo_none))
set_option maxRecDepth 100000 in
set_option maxHeartbeats 4000000 in
theorem t_X5_numberOf_b4 {Y0 : Ev} {Z : Cz (Int32 × Wd × Nat)} (hZ : OKZ Z SC cX5_numberOf RX5 5 (some .int) 7) (hE : EndM QMI cI Y0 Z) (k4 : Nat → Int32 → Int32 → Wd → Option (Int32 × Wd × Nat)) (hm4 : ∀ (cp : Nat) (y2 : Int32) (y3 : Int32) (w : Wd), Mono cI cp (k4 cp y2 y3 w)) (hk4 : ∀ {Z : Cz (Int32 × Wd × Nat)} (hZ : OKZ Z SC cX5_numberOf RX5 5 (some .int) 7) (hE : EndM QMI cI Y0 Z) (y2 : Int32) (y3 : Int32)  (w : Wd), BW Z 5 4 [(0, .ref (ph (zY Z) 16)), (1, .ref (ph (zY Z) 11)), (2, .int y2), (3, .int y3)] [] w (k4 (yc (zY Z)) y2 y3 w)) (y2 : Int32) (y3 : Int32)  (w : Wd) : BW Z 5 4 [(0, .ref (ph (zY Z) 16)), (1, .ref (ph (zY Z) 11)), (2, .int y2), (3, .int y3)] [] w (X5_numberOf_b4 (yc (zY Z)) k4 y2 y3 w) :=
  bw_iload_n hZ 3 rfl dX5_numberOf_4 <|
  bw_bipush hZ 8 (by decide) dX5_numberOf_5 <|
  bw_icmp_ge hZ (tgt := 25) (by decide) dX5_numberOf_7 (fun _ =>
  bw_iload_n hZ 2 rfl dX5_numberOf_25 <|
  bw_iload_n hZ 2 rfl dX5_numberOf_26 <|
  bw_bipush hZ 8 (by decide) dX5_numberOf_27 <|
  bw_iushr hZ dX5_numberOf_29 <|
  bw_ixor hZ dX5_numberOf_30 <|
  bw_iload_n hZ 2 rfl dX5_numberOf_31 <|
  bw_bipush hZ 16 (by decide) dX5_numberOf_32 <|
  bw_iushr hZ dX5_numberOf_34 <|
  bw_ixor hZ dX5_numberOf_35 <|
  bw_sipush hZ 255 (by decide) dX5_numberOf_36 <|
  bw_iand hZ dX5_numberOf_39 <|
  bw_nm fun v1 =>
  bw_istore_n hZ rfl (by decide) rfl dX5_numberOf_40 <|
  bw_aload_n hZ 1 rfl dX5_numberOf_41 <|
  bw_getR hZ fl_RX5_28 obC_16 rfl dX5_numberOf_42 <|
  bw_iload_n hZ 0 rfl dX5_numberOf_45 <|
  bw_iald hZ (arC_21 _) dX5_numberOf_46 <|
  bw_nm fun v2 =>
  bw_istore_n hZ rfl (by decide) rfl dX5_numberOf_47 <|
  bw_iconst hZ 0 (by decide) dX5_numberOf_48 <|
  bw_istore hZ (by decide) rfl dX5_numberOf_49 <|
  bw_sub [3, 4, 2, 1, 0] rfl (t_X5_numberOf_b51_L hZ hE v1 v2 0 w)) (fun _ =>
  bw_iload_n hZ 2 rfl dX5_numberOf_10 <|
  bw_bipush hZ 31 (by decide) dX5_numberOf_11 <|
  bw_imul hZ dX5_numberOf_13 <|
  bw_aload_n hZ 1 rfl dX5_numberOf_14 <|
  bw_iload_n hZ 3 rfl dX5_numberOf_15 <|
  bw_iald hZ (arC_11 _) dX5_numberOf_16 <|
  bw_iadd hZ dX5_numberOf_17 <|
  bw_nm fun v9 =>
  bw_istore_n hZ rfl (by decide) rfl dX5_numberOf_18 <|
  bw_iinc hZ 1 3 rfl (by decide) (by decide) rfl dX5_numberOf_19 <|
  bw_goto hZ (tgt := 4) (by decide) dX5_numberOf_22 <|
  bw_sub [2, 3, 1, 0] rfl (hk4 hZ hE v9 (y3 + 1) w))
def X5_numberOf_b4_L (cp : Nat) (y2 : Int32) (y3 : Int32) (w : Wd) : Option (Int32 × Wd × Nat) :=
  lp fu (fun _ _ _ _ => none) (fun k4 cp y2 y3 w => X5_numberOf_b4 cp k4 y2 y3 w) cp y2 y3 w
theorem m_X5_numberOf_b4_L (cp : Nat)  (y2 : Int32) (y3 : Int32) (w : Wd) : Mono cI cp (X5_numberOf_b4_L cp y2 y3 w) :=
  lp_bw (fun (k4 : Nat → Int32 → Int32 → Wd → Option (Int32 × Wd × Nat)) => ∀ (cp : Nat) (y2 : Int32) (y3 : Int32) (w : Wd), Mono cI cp (k4 cp y2 y3 w)) (fun _ _ _ _ => mo_none) (fun k4 hm4 cp y2 y3 w => m_X5_numberOf_b4 cp k4 hm4 y2 y3 w) fu cp y2 y3 w
theorem t_X5_numberOf_b4_L {Y0 : Ev} {Z : Cz (Int32 × Wd × Nat)} (hZ : OKZ Z SC cX5_numberOf RX5 5 (some .int) 7) (hE : EndM QMI cI Y0 Z)  (y2 : Int32) (y3 : Int32)  (w : Wd) : BW Z 5 4 [(0, .ref (ph (zY Z) 16)), (1, .ref (ph (zY Z) 11)), (2, .int y2), (3, .int y3)] [] w (X5_numberOf_b4_L (yc (zY Z)) y2 y3 w) :=
  (lp_bw (fun (k4 : Nat → Int32 → Int32 → Wd → Option (Int32 × Wd × Nat)) => (∀ (cp : Nat) (y2 : Int32) (y3 : Int32) (w : Wd), Mono cI cp (k4 cp y2 y3 w)) ∧ ∀ {Z : Cz (Int32 × Wd × Nat)} (hZ : OKZ Z SC cX5_numberOf RX5 5 (some .int) 7) (hE : EndM QMI cI Y0 Z) (y2 : Int32) (y3 : Int32)  (w : Wd), BW Z 5 4 [(0, .ref (ph (zY Z) 16)), (1, .ref (ph (zY Z) 11)), (2, .int y2), (3, .int y3)] [] w (k4 (yc (zY Z)) y2 y3 w)) ⟨fun _ _ _ _ => mo_none, fun _ _ _ _ _ => bw_none⟩ (fun k4 hb => ⟨fun cp y2 y3 w => m_X5_numberOf_b4 cp k4 hb.1 y2 y3 w, fun {Z} hZ hE y2 y3 w => t_X5_numberOf_b4 hZ hE k4 hb.1 hb.2 y2 y3 w⟩) fu).2 hZ hE y2 y3 w
def f_X5_numberOf (cp : Nat) (w : Wd) : Option (Int32 × Wd × Nat) :=
  X5_numberOf_b4_L cp 0 0 w
theorem m_f_X5_numberOf (cp : Nat)  (w : Wd) : Mono cI cp (f_X5_numberOf cp w) :=
  (m_X5_numberOf_b4_L cp 0 0 w)
set_option maxRecDepth 100000 in
set_option maxHeartbeats 4000000 in
theorem t_X5_numberOf {Y0 : Ev} {Z : Cz (Int32 × Wd × Nat)} (hZ : OKZ Z SC cX5_numberOf RX5 5 (some .int) 7) (hE : EndM QMI cI Y0 Z)   (w : Wd) : BW Z 5 0 [(0, .ref (ph (zY Z) 16)), (1, .ref (ph (zY Z) 11))] [] w (f_X5_numberOf (yc (zY Z)) w) :=
  bw_iconst hZ 0 (by decide) dX5_numberOf_0 <|
  bw_istore_n hZ rfl (by decide) rfl dX5_numberOf_1 <|
  bw_iconst hZ 0 (by decide) dX5_numberOf_2 <|
  bw_istore_n hZ rfl (by decide) rfl dX5_numberOf_3 <|
  bw_sub [2, 3, 1, 0] rfl (t_X5_numberOf_b4_L hZ hE 0 0 w)
theorem c_X5_numberOf (l : Launch) (Y : Ev) (hY : Y.1 = SC)   (w : Wd) : CMI l Y yX5_numberOf cX5_numberOf 5 7 [.ref (ph Y 16), .ref (ph Y 11)] w .int (f_X5_numberOf (yc Y) w) := by
  refine CMI_of (S := SC) (by decide) (Nat.le_of_ble_eq_true rfl) hY ?_
  intro Z hl hY2 hZ hE
  subst hY2
  exact t_X5_numberOf hZ hE w
-- WhichWill$Outcomes.bringUpToDate
theorem dX5_bringUpToDate_0 : decode cX5_bringUpToDate 0 = .ok (.aload_n 0, 1) := by decide +kernel
theorem dX5_bringUpToDate_1 : decode cX5_bringUpToDate 1 = .ok (.getfield 31, 3) := by decide +kernel
theorem dX5_bringUpToDate_4 : decode cX5_bringUpToDate 4 = .ok (.aload_n 0, 1) := by decide +kernel
theorem dX5_bringUpToDate_5 : decode cX5_bringUpToDate 5 = .ok (.getfield 34, 3) := by decide +kernel
theorem dX5_bringUpToDate_8 : decode cX5_bringUpToDate 8 = .ok (.getfield 42, 3) := by decide +kernel
theorem dX5_bringUpToDate_11 : decode cX5_bringUpToDate 11 = .ok (.if_icmp .ne 4, 3) := by decide +kernel
theorem dX5_bringUpToDate_14 : decode cX5_bringUpToDate 14 = .ok (.return_, 1) := by decide +kernel
theorem dX5_bringUpToDate_15 : decode cX5_bringUpToDate 15 = .ok (.aload_n 0, 1) := by decide +kernel
theorem dX5_bringUpToDate_16 : decode cX5_bringUpToDate 16 = .ok (.iconst 0, 1) := by decide +kernel
theorem dX5_bringUpToDate_17 : decode cX5_bringUpToDate 17 = .ok (.putfield 47, 3) := by decide +kernel
theorem dX5_bringUpToDate_20 : decode cX5_bringUpToDate 20 = .ok (.aload_n 0, 1) := by decide +kernel
theorem dX5_bringUpToDate_21 : decode cX5_bringUpToDate 21 = .ok (.getfield 28, 3) := by decide +kernel
theorem dX5_bringUpToDate_24 : decode cX5_bringUpToDate 24 = .ok (.iconst (-1), 1) := by decide +kernel
theorem dX5_bringUpToDate_25 : decode cX5_bringUpToDate 25 = .ok (.invokestatic 50, 3) := by decide +kernel
theorem dX5_bringUpToDate_28 : decode cX5_bringUpToDate 28 = .ok (.aload_n 0, 1) := by decide +kernel
theorem dX5_bringUpToDate_29 : decode cX5_bringUpToDate 29 = .ok (.getfield 34, 3) := by decide +kernel
theorem dX5_bringUpToDate_32 : decode cX5_bringUpToDate 32 = .ok (.invokevirtual 56, 3) := by decide +kernel
theorem dX5_bringUpToDate_35 : decode cX5_bringUpToDate 35 = .ok (.istore_n 1, 1) := by decide +kernel
theorem dX5_bringUpToDate_36 : decode cX5_bringUpToDate 36 = .ok (.iload_n 1, 1) := by decide +kernel
theorem dX5_bringUpToDate_37 : decode cX5_bringUpToDate 37 = .ok (.ifCond .le 10, 3) := by decide +kernel
theorem dX5_bringUpToDate_40 : decode cX5_bringUpToDate 40 = .ok (.aload_n 0, 1) := by decide +kernel
theorem dX5_bringUpToDate_41 : decode cX5_bringUpToDate 41 = .ok (.getfield 38, 3) := by decide +kernel
theorem dX5_bringUpToDate_44 : decode cX5_bringUpToDate 44 = .ok (.invokevirtual 60, 3) := by decide +kernel
theorem dX5_bringUpToDate_47 : decode cX5_bringUpToDate 47 = .ok (.aload_n 0, 1) := by decide +kernel
theorem dX5_bringUpToDate_48 : decode cX5_bringUpToDate 48 = .ok (.getfield 34, 3) := by decide +kernel
theorem dX5_bringUpToDate_51 : decode cX5_bringUpToDate 51 = .ok (.invokevirtual 65, 3) := by decide +kernel
theorem dX5_bringUpToDate_54 : decode cX5_bringUpToDate 54 = .ok (.istore_n 2, 1) := by decide +kernel
theorem dX5_bringUpToDate_55 : decode cX5_bringUpToDate 55 = .ok (.iconst 0, 1) := by decide +kernel
theorem dX5_bringUpToDate_56 : decode cX5_bringUpToDate 56 = .ok (.istore_n 3, 1) := by decide +kernel
theorem dX5_bringUpToDate_57 : decode cX5_bringUpToDate 57 = .ok (.iload_n 3, 1) := by decide +kernel
theorem dX5_bringUpToDate_58 : decode cX5_bringUpToDate 58 = .ok (.iload_n 1, 1) := by decide +kernel
theorem dX5_bringUpToDate_59 : decode cX5_bringUpToDate 59 = .ok (.if_icmp .ge 66, 3) := by decide +kernel
theorem dX5_bringUpToDate_62 : decode cX5_bringUpToDate 62 = .ok (.iload_n 3, 1) := by decide +kernel
theorem dX5_bringUpToDate_63 : decode cX5_bringUpToDate 63 = .ok (.iload_n 2, 1) := by decide +kernel
theorem dX5_bringUpToDate_64 : decode cX5_bringUpToDate 64 = .ok (.iand, 1) := by decide +kernel
theorem dX5_bringUpToDate_65 : decode cX5_bringUpToDate 65 = .ok (.ifCond .eq 22, 3) := by decide +kernel
theorem dX5_bringUpToDate_68 : decode cX5_bringUpToDate 68 = .ok (.aload_n 0, 1) := by decide +kernel
theorem dX5_bringUpToDate_69 : decode cX5_bringUpToDate 69 = .ok (.getfield 9, 3) := by decide +kernel
theorem dX5_bringUpToDate_72 : decode cX5_bringUpToDate 72 = .ok (.iload_n 3, 1) := by decide +kernel
theorem dX5_bringUpToDate_73 : decode cX5_bringUpToDate 73 = .ok (.aload_n 0, 1) := by decide +kernel
theorem dX5_bringUpToDate_74 : decode cX5_bringUpToDate 74 = .ok (.getfield 9, 3) := by decide +kernel
theorem dX5_bringUpToDate_77 : decode cX5_bringUpToDate 77 = .ok (.iload_n 3, 1) := by decide +kernel
theorem dX5_bringUpToDate_78 : decode cX5_bringUpToDate 78 = .ok (.iload_n 2, 1) := by decide +kernel
theorem dX5_bringUpToDate_79 : decode cX5_bringUpToDate 79 = .ok (.iconst (-1), 1) := by decide +kernel
theorem dX5_bringUpToDate_80 : decode cX5_bringUpToDate 80 = .ok (.ixor, 1) := by decide +kernel
theorem dX5_bringUpToDate_81 : decode cX5_bringUpToDate 81 = .ok (.iand, 1) := by decide +kernel
theorem dX5_bringUpToDate_82 : decode cX5_bringUpToDate 82 = .ok (.iaload, 1) := by decide +kernel
theorem dX5_bringUpToDate_83 : decode cX5_bringUpToDate 83 = .ok (.iastore, 1) := by decide +kernel
theorem dX5_bringUpToDate_84 : decode cX5_bringUpToDate 84 = .ok (.goto 35, 3) := by decide +kernel
theorem dX5_bringUpToDate_87 : decode cX5_bringUpToDate 87 = .ok (.aload_n 0, 1) := by decide +kernel
theorem dX5_bringUpToDate_88 : decode cX5_bringUpToDate 88 = .ok (.getfield 38, 3) := by decide +kernel
theorem dX5_bringUpToDate_91 : decode cX5_bringUpToDate 91 = .ok (.iload_n 3, 1) := by decide +kernel
theorem dX5_bringUpToDate_92 : decode cX5_bringUpToDate 92 = .ok (.invokevirtual 68, 3) := by decide +kernel
theorem dX5_bringUpToDate_95 : decode cX5_bringUpToDate 95 = .ok (.aload_n 0, 1) := by decide +kernel
theorem dX5_bringUpToDate_96 : decode cX5_bringUpToDate 96 = .ok (.getfield 38, 3) := by decide +kernel
theorem dX5_bringUpToDate_99 : decode cX5_bringUpToDate 99 = .ok (.invokevirtual 72, 3) := by decide +kernel
theorem dX5_bringUpToDate_102 : decode cX5_bringUpToDate 102 = .ok (.aload_n 0, 1) := by decide +kernel
theorem dX5_bringUpToDate_103 : decode cX5_bringUpToDate 103 = .ok (.getfield 9, 3) := by decide +kernel
theorem dX5_bringUpToDate_106 : decode cX5_bringUpToDate 106 = .ok (.iload_n 3, 1) := by decide +kernel
theorem dX5_bringUpToDate_107 : decode cX5_bringUpToDate 107 = .ok (.aload_n 0, 1) := by decide +kernel
theorem dX5_bringUpToDate_108 : decode cX5_bringUpToDate 108 = .ok (.aload_n 0, 1) := by decide +kernel
theorem dX5_bringUpToDate_109 : decode cX5_bringUpToDate 109 = .ok (.getfield 38, 3) := by decide +kernel
theorem dX5_bringUpToDate_112 : decode cX5_bringUpToDate 112 = .ok (.getfield 75, 3) := by decide +kernel
theorem dX5_bringUpToDate_115 : decode cX5_bringUpToDate 115 = .ok (.invokevirtual 78, 3) := by decide +kernel
theorem dX5_bringUpToDate_118 : decode cX5_bringUpToDate 118 = .ok (.iastore, 1) := by decide +kernel
theorem dX5_bringUpToDate_119 : decode cX5_bringUpToDate 119 = .ok (.iinc 3 1, 3) := by decide +kernel
theorem dX5_bringUpToDate_122 : decode cX5_bringUpToDate 122 = .ok (.goto (-65), 3) := by decide +kernel
theorem dX5_bringUpToDate_125 : decode cX5_bringUpToDate 125 = .ok (.aload_n 0, 1) := by decide +kernel
theorem dX5_bringUpToDate_126 : decode cX5_bringUpToDate 126 = .ok (.aload_n 0, 1) := by decide +kernel
theorem dX5_bringUpToDate_127 : decode cX5_bringUpToDate 127 = .ok (.getfield 34, 3) := by decide +kernel
theorem dX5_bringUpToDate_130 : decode cX5_bringUpToDate 130 = .ok (.getfield 42, 3) := by decide +kernel
theorem dX5_bringUpToDate_133 : decode cX5_bringUpToDate 133 = .ok (.putfield 31, 3) := by decide +kernel
theorem dX5_bringUpToDate_136 : decode cX5_bringUpToDate 136 = .ok (.return_, 1) := by decide +kernel
def X5_bringUpToDate_b57 (cp : Nat) (k57 : Nat → Int32 → Int32 → Int32 → Wd → Option (Wd × Nat)) (y1 : Int32) (y2 : Int32) (y3 : Int32) (w : Wd) : Option (Wd × Nat) :=
  if y1 ≤ y3 then
  (lt (wI w 16 9 (w.1 3 6)) fun w7 =>
  some (w7, cp))
  else
  if (y3 &&& y2) = 0 then
  (cv (f_X7_takeWay y3 w) fun w8 =>
  cv (f_X7_addUp w8) fun w9 =>
  clm (f_X5_numberOf cp w9) fun r12 w10 cp11 =>
  if inb y3 5760 = true then
  (lt (wI w10 17 (Int32.toNatClampNeg y3) r12) fun w13 =>
  k57 cp11 y1 y2 (y3 + 1) w13)
  else none)
  else
  if inb (y3 &&& (y2 ^^^ ((-1)))) 5760 = true then
  (if inb y3 5760 = true then
  (lt (wI w 17 (Int32.toNatClampNeg y3) (w.1 17 (Int32.toNatClampNeg (y3 &&& (y2 ^^^ ((-1))))))) fun w14 =>
  k57 cp y1 y2 (y3 + 1) w14)
  else none)
  else none
theorem m_X5_bringUpToDate_b57 (cp : Nat) (k57 : Nat → Int32 → Int32 → Int32 → Wd → Option (Wd × Nat)) (hm57 : ∀ (cp : Nat) (y1 : Int32) (y2 : Int32) (y3 : Int32) (w : Wd), Mono cV cp (k57 cp y1 y2 y3 w)) (y1 : Int32) (y2 : Int32) (y3 : Int32) (w : Wd) : Mono cV cp (X5_bringUpToDate_b57 cp k57 y1 y2 y3 w) :=
  (mo_if (mo_lt fun w7 => mo_some) (mo_if (mo_cv fun w8 => (mo_cv fun w9 => (mo_clm (m_f_X5_numberOf cp w9) fun r12 w10 cp11 => (mo_if (mo_lt fun w13 => (hm57 cp11 y1 y2 (y3 + 1) w13)) mo_none)))) (mo_if (mo_if (mo_lt fun w14 => (hm57 cp y1 y2 (y3 + 1) w14)) mo_none) mo_none)))
set_option maxRecDepth 100000 in
set_option maxHeartbeats 4000000 in
theorem t_X5_bringUpToDate_b57 {Y0 : Ev} {Z : Cz (Wd × Nat)} (hZ : OKZ Z SC cX5_bringUpToDate RX5 4 none 8) (hE : EndM QMV cV Y0 Z) (k57 : Nat → Int32 → Int32 → Int32 → Wd → Option (Wd × Nat)) (hm57 : ∀ (cp : Nat) (y1 : Int32) (y2 : Int32) (y3 : Int32) (w : Wd), Mono cV cp (k57 cp y1 y2 y3 w)) (hk57 : ∀ {Z : Cz (Wd × Nat)} (hZ : OKZ Z SC cX5_bringUpToDate RX5 4 none 8) (hE : EndM QMV cV Y0 Z) (y1 : Int32) (y2 : Int32) (y3 : Int32)  (w : Wd), BW Z 4 57 [(0, .ref (ph (zY Z) 16)), (1, .int y1), (2, .int y2), (3, .int y3)] [] w (k57 (yc (zY Z)) y1 y2 y3 w)) (y1 : Int32) (y2 : Int32) (y3 : Int32)  (w : Wd) : BW Z 4 57 [(0, .ref (ph (zY Z) 16)), (1, .int y1), (2, .int y2), (3, .int y3)] [] w (X5_bringUpToDate_b57 (yc (zY Z)) k57 y1 y2 y3 w) :=
  bw_iload_n hZ 3 rfl dX5_bringUpToDate_57 <|
  bw_iload_n hZ 1 rfl dX5_bringUpToDate_58 <|
  bw_icmp_ge hZ (tgt := 125) (by decide) dX5_bringUpToDate_59 (fun _ =>
  bw_aload_n hZ 0 rfl dX5_bringUpToDate_125 <|
  bw_aload_n hZ 0 rfl dX5_bringUpToDate_126 <|
  bw_getR hZ fl_RX5_34 obC_16 rfl dX5_bringUpToDate_127 <|
  bw_getI hZ fl_RX5_42 (by decide) obC_3 dX5_bringUpToDate_130 <|
  bw_putI hZ fl_RX5_31 rfl rfl (by decide) obC_16 dX5_bringUpToDate_133 fun w7 =>
  bw_vretM hZ hE dX5_bringUpToDate_136) (fun _ =>
  bw_iload_n hZ 3 rfl dX5_bringUpToDate_62 <|
  bw_iload_n hZ 2 rfl dX5_bringUpToDate_63 <|
  bw_iand hZ dX5_bringUpToDate_64 <|
  bw_if_eq hZ (tgt := 87) (by decide) dX5_bringUpToDate_65 (fun _ =>
  bw_aload_n hZ 0 rfl dX5_bringUpToDate_87 <|
  bw_getR hZ fl_RX5_38 obC_16 rfl dX5_bringUpToDate_88 <|
  bw_iload_n hZ 3 rfl dX5_bringUpToDate_91 <|
  bw_callVV (As := [.int y3]) hZ ml_RX5_68 rc_7 obC_8 (by decide) (c_X7_takeWay (zl Z) (zY Z) (hZ_S hZ) y3 w) rfl rfl (Nat.le_of_ble_eq_true rfl) dX5_bringUpToDate_92 fun w8 =>
  bw_aload_n hZ 0 rfl dX5_bringUpToDate_95 <|
  bw_getR hZ fl_RX5_38 obC_16 rfl dX5_bringUpToDate_96 <|
  bw_callVV (As := []) hZ ml_RX5_72 rc_7 obC_8 (by decide) (c_X7_addUp (zl Z) (zY Z) (hZ_S hZ) w8) rfl rfl (Nat.le_of_ble_eq_true rfl) dX5_bringUpToDate_99 fun w9 =>
  bw_aload_n hZ 0 rfl dX5_bringUpToDate_102 <|
  bw_getR hZ fl_RX5_9 obC_16 rfl dX5_bringUpToDate_103 <|
  bw_iload_n hZ 3 rfl dX5_bringUpToDate_106 <|
  bw_aload_n hZ 0 rfl dX5_bringUpToDate_107 <|
  bw_aload_n hZ 0 rfl dX5_bringUpToDate_108 <|
  bw_getR hZ fl_RX5_38 obC_16 rfl dX5_bringUpToDate_109 <|
  bw_getR hZ fl_RX5_75 obC_8 rfl dX5_bringUpToDate_112 <|
  bw_callMI (As := [.ref (ph (zY Z) 11)]) hZ hE ml_RX5_78 rc_5 obC_16 (by decide) (c_X5_numberOf (zl Z) (zY Z) (hZ_S hZ) w9) rfl (fun Y => [(0, .ref (ph Y 16)), (1, .int y1), (2, .int y2), (3, .int y3)]) (fun Y => [.int y3, .ref (ph Y 17)]) rfl rfl (fun Y1 h => by have h16 := h.2.2.2.2.2.2.1 16 rfl; have h17 := h.2.2.2.2.2.2.1 17 rfl; simp only [h16, h17, and_self]) (Nat.le_of_ble_eq_true rfl) dX5_bringUpToDate_115 (fun r12 w10 cp11 => (mo_if (mo_lt fun w13 => (hm57 cp11 y1 y2 (y3 + 1) w13)) mo_none)) fun Z hZ hE _ r12 w10 =>
  bw_iast hZ (arC_17 _) dX5_bringUpToDate_118 fun w13 =>
  bw_iinc hZ 1 3 rfl (by decide) (by decide) rfl dX5_bringUpToDate_119 <|
  bw_goto hZ (tgt := 57) (by decide) dX5_bringUpToDate_122 <|
  bw_sub [1, 2, 3, 0] rfl (hk57 hZ hE y1 y2 (y3 + 1) w13)) (fun _ =>
  bw_aload_n hZ 0 rfl dX5_bringUpToDate_68 <|
  bw_getR hZ fl_RX5_9 obC_16 rfl dX5_bringUpToDate_69 <|
  bw_iload_n hZ 3 rfl dX5_bringUpToDate_72 <|
  bw_aload_n hZ 0 rfl dX5_bringUpToDate_73 <|
  bw_getR hZ fl_RX5_9 obC_16 rfl dX5_bringUpToDate_74 <|
  bw_iload_n hZ 3 rfl dX5_bringUpToDate_77 <|
  bw_iload_n hZ 2 rfl dX5_bringUpToDate_78 <|
  bw_iconst hZ (-1) (by decide) dX5_bringUpToDate_79 <|
  bw_ixor hZ dX5_bringUpToDate_80 <|
  bw_iand hZ dX5_bringUpToDate_81 <|
  bw_iald hZ (arC_17 _) dX5_bringUpToDate_82 <|
  bw_iast hZ (arC_17 _) dX5_bringUpToDate_83 fun w14 =>
  bw_goto hZ (tgt := 119) (by decide) dX5_bringUpToDate_84 <|
  bw_iinc hZ 1 3 rfl (by decide) (by decide) rfl dX5_bringUpToDate_119 <|
  bw_goto hZ (tgt := 57) (by decide) dX5_bringUpToDate_122 <|
  bw_sub [1, 2, 3, 0] rfl (hk57 hZ hE y1 y2 (y3 + 1) w14)))
def X5_bringUpToDate_b57_L (cp : Nat) (y1 : Int32) (y2 : Int32) (y3 : Int32) (w : Wd) : Option (Wd × Nat) :=
  lp fu (fun _ _ _ _ _ => none) (fun k57 cp y1 y2 y3 w => X5_bringUpToDate_b57 cp k57 y1 y2 y3 w) cp y1 y2 y3 w
theorem m_X5_bringUpToDate_b57_L (cp : Nat)  (y1 : Int32) (y2 : Int32) (y3 : Int32) (w : Wd) : Mono cV cp (X5_bringUpToDate_b57_L cp y1 y2 y3 w) :=
  lp_bw (fun (k57 : Nat → Int32 → Int32 → Int32 → Wd → Option (Wd × Nat)) => ∀ (cp : Nat) (y1 : Int32) (y2 : Int32) (y3 : Int32) (w : Wd), Mono cV cp (k57 cp y1 y2 y3 w)) (fun _ _ _ _ _ => mo_none) (fun k57 hm57 cp y1 y2 y3 w => m_X5_bringUpToDate_b57 cp k57 hm57 y1 y2 y3 w) fu cp y1 y2 y3 w
theorem t_X5_bringUpToDate_b57_L {Y0 : Ev} {Z : Cz (Wd × Nat)} (hZ : OKZ Z SC cX5_bringUpToDate RX5 4 none 8) (hE : EndM QMV cV Y0 Z)  (y1 : Int32) (y2 : Int32) (y3 : Int32)  (w : Wd) : BW Z 4 57 [(0, .ref (ph (zY Z) 16)), (1, .int y1), (2, .int y2), (3, .int y3)] [] w (X5_bringUpToDate_b57_L (yc (zY Z)) y1 y2 y3 w) :=
  (lp_bw (fun (k57 : Nat → Int32 → Int32 → Int32 → Wd → Option (Wd × Nat)) => (∀ (cp : Nat) (y1 : Int32) (y2 : Int32) (y3 : Int32) (w : Wd), Mono cV cp (k57 cp y1 y2 y3 w)) ∧ ∀ {Z : Cz (Wd × Nat)} (hZ : OKZ Z SC cX5_bringUpToDate RX5 4 none 8) (hE : EndM QMV cV Y0 Z) (y1 : Int32) (y2 : Int32) (y3 : Int32)  (w : Wd), BW Z 4 57 [(0, .ref (ph (zY Z) 16)), (1, .int y1), (2, .int y2), (3, .int y3)] [] w (k57 (yc (zY Z)) y1 y2 y3 w)) ⟨fun _ _ _ _ _ => mo_none, fun _ _ _ _ _ _ => bw_none⟩ (fun k57 hb => ⟨fun cp y1 y2 y3 w => m_X5_bringUpToDate_b57 cp k57 hb.1 y1 y2 y3 w, fun {Z} hZ hE y1 y2 y3 w => t_X5_bringUpToDate_b57 hZ hE k57 hb.1 hb.2 y1 y2 y3 w⟩) fu).2 hZ hE y1 y2 y3 w
def X5_bringUpToDate_b47 (cp : Nat) (y1 : Int32) (w : Wd) : Option (Wd × Nat) :=
  cl (f_X2_unusedFacts w) fun r6 w5 =>
  X5_bringUpToDate_b57_L cp y1 r6 0 w5
theorem m_X5_bringUpToDate_b47 (cp : Nat)  (y1 : Int32) (w : Wd) : Mono cV cp (X5_bringUpToDate_b47 cp y1 w) :=
  (mo_cl fun r6 w5 => (m_X5_bringUpToDate_b57_L cp y1 r6 0 w5))
set_option maxRecDepth 100000 in
set_option maxHeartbeats 4000000 in
theorem t_X5_bringUpToDate_b47 {Y0 : Ev} {Z : Cz (Wd × Nat)} (hZ : OKZ Z SC cX5_bringUpToDate RX5 4 none 8) (hE : EndM QMV cV Y0 Z)  (y1 : Int32)  (w : Wd) : BW Z 4 47 [(0, .ref (ph (zY Z) 16)), (1, .int y1)] [] w (X5_bringUpToDate_b47 (yc (zY Z)) y1 w) :=
  bw_aload_n hZ 0 rfl dX5_bringUpToDate_47 <|
  bw_getR hZ fl_RX5_34 obC_16 rfl dX5_bringUpToDate_48 <|
  bw_callVI (As := []) hZ ml_RX5_65 rc_2 obC_3 (by decide) (c_X2_unusedFacts (zl Z) (zY Z) (hZ_S hZ) w) rfl rfl (Nat.le_of_ble_eq_true rfl) dX5_bringUpToDate_51 fun r6 w5 =>
  bw_istore_n hZ rfl (by decide) rfl dX5_bringUpToDate_54 <|
  bw_iconst hZ 0 (by decide) dX5_bringUpToDate_55 <|
  bw_istore_n hZ rfl (by decide) rfl dX5_bringUpToDate_56 <|
  bw_sub [2, 3, 1, 0] rfl (t_X5_bringUpToDate_b57_L hZ hE y1 r6 0 w5)
def f_X5_bringUpToDate (cp : Nat) (w : Wd) : Option (Wd × Nat) :=
  if (w.1 16 9) = (w.1 3 6) then
  (some (w, cp))
  else
  lt (wI w 16 1 0) fun w1 =>
  cv (f_J7_fill_53178 21 256 ((-1)) w1) fun w2 =>
  cl (f_X2_waysFound w2) fun r4 w3 =>
  if r4 ≤ 0 then
  (X5_bringUpToDate_b47 cp r4 w3)
  else
  cv (f_X7_makeReady w3) fun w15 =>
  X5_bringUpToDate_b47 cp r4 w15
theorem m_f_X5_bringUpToDate (cp : Nat)  (w : Wd) : Mono cV cp (f_X5_bringUpToDate cp w) :=
  (mo_if mo_some (mo_lt fun w1 => (mo_cv fun w2 => (mo_cl fun r4 w3 => (mo_if (m_X5_bringUpToDate_b47 cp r4 w3) (mo_cv fun w15 => (m_X5_bringUpToDate_b47 cp r4 w15)))))))
set_option maxRecDepth 100000 in
set_option maxHeartbeats 4000000 in
theorem t_X5_bringUpToDate {Y0 : Ev} {Z : Cz (Wd × Nat)} (hZ : OKZ Z SC cX5_bringUpToDate RX5 4 none 8) (hE : EndM QMV cV Y0 Z)   (w : Wd) : BW Z 4 0 [(0, .ref (ph (zY Z) 16))] [] w (f_X5_bringUpToDate (yc (zY Z)) w) :=
  bw_aload_n hZ 0 rfl dX5_bringUpToDate_0 <|
  bw_getI hZ fl_RX5_31 (by decide) obC_16 dX5_bringUpToDate_1 <|
  bw_aload_n hZ 0 rfl dX5_bringUpToDate_4 <|
  bw_getR hZ fl_RX5_34 obC_16 rfl dX5_bringUpToDate_5 <|
  bw_getI hZ fl_RX5_42 (by decide) obC_3 dX5_bringUpToDate_8 <|
  bw_icmp_ne hZ (tgt := 15) (by decide) dX5_bringUpToDate_11 (fun _ =>
  bw_aload_n hZ 0 rfl dX5_bringUpToDate_15 <|
  bw_iconst hZ 0 (by decide) dX5_bringUpToDate_16 <|
  bw_putI hZ fl_RX5_47 rfl rfl (by decide) obC_16 dX5_bringUpToDate_17 fun w1 =>
  bw_aload_n hZ 0 rfl dX5_bringUpToDate_20 <|
  bw_getR hZ fl_RX5_28 obC_16 rfl dX5_bringUpToDate_21 <|
  bw_iconst hZ (-1) (by decide) dX5_bringUpToDate_24 <|
  bw_callSV (As := [.ref (ph (zY Z) 21), .int ((-1))]) hZ ms_RX5_50 (by decide) (c_J7_fill_53178 (zl Z) (zY Z) (hZ_S hZ) 21 256 ((-1)) (arC_21 _) w1) rfl rfl (Nat.le_of_ble_eq_true rfl) dX5_bringUpToDate_25 fun w2 =>
  bw_aload_n hZ 0 rfl dX5_bringUpToDate_28 <|
  bw_getR hZ fl_RX5_34 obC_16 rfl dX5_bringUpToDate_29 <|
  bw_callVI (As := []) hZ ml_RX5_56 rc_2 obC_3 (by decide) (c_X2_waysFound (zl Z) (zY Z) (hZ_S hZ) w2) rfl rfl (Nat.le_of_ble_eq_true rfl) dX5_bringUpToDate_32 fun r4 w3 =>
  bw_istore_n hZ rfl (by decide) rfl dX5_bringUpToDate_35 <|
  bw_iload_n hZ 0 rfl dX5_bringUpToDate_36 <|
  bw_if_le hZ (tgt := 47) (by decide) dX5_bringUpToDate_37 (fun _ =>
  bw_sub [1, 0] rfl (t_X5_bringUpToDate_b47 hZ hE r4 w3)) (fun _ =>
  bw_aload_n hZ 1 rfl dX5_bringUpToDate_40 <|
  bw_getR hZ fl_RX5_38 obC_16 rfl dX5_bringUpToDate_41 <|
  bw_callVV (As := []) hZ ml_RX5_60 rc_7 obC_8 (by decide) (c_X7_makeReady (zl Z) (zY Z) (hZ_S hZ) w3) rfl rfl (Nat.le_of_ble_eq_true rfl) dX5_bringUpToDate_44 fun w15 =>
  bw_sub [1, 0] rfl (t_X5_bringUpToDate_b47 hZ hE r4 w15))) (fun _ =>
  bw_vretM hZ hE dX5_bringUpToDate_14)
theorem c_X5_bringUpToDate (l : Launch) (Y : Ev) (hY : Y.1 = SC)   (w : Wd) : CMV l Y yX5_bringUpToDate cX5_bringUpToDate 4 8 [.ref (ph Y 16)] w (f_X5_bringUpToDate (yc Y) w) := by
  refine CMV_of (S := SC) (by decide) (Nat.le_of_ble_eq_true rfl) hY ?_
  intro Z hl hY2 hZ hE
  subst hY2
  exact t_X5_bringUpToDate hZ hE w
-- WhichWill.estate
theorem dX11_estate_0 : decode cX11_estate 0 = .ok (.aload_n 0, 1) := by decide +kernel
theorem dX11_estate_1 : decode cX11_estate 1 = .ok (.getfield 19, 3) := by decide +kernel
theorem dX11_estate_4 : decode cX11_estate 4 = .ok (.getfield 79, 3) := by decide +kernel
theorem dX11_estate_7 : decode cX11_estate 7 = .ok (.aload_n 0, 1) := by decide +kernel
theorem dX11_estate_8 : decode cX11_estate 8 = .ok (.getfield 10, 3) := by decide +kernel
theorem dX11_estate_11 : decode cX11_estate 11 = .ok (.invokevirtual 83, 3) := by decide +kernel
theorem dX11_estate_14 : decode cX11_estate 14 = .ok (.istore_n 1, 1) := by decide +kernel
theorem dX11_estate_15 : decode cX11_estate 15 = .ok (.aload_n 0, 1) := by decide +kernel
theorem dX11_estate_16 : decode cX11_estate 16 = .ok (.invokevirtual 89, 3) := by decide +kernel
theorem dX11_estate_19 : decode cX11_estate 19 = .ok (.iload_n 1, 1) := by decide +kernel
theorem dX11_estate_20 : decode cX11_estate 20 = .ok (.ifCond .ne 5, 3) := by decide +kernel
theorem dX11_estate_23 : decode cX11_estate 23 = .ok (.iconst (-1), 1) := by decide +kernel
theorem dX11_estate_24 : decode cX11_estate 24 = .ok (.ireturn, 1) := by decide +kernel
theorem dX11_estate_25 : decode cX11_estate 25 = .ok (.aload_n 0, 1) := by decide +kernel
theorem dX11_estate_26 : decode cX11_estate 26 = .ok (.getfield 19, 3) := by decide +kernel
theorem dX11_estate_29 : decode cX11_estate 29 = .ok (.invokevirtual 92, 3) := by decide +kernel
theorem dX11_estate_32 : decode cX11_estate 32 = .ok (.aload_n 0, 1) := by decide +kernel
theorem dX11_estate_33 : decode cX11_estate 33 = .ok (.getfield 46, 3) := by decide +kernel
theorem dX11_estate_36 : decode cX11_estate 36 = .ok (.iconst 0, 1) := by decide +kernel
theorem dX11_estate_37 : decode cX11_estate 37 = .ok (.putfield 95, 3) := by decide +kernel
theorem dX11_estate_40 : decode cX11_estate 40 = .ok (.aload_n 0, 1) := by decide +kernel
theorem dX11_estate_41 : decode cX11_estate 41 = .ok (.getfield 19, 3) := by decide +kernel
theorem dX11_estate_44 : decode cX11_estate 44 = .ok (.getfield 98, 3) := by decide +kernel
theorem dX11_estate_47 : decode cX11_estate 47 = .ok (.getfield 101, 3) := by decide +kernel
theorem dX11_estate_50 : decode cX11_estate 50 = .ok (.ireturn, 1) := by decide +kernel
def f_X11_estate (cp : Nat) (w : Wd) : Option (Int32 × Wd × Nat) :=
  cl (f_X0_readText w) fun r2 w1 =>
  cv (f_X11_keepFault w1) fun w3 =>
  if r2 = 0 then
  (some ((-1), w3, cp))
  else
  cvm (f_X2_takeDraft cp w3) fun w4 cp5 =>
  lt (wI w4 22 0 0) fun w7 =>
  some (w7.1 31 17, w7, cp5)
theorem m_f_X11_estate (cp : Nat)  (w : Wd) : Mono cI cp (f_X11_estate cp w) :=
  (mo_cl fun r2 w1 => (mo_cv fun w3 => (mo_if mo_some (mo_cvm (m_f_X2_takeDraft cp w3) fun w4 cp5 => (mo_lt fun w7 => mo_some)))))
set_option maxRecDepth 100000 in
set_option maxHeartbeats 4000000 in
theorem t_X11_estate {Y0 : Ev} {Z : Cz (Int32 × Wd × Nat)} (hZ : OKZ Z SC cX11_estate RX11 2 (some .int) 11) (hE : EndM QMI cI Y0 Z)   (w : Wd) : BW Z 2 0 [(0, .ref (ph (zY Z) 0))] [] w (f_X11_estate (yc (zY Z)) w) :=
  bw_aload_n hZ 0 rfl dX11_estate_0 <|
  bw_getR hZ fl_RX11_19 obC_0 rfl dX11_estate_1 <|
  bw_getR hZ fl_RX11_79 obC_3 rfl dX11_estate_4 <|
  bw_aload_n hZ 0 rfl dX11_estate_7 <|
  bw_getR hZ fl_RX11_10 obC_0 rfl dX11_estate_8 <|
  bw_callVI (As := [.ref (ph (zY Z) 1)]) hZ ml_RX11_83 rc_0 obC_44 (by decide) (c_X0_readText (zl Z) (zY Z) (hZ_S hZ) w) rfl rfl (Nat.le_of_ble_eq_true rfl) dX11_estate_11 fun r2 w1 =>
  bw_istore_n hZ rfl (by decide) rfl dX11_estate_14 <|
  bw_aload_n hZ 1 rfl dX11_estate_15 <|
  bw_callVV (As := []) hZ ml_RX11_89 rc_11 obC_0 (by decide) (c_X11_keepFault (zl Z) (zY Z) (hZ_S hZ) w1) rfl rfl (Nat.le_of_ble_eq_true rfl) dX11_estate_16 fun w3 =>
  bw_iload_n hZ 0 rfl dX11_estate_19 <|
  bw_if_ne hZ (tgt := 25) (by decide) dX11_estate_20 (fun _ =>
  bw_aload_n hZ 1 rfl dX11_estate_25 <|
  bw_getR hZ fl_RX11_19 obC_0 rfl dX11_estate_26 <|
  bw_callMV (As := []) hZ hE ml_RX11_92 rc_2 obC_3 (by decide) (c_X2_takeDraft (zl Z) (zY Z) (hZ_S hZ) w3) rfl (fun Y => [(1, .int r2), (0, .ref (ph Y 0))]) (fun Y => []) rfl rfl (fun Y1 h => by have h0 := h.2.2.2.2.2.2.1 0 rfl; simp only [h0, and_self]) (Nat.le_of_ble_eq_true rfl) dX11_estate_29 (fun w4 cp5 => (mo_lt fun w7 => mo_some)) fun Z hZ hE _ w4 =>
  bw_aload_n hZ 1 rfl dX11_estate_32 <|
  bw_getR hZ fl_RX11_46 obC_0 rfl dX11_estate_33 <|
  bw_iconst hZ 0 (by decide) dX11_estate_36 <|
  bw_putI hZ fl_RX11_95 rfl rfl (by decide) obC_22 dX11_estate_37 fun w7 =>
  bw_aload_n hZ 1 rfl dX11_estate_40 <|
  bw_getR hZ fl_RX11_19 obC_0 rfl dX11_estate_41 <|
  bw_getR hZ fl_RX11_98 obC_3 rfl dX11_estate_44 <|
  bw_getI hZ fl_RX11_101 (by decide) obC_31 dX11_estate_47 <|
  bw_iretM hZ hE dX11_estate_50) (fun _ =>
  bw_iconst hZ (-1) (by decide) dX11_estate_23 <|
  bw_iretM hZ hE dX11_estate_24)
theorem c_X11_estate (l : Launch) (Y : Ev) (hY : Y.1 = SC)   (w : Wd) : CMI l Y yX11_estate cX11_estate 2 11 [.ref (ph Y 0)] w .int (f_X11_estate (yc Y) w) := by
  refine CMI_of (S := SC) (by decide) (Nat.le_of_ble_eq_true rfl) hY ?_
  intro Z hl hY2 hZ hE
  subst hY2
  exact t_X11_estate hZ hE w
-- WhichWill.sure
theorem dX11_sure_0 : decode cX11_sure 0 = .ok (.aload_n 0, 1) := by decide +kernel
theorem dX11_sure_1 : decode cX11_sure 1 = .ok (.iload_n 1, 1) := by decide +kernel
theorem dX11_sure_2 : decode cX11_sure 2 = .ok (.invokevirtual 269, 3) := by decide +kernel
theorem dX11_sure_5 : decode cX11_sure 5 = .ok (.ifCond .ne 6, 3) := by decide +kernel
theorem dX11_sure_8 : decode cX11_sure 8 = .ok (.bipush (-2), 2) := by decide +kernel
theorem dX11_sure_10 : decode cX11_sure 10 = .ok (.ireturn, 1) := by decide +kernel
theorem dX11_sure_11 : decode cX11_sure 11 = .ok (.aload_n 0, 1) := by decide +kernel
theorem dX11_sure_12 : decode cX11_sure 12 = .ok (.getfield 19, 3) := by decide +kernel
theorem dX11_sure_15 : decode cX11_sure 15 = .ok (.invokevirtual 256, 3) := by decide +kernel
theorem dX11_sure_18 : decode cX11_sure 18 = .ok (.ifCond .ne 5, 3) := by decide +kernel
theorem dX11_sure_21 : decode cX11_sure 21 = .ok (.iconst (-1), 1) := by decide +kernel
theorem dX11_sure_22 : decode cX11_sure 22 = .ok (.ireturn, 1) := by decide +kernel
theorem dX11_sure_23 : decode cX11_sure 23 = .ok (.aload_n 0, 1) := by decide +kernel
theorem dX11_sure_24 : decode cX11_sure 24 = .ok (.getfield 37, 3) := by decide +kernel
theorem dX11_sure_27 : decode cX11_sure 27 = .ok (.invokevirtual 290, 3) := by decide +kernel
theorem dX11_sure_30 : decode cX11_sure 30 = .ok (.iload_n 2, 1) := by decide +kernel
theorem dX11_sure_31 : decode cX11_sure 31 = .ok (.ifCond .eq 14, 3) := by decide +kernel
theorem dX11_sure_34 : decode cX11_sure 34 = .ok (.aload_n 0, 1) := by decide +kernel
theorem dX11_sure_35 : decode cX11_sure 35 = .ok (.getfield 37, 3) := by decide +kernel
theorem dX11_sure_38 : decode cX11_sure 38 = .ok (.iload_n 1, 1) := by decide +kernel
theorem dX11_sure_39 : decode cX11_sure 39 = .ok (.invokevirtual 293, 3) := by decide +kernel
theorem dX11_sure_42 : decode cX11_sure 42 = .ok (.goto 13, 3) := by decide +kernel
theorem dX11_sure_45 : decode cX11_sure 45 = .ok (.aload_n 0, 1) := by decide +kernel
theorem dX11_sure_46 : decode cX11_sure 46 = .ok (.getfield 37, 3) := by decide +kernel
theorem dX11_sure_49 : decode cX11_sure 49 = .ok (.iconst 1, 1) := by decide +kernel
theorem dX11_sure_50 : decode cX11_sure 50 = .ok (.iload_n 1, 1) := by decide +kernel
theorem dX11_sure_51 : decode cX11_sure 51 = .ok (.ishl, 1) := by decide +kernel
theorem dX11_sure_52 : decode cX11_sure 52 = .ok (.invokevirtual 296, 3) := by decide +kernel
theorem dX11_sure_55 : decode cX11_sure 55 = .ok (.ireturn, 1) := by decide +kernel
def f_X11_sure (cp : Nat) (x1 : Int32) (x2 : Int32) (w : Wd) : Option (Int32 × Wd × Nat) :=
  cl (f_X11_isPerson x1 w) fun r2 w1 =>
  if r2 = 0 then
  (some ((-2), w1, cp))
  else
  cl (f_X2_waysFound w1) fun r4 w3 =>
  if r4 = 0 then
  (some ((-1), w3, cp))
  else
  cvm (f_X5_bringUpToDate cp w3) fun w5 cp6 =>
  if x2 = 0 then
  (cl (f_X5_leastOf cp6 (1 <<< (x1 &&& 31)) w5) fun r9 w8 =>
  some (r9, w8, cp6))
  else
  cl (f_X5_greatestOf cp6 x1 w5) fun r11 w10 =>
  some (r11, w10, cp6)
theorem m_f_X11_sure (cp : Nat) (x1 : Int32) (x2 : Int32) (w : Wd) : Mono cI cp (f_X11_sure cp x1 x2 w) :=
  (mo_cl fun r2 w1 => (mo_if mo_some (mo_cl fun r4 w3 => (mo_if mo_some (mo_cvm (m_f_X5_bringUpToDate cp w3) fun w5 cp6 => (mo_if (mo_cl fun r9 w8 => mo_some) (mo_cl fun r11 w10 => mo_some)))))))
set_option maxRecDepth 100000 in
set_option maxHeartbeats 4000000 in
theorem t_X11_sure {Y0 : Ev} {Z : Cz (Int32 × Wd × Nat)} (hZ : OKZ Z SC cX11_sure RX11 3 (some .int) 9) (hE : EndM QMI cI Y0 Z) (x1 : Int32) (x2 : Int32)  (w : Wd) : BW Z 3 0 [(0, .ref (ph (zY Z) 0)), (1, .int x1), (2, .int x2)] [] w (f_X11_sure (yc (zY Z)) x1 x2 w) :=
  bw_aload_n hZ 0 rfl dX11_sure_0 <|
  bw_iload_n hZ 1 rfl dX11_sure_1 <|
  bw_callVI (As := [.int x1]) hZ ml_RX11_269 rc_11 obC_0 (by decide) (c_X11_isPerson (zl Z) (zY Z) (hZ_S hZ) x1 w) rfl rfl (Nat.le_of_ble_eq_true rfl) dX11_sure_2 fun r2 w1 =>
  bw_if_ne hZ (tgt := 11) (by decide) dX11_sure_5 (fun _ =>
  bw_aload_n hZ 0 rfl dX11_sure_11 <|
  bw_getR hZ fl_RX11_19 obC_0 rfl dX11_sure_12 <|
  bw_callVI (As := []) hZ ml_RX11_256 rc_2 obC_3 (by decide) (c_X2_waysFound (zl Z) (zY Z) (hZ_S hZ) w1) rfl rfl (Nat.le_of_ble_eq_true rfl) dX11_sure_15 fun r4 w3 =>
  bw_if_ne hZ (tgt := 23) (by decide) dX11_sure_18 (fun _ =>
  bw_aload_n hZ 0 rfl dX11_sure_23 <|
  bw_getR hZ fl_RX11_37 obC_0 rfl dX11_sure_24 <|
  bw_callMV (As := []) hZ hE ml_RX11_290 rc_5 obC_16 (by decide) (c_X5_bringUpToDate (zl Z) (zY Z) (hZ_S hZ) w3) rfl (fun Y => [(0, .ref (ph Y 0)), (1, .int x1), (2, .int x2)]) (fun Y => []) rfl rfl (fun Y1 h => by have h0 := h.2.2.2.2.2.2.1 0 rfl; simp only [h0, and_self]) (Nat.le_of_ble_eq_true rfl) dX11_sure_27 (fun w5 cp6 => (mo_if (mo_cl fun r9 w8 => mo_some) (mo_cl fun r11 w10 => mo_some))) fun Z hZ hE _ w5 =>
  bw_iload_n hZ 2 rfl dX11_sure_30 <|
  bw_if_eq hZ (tgt := 45) (by decide) dX11_sure_31 (fun _ =>
  bw_aload_n hZ 0 rfl dX11_sure_45 <|
  bw_getR hZ fl_RX11_37 obC_0 rfl dX11_sure_46 <|
  bw_iconst hZ 1 (by decide) dX11_sure_49 <|
  bw_iload_n hZ 1 rfl dX11_sure_50 <|
  bw_ishl hZ dX11_sure_51 <|
  bw_callVI (As := [.int (1 <<< (x1 &&& 31))]) hZ ml_RX11_296 rc_5 obC_16 (by decide) (c_X5_leastOf (zl Z) (zY Z) (hZ_S hZ) (1 <<< (x1 &&& 31)) w5) rfl rfl (Nat.le_of_ble_eq_true rfl) dX11_sure_52 fun r9 w8 =>
  bw_iretM hZ hE dX11_sure_55) (fun _ =>
  bw_aload_n hZ 0 rfl dX11_sure_34 <|
  bw_getR hZ fl_RX11_37 obC_0 rfl dX11_sure_35 <|
  bw_iload_n hZ 1 rfl dX11_sure_38 <|
  bw_callVI (As := [.int x1]) hZ ml_RX11_293 rc_5 obC_16 (by decide) (c_X5_greatestOf (zl Z) (zY Z) (hZ_S hZ) x1 w5) rfl rfl (Nat.le_of_ble_eq_true rfl) dX11_sure_39 fun r11 w10 =>
  bw_goto hZ (tgt := 55) (by decide) dX11_sure_42 <|
  bw_iretM hZ hE dX11_sure_55)) (fun _ =>
  bw_iconst hZ (-1) (by decide) dX11_sure_21 <|
  bw_iretM hZ hE dX11_sure_22)) (fun _ =>
  bw_bipush hZ (-2) (by decide) dX11_sure_8 <|
  bw_iretM hZ hE dX11_sure_10)
theorem c_X11_sure (l : Launch) (Y : Ev) (hY : Y.1 = SC) (x1 : Int32) (x2 : Int32)  (w : Wd) : CMI l Y yX11_sure cX11_sure 3 9 [.ref (ph Y 0), .int x1, .int x2] w .int (f_X11_sure (yc Y) x1 x2 w) := by
  refine CMI_of (S := SC) (by decide) (Nat.le_of_ble_eq_true rfl) hY ?_
  intro Z hl hY2 hZ hE
  subst hY2
  exact t_X11_sure hZ hE x1 x2 w
-- WhichWill.hangs
theorem dX11_hangs_0 : decode cX11_hangs 0 = .ok (.iload_n 1, 1) := by decide +kernel
theorem dX11_hangs_1 : decode cX11_hangs 1 = .ok (.ifCond .lt 8, 3) := by decide +kernel
theorem dX11_hangs_4 : decode cX11_hangs 4 = .ok (.iload_n 1, 1) := by decide +kernel
theorem dX11_hangs_5 : decode cX11_hangs 5 = .ok (.iconst 3, 1) := by decide +kernel
theorem dX11_hangs_6 : decode cX11_hangs 6 = .ok (.if_icmp .lt 6, 3) := by decide +kernel
theorem dX11_hangs_9 : decode cX11_hangs 9 = .ok (.bipush (-2), 2) := by decide +kernel
theorem dX11_hangs_11 : decode cX11_hangs 11 = .ok (.ireturn, 1) := by decide +kernel
theorem dX11_hangs_12 : decode cX11_hangs 12 = .ok (.aload_n 0, 1) := by decide +kernel
theorem dX11_hangs_13 : decode cX11_hangs 13 = .ok (.getfield 19, 3) := by decide +kernel
theorem dX11_hangs_16 : decode cX11_hangs 16 = .ok (.invokevirtual 256, 3) := by decide +kernel
theorem dX11_hangs_19 : decode cX11_hangs 19 = .ok (.ifCond .ne 5, 3) := by decide +kernel
theorem dX11_hangs_22 : decode cX11_hangs 22 = .ok (.iconst (-1), 1) := by decide +kernel
theorem dX11_hangs_23 : decode cX11_hangs 23 = .ok (.ireturn, 1) := by decide +kernel
theorem dX11_hangs_24 : decode cX11_hangs 24 = .ok (.aload_n 0, 1) := by decide +kernel
theorem dX11_hangs_25 : decode cX11_hangs 25 = .ok (.getfield 37, 3) := by decide +kernel
theorem dX11_hangs_28 : decode cX11_hangs 28 = .ok (.invokevirtual 290, 3) := by decide +kernel
theorem dX11_hangs_31 : decode cX11_hangs 31 = .ok (.aload_n 0, 1) := by decide +kernel
theorem dX11_hangs_32 : decode cX11_hangs 32 = .ok (.getfield 37, 3) := by decide +kernel
theorem dX11_hangs_35 : decode cX11_hangs 35 = .ok (.iload_n 1, 1) := by decide +kernel
theorem dX11_hangs_36 : decode cX11_hangs 36 = .ok (.invokevirtual 302, 3) := by decide +kernel
theorem dX11_hangs_39 : decode cX11_hangs 39 = .ok (.ifCond .eq 7, 3) := by decide +kernel
theorem dX11_hangs_42 : decode cX11_hangs 42 = .ok (.iconst 1, 1) := by decide +kernel
theorem dX11_hangs_43 : decode cX11_hangs 43 = .ok (.goto 4, 3) := by decide +kernel
theorem dX11_hangs_46 : decode cX11_hangs 46 = .ok (.iconst 0, 1) := by decide +kernel
theorem dX11_hangs_47 : decode cX11_hangs 47 = .ok (.ireturn, 1) := by decide +kernel
def f_X11_hangs (cp : Nat) (x1 : Int32) (w : Wd) : Option (Int32 × Wd × Nat) :=
  if x1 < 0 then
  (some ((-2), w, cp))
  else
  if x1 < 3 then
  (cl (f_X2_waysFound w) fun r2 w1 =>
  if r2 = 0 then
  (some ((-1), w1, cp))
  else
  cvm (f_X5_bringUpToDate cp w1) fun w3 cp4 =>
  cl (f_X5_hangOn x1 w3) fun r7 w6 =>
  if r7 = 0 then
  (some (0, w6, cp4))
  else
  some (1, w6, cp4))
  else
  some ((-2), w, cp)
theorem m_f_X11_hangs (cp : Nat) (x1 : Int32) (w : Wd) : Mono cI cp (f_X11_hangs cp x1 w) :=
  (mo_if mo_some (mo_if (mo_cl fun r2 w1 => (mo_if mo_some (mo_cvm (m_f_X5_bringUpToDate cp w1) fun w3 cp4 => (mo_cl fun r7 w6 => (mo_if mo_some mo_some))))) mo_some))
set_option maxRecDepth 100000 in
set_option maxHeartbeats 4000000 in
theorem t_X11_hangs {Y0 : Ev} {Z : Cz (Int32 × Wd × Nat)} (hZ : OKZ Z SC cX11_hangs RX11 2 (some .int) 9) (hE : EndM QMI cI Y0 Z) (x1 : Int32)  (w : Wd) : BW Z 2 0 [(0, .ref (ph (zY Z) 0)), (1, .int x1)] [] w (f_X11_hangs (yc (zY Z)) x1 w) :=
  bw_iload_n hZ 1 rfl dX11_hangs_0 <|
  bw_if_lt hZ (tgt := 9) (by decide) dX11_hangs_1 (fun _ =>
  bw_bipush hZ (-2) (by decide) dX11_hangs_9 <|
  bw_iretM hZ hE dX11_hangs_11) (fun _ =>
  bw_iload_n hZ 1 rfl dX11_hangs_4 <|
  bw_iconst hZ 3 (by decide) dX11_hangs_5 <|
  bw_icmp_lt hZ (tgt := 12) (by decide) dX11_hangs_6 (fun _ =>
  bw_aload_n hZ 0 rfl dX11_hangs_12 <|
  bw_getR hZ fl_RX11_19 obC_0 rfl dX11_hangs_13 <|
  bw_callVI (As := []) hZ ml_RX11_256 rc_2 obC_3 (by decide) (c_X2_waysFound (zl Z) (zY Z) (hZ_S hZ) w) rfl rfl (Nat.le_of_ble_eq_true rfl) dX11_hangs_16 fun r2 w1 =>
  bw_if_ne hZ (tgt := 24) (by decide) dX11_hangs_19 (fun _ =>
  bw_aload_n hZ 0 rfl dX11_hangs_24 <|
  bw_getR hZ fl_RX11_37 obC_0 rfl dX11_hangs_25 <|
  bw_callMV (As := []) hZ hE ml_RX11_290 rc_5 obC_16 (by decide) (c_X5_bringUpToDate (zl Z) (zY Z) (hZ_S hZ) w1) rfl (fun Y => [(0, .ref (ph Y 0)), (1, .int x1)]) (fun Y => []) rfl rfl (fun Y1 h => by have h0 := h.2.2.2.2.2.2.1 0 rfl; simp only [h0, and_self]) (Nat.le_of_ble_eq_true rfl) dX11_hangs_28 (fun w3 cp4 => (mo_cl fun r7 w6 => (mo_if mo_some mo_some))) fun Z hZ hE _ w3 =>
  bw_aload_n hZ 0 rfl dX11_hangs_31 <|
  bw_getR hZ fl_RX11_37 obC_0 rfl dX11_hangs_32 <|
  bw_iload_n hZ 1 rfl dX11_hangs_35 <|
  bw_callVI (As := [.int x1]) hZ ml_RX11_302 rc_5 obC_16 (by decide) (c_X5_hangOn (zl Z) (zY Z) (hZ_S hZ) x1 w3) rfl rfl (Nat.le_of_ble_eq_true rfl) dX11_hangs_36 fun r7 w6 =>
  bw_if_eq hZ (tgt := 46) (by decide) dX11_hangs_39 (fun _ =>
  bw_iconst hZ 0 (by decide) dX11_hangs_46 <|
  bw_iretM hZ hE dX11_hangs_47) (fun _ =>
  bw_iconst hZ 1 (by decide) dX11_hangs_42 <|
  bw_goto hZ (tgt := 47) (by decide) dX11_hangs_43 <|
  bw_iretM hZ hE dX11_hangs_47)) (fun _ =>
  bw_iconst hZ (-1) (by decide) dX11_hangs_22 <|
  bw_iretM hZ hE dX11_hangs_23)) (fun _ =>
  bw_bipush hZ (-2) (by decide) dX11_hangs_9 <|
  bw_iretM hZ hE dX11_hangs_11))
theorem c_X11_hangs (l : Launch) (Y : Ev) (hY : Y.1 = SC) (x1 : Int32)  (w : Wd) : CMI l Y yX11_hangs cX11_hangs 2 9 [.ref (ph Y 0), .int x1] w .int (f_X11_hangs (yc Y) x1 w) := by
  refine CMI_of (S := SC) (by decide) (Nat.le_of_ble_eq_true rfl) hY ?_
  intro Z hl hY2 hZ hE
  subst hY2
  exact t_X11_hangs hZ hE x1 w
-- WhichWill.outcomes
theorem dX11_outcomes_0 : decode cX11_outcomes 0 = .ok (.aload_n 0, 1) := by decide +kernel
theorem dX11_outcomes_1 : decode cX11_outcomes 1 = .ok (.getfield 37, 3) := by decide +kernel
theorem dX11_outcomes_4 : decode cX11_outcomes 4 = .ok (.invokevirtual 290, 3) := by decide +kernel
theorem dX11_outcomes_7 : decode cX11_outcomes 7 = .ok (.aload_n 0, 1) := by decide +kernel
theorem dX11_outcomes_8 : decode cX11_outcomes 8 = .ok (.getfield 37, 3) := by decide +kernel
theorem dX11_outcomes_11 : decode cX11_outcomes 11 = .ok (.getfield 305, 3) := by decide +kernel
theorem dX11_outcomes_14 : decode cX11_outcomes 14 = .ok (.ireturn, 1) := by decide +kernel
def f_X11_outcomes (cp : Nat) (w : Wd) : Option (Int32 × Wd × Nat) :=
  cvm (f_X5_bringUpToDate cp w) fun w1 cp2 =>
  some (w1.1 16 1, w1, cp2)
theorem m_f_X11_outcomes (cp : Nat)  (w : Wd) : Mono cI cp (f_X11_outcomes cp w) :=
  (mo_cvm (m_f_X5_bringUpToDate cp w) fun w1 cp2 => mo_some)
set_option maxRecDepth 100000 in
set_option maxHeartbeats 4000000 in
theorem t_X11_outcomes {Y0 : Ev} {Z : Cz (Int32 × Wd × Nat)} (hZ : OKZ Z SC cX11_outcomes RX11 1 (some .int) 9) (hE : EndM QMI cI Y0 Z)   (w : Wd) : BW Z 1 0 [(0, .ref (ph (zY Z) 0))] [] w (f_X11_outcomes (yc (zY Z)) w) :=
  bw_aload_n hZ 0 rfl dX11_outcomes_0 <|
  bw_getR hZ fl_RX11_37 obC_0 rfl dX11_outcomes_1 <|
  bw_callMV (As := []) hZ hE ml_RX11_290 rc_5 obC_16 (by decide) (c_X5_bringUpToDate (zl Z) (zY Z) (hZ_S hZ) w) rfl (fun Y => [(0, .ref (ph Y 0))]) (fun Y => []) rfl rfl (fun Y1 h => by have h0 := h.2.2.2.2.2.2.1 0 rfl; simp only [h0, and_self]) (Nat.le_of_ble_eq_true rfl) dX11_outcomes_4 (fun w1 cp2 => mo_some) fun Z hZ hE _ w1 =>
  bw_aload_n hZ 0 rfl dX11_outcomes_7 <|
  bw_getR hZ fl_RX11_37 obC_0 rfl dX11_outcomes_8 <|
  bw_getI hZ fl_RX11_305 (by decide) obC_16 dX11_outcomes_11 <|
  bw_iretM hZ hE dX11_outcomes_14
theorem c_X11_outcomes (l : Launch) (Y : Ev) (hY : Y.1 = SC)   (w : Wd) : CMI l Y yX11_outcomes cX11_outcomes 1 9 [.ref (ph Y 0)] w .int (f_X11_outcomes (yc Y) w) := by
  refine CMI_of (S := SC) (by decide) (Nat.le_of_ble_eq_true rfl) hY ?_
  intro Z hl hY2 hZ hE
  subst hY2
  exact t_X11_outcomes hZ hE w
-- WhichWill.ask
theorem dX11_ask_0 : decode cX11_ask 0 = .ok (.aload_n 0, 1) := by decide +kernel
theorem dX11_ask_1 : decode cX11_ask 1 = .ok (.getfield 37, 3) := by decide +kernel
theorem dX11_ask_4 : decode cX11_ask 4 = .ok (.invokevirtual 290, 3) := by decide +kernel
theorem dX11_ask_7 : decode cX11_ask 7 = .ok (.aload_n 0, 1) := by decide +kernel
theorem dX11_ask_8 : decode cX11_ask 8 = .ok (.getfield 37, 3) := by decide +kernel
theorem dX11_ask_11 : decode cX11_ask 11 = .ok (.invokevirtual 306, 3) := by decide +kernel
theorem dX11_ask_14 : decode cX11_ask 14 = .ok (.ireturn, 1) := by decide +kernel
def f_X11_ask (cp : Nat) (w : Wd) : Option (Int32 × Wd × Nat) :=
  cvm (f_X5_bringUpToDate cp w) fun w1 cp2 =>
  cl (f_X5_bestQuestion cp2 w1) fun r5 w4 =>
  some (r5, w4, cp2)
theorem m_f_X11_ask (cp : Nat)  (w : Wd) : Mono cI cp (f_X11_ask cp w) :=
  (mo_cvm (m_f_X5_bringUpToDate cp w) fun w1 cp2 => (mo_cl fun r5 w4 => mo_some))
set_option maxRecDepth 100000 in
set_option maxHeartbeats 4000000 in
theorem t_X11_ask {Y0 : Ev} {Z : Cz (Int32 × Wd × Nat)} (hZ : OKZ Z SC cX11_ask RX11 1 (some .int) 9) (hE : EndM QMI cI Y0 Z)   (w : Wd) : BW Z 1 0 [(0, .ref (ph (zY Z) 0))] [] w (f_X11_ask (yc (zY Z)) w) :=
  bw_aload_n hZ 0 rfl dX11_ask_0 <|
  bw_getR hZ fl_RX11_37 obC_0 rfl dX11_ask_1 <|
  bw_callMV (As := []) hZ hE ml_RX11_290 rc_5 obC_16 (by decide) (c_X5_bringUpToDate (zl Z) (zY Z) (hZ_S hZ) w) rfl (fun Y => [(0, .ref (ph Y 0))]) (fun Y => []) rfl rfl (fun Y1 h => by have h0 := h.2.2.2.2.2.2.1 0 rfl; simp only [h0, and_self]) (Nat.le_of_ble_eq_true rfl) dX11_ask_4 (fun w1 cp2 => (mo_cl fun r5 w4 => mo_some)) fun Z hZ hE _ w1 =>
  bw_aload_n hZ 0 rfl dX11_ask_7 <|
  bw_getR hZ fl_RX11_37 obC_0 rfl dX11_ask_8 <|
  bw_callVI (As := []) hZ ml_RX11_306 rc_5 obC_16 (by decide) (c_X5_bestQuestion (zl Z) (zY Z) (hZ_S hZ) w1) rfl rfl (Nat.le_of_ble_eq_true rfl) dX11_ask_11 fun r5 w4 =>
  bw_iretM hZ hE dX11_ask_14
theorem c_X11_ask (l : Launch) (Y : Ev) (hY : Y.1 = SC)   (w : Wd) : CMI l Y yX11_ask cX11_ask 1 9 [.ref (ph Y 0)] w .int (f_X11_ask (yc Y) w) := by
  refine CMI_of (S := SC) (by decide) (Nat.le_of_ble_eq_true rfl) hY ?_
  intro Z hl hY2 hZ hE
  subst hY2
  exact t_X11_ask hZ hE w
-- WhichWill.gain
theorem dX11_gain_0 : decode cX11_gain 0 = .ok (.iload_n 1, 1) := by decide +kernel
theorem dX11_gain_1 : decode cX11_gain 1 = .ok (.ifCond .lt 14, 3) := by decide +kernel
theorem dX11_gain_4 : decode cX11_gain 4 = .ok (.iload_n 1, 1) := by decide +kernel
theorem dX11_gain_5 : decode cX11_gain 5 = .ok (.aload_n 0, 1) := by decide +kernel
theorem dX11_gain_6 : decode cX11_gain 6 = .ok (.getfield 46, 3) := by decide +kernel
theorem dX11_gain_9 : decode cX11_gain 9 = .ok (.getfield 95, 3) := by decide +kernel
theorem dX11_gain_12 : decode cX11_gain 12 = .ok (.if_icmp .lt 7, 3) := by decide +kernel
theorem dX11_gain_15 : decode cX11_gain 15 = .ok (.ldc_w 328, 3) := by decide +kernel
theorem dX11_gain_18 : decode cX11_gain 18 = .ok (.ireturn, 1) := by decide +kernel
theorem dX11_gain_19 : decode cX11_gain 19 = .ok (.aload_n 0, 1) := by decide +kernel
theorem dX11_gain_20 : decode cX11_gain 20 = .ok (.getfield 19, 3) := by decide +kernel
theorem dX11_gain_23 : decode cX11_gain 23 = .ok (.invokevirtual 256, 3) := by decide +kernel
theorem dX11_gain_26 : decode cX11_gain 26 = .ok (.ifCond .ne 5, 3) := by decide +kernel
theorem dX11_gain_29 : decode cX11_gain 29 = .ok (.iconst (-1), 1) := by decide +kernel
theorem dX11_gain_30 : decode cX11_gain 30 = .ok (.ireturn, 1) := by decide +kernel
theorem dX11_gain_31 : decode cX11_gain 31 = .ok (.aload_n 0, 1) := by decide +kernel
theorem dX11_gain_32 : decode cX11_gain 32 = .ok (.getfield 37, 3) := by decide +kernel
theorem dX11_gain_35 : decode cX11_gain 35 = .ok (.invokevirtual 290, 3) := by decide +kernel
theorem dX11_gain_38 : decode cX11_gain 38 = .ok (.aload_n 0, 1) := by decide +kernel
theorem dX11_gain_39 : decode cX11_gain 39 = .ok (.getfield 46, 3) := by decide +kernel
theorem dX11_gain_42 : decode cX11_gain 42 = .ok (.iload_n 1, 1) := by decide +kernel
theorem dX11_gain_43 : decode cX11_gain 43 = .ok (.invokevirtual 329, 3) := by decide +kernel
theorem dX11_gain_46 : decode cX11_gain 46 = .ok (.ireturn, 1) := by decide +kernel
def f_X11_gain (cp : Nat) (x1 : Int32) (w : Wd) : Option (Int32 × Wd × Nat) :=
  if x1 < 0 then
  (some ((-1000000), w, cp))
  else
  if x1 < (w.1 22 0) then
  (cl (f_X2_waysFound w) fun r2 w1 =>
  if r2 = 0 then
  (some ((-1), w1, cp))
  else
  cvm (f_X5_bringUpToDate cp w1) fun w3 cp4 =>
  cl (f_X9_gainBy cp4 x1 w3) fun r7 w6 =>
  some (r7, w6, cp4))
  else
  some ((-1000000), w, cp)
theorem m_f_X11_gain (cp : Nat) (x1 : Int32) (w : Wd) : Mono cI cp (f_X11_gain cp x1 w) :=
  (mo_if mo_some (mo_if (mo_cl fun r2 w1 => (mo_if mo_some (mo_cvm (m_f_X5_bringUpToDate cp w1) fun w3 cp4 => (mo_cl fun r7 w6 => mo_some)))) mo_some))
set_option maxRecDepth 100000 in
set_option maxHeartbeats 4000000 in
theorem t_X11_gain {Y0 : Ev} {Z : Cz (Int32 × Wd × Nat)} (hZ : OKZ Z SC cX11_gain RX11 2 (some .int) 9) (hE : EndM QMI cI Y0 Z) (x1 : Int32)  (w : Wd) : BW Z 2 0 [(0, .ref (ph (zY Z) 0)), (1, .int x1)] [] w (f_X11_gain (yc (zY Z)) x1 w) :=
  bw_iload_n hZ 1 rfl dX11_gain_0 <|
  bw_if_lt hZ (tgt := 15) (by decide) dX11_gain_1 (fun _ =>
  bw_ldcw hZ kk_RX11_328 dX11_gain_15 <|
  bw_iretM hZ hE dX11_gain_18) (fun _ =>
  bw_iload_n hZ 1 rfl dX11_gain_4 <|
  bw_aload_n hZ 0 rfl dX11_gain_5 <|
  bw_getR hZ fl_RX11_46 obC_0 rfl dX11_gain_6 <|
  bw_getI hZ fl_RX11_95 (by decide) obC_22 dX11_gain_9 <|
  bw_icmp_lt hZ (tgt := 19) (by decide) dX11_gain_12 (fun _ =>
  bw_aload_n hZ 0 rfl dX11_gain_19 <|
  bw_getR hZ fl_RX11_19 obC_0 rfl dX11_gain_20 <|
  bw_callVI (As := []) hZ ml_RX11_256 rc_2 obC_3 (by decide) (c_X2_waysFound (zl Z) (zY Z) (hZ_S hZ) w) rfl rfl (Nat.le_of_ble_eq_true rfl) dX11_gain_23 fun r2 w1 =>
  bw_if_ne hZ (tgt := 31) (by decide) dX11_gain_26 (fun _ =>
  bw_aload_n hZ 0 rfl dX11_gain_31 <|
  bw_getR hZ fl_RX11_37 obC_0 rfl dX11_gain_32 <|
  bw_callMV (As := []) hZ hE ml_RX11_290 rc_5 obC_16 (by decide) (c_X5_bringUpToDate (zl Z) (zY Z) (hZ_S hZ) w1) rfl (fun Y => [(0, .ref (ph Y 0)), (1, .int x1)]) (fun Y => []) rfl rfl (fun Y1 h => by have h0 := h.2.2.2.2.2.2.1 0 rfl; simp only [h0, and_self]) (Nat.le_of_ble_eq_true rfl) dX11_gain_35 (fun w3 cp4 => (mo_cl fun r7 w6 => mo_some)) fun Z hZ hE _ w3 =>
  bw_aload_n hZ 0 rfl dX11_gain_38 <|
  bw_getR hZ fl_RX11_46 obC_0 rfl dX11_gain_39 <|
  bw_iload_n hZ 1 rfl dX11_gain_42 <|
  bw_callVI (As := [.int x1]) hZ ml_RX11_329 rc_9 obC_22 (by decide) (c_X9_gainBy (zl Z) (zY Z) (hZ_S hZ) x1 w3) rfl rfl (Nat.le_of_ble_eq_true rfl) dX11_gain_43 fun r7 w6 =>
  bw_iretM hZ hE dX11_gain_46) (fun _ =>
  bw_iconst hZ (-1) (by decide) dX11_gain_29 <|
  bw_iretM hZ hE dX11_gain_30)) (fun _ =>
  bw_ldcw hZ kk_RX11_328 dX11_gain_15 <|
  bw_iretM hZ hE dX11_gain_18))
theorem c_X11_gain (l : Launch) (Y : Ev) (hY : Y.1 = SC) (x1 : Int32)  (w : Wd) : CMI l Y yX11_gain cX11_gain 2 9 [.ref (ph Y 0), .int x1] w .int (f_X11_gain (yc Y) x1 w) := by
  refine CMI_of (S := SC) (by decide) (Nat.le_of_ble_eq_true rfl) hY ?_
  intro Z hl hY2 hZ hE
  subst hY2
  exact t_X11_gain hZ hE x1 w
-- WhichWill.settle
theorem dX11_settle_0 : decode cX11_settle 0 = .ok (.aload_n 0, 1) := by decide +kernel
theorem dX11_settle_1 : decode cX11_settle 1 = .ok (.invokevirtual 332, 3) := by decide +kernel
theorem dX11_settle_4 : decode cX11_settle 4 = .ok (.istore_n 1, 1) := by decide +kernel
theorem dX11_settle_5 : decode cX11_settle 5 = .ok (.aload_n 0, 1) := by decide +kernel
theorem dX11_settle_6 : decode cX11_settle 6 = .ok (.getfield 10, 3) := by decide +kernel
theorem dX11_settle_9 : decode cX11_settle 9 = .ok (.invokevirtual 111, 3) := by decide +kernel
theorem dX11_settle_12 : decode cX11_settle 12 = .ok (.iload_n 1, 1) := by decide +kernel
theorem dX11_settle_13 : decode cX11_settle 13 = .ok (.ifCond .ne 5, 3) := by decide +kernel
theorem dX11_settle_16 : decode cX11_settle 16 = .ok (.iconst (-1), 1) := by decide +kernel
theorem dX11_settle_17 : decode cX11_settle 17 = .ok (.ireturn, 1) := by decide +kernel
theorem dX11_settle_18 : decode cX11_settle 18 = .ok (.aload_n 0, 1) := by decide +kernel
theorem dX11_settle_19 : decode cX11_settle 19 = .ok (.getfield 19, 3) := by decide +kernel
theorem dX11_settle_22 : decode cX11_settle 22 = .ok (.invokevirtual 256, 3) := by decide +kernel
theorem dX11_settle_25 : decode cX11_settle 25 = .ok (.ifCond .ne 6, 3) := by decide +kernel
theorem dX11_settle_28 : decode cX11_settle 28 = .ok (.bipush (-4), 2) := by decide +kernel
theorem dX11_settle_30 : decode cX11_settle 30 = .ok (.ireturn, 1) := by decide +kernel
theorem dX11_settle_31 : decode cX11_settle 31 = .ok (.aload_n 0, 1) := by decide +kernel
theorem dX11_settle_32 : decode cX11_settle 32 = .ok (.getfield 37, 3) := by decide +kernel
theorem dX11_settle_35 : decode cX11_settle 35 = .ok (.invokevirtual 290, 3) := by decide +kernel
theorem dX11_settle_38 : decode cX11_settle 38 = .ok (.iconst 1, 1) := by decide +kernel
theorem dX11_settle_39 : decode cX11_settle 39 = .ok (.aload_n 0, 1) := by decide +kernel
theorem dX11_settle_40 : decode cX11_settle 40 = .ok (.getfield 19, 3) := by decide +kernel
theorem dX11_settle_43 : decode cX11_settle 43 = .ok (.getfield 98, 3) := by decide +kernel
theorem dX11_settle_46 : decode cX11_settle 46 = .ok (.getfield 148, 3) := by decide +kernel
theorem dX11_settle_49 : decode cX11_settle 49 = .ok (.getfield 143, 3) := by decide +kernel
theorem dX11_settle_52 : decode cX11_settle 52 = .ok (.ishl, 1) := by decide +kernel
theorem dX11_settle_53 : decode cX11_settle 53 = .ok (.istore_n 2, 1) := by decide +kernel
theorem dX11_settle_54 : decode cX11_settle 54 = .ok (.iconst 1, 1) := by decide +kernel
theorem dX11_settle_55 : decode cX11_settle 55 = .ok (.istore_n 3, 1) := by decide +kernel
theorem dX11_settle_56 : decode cX11_settle 56 = .ok (.iload_n 3, 1) := by decide +kernel
theorem dX11_settle_57 : decode cX11_settle 57 = .ok (.iload_n 2, 1) := by decide +kernel
theorem dX11_settle_58 : decode cX11_settle 58 = .ok (.if_icmp .ge 27, 3) := by decide +kernel
theorem dX11_settle_61 : decode cX11_settle 61 = .ok (.aload_n 0, 1) := by decide +kernel
theorem dX11_settle_62 : decode cX11_settle 62 = .ok (.getfield 37, 3) := by decide +kernel
theorem dX11_settle_65 : decode cX11_settle 65 = .ok (.iload_n 3, 1) := by decide +kernel
theorem dX11_settle_66 : decode cX11_settle 66 = .ok (.invokevirtual 296, 3) := by decide +kernel
theorem dX11_settle_69 : decode cX11_settle 69 = .ok (.aload_n 0, 1) := by decide +kernel
theorem dX11_settle_70 : decode cX11_settle 70 = .ok (.iload_n 3, 1) := by decide +kernel
theorem dX11_settle_71 : decode cX11_settle 71 = .ok (.invokevirtual 335, 3) := by decide +kernel
theorem dX11_settle_74 : decode cX11_settle 74 = .ok (.if_icmp .le 5, 3) := by decide +kernel
theorem dX11_settle_77 : decode cX11_settle 77 = .ok (.iload_n 3, 1) := by decide +kernel
theorem dX11_settle_78 : decode cX11_settle 78 = .ok (.ireturn, 1) := by decide +kernel
theorem dX11_settle_79 : decode cX11_settle 79 = .ok (.iinc 3 1, 3) := by decide +kernel
theorem dX11_settle_82 : decode cX11_settle 82 = .ok (.goto (-26), 3) := by decide +kernel
theorem dX11_settle_85 : decode cX11_settle 85 = .ok (.iconst 0, 1) := by decide +kernel
theorem dX11_settle_86 : decode cX11_settle 86 = .ok (.ireturn, 1) := by decide +kernel
def X11_settle_b56 (cp : Nat) (k56 : Nat → Int32 → Int32 → Wd → Option (Int32 × Wd × Nat)) (y2 : Int32) (y3 : Int32) (w : Wd) : Option (Int32 × Wd × Nat) :=
  if y2 ≤ y3 then
  (some (0, w, cp))
  else
  cl (f_X5_leastOf cp y3 w) fun r11 w10 =>
  cl (f_X11_offeredTo y3 w10) fun r13 w12 =>
  if r11 ≤ r13 then
  (k56 cp y2 (y3 + 1) w12)
  else
  some (y3, w12, cp)
theorem m_X11_settle_b56 (cp : Nat) (k56 : Nat → Int32 → Int32 → Wd → Option (Int32 × Wd × Nat)) (hm56 : ∀ (cp : Nat) (y2 : Int32) (y3 : Int32) (w : Wd), Mono cI cp (k56 cp y2 y3 w)) (y2 : Int32) (y3 : Int32) (w : Wd) : Mono cI cp (X11_settle_b56 cp k56 y2 y3 w) :=
  (mo_if mo_some (mo_cl fun r11 w10 => (mo_cl fun r13 w12 => (mo_if (hm56 cp y2 (y3 + 1) w12) mo_some))))
set_option maxRecDepth 100000 in
set_option maxHeartbeats 4000000 in
theorem t_X11_settle_b56 {Y0 : Ev} {Z : Cz (Int32 × Wd × Nat)} (hZ : OKZ Z SC cX11_settle RX11 4 (some .int) 9) (hE : EndM QMI cI Y0 Z) (k56 : Nat → Int32 → Int32 → Wd → Option (Int32 × Wd × Nat)) (hm56 : ∀ (cp : Nat) (y2 : Int32) (y3 : Int32) (w : Wd), Mono cI cp (k56 cp y2 y3 w)) (hk56 : ∀ {Z : Cz (Int32 × Wd × Nat)} (hZ : OKZ Z SC cX11_settle RX11 4 (some .int) 9) (hE : EndM QMI cI Y0 Z) (y2 : Int32) (y3 : Int32)  (w : Wd), BW Z 4 56 [(0, .ref (ph (zY Z) 0)), (2, .int y2), (3, .int y3)] [] w (k56 (yc (zY Z)) y2 y3 w)) (y2 : Int32) (y3 : Int32)  (w : Wd) : BW Z 4 56 [(0, .ref (ph (zY Z) 0)), (2, .int y2), (3, .int y3)] [] w (X11_settle_b56 (yc (zY Z)) k56 y2 y3 w) :=
  bw_iload_n hZ 2 rfl dX11_settle_56 <|
  bw_iload_n hZ 1 rfl dX11_settle_57 <|
  bw_icmp_ge hZ (tgt := 85) (by decide) dX11_settle_58 (fun _ =>
  bw_iconst hZ 0 (by decide) dX11_settle_85 <|
  bw_iretM hZ hE dX11_settle_86) (fun _ =>
  bw_aload_n hZ 0 rfl dX11_settle_61 <|
  bw_getR hZ fl_RX11_37 obC_0 rfl dX11_settle_62 <|
  bw_iload_n hZ 2 rfl dX11_settle_65 <|
  bw_callVI (As := [.int y3]) hZ ml_RX11_296 rc_5 obC_16 (by decide) (c_X5_leastOf (zl Z) (zY Z) (hZ_S hZ) y3 w) rfl rfl (Nat.le_of_ble_eq_true rfl) dX11_settle_66 fun r11 w10 =>
  bw_aload_n hZ 0 rfl dX11_settle_69 <|
  bw_iload_n hZ 2 rfl dX11_settle_70 <|
  bw_callVI (As := [.int y3]) hZ ml_RX11_335 rc_11 obC_0 (by decide) (c_X11_offeredTo (zl Z) (zY Z) (hZ_S hZ) y3 w10) rfl rfl (Nat.le_of_ble_eq_true rfl) dX11_settle_71 fun r13 w12 =>
  bw_icmp_le hZ (tgt := 79) (by decide) dX11_settle_74 (fun _ =>
  bw_iinc hZ 1 2 rfl (by decide) (by decide) rfl dX11_settle_79 <|
  bw_goto hZ (tgt := 56) (by decide) dX11_settle_82 <|
  bw_sub [1, 2, 0] rfl (hk56 hZ hE y2 (y3 + 1) w12)) (fun _ =>
  bw_iload_n hZ 2 rfl dX11_settle_77 <|
  bw_iretM hZ hE dX11_settle_78))
def X11_settle_b56_L (cp : Nat) (y2 : Int32) (y3 : Int32) (w : Wd) : Option (Int32 × Wd × Nat) :=
  lp fu (fun _ _ _ _ => none) (fun k56 cp y2 y3 w => X11_settle_b56 cp k56 y2 y3 w) cp y2 y3 w
theorem m_X11_settle_b56_L (cp : Nat)  (y2 : Int32) (y3 : Int32) (w : Wd) : Mono cI cp (X11_settle_b56_L cp y2 y3 w) :=
  lp_bw (fun (k56 : Nat → Int32 → Int32 → Wd → Option (Int32 × Wd × Nat)) => ∀ (cp : Nat) (y2 : Int32) (y3 : Int32) (w : Wd), Mono cI cp (k56 cp y2 y3 w)) (fun _ _ _ _ => mo_none) (fun k56 hm56 cp y2 y3 w => m_X11_settle_b56 cp k56 hm56 y2 y3 w) fu cp y2 y3 w
theorem t_X11_settle_b56_L {Y0 : Ev} {Z : Cz (Int32 × Wd × Nat)} (hZ : OKZ Z SC cX11_settle RX11 4 (some .int) 9) (hE : EndM QMI cI Y0 Z)  (y2 : Int32) (y3 : Int32)  (w : Wd) : BW Z 4 56 [(0, .ref (ph (zY Z) 0)), (2, .int y2), (3, .int y3)] [] w (X11_settle_b56_L (yc (zY Z)) y2 y3 w) :=
  (lp_bw (fun (k56 : Nat → Int32 → Int32 → Wd → Option (Int32 × Wd × Nat)) => (∀ (cp : Nat) (y2 : Int32) (y3 : Int32) (w : Wd), Mono cI cp (k56 cp y2 y3 w)) ∧ ∀ {Z : Cz (Int32 × Wd × Nat)} (hZ : OKZ Z SC cX11_settle RX11 4 (some .int) 9) (hE : EndM QMI cI Y0 Z) (y2 : Int32) (y3 : Int32)  (w : Wd), BW Z 4 56 [(0, .ref (ph (zY Z) 0)), (2, .int y2), (3, .int y3)] [] w (k56 (yc (zY Z)) y2 y3 w)) ⟨fun _ _ _ _ => mo_none, fun _ _ _ _ _ => bw_none⟩ (fun k56 hb => ⟨fun cp y2 y3 w => m_X11_settle_b56 cp k56 hb.1 y2 y3 w, fun {Z} hZ hE y2 y3 w => t_X11_settle_b56 hZ hE k56 hb.1 hb.2 y2 y3 w⟩) fu).2 hZ hE y2 y3 w
def f_X11_settle (cp : Nat) (w : Wd) : Option (Int32 × Wd × Nat) :=
  cl (f_X11_readOffers w) fun r2 w1 =>
  cv (f_X10_empty w1) fun w3 =>
  if r2 = 0 then
  (some ((-1), w3, cp))
  else
  cl (f_X2_waysFound w3) fun r5 w4 =>
  if r5 = 0 then
  (some ((-4), w4, cp))
  else
  cvm (f_X5_bringUpToDate cp w4) fun w6 cp7 =>
  lt (1 <<< ((w6.1 34 1) &&& 31)) fun v9 =>
  X11_settle_b56_L cp7 v9 1 w6
theorem m_f_X11_settle (cp : Nat)  (w : Wd) : Mono cI cp (f_X11_settle cp w) :=
  (mo_cl fun r2 w1 => (mo_cv fun w3 => (mo_if mo_some (mo_cl fun r5 w4 => (mo_if mo_some (mo_cvm (m_f_X5_bringUpToDate cp w4) fun w6 cp7 => (mo_lt fun v9 => (m_X11_settle_b56_L cp7 v9 1 w6))))))))
set_option maxRecDepth 100000 in
set_option maxHeartbeats 4000000 in
theorem t_X11_settle {Y0 : Ev} {Z : Cz (Int32 × Wd × Nat)} (hZ : OKZ Z SC cX11_settle RX11 4 (some .int) 9) (hE : EndM QMI cI Y0 Z)   (w : Wd) : BW Z 4 0 [(0, .ref (ph (zY Z) 0))] [] w (f_X11_settle (yc (zY Z)) w) :=
  bw_aload_n hZ 0 rfl dX11_settle_0 <|
  bw_callVI (As := []) hZ ml_RX11_332 rc_11 obC_0 (by decide) (c_X11_readOffers (zl Z) (zY Z) (hZ_S hZ) w) rfl rfl (Nat.le_of_ble_eq_true rfl) dX11_settle_1 fun r2 w1 =>
  bw_istore_n hZ rfl (by decide) rfl dX11_settle_4 <|
  bw_aload_n hZ 1 rfl dX11_settle_5 <|
  bw_getR hZ fl_RX11_10 obC_0 rfl dX11_settle_6 <|
  bw_callVV (As := []) hZ ml_RX11_111 rc_10 obC_1 (by decide) (c_X10_empty (zl Z) (zY Z) (hZ_S hZ) w1) rfl rfl (Nat.le_of_ble_eq_true rfl) dX11_settle_9 fun w3 =>
  bw_iload_n hZ 0 rfl dX11_settle_12 <|
  bw_if_ne hZ (tgt := 18) (by decide) dX11_settle_13 (fun _ =>
  bw_aload_n hZ 1 rfl dX11_settle_18 <|
  bw_getR hZ fl_RX11_19 obC_0 rfl dX11_settle_19 <|
  bw_callVI (As := []) hZ ml_RX11_256 rc_2 obC_3 (by decide) (c_X2_waysFound (zl Z) (zY Z) (hZ_S hZ) w3) rfl rfl (Nat.le_of_ble_eq_true rfl) dX11_settle_22 fun r5 w4 =>
  bw_if_ne hZ (tgt := 31) (by decide) dX11_settle_25 (fun _ =>
  bw_aload_n hZ 1 rfl dX11_settle_31 <|
  bw_getR hZ fl_RX11_37 obC_0 rfl dX11_settle_32 <|
  bw_callMV (As := []) hZ hE ml_RX11_290 rc_5 obC_16 (by decide) (c_X5_bringUpToDate (zl Z) (zY Z) (hZ_S hZ) w4) rfl (fun Y => [(1, .int r2), (0, .ref (ph Y 0))]) (fun Y => []) rfl rfl (fun Y1 h => by have h0 := h.2.2.2.2.2.2.1 0 rfl; simp only [h0, and_self]) (Nat.le_of_ble_eq_true rfl) dX11_settle_35 (fun w6 cp7 => (mo_lt fun v9 => (m_X11_settle_b56_L cp7 v9 1 w6))) fun Z hZ hE _ w6 =>
  bw_iconst hZ 1 (by decide) dX11_settle_38 <|
  bw_aload_n hZ 1 rfl dX11_settle_39 <|
  bw_getR hZ fl_RX11_19 obC_0 rfl dX11_settle_40 <|
  bw_getR hZ fl_RX11_98 obC_3 rfl dX11_settle_43 <|
  bw_getR hZ fl_RX11_148 obC_31 rfl dX11_settle_46 <|
  bw_getI hZ fl_RX11_143 (by decide) obC_34 dX11_settle_49 <|
  bw_ishl hZ dX11_settle_52 <|
  bw_nm fun v9 =>
  bw_istore_n hZ rfl (by decide) rfl dX11_settle_53 <|
  bw_iconst hZ 1 (by decide) dX11_settle_54 <|
  bw_istore_n hZ rfl (by decide) rfl dX11_settle_55 <|
  bw_sub [3, 1, 0] rfl (t_X11_settle_b56_L hZ hE v9 1 w6)) (fun _ =>
  bw_bipush hZ (-4) (by decide) dX11_settle_28 <|
  bw_iretM hZ hE dX11_settle_30)) (fun _ =>
  bw_iconst hZ (-1) (by decide) dX11_settle_16 <|
  bw_iretM hZ hE dX11_settle_17)
theorem c_X11_settle (l : Launch) (Y : Ev) (hY : Y.1 = SC)   (w : Wd) : CMI l Y yX11_settle cX11_settle 4 9 [.ref (ph Y 0)] w .int (f_X11_settle (yc Y) w) := by
  refine CMI_of (S := SC) (by decide) (Nat.le_of_ble_eq_true rfl) hY ?_
  intro Z hl hY2 hZ hE
  subst hY2
  exact t_X11_settle hZ hE w
-- WhichWill.floor
theorem dX11_floor_0 : decode cX11_floor 0 = .ok (.iload_n 1, 1) := by decide +kernel
theorem dX11_floor_1 : decode cX11_floor 1 = .ok (.ifCond .lt 22, 3) := by decide +kernel
theorem dX11_floor_4 : decode cX11_floor 4 = .ok (.iload_n 1, 1) := by decide +kernel
theorem dX11_floor_5 : decode cX11_floor 5 = .ok (.iconst 1, 1) := by decide +kernel
theorem dX11_floor_6 : decode cX11_floor 6 = .ok (.aload_n 0, 1) := by decide +kernel
theorem dX11_floor_7 : decode cX11_floor 7 = .ok (.getfield 19, 3) := by decide +kernel
theorem dX11_floor_10 : decode cX11_floor 10 = .ok (.getfield 98, 3) := by decide +kernel
theorem dX11_floor_13 : decode cX11_floor 13 = .ok (.getfield 148, 3) := by decide +kernel
theorem dX11_floor_16 : decode cX11_floor 16 = .ok (.getfield 143, 3) := by decide +kernel
theorem dX11_floor_19 : decode cX11_floor 19 = .ok (.ishl, 1) := by decide +kernel
theorem dX11_floor_20 : decode cX11_floor 20 = .ok (.if_icmp .lt 6, 3) := by decide +kernel
theorem dX11_floor_23 : decode cX11_floor 23 = .ok (.bipush (-2), 2) := by decide +kernel
theorem dX11_floor_25 : decode cX11_floor 25 = .ok (.ireturn, 1) := by decide +kernel
theorem dX11_floor_26 : decode cX11_floor 26 = .ok (.aload_n 0, 1) := by decide +kernel
theorem dX11_floor_27 : decode cX11_floor 27 = .ok (.getfield 19, 3) := by decide +kernel
theorem dX11_floor_30 : decode cX11_floor 30 = .ok (.invokevirtual 256, 3) := by decide +kernel
theorem dX11_floor_33 : decode cX11_floor 33 = .ok (.ifCond .ne 5, 3) := by decide +kernel
theorem dX11_floor_36 : decode cX11_floor 36 = .ok (.iconst (-1), 1) := by decide +kernel
theorem dX11_floor_37 : decode cX11_floor 37 = .ok (.ireturn, 1) := by decide +kernel
theorem dX11_floor_38 : decode cX11_floor 38 = .ok (.aload_n 0, 1) := by decide +kernel
theorem dX11_floor_39 : decode cX11_floor 39 = .ok (.getfield 37, 3) := by decide +kernel
theorem dX11_floor_42 : decode cX11_floor 42 = .ok (.invokevirtual 290, 3) := by decide +kernel
theorem dX11_floor_45 : decode cX11_floor 45 = .ok (.aload_n 0, 1) := by decide +kernel
theorem dX11_floor_46 : decode cX11_floor 46 = .ok (.getfield 37, 3) := by decide +kernel
theorem dX11_floor_49 : decode cX11_floor 49 = .ok (.iload_n 1, 1) := by decide +kernel
theorem dX11_floor_50 : decode cX11_floor 50 = .ok (.invokevirtual 296, 3) := by decide +kernel
theorem dX11_floor_53 : decode cX11_floor 53 = .ok (.ireturn, 1) := by decide +kernel
def f_X11_floor (cp : Nat) (x1 : Int32) (w : Wd) : Option (Int32 × Wd × Nat) :=
  if x1 < 0 then
  (some ((-2), w, cp))
  else
  if x1 < (1 <<< ((w.1 34 1) &&& 31)) then
  (cl (f_X2_waysFound w) fun r2 w1 =>
  if r2 = 0 then
  (some ((-1), w1, cp))
  else
  cvm (f_X5_bringUpToDate cp w1) fun w3 cp4 =>
  cl (f_X5_leastOf cp4 x1 w3) fun r7 w6 =>
  some (r7, w6, cp4))
  else
  some ((-2), w, cp)
theorem m_f_X11_floor (cp : Nat) (x1 : Int32) (w : Wd) : Mono cI cp (f_X11_floor cp x1 w) :=
  (mo_if mo_some (mo_if (mo_cl fun r2 w1 => (mo_if mo_some (mo_cvm (m_f_X5_bringUpToDate cp w1) fun w3 cp4 => (mo_cl fun r7 w6 => mo_some)))) mo_some))
set_option maxRecDepth 100000 in
set_option maxHeartbeats 4000000 in
theorem t_X11_floor {Y0 : Ev} {Z : Cz (Int32 × Wd × Nat)} (hZ : OKZ Z SC cX11_floor RX11 2 (some .int) 9) (hE : EndM QMI cI Y0 Z) (x1 : Int32)  (w : Wd) : BW Z 2 0 [(0, .ref (ph (zY Z) 0)), (1, .int x1)] [] w (f_X11_floor (yc (zY Z)) x1 w) :=
  bw_iload_n hZ 1 rfl dX11_floor_0 <|
  bw_if_lt hZ (tgt := 23) (by decide) dX11_floor_1 (fun _ =>
  bw_bipush hZ (-2) (by decide) dX11_floor_23 <|
  bw_iretM hZ hE dX11_floor_25) (fun _ =>
  bw_iload_n hZ 1 rfl dX11_floor_4 <|
  bw_iconst hZ 1 (by decide) dX11_floor_5 <|
  bw_aload_n hZ 0 rfl dX11_floor_6 <|
  bw_getR hZ fl_RX11_19 obC_0 rfl dX11_floor_7 <|
  bw_getR hZ fl_RX11_98 obC_3 rfl dX11_floor_10 <|
  bw_getR hZ fl_RX11_148 obC_31 rfl dX11_floor_13 <|
  bw_getI hZ fl_RX11_143 (by decide) obC_34 dX11_floor_16 <|
  bw_ishl hZ dX11_floor_19 <|
  bw_icmp_lt hZ (tgt := 26) (by decide) dX11_floor_20 (fun _ =>
  bw_aload_n hZ 0 rfl dX11_floor_26 <|
  bw_getR hZ fl_RX11_19 obC_0 rfl dX11_floor_27 <|
  bw_callVI (As := []) hZ ml_RX11_256 rc_2 obC_3 (by decide) (c_X2_waysFound (zl Z) (zY Z) (hZ_S hZ) w) rfl rfl (Nat.le_of_ble_eq_true rfl) dX11_floor_30 fun r2 w1 =>
  bw_if_ne hZ (tgt := 38) (by decide) dX11_floor_33 (fun _ =>
  bw_aload_n hZ 0 rfl dX11_floor_38 <|
  bw_getR hZ fl_RX11_37 obC_0 rfl dX11_floor_39 <|
  bw_callMV (As := []) hZ hE ml_RX11_290 rc_5 obC_16 (by decide) (c_X5_bringUpToDate (zl Z) (zY Z) (hZ_S hZ) w1) rfl (fun Y => [(0, .ref (ph Y 0)), (1, .int x1)]) (fun Y => []) rfl rfl (fun Y1 h => by have h0 := h.2.2.2.2.2.2.1 0 rfl; simp only [h0, and_self]) (Nat.le_of_ble_eq_true rfl) dX11_floor_42 (fun w3 cp4 => (mo_cl fun r7 w6 => mo_some)) fun Z hZ hE _ w3 =>
  bw_aload_n hZ 0 rfl dX11_floor_45 <|
  bw_getR hZ fl_RX11_37 obC_0 rfl dX11_floor_46 <|
  bw_iload_n hZ 1 rfl dX11_floor_49 <|
  bw_callVI (As := [.int x1]) hZ ml_RX11_296 rc_5 obC_16 (by decide) (c_X5_leastOf (zl Z) (zY Z) (hZ_S hZ) x1 w3) rfl rfl (Nat.le_of_ble_eq_true rfl) dX11_floor_50 fun r7 w6 =>
  bw_iretM hZ hE dX11_floor_53) (fun _ =>
  bw_iconst hZ (-1) (by decide) dX11_floor_36 <|
  bw_iretM hZ hE dX11_floor_37)) (fun _ =>
  bw_bipush hZ (-2) (by decide) dX11_floor_23 <|
  bw_iretM hZ hE dX11_floor_25))
theorem c_X11_floor (l : Launch) (Y : Ev) (hY : Y.1 = SC) (x1 : Int32)  (w : Wd) : CMI l Y yX11_floor cX11_floor 2 9 [.ref (ph Y 0), .int x1] w .int (f_X11_floor (yc Y) x1 w) := by
  refine CMI_of (S := SC) (by decide) (Nat.le_of_ble_eq_true rfl) hY ?_
  intro Z hl hY2 hZ hE
  subst hY2
  exact t_X11_floor hZ hE x1 w
