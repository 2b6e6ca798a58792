/-! what the start gives: texts, classes, words (written by tools/start.py) -/
theorem tb_1 {w : Cond} (i : Nat) (h : tables_1_1[i]? = some w) : w ∈ lw_tbl := List.mem_append_right _ (by have h : w ∈ tables_1_1 := List.mem_of_getElem? h; exact List.mem_append_left _ h)
theorem tb_2 {w : Cond} (i : Nat) (h : tables_1_2[i]? = some w) : w ∈ lw_tbl := List.mem_append_right _ (by have h : w ∈ tables_1_2 := List.mem_of_getElem? h; exact List.mem_append_right _ (List.mem_append_left _ h))
theorem tb_3 {w : Cond} (i : Nat) (h : tables_1_3[i]? = some w) : w ∈ lw_tbl := List.mem_append_right _ (by have h : w ∈ tables_1_3 := List.mem_of_getElem? h; exact List.mem_append_right _ (List.mem_append_right _ (List.mem_append_left _ h)))
theorem tb_4 {w : Cond} (i : Nat) (h : tables_1_4[i]? = some w) : w ∈ lw_tbl := List.mem_append_right _ (by have h : w ∈ tables_1_4 := List.mem_of_getElem? h; exact List.mem_append_right _ (List.mem_append_right _ (List.mem_append_right _ (List.mem_append_left _ h))))
theorem tb_5 {w : Cond} (i : Nat) (h : tables_1_5[i]? = some w) : w ∈ lw_tbl := List.mem_append_right _ (by have h : w ∈ tables_1_5 := List.mem_of_getElem? h; exact List.mem_append_right _ (List.mem_append_right _ (List.mem_append_right _ (List.mem_append_right _ (List.mem_append_left _ h)))))
theorem tb_6 {w : Cond} (i : Nat) (h : tables_1_6[i]? = some w) : w ∈ lw_tbl := List.mem_append_right _ (by have h : w ∈ tables_1_6 := List.mem_of_getElem? h; exact List.mem_append_right _ (List.mem_append_right _ (List.mem_append_right _ (List.mem_append_right _ (List.mem_append_right _ (List.mem_append_left _ h))))))
theorem tb_7 {w : Cond} (i : Nat) (h : tables_1_7[i]? = some w) : w ∈ lw_tbl := List.mem_append_right _ (by have h : w ∈ tables_1_7 := List.mem_of_getElem? h; exact List.mem_append_right _ (List.mem_append_right _ (List.mem_append_right _ (List.mem_append_right _ (List.mem_append_right _ (List.mem_append_right _ (List.mem_append_left _ h)))))))
theorem tb_8 {w : Cond} (i : Nat) (h : tables_1_8[i]? = some w) : w ∈ lw_tbl := List.mem_append_right _ (by have h : w ∈ tables_1_8 := List.mem_of_getElem? h; exact List.mem_append_right _ (List.mem_append_right _ (List.mem_append_right _ (List.mem_append_right _ (List.mem_append_right _ (List.mem_append_right _ (List.mem_append_right _ (List.mem_append_left _ h))))))))
theorem tb_9 {w : Cond} (i : Nat) (h : tables_1_9[i]? = some w) : w ∈ lw_tbl := List.mem_append_right _ (by have h : w ∈ tables_1_9 := List.mem_of_getElem? h; exact List.mem_append_right _ (List.mem_append_right _ (List.mem_append_right _ (List.mem_append_right _ (List.mem_append_right _ (List.mem_append_right _ (List.mem_append_right _ (List.mem_append_right _ (List.mem_append_left _ h)))))))))
theorem tb_10 {w : Cond} (i : Nat) (h : tables_1_10[i]? = some w) : w ∈ lw_tbl := List.mem_append_right _ (by have h : w ∈ tables_1_10 := List.mem_of_getElem? h; exact List.mem_append_right _ (List.mem_append_right _ (List.mem_append_right _ (List.mem_append_right _ (List.mem_append_right _ (List.mem_append_right _ (List.mem_append_right _ (List.mem_append_right _ (List.mem_append_right _ (h))))))))))
def nwF : List Cond := flatC (Jvm.Cond.and given_1 narrow_1)
theorem nw_at {args : Array Value} {s : State} (hn : ∀ w ∈ nwF, w.before args s = true) (i : Nat) {w : Cond} (h : nwF[i]? = some w) : w.before args s = true := hn _ (List.mem_of_getElem? h)
def sRep : List (String × Nat) := [("WhichWill$Estate", 107), ("WhichWill$Estate", 189), ("WhichWill$Estate", 191), ("WhichWill$Estate", 193), ("WhichWill$Estate", 195), ("WhichWill$Estate", 197), ("WhichWill$Estate", 199), ("WhichWill$Estate", 201), ("WhichWill$Estate", 203), ("WhichWill$Estate", 205), ("WhichWill$Estate", 207), ("WhichWill$Estate", 208), ("WhichWill$Estate", 210), ("WhichWill$Estate", 212), ("WhichWill$Estate", 214), ("WhichWill$Estate", 216), ("WhichWill$Estate", 218), ("WhichWill$Estate", 224), ("WhichWill$Estate", 226), ("WhichWill$Estate", 121), ("WhichWill$Estate", 122), ("WhichWill$Estate", 116), ("WhichWill$Estate", 123), ("WhichWill$Estate", 235), ("WhichWill$Estate", 237), ("WhichWill$Estate", 239), ("WhichWill$Estate", 231), ("WhichWill$Estate", 128), ("WhichWill$Estate", 241), ("WhichWill$Estate", 133), ("WhichWill$Estate", 137), ("WhichWill$Paper", 87), ("WhichWill$Paper", 105), ("WhichWill$Paper", 107), ("WhichWill$Paper", 113), ("WhichWill$Paper", 115), ("WhichWill$Paper", 180), ("WhichWill$Paper", 185), ("WhichWill$Paper", 187), ("WhichWill$Paper", 189), ("WhichWill$Paper", 193), ("WhichWill$Paper", 120), ("WhichWill$Paper", 195), ("WhichWill$Paper", 124), ("WhichWill$Paper", 197), ("WhichWill$Paper", 132), ("WhichWill$Paper", 142)]
def sPos : List Nat := [48, 56, 64, 72, 82, 90, 97, 105, 113, 121, 129, 137, 146, 155, 163, 171, 179, 183, 190, 199, 207, 215, 224, 234, 243, 250, 260, 268, 277, 283, 292, 300, 328, 338, 344, 352, 359, 365, 371, 379, 395, 404, 412, 419, 427, 436, 445]
def sEqp : List Nat := [0, 0, 0, 0, 0, 0, 0, 0, 0, 0, 0, 0, 0, 0, 0, 0, 0, 0, 0, 0, 0, 0, 0, 0, 0, 0, 0, 0, 0, 0, 0, 0, 316, 327, 0, 0, 0, 0, 0, 0, 0, 0, 394, 0, 0, 0, 0, 0, 0, 0, 461, 470, 479, 491, 501, 509, 518, 527, 536, 545, 554, 564, 574, 583, 592, 601, 609, 619, 628, 637, 648, 658, 666, 677, 686, 697, 704, 714, 724, 733, 742, 749, 756, 765, 773, 783, 791, 800, 810, 817, 827, 836, 847, 856, 865, 873]
def sRfp : List Nat := [620, 713, 714, 715, 716, 717, 718, 719, 720, 721, 722, 723, 724, 725, 733, 734, 735, 741, 742, 743, 744, 745, 758, 767, 768, 769, 770, 775, 780, 781, 787, 871, 888, 889, 890, 891, 906, 907, 918, 923, 924, 925, 926, 927, 928, 933, 934, 939, 945, 946, 1850, 1881, 1882, 1883, 1884, 1885, 1886, 1887, 1888, 1889, 1890, 1891, 1892, 1893, 1910, 1911, 1912, 1913, 1914, 1915, 1916, 1921, 1922, 1923, 1928, 1929, 1934, 1939, 1940, 1941, 1974, 1979, 1988, 1989, 1990, 1991, 1992, 1993, 1998, 2003, 2008, 2017, 2018, 2019, 2020, 2029]
def sTm (i : Nat) : Term := .string (sRep.getD i ("", 0)).1 (sRep.getD i ("", 0)).2
def sVa (i : Nat) : Term := .field (sTm i) "java/lang/String" "value" "[B"
def sWd (i : Nat) : List Cond := .exactly (sTm i) "java/lang/String" :: .eq (.field (sTm i) "java/lang/String" "coder" "B") (.int 0) :: .arrayOf (sVa i) .byte :: .eq (.length (sVa i)) (.int (Int32.ofNat (sLen.getD i 0))) :: (List.range (sLen.getD i 0)).map fun j => .eq (.elem (sVa i) (.int (Int32.ofNat j))) (.int ((sByt.getD i []).getD j 0))
set_option maxRecDepth 100000 in
set_option maxHeartbeats 4000000 in
theorem sWd_ok : ∀ i, i < 47 → (nwF.drop (sPos.getD i 0)).take (4 + sLen.getD i 0) = sWd i := by decide +kernel
set_option maxRecDepth 100000 in
set_option maxHeartbeats 4000000 in
theorem sEq_ok : ∀ i, i < 96 → (sTab.getD i ("", 0, "", 0)).2.2.2 < 47 ∧ (sRep.getD (sTab.getD i ("", 0, "", 0)).2.2.2 ("", 0) = ((sTab.getD i ("", 0, "", 0)).1, (sTab.getD i ("", 0, "", 0)).2.1) ∨ nwF[sEqp.getD i 0]? = some (.eq (sTm (sTab.getD i ("", 0, "", 0)).2.2.2) (.string (sTab.getD i ("", 0, "", 0)).1 (sTab.getD i ("", 0, "", 0)).2.1))) := by decide +kernel
set_option maxRecDepth 100000 in
set_option maxHeartbeats 4000000 in
theorem sRf_ok : ∀ i, i < 96 → tables_1[sRfp.getD i 0]? = some (.stringRef (sTab.getD i ("", 0, "", 0)).1 (sTab.getD i ("", 0, "", 0)).2.1 (sTab.getD i ("", 0, "", 0)).2.2.1) := by decide +kernel
set_option maxRecDepth 100000 in
theorem sBy_ok : ∀ i, i < 47 → sLen.getD i 0 < 100 ∧ ∀ j, j < 47 → sLen.getD i 0 = sLen.getD j 0 → (∀ k, k < sLen.getD i 0 → (sByt.getD i []).getD k 0 = (sByt.getD j []).getD k 0) → i = j := by decide +kernel
theorem sTab_len : sTab.length = 96 := rfl
theorem sMem {i : Nat} (hi : i < 47) {w : Cond} (h : w ∈ sWd i) : w ∈ nwF := by
  rw [← sWd_ok i hi] at h
  exact List.mem_of_mem_drop (List.mem_of_mem_take h)
theorem str_all {args : Array Value} {s : State} {A : Nat → Prop} (hn : ∀ w ∈ nwF, w.before args s = true) (hA : ∀ a : Nat, a < s.heap.size → ¬ A a) : ∃ adK adV : Nat → Nat, vk_S sNum sLen sByt adK adV A s s.heap ∧ ∀ i : Nat, i < sNum → (sTm i).eval args s none [] s = some (.ref (adK i)) := by
  have h0 : ∀ i : Nat, ∃ q : Nat × Nat, i < sNum → (sTm i).eval args s none [] s = some (.ref q.1) ∧ vk_S 1 [sLen.getD i 0] [sByt.getD i []] (fun _ => q.1) (fun _ => q.2) A s s.heap := by
    intro i
    by_cases hi : i < sNum
    · have hm : ∀ {w : Cond}, w ∈ sWd i → w.before args s = true := fun h => hn _ (sMem hi h)
      have e0 : ∀ k, k < 1 → k = 0 := fun k hk => by omega
      obtain ⟨adK, adV, h1, h2⟩ := vk_Sof (args := args) (s := s) (N := 1) (tm := fun _ => sTm i) (len := [sLen.getD i 0]) (byt := [sByt.getD i []]) (A := A) (fun k hk => by rw [e0 k hk]; have := (sBy_ok i hi).1; show sLen.getD i 0 < 2 ^ 31; omega) (fun k hk => hm (List.mem_of_getElem? (i := 0) rfl)) (fun k hk => hm (List.mem_of_getElem? (i := 1) rfl)) (fun k hk => hm (List.mem_of_getElem? (i := 2) rfl)) (fun k hk => by rw [e0 k hk]; exact hm (List.mem_of_getElem? (i := 3) rfl)) (fun k hk j hj => by
          rw [e0 k hk] at hj ⊢
          exact hm (List.mem_cons_of_mem _ (List.mem_cons_of_mem _ (List.mem_cons_of_mem _ (List.mem_cons_of_mem _ (List.mem_map.mpr ⟨j, List.mem_range.mpr hj, rfl⟩)))))) (fun k j hk hj hne => by omega) hA
      refine ⟨(adK 0, adV 0), fun _ => ⟨h2 0 (by omega), fun k hk => ?_, fun k j hk hj _ => by omega⟩⟩
      rw [e0 k hk]; exact h1.1 0 (by omega)
    · exact ⟨(0, 0), fun h => absurd h hi⟩
  obtain ⟨ad, had⟩ := Classical.axiomOfChoice h0
  refine ⟨fun i => (ad i).1, fun i => (ad i).2, ⟨fun i hi => (had i hi).2.1 0 (by omega), fun i j hi hj e => ?_⟩, fun i hi => (had i hi).1⟩
  obtain ⟨-, -, ⟨c1, k1, i1, f1, g1, a1, a2, a3, a4, a5, a6⟩, ⟨t1, b1, b2, b3, b4, b5, b6, b7⟩⟩ := (had i hi).2.1 0 (by omega)
  obtain ⟨-, -, ⟨c2, k2, i2, f2, g2, d1, d2, d3, d4, d5, d6⟩, ⟨t2, x1, x2, x3, x4, x5, x6, x7⟩⟩ := (had j hj).2.1 0 (by omega)
  have e : (ad i).1 = (ad j).1 := e
  rw [a1] at d1
  cases d1
  rw [e, d3] at a3
  cases a3
  rw [d5] at a5
  have ev : (ad j).2 = (ad i).2 := by injection a5 with q; injection q
  rw [ev] at x1
  rw [b1] at x1
  cases x1
  have b5 : t1.slots.size.toInt32 = Int32.ofNat (sLen.getD i 0) := b5
  have x5 : t1.slots.size.toInt32 = Int32.ofNat (sLen.getD j 0) := x5
  have hli := (sBy_ok i hi).1
  have hlj := (sBy_ok j hj).1
  have el : sLen.getD i 0 = sLen.getD j 0 := (nI_eq (by omega) (by omega)).mp (b5.symm.trans x5)
  refine (sBy_ok i hi).2 j hj el (fun k hk => ?_)
  have y1 : t1.slots[k]? = some (.int ((sByt.getD i []).getD k 0)) := b6 k hk
  have y2 : t1.slots[k]? = some (.int ((sByt.getD j []).getD k 0)) := x6 k (by show k < sLen.getD j 0; omega)
  have y3 := Option.some.inj (y1.symm.trans y2)
  injection y3

theorem kn_all {args : Array Value} {s : State} (hts : ∀ w ∈ lw_tbl, w.before args s = true) : ∃ D : va_G, ∀ (c : Nat) (q : vw_C), vwCl[c]? = some q → u_Kn s q.1 q.2.1 q.2.2 (D.1 c) (D.2 c) := by
  have hg : ∀ w ∈ GT, w.before args s = true := fun w hw => hts w (List.mem_filter.mp hw).1
  have h0 : ∀ c : Nat, ∃ p : ClassId × (Nat → Nat), ∀ q : vw_C, vwCl[c]? = some q → u_Kn s q.1 q.2.1 q.2.2 p.1 p.2 := by
    intro c
    match c with
    | 0 => obtain ⟨cC, iS, h⟩ := u_known (C := RX0) (T := TX0) (N := 19) (n := 19) hg inG0 (hts (.instantiable RX0 19) (tb_1 78 rfl)); exact ⟨(cC, iS), fun q hq => by cases hq; exact h⟩
    | 1 => obtain ⟨cC, iS, h⟩ := u_known (C := RX1) (T := TX1) (N := 5) (n := 5) hg inG1 (hts (.instantiable RX1 5) (tb_2 28 rfl)); exact ⟨(cC, iS), fun q hq => by cases hq; exact h⟩
    | 2 => obtain ⟨cC, iS, h⟩ := u_known (C := RX2) (T := TX2) (N := 10) (n := 10) hg inG2 (hts (.instantiable RX2 10) (tb_1 72 rfl)); exact ⟨(cC, iS), fun q hq => by cases hq; exact h⟩
    | 3 => obtain ⟨cC, iS, h⟩ := u_known (C := RX3) (T := TX3) (N := 7) (n := 7) hg inG3 (hts (.instantiable RX3 7) (tb_3 41 rfl)); exact ⟨(cC, iS), fun q hq => by cases hq; exact h⟩
    | 4 => obtain ⟨cC, iS, h⟩ := u_known (C := RX4) (T := TX4) (N := 2) (n := 2) hg inG4 (hts (.instantiable RX4 2) (tb_1 84 rfl)); exact ⟨(cC, iS), fun q hq => by cases hq; exact h⟩
    | 5 => obtain ⟨cC, iS, h⟩ := u_known (C := RX5) (T := TX5) (N := 10) (n := 10) hg inG5 (hts (.instantiable RX5 10) (tb_2 199 rfl)); exact ⟨(cC, iS), fun q hq => by cases hq; exact h⟩
    | 6 => obtain ⟨cC, iS, h⟩ := u_known (C := RX6) (T := TX6) (N := 17) (n := 17) hg inG6 (hts (.instantiable RX6 17) (tb_1 189 rfl)); exact ⟨(cC, iS), fun q hq => by cases hq; exact h⟩
    | 7 => obtain ⟨cC, iS, h⟩ := u_known (C := RX7) (T := TX7) (N := 14) (n := 14) hg inG7 (hts (.instantiable RX7 14) (tb_2 103 rfl)); exact ⟨(cC, iS), fun q hq => by cases hq; exact h⟩
    | 8 => obtain ⟨cC, iS, h⟩ := u_known (C := RX8) (T := TX8) (N := 11) (n := 11) hg inG8 (hts (.instantiable RX8 11) (tb_2 110 rfl)); exact ⟨(cC, iS), fun q hq => by cases hq; exact h⟩
    | 9 => obtain ⟨cC, iS, h⟩ := u_known (C := RX9) (T := TX9) (N := 11) (n := 11) hg inG9 (hts (.instantiable RX9 11) (tb_2 237 rfl)); exact ⟨(cC, iS), fun q hq => by cases hq; exact h⟩
    | 10 => obtain ⟨cC, iS, h⟩ := u_known (C := RX10) (T := TX10) (N := 9) (n := 9) hg inG10 (hts (.instantiable RX10 9) (tb_1 31 rfl)); exact ⟨(cC, iS), fun q hq => by cases hq; exact h⟩
    | 11 => obtain ⟨cC, iS, h⟩ := u_known (C := RX11) (T := TX11) (N := 9) (n := 9) hg inG11 (hts (.instantiable RX11 9) (tb_1 23 rfl)); exact ⟨(cC, iS), fun q hq => by cases hq; exact h⟩
    | 12 => obtain ⟨cC, iS, h⟩ := u_known (C := RX12) (T := TX12) (N := 106) (n := 106) hg inG12 (hts (.instantiable RX12 106) (tb_7 22 rfl)); exact ⟨(cC, iS), fun q hq => by cases hq; exact h⟩
    | k + 13 => exact ⟨(0, fun _ => 0), fun q hq => by simp [vwCl] at hq⟩
  obtain ⟨D, hD⟩ := Classical.axiomOfChoice h0
  exact ⟨(fun c => (D c).1, fun c => (D c).2), fun c q hq => hD c q hq⟩
theorem ar_obj {args : Array Value} {s : State} {C : String} (h : (Cond.arrayOver (.object C)).before args s = true) : ∃ c : ClassId, ArrOfT s c (.object C) ∧ va_RA s c (.object C) := by
  obtain ⟨comp, c, k, h1, h2, h3, h4, h5⟩ := Cond.arrayOver_spec h
  exact ⟨c, fun N z => ⟨(fun k h => by cases h), k, h3, comp, h4⟩, k, comp, h3, h4, h1, h5⟩
theorem ar_prim {args : Array Value} {s : State} {ty : FieldType} (h : (Cond.arrayClass ty).before args s = true) : ∃ c : ClassId, ArrOfT s c ty ∧ s.vm.findClass ("[" ++ ty.toString) = some c := by
  obtain ⟨c, k, comp, h1, h2, h3⟩ := Cond.arrayClass_spec h
  exact ⟨c, fun N z => ⟨(fun k h => by cases h), k, h2, comp, h3⟩, h1⟩
theorem k_all {args : Array Value} {s : State} (hts : ∀ w ∈ lw_tbl, w.before args s = true) : ∃ (D : va_G) (dA : Nat → ClassId), va_K D vwCl (tysA dA) s := by
  obtain ⟨D, hD⟩ := kn_all hts
  obtain ⟨c0, p0, r0⟩ := ar_prim (hts (.arrayClass .int) (tb_1 184 rfl))
  obtain ⟨c1, p1, r1⟩ := ar_prim (hts (.arrayClass .byte) (tb_1 70 rfl))
  obtain ⟨c2, p2, r2⟩ := ar_prim (hts (.arrayClass .boolean) (tb_8 128 rfl))
  obtain ⟨c3, p3, r3⟩ := ar_prim (hts (.arrayClass .long) (tb_1 100 rfl))
  obtain ⟨c4, p4, r4⟩ := ar_obj (hts (.arrayOver (.object RX6)) (tb_1 186 rfl))
  obtain ⟨c5, p5, r5⟩ := ar_obj (hts (.arrayOver (.object RX1)) (tb_1 188 rfl))
  obtain ⟨c6, p6, r6⟩ := ar_obj (hts (.arrayOver (.object RX8)) (tb_2 109 rfl))
  refine ⟨D, fun t => if t = 20 then c0 else if t = 21 then c1 else if t = 22 then c2 else if t = 23 then c3 else if t = 24 then c4 else if t = 25 then c5 else c6, hD, fun k q hq => ?_⟩
  match k, hq with
  | 0, hq => cases hq; exact ⟨p0, r0⟩
  | 1, hq => cases hq; exact ⟨p1, r1⟩
  | 2, hq => cases hq; exact ⟨p2, r2⟩
  | 3, hq => cases hq; exact ⟨p3, r3⟩
  | 4, hq => cases hq; exact ⟨p4, r4⟩
  | 5, hq => cases hq; exact ⟨p5, r5⟩
  | 6, hq => cases hq; exact ⟨p6, r6⟩
  | k + 7, hq => simp [tysA] at hq
theorem nw_all {args : Array Value} {s : State} (hts : ∀ w ∈ lw_tbl, w.before args s = true) : NW s := ⟨va_Nw.of rfl (hts _ (tb_1 32 rfl)), va_Nw.of rfl (hts _ (tb_1 79 rfl)), va_Nw.of rfl (hts _ (tb_1 190 rfl)), va_Nw.of rfl (hts _ (tb_2 29 rfl)), va_AO.of (hts _ (tb_1 186 rfl)), va_AO.of (hts _ (tb_1 188 rfl)), va_AO.of (hts _ (tb_2 109 rfl))⟩
theorem st_text {args : Array Value} {s : State} {A : Nat → Prop} (hts : ∀ w ∈ lw_tbl, w.before args s = true) (hn : ∀ w ∈ nwF, w.before args s = true) (hA : ∀ a : Nat, a < s.heap.size → ¬ A a) : ∃ sk sv : Nat → Nat, ∀ Y : Ev, Y.2.2.2.2.2.1 = sk → Y.2.2.2.2.2.2.1 = sv → STR Y A s s.heap := by
  obtain ⟨sk, sv, h1, h2⟩ := str_all hn hA
  refine ⟨sk, sv, fun Y e1 e2 => ⟨?_, fun i hi q hq => ?_, va_Zof (hts _ (tb_3 154 rfl)) (hts _ (tb_1 15 rfl)) (va_eqi (nw_at hn 4 (by rfl))) hA, va_Zqof (hts _ (tb_3 170 rfl)) (hts _ (tb_1 17 rfl)) (nw_at hn 5 (by rfl)) hA⟩⟩
  · have ek : sK Y = sk := e1
    have ev : sV Y = sv := e2
    rw [ek, ev]; exact h1
  · have ek : sK Y = sk := e1
    rw [ek]
    rw [sTab_len] at hi
    have eq : sTab.getD i ("", 0, "", 0) = q := by rw [List.getD_eq_getElem?_getD, hq]; rfl
    have g1 := sRf_ok i hi
    obtain ⟨g2, g3⟩ := sEq_ok i hi
    rw [eq] at g1 g2 g3
    refine vk_R.of (hts _ (List.mem_append_right _ (List.mem_of_getElem? g1))) ?_
    have g4 := h2 _ g2
    rcases g3 with g3 | g3
    · unfold sTm at g4
      rw [g3] at g4; exact g4
    · exact va_eqR (nw_at hn _ g3) g4
