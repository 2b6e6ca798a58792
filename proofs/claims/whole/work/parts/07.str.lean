/-! texts: String.length, String.charAt and what they call -/
section Z
variable {ρ : Type} {Z : Cz ρ} {S : Shp} {dd : Nat} {cc : ByteArray} {own : String} {nL : Nat} {ret : Option FieldType} {pc : Nat} {lv : List (Nat × Value)} {st : List Value} {w : Wd} {out : Option ρ}
theorem bw_callTI {i k nL' n d' : Nat} {y : MethodName} {cc' : ByteArray} {rt : FieldType} {As stk : List Value} {oc : Option (Int32 × Wd)} {F : Int32 → Wd → Option ρ} (hZ : OKZ Z S cc own nL ret dd) (ml : ML own i y cc' nL' n (some rt)) (hk : k < sNum) (hy : y.cls = "java/lang/String") (hd : d' < dd) (hc : CI (zl Z) (zY Z) y cc' nL' d' (.ref (sK (zY Z) k) :: As) w rt oc) (hn : As.length = n) (hst : stk = As.reverse ++ .ref (sK (zY Z) k) :: st) (hW : (st.map fun v => v.category).sum ≤ 8) (d : decode cc pc = .ok (.invokevirtual i, 3)) (kk : ∀ r w1, BW Z nL (pc + 3) lv (.int r :: st) w1 (F r w1)) : BW Z nL pc lv stk w (cl oc F) := by
  intro hr H locs ls hP hS hl
  cases hoc : oc with
  | none => rw [hoc] at hr; cases hr
  | some q =>
    rw [hoc] at hr
    have hr : F q.1 q.2 = some (zr Z) := hr
    have hM := hc q hoc
    have hkk := kk q.1 q.2 hr
    subst hst
    have hrun := va_runV (H := H) (locs := locs) (cells := zu Z) (slots := zv Z) (p := zp Z) (l := zl Z) (e := ze Z) (below := zb Z) (meth := zme Z) (g := F0 (zm Z) pc ls (As.reverse ++ .ref (sK (zY Z) k) :: st)) (As := As) (rest := st) (b := sK (zY Z) k) (fix_of hZ) hM (cwV_of hZ ml hd) ⟨PRE.blind _ _ _, hy ▸ vk_recv hZ.2.2.2.2.2.2.2.2.2.2.1.1 hk hS, fun U hU hW => ⟨rfl, pre_at hZ hP hS U hU hW⟩⟩ rfl hn hl.1 rfl (lv_room hW) d (fits_ok hZ)
    refine va_calli hrun hS (fun q _ h => fr_sub hZ q h) (fr_sub hZ) fun a u t H1 locs1 ht _ hp hB _ _ hS1 => ?_
    cases hp
    exact hkk H1 locs1 ls (by rw [← ht]; exact hB) hS1 hl
theorem bw_ldcSW (hZ : OKZ Z S cc own nL ret dd) {i x : Nat} {tx : String} (j : Nat) (c : sTab[j]? = some (own, i, tx, x)) (d : decode cc pc = .ok (.ldc_w i, 3)) (k : BW Z nL (pc + 3) lv (.ref (sK (zY Z) x) :: st) w out) : BW Z nL pc lv st w out := bw_go (fun H locs k n Q ls _ kk => by
  have hR := hZ.2.2.2.2.2.2.2.2.2.2.1.2.1 j (List.getElem?_eq_some_iff.mp c).1 _ c
  intro T hT X
  obtain ⟨t, a1, b1⟩ := kk T hT X
  exact ⟨t, X.ldcStringW hZ.1 hZ.2.2.2.1 (text := tx) (a := sK (zY Z) x) hR.1 hR.2 (g := F0 (zm Z) pc ls st) rfl (by rw [hZ.2.1]; exact d) t a1, b1⟩) k
theorem bw_compact {i : Nat} (hZ : OKZ Z S cc own nL ret dd) (hl : Cond.fieldLink own i "java/lang/String" "COMPACT_STRINGS" "Z" ∈ GT) (d : decode cc pc = .ok (.getstatic i, 3)) (kk : BW Z nL (pc + 3) lv (.int 1 :: st) w out) : BW Z nL pc lv st w out :=
  fun hr H locs ls hP hS hl2 => va_gets (C := "java/lang/String") hZ.1 hZ.2.1 hZ.2.2.2.2.2.2.2.2.2.2.1.2.2.1 hS hZ.2.2.2.1 (hZ.2.2.2.2.1 _ hl) (fun _ h => h) d (kk hr H locs ls hP hS hl2)
theorem bw_fmt {i : Nat} (hZ : OKZ Z S cc own nL ret dd) (hl : Cond.fieldLink own i "jdk/internal/util/Preconditions" "SIOOBE_FORMATTER" "Ljava/util/function/BiFunction;" ∈ GT) (d : decode cc pc = .ok (.getstatic i, 3)) (kk : ∀ v, (v = .null ∨ ∃ t, v = .ref t) → BW Z nL (pc + 3) lv (v :: st) w out) : BW Z nL pc lv st w out := by
  intro hr H locs ls hP hS hl2
  rcases hZ.2.2.2.2.2.2.2.2.2.2.1.2.2.2 with h | ⟨t, h⟩
  · exact va_gets (C := "jdk/internal/util/Preconditions") hZ.1 hZ.2.1 h hS hZ.2.2.2.1 (hZ.2.2.2.2.1 _ hl) (fun _ h => h) d (kk _ (Or.inl rfl) hr H locs ls hP hS hl2)
  · exact va_gets (C := "jdk/internal/util/Preconditions") hZ.1 hZ.2.1 h hS hZ.2.2.2.1 (hZ.2.2.2.2.1 _ hl) (fun _ h => h) d (kk _ (Or.inr ⟨t, rfl⟩) hr H locs ls hP hS hl2)
theorem bw_sval {i k : Nat} (hZ : OKZ Z S cc own nL ret dd) (hl : Cond.fieldLink own i "java/lang/String" "value" "[B" ∈ GT) (hk : k < sNum) (d : decode cc pc = .ok (.getfield i, 3)) (kk : BW Z nL (pc + 3) lv (.ref (sV (zY Z) k) :: st) w out) : BW Z nL pc lv (.ref (sK (zY Z) k) :: st) w out :=
  fun hr H locs ls hP hS hl2 => vk_getf hZ.1 hZ.2.1 (hZ.2.2.2.2.2.2.2.2.2.2.1.1.1 k hk).2.2.1 hS hZ.2.2.2.1 (hZ.2.2.2.2.1 _ hl) (fun _ h => h) d (kk hr H locs ls hP hS hl2)
theorem bw_scod {i k : Nat} (hZ : OKZ Z S cc own nL ret dd) (hl : Cond.fieldLink own i "java/lang/String" "coder" "B" ∈ GT) (hk : k < sNum) (d : decode cc pc = .ok (.getfield i, 3)) (kk : BW Z nL (pc + 3) lv (.int 0 :: st) w out) : BW Z nL pc lv (.ref (sK (zY Z) k) :: st) w out :=
  fun hr H locs ls hP hS hl2 => vk_getf hZ.1 hZ.2.1 (hZ.2.2.2.2.2.2.2.2.2.2.1.1.1 k hk).2.1 hS hZ.2.2.2.1 (hZ.2.2.2.2.1 _ hl) (fun _ h => h) d (kk hr H locs ls hP hS hl2)
theorem bw_sarl {k : Nat} (hZ : OKZ Z S cc own nL ret dd) (hk : k < sNum) (d : decode cc pc = .ok (.arraylength, 1)) (kk : BW Z nL (pc + 1) lv (.int (Int32.ofNat (sLen.getD k 0)) :: st) w out) : BW Z nL pc lv (.ref (sV (zY Z) k) :: st) w out :=
  fun hr H locs ls hP hS hl2 => va_tlen hZ.1 hZ.2.1 (hZ.2.2.2.2.2.2.2.2.2.2.1.1.1 k hk).2.2.2 hS rfl d (kk hr H locs ls hP hS hl2)
theorem bw_sald {k : Nat} {i : Int32} (hZ : OKZ Z S cc own nL ret dd) (hk : k < sNum) (hi : inb i (sLen.getD k 0) = true) (d : decode cc pc = .ok (.baload, 1)) (kk : BW Z nL (pc + 1) lv (.int ((sByt.getD k []).getD i.toNatClampNeg 0) :: st) w out) : BW Z nL pc lv (.int i :: .ref (sV (zY Z) k) :: st) w out :=
  fun hr H locs ls hP hS hl2 => va_tb (v := .int ((sByt.getD k []).getD i.toNatClampNeg 0)) hZ.1 hZ.2.1 (hZ.2.2.2.2.2.2.2.2.2.2.1.1.1 k hk).2.2.2 hS (inb_in hi) rfl d (kk hr H locs ls hP hS hl2)
theorem bw_i2c (hZ : OKZ Z S cc own nL ret dd) {x : Int32} (d : decode cc pc = .ok (.i2c, 1)) (k : BW Z nL (pc + 1) lv (.int (x.toUInt32 % 65536).toInt32 :: st) w out) : BW Z nL pc lv (.int x :: st) w out := bw_go (fun _ _ _ _ _ _ _ k => lv_i2c hZ.1 hZ.2.1 d rfl k) k
theorem bw_nret {Z : Cz (Int32 × Wd)} {v : Int32} {rt : FieldType} (hZ : OKZ Z S cc own nL (some rt) dd) (hE : EndI Z) (hv : narrow rt (.int v) = .int v) (d : decode cc pc = .ok (.ireturn, 1)) : BW Z nL pc lv [.int v] w (some (v, w)) := by
  intro hr H locs ls hP hS hl
  have hr : (v, w) = zr Z := Option.some.inj hr
  unfold ZW
  rw [hE.1, ← hE.2.1, ← hE.2.2]
  exact W.zret hZ.1 hZ.2.1 hZ.2.2.2.2.2.2.1 hv (fun t ht _ => ⟨⟨v, w, rfl, hr, by show RP (zY Z) w t.heap; rw [ht]; exact hP⟩, hS.F ht⟩) hS.2.2 d hZ.2.2.2.2.2.1
end Z
theorem dJ0_length_8abf5_0 : decode cJ0_length_8abf5 0 = .ok (.aload_n 0, 1) := by decide +kernel
theorem dJ0_length_8abf5_1 : decode cJ0_length_8abf5 1 = .ok (.getfield 9, 3) := by decide +kernel
theorem dJ0_length_8abf5_4 : decode cJ0_length_8abf5 4 = .ok (.arraylength, 1) := by decide +kernel
theorem dJ0_length_8abf5_5 : decode cJ0_length_8abf5 5 = .ok (.aload_n 0, 1) := by decide +kernel
theorem dJ0_length_8abf5_6 : decode cJ0_length_8abf5 6 = .ok (.invokevirtual 335, 3) := by decide +kernel
theorem dJ0_length_8abf5_9 : decode cJ0_length_8abf5 9 = .ok (.ishr, 1) := by decide +kernel
theorem dJ0_length_8abf5_10 : decode cJ0_length_8abf5 10 = .ok (.ireturn, 1) := by decide +kernel
theorem dJ0_charAt_5068e_0 : decode cJ0_charAt_5068e 0 = .ok (.aload_n 0, 1) := by decide +kernel
theorem dJ0_charAt_5068e_1 : decode cJ0_charAt_5068e 1 = .ok (.invokevirtual 492, 3) := by decide +kernel
theorem dJ0_charAt_5068e_4 : decode cJ0_charAt_5068e 4 = .ok (.ifCond .eq 12, 3) := by decide +kernel
theorem dJ0_charAt_5068e_7 : decode cJ0_charAt_5068e 7 = .ok (.aload_n 0, 1) := by decide +kernel
theorem dJ0_charAt_5068e_8 : decode cJ0_charAt_5068e 8 = .ok (.getfield 9, 3) := by decide +kernel
theorem dJ0_charAt_5068e_11 : decode cJ0_charAt_5068e 11 = .ok (.iload_n 1, 1) := by decide +kernel
theorem dJ0_charAt_5068e_12 : decode cJ0_charAt_5068e 12 = .ok (.invokestatic 495, 3) := by decide +kernel
theorem dJ0_charAt_5068e_15 : decode cJ0_charAt_5068e 15 = .ok (.ireturn, 1) := by decide +kernel
theorem dJ0_charAt_5068e_16 : decode cJ0_charAt_5068e 16 = .ok (.aload_n 0, 1) := by decide +kernel
theorem dJ0_charAt_5068e_17 : decode cJ0_charAt_5068e 17 = .ok (.getfield 9, 3) := by decide +kernel
theorem dJ0_charAt_5068e_20 : decode cJ0_charAt_5068e 20 = .ok (.iload_n 1, 1) := by decide +kernel
theorem dJ0_charAt_5068e_21 : decode cJ0_charAt_5068e 21 = .ok (.invokestatic 498, 3) := by decide +kernel
theorem dJ0_charAt_5068e_24 : decode cJ0_charAt_5068e 24 = .ok (.ireturn, 1) := by decide +kernel
theorem dJ0_coder_7d493_0 : decode cJ0_coder_7d493 0 = .ok (.getstatic 38, 3) := by decide +kernel
theorem dJ0_coder_7d493_3 : decode cJ0_coder_7d493 3 = .ok (.ifCond .eq 10, 3) := by decide +kernel
theorem dJ0_coder_7d493_6 : decode cJ0_coder_7d493 6 = .ok (.aload_n 0, 1) := by decide +kernel
theorem dJ0_coder_7d493_7 : decode cJ0_coder_7d493 7 = .ok (.getfield 15, 3) := by decide +kernel
theorem dJ0_coder_7d493_10 : decode cJ0_coder_7d493 10 = .ok (.goto 4, 3) := by decide +kernel
theorem dJ0_coder_7d493_13 : decode cJ0_coder_7d493 13 = .ok (.iconst 1, 1) := by decide +kernel
theorem dJ0_coder_7d493_14 : decode cJ0_coder_7d493 14 = .ok (.ireturn, 1) := by decide +kernel
theorem dJ0_isLatin1_aae02_0 : decode cJ0_isLatin1_aae02 0 = .ok (.getstatic 38, 3) := by decide +kernel
theorem dJ0_isLatin1_aae02_3 : decode cJ0_isLatin1_aae02 3 = .ok (.ifCond .eq 14, 3) := by decide +kernel
theorem dJ0_isLatin1_aae02_6 : decode cJ0_isLatin1_aae02 6 = .ok (.aload_n 0, 1) := by decide +kernel
theorem dJ0_isLatin1_aae02_7 : decode cJ0_isLatin1_aae02 7 = .ok (.getfield 15, 3) := by decide +kernel
theorem dJ0_isLatin1_aae02_10 : decode cJ0_isLatin1_aae02 10 = .ok (.ifCond .ne 7, 3) := by decide +kernel
theorem dJ0_isLatin1_aae02_13 : decode cJ0_isLatin1_aae02 13 = .ok (.iconst 1, 1) := by decide +kernel
theorem dJ0_isLatin1_aae02_14 : decode cJ0_isLatin1_aae02 14 = .ok (.goto 4, 3) := by decide +kernel
theorem dJ0_isLatin1_aae02_17 : decode cJ0_isLatin1_aae02 17 = .ok (.iconst 0, 1) := by decide +kernel
theorem dJ0_isLatin1_aae02_18 : decode cJ0_isLatin1_aae02 18 = .ok (.ireturn, 1) := by decide +kernel
theorem dJ0_checkIndex_df160_0 : decode cJ0_checkIndex_df160 0 = .ok (.iload_n 0, 1) := by decide +kernel
theorem dJ0_checkIndex_df160_1 : decode cJ0_checkIndex_df160 1 = .ok (.iload_n 1, 1) := by decide +kernel
theorem dJ0_checkIndex_df160_2 : decode cJ0_checkIndex_df160 2 = .ok (.getstatic 1053, 3) := by decide +kernel
theorem dJ0_checkIndex_df160_5 : decode cJ0_checkIndex_df160 5 = .ok (.invokestatic 1059, 3) := by decide +kernel
theorem dJ0_checkIndex_df160_8 : decode cJ0_checkIndex_df160 8 = .ok (.pop, 1) := by decide +kernel
theorem dJ0_checkIndex_df160_9 : decode cJ0_checkIndex_df160 9 = .ok (.return_, 1) := by decide +kernel
theorem dJ1_charAt_3b067_0 : decode cJ1_charAt_3b067 0 = .ok (.iload_n 1, 1) := by decide +kernel
theorem dJ1_charAt_3b067_1 : decode cJ1_charAt_3b067 1 = .ok (.aload_n 0, 1) := by decide +kernel
theorem dJ1_charAt_3b067_2 : decode cJ1_charAt_3b067 2 = .ok (.arraylength, 1) := by decide +kernel
theorem dJ1_charAt_3b067_3 : decode cJ1_charAt_3b067 3 = .ok (.invokestatic 9, 3) := by decide +kernel
theorem dJ1_charAt_3b067_6 : decode cJ1_charAt_3b067 6 = .ok (.aload_n 0, 1) := by decide +kernel
theorem dJ1_charAt_3b067_7 : decode cJ1_charAt_3b067 7 = .ok (.iload_n 1, 1) := by decide +kernel
theorem dJ1_charAt_3b067_8 : decode cJ1_charAt_3b067 8 = .ok (.baload, 1) := by decide +kernel
theorem dJ1_charAt_3b067_9 : decode cJ1_charAt_3b067 9 = .ok (.sipush 255, 3) := by decide +kernel
theorem dJ1_charAt_3b067_12 : decode cJ1_charAt_3b067 12 = .ok (.iand, 1) := by decide +kernel
theorem dJ1_charAt_3b067_13 : decode cJ1_charAt_3b067 13 = .ok (.i2c, 1) := by decide +kernel
theorem dJ1_charAt_3b067_14 : decode cJ1_charAt_3b067 14 = .ok (.ireturn, 1) := by decide +kernel
theorem dJ3_checkIndex_8e157_0 : decode cJ3_checkIndex_8e157 0 = .ok (.iload_n 0, 1) := by decide +kernel
theorem dJ3_checkIndex_8e157_1 : decode cJ3_checkIndex_8e157 1 = .ok (.ifCond .lt 8, 3) := by decide +kernel
theorem dJ3_checkIndex_8e157_4 : decode cJ3_checkIndex_8e157 4 = .ok (.iload_n 0, 1) := by decide +kernel
theorem dJ3_checkIndex_8e157_5 : decode cJ3_checkIndex_8e157 5 = .ok (.iload_n 1, 1) := by decide +kernel
theorem dJ3_checkIndex_8e157_6 : decode cJ3_checkIndex_8e157 6 = .ok (.if_icmp .lt 10, 3) := by decide +kernel
theorem dJ3_checkIndex_8e157_9 : decode cJ3_checkIndex_8e157 9 = .ok (.aload_n 2, 1) := by decide +kernel
theorem dJ3_checkIndex_8e157_10 : decode cJ3_checkIndex_8e157 10 = .ok (.iload_n 0, 1) := by decide +kernel
theorem dJ3_checkIndex_8e157_11 : decode cJ3_checkIndex_8e157 11 = .ok (.iload_n 1, 1) := by decide +kernel
theorem dJ3_checkIndex_8e157_12 : decode cJ3_checkIndex_8e157 12 = .ok (.invokestatic 95, 3) := by decide +kernel
theorem dJ3_checkIndex_8e157_15 : decode cJ3_checkIndex_8e157 15 = .ok (.athrow, 1) := by decide +kernel
theorem dJ3_checkIndex_8e157_16 : decode cJ3_checkIndex_8e157 16 = .ok (.iload_n 0, 1) := by decide +kernel
theorem dJ3_checkIndex_8e157_17 : decode cJ3_checkIndex_8e157 17 = .ok (.ireturn, 1) := by decide +kernel
def fJ3 (i n : Int32) (w : Wd) : Option (Int32 × Wd) := if i < 0 then none else if i < n then some (i, w) else none
theorem cJ3 {S : Shp} (l : Launch) (Y : Ev) (hY : Y.1 = S) (i n : Int32) (v : Value) (hv : v = .null ∨ ∃ t, v = .ref t) (w : Wd) : CI l Y yJ3_checkIndex_8e157 cJ3_checkIndex_8e157 3 1 [.int i, .int n, v] w .int (fJ3 i n w) := by
  refine CI_of (S := S) (by decide) (by rcases hv with rfl | ⟨t, rfl⟩ <;> exact Nat.le_of_ble_eq_true rfl) hY ?_
  intro Z hl hY2 hZ hE
  exact bw_iload_n hZ 0 rfl dJ3_checkIndex_8e157_0 <| bw_if_lt hZ (tgt := 9) (by decide) dJ3_checkIndex_8e157_1 (fun _ => bw_none) (fun _ => bw_iload_n hZ 0 rfl dJ3_checkIndex_8e157_4 <| bw_iload_n hZ 1 rfl dJ3_checkIndex_8e157_5 <| bw_icmp_lt hZ (tgt := 16) (by decide) dJ3_checkIndex_8e157_6 (fun _ => bw_iload_n hZ 0 rfl dJ3_checkIndex_8e157_16 <| bw_iret hZ hE dJ3_checkIndex_8e157_17) (fun _ => bw_none))
def fJ0ck (i n : Int32) (w : Wd) : Option Wd := cl (fJ3 i n w) fun _ w1 => some w1
theorem cJ0ck {S : Shp} (l : Launch) (Y : Ev) (hY : Y.1 = S) (i n : Int32) (w : Wd) : CV l Y yJ0_checkIndex_df160 cJ0_checkIndex_df160 2 2 [.int i, .int n] w (fJ0ck i n w) := by
  refine CV_of (S := S) (by decide) (Nat.le_of_ble_eq_true rfl) hY ?_
  intro Z hl hY2 hZ hE
  exact bw_iload_n hZ 0 rfl dJ0_checkIndex_df160_0 <| bw_iload_n hZ 1 rfl dJ0_checkIndex_df160_1 <| bw_fmt hZ (gt_3 169 rfl rfl) dJ0_checkIndex_df160_2 fun v hv => bw_callSI (As := [.int i, .int n, v]) hZ ms_RJ0_1059 (by decide) (cJ3 (zl Z) (zY Z) (hZ_S hZ) i n v hv w) rfl rfl (Nat.le_of_ble_eq_true rfl) dJ0_checkIndex_df160_5 fun r w1 => bw_pop hZ rfl dJ0_checkIndex_df160_8 <| bw_vret hZ hE dJ0_checkIndex_df160_9
theorem sb_ok : ∀ k, k < sNum → ∀ j, j < sLen.getD k 0 → ((((sByt.getD k []).getD j 0) &&& 255).toUInt32 % 65536).toInt32 = (sByt.getD k []).getD j 0 := by decide +kernel
def fStr (k : Nat) (i : Int32) (w : Wd) : Option (Int32 × Wd) := if inb i (sLen.getD k 0) = true then some ((sByt.getD k []).getD i.toNatClampNeg 0, w) else none
theorem sl_small : ∀ k, k < sNum → sLen.getD k 0 < 100 := by decide +kernel
theorem fStr_ck {k : Nat} (hk : k < sNum) {i : Int32} {w : Wd} (h : inb i (sLen.getD k 0) = true) : fJ0ck i (Int32.ofNat (sLen.getD k 0)) w = some w := by
  have h1 := sl_small k hk
  have h2 := inb_lt h
  have h3 : ¬ i < 0 := fun q => inb_in h (Or.inl q)
  have h4 : i < Int32.ofNat (sLen.getD k 0) := by
    obtain ⟨j, hj, rfl⟩ := vp_in_of (inb_in h) (by omega)
    exact nI_lt hj (by omega)
  unfold fJ0ck fJ3 cl
  rw [if_neg h3, if_pos h4]
theorem cJ1ch {S : Shp} (l : Launch) (Y : Ev) (hY : Y.1 = S) (k : Nat) (hk : k < sNum) (i : Int32) (w : Wd) : CI l Y yJ1_charAt_3b067 cJ1_charAt_3b067 2 3 [.ref (sV Y k), .int i] w .char (fStr k i w) := by
  refine CI_of (S := S) (by decide) (Nat.le_of_ble_eq_true rfl) hY ?_
  intro Z hl hY2 hZ hE
  subst hY2
  refine bw_ck fun hi => ?_
  have key : BW Z 2 0 [(0, .ref (sV (zY Z) k)), (1, .int i)] [] w (cv (fJ0ck i (Int32.ofNat (sLen.getD k 0)) w) fun w1 => some ((sByt.getD k []).getD i.toNatClampNeg 0, w1)) :=
    bw_iload_n hZ 1 rfl dJ1_charAt_3b067_0 <| bw_aload_n hZ 0 rfl dJ1_charAt_3b067_1 <| bw_sarl hZ hk dJ1_charAt_3b067_2 <| bw_callSV (As := [.int i, .int (Int32.ofNat (sLen.getD k 0))]) hZ ms_RJ1_9 (by decide) (cJ0ck (zl Z) (zY Z) (hZ_S hZ) i _ w) rfl rfl (Nat.le_of_ble_eq_true rfl) dJ1_charAt_3b067_3 fun w1 => bw_aload_n hZ 0 rfl dJ1_charAt_3b067_6 <| bw_iload_n hZ 1 rfl dJ1_charAt_3b067_7 <| bw_sald hZ hk hi dJ1_charAt_3b067_8 <| bw_sipush hZ 255 (by decide) dJ1_charAt_3b067_9 <| bw_iand hZ dJ1_charAt_3b067_12 <| bw_i2c hZ dJ1_charAt_3b067_13 <| by
      rw [sb_ok k hk _ (inb_lt hi)]
      exact bw_nret hZ hE (by have := sb_ok k hk _ (inb_lt hi); rw [← this]; exact pk_nc _) dJ1_charAt_3b067_14
  rw [fStr_ck hk hi] at key
  exact key
theorem cJ0l1 {S : Shp} (l : Launch) (Y : Ev) (hY : Y.1 = S) (k : Nat) (hk : k < sNum) (w : Wd) : CI l Y yJ0_isLatin1_aae02 cJ0_isLatin1_aae02 1 1 [.ref (sK Y k)] w .boolean (some (1, w)) := by
  refine CI_of (S := S) (by decide) (Nat.le_of_ble_eq_true rfl) hY ?_
  intro Z hl hY2 hZ hE
  subst hY2
  have key : BW Z 1 0 [(0, .ref (sK (zY Z) k))] [] w (if (1 : Int32) = 0 then none else if (0 : Int32) = 0 then some (1, w) else none) :=
    bw_compact hZ (gt_3 153 rfl rfl) dJ0_isLatin1_aae02_0 <| bw_if_eq hZ (tgt := 17) (by decide) dJ0_isLatin1_aae02_3 (fun _ => bw_none) fun _ => bw_aload_n hZ 0 rfl dJ0_isLatin1_aae02_6 <| bw_scod hZ (gt_10 193 rfl rfl) hk dJ0_isLatin1_aae02_7 <| bw_if_ne hZ (tgt := 17) (by decide) dJ0_isLatin1_aae02_10 (fun _ => bw_none) fun _ => bw_iconst hZ 1 (by decide) dJ0_isLatin1_aae02_13 <| bw_goto hZ (tgt := 18) (by decide) dJ0_isLatin1_aae02_14 <| bw_zret hZ hE (by decide) dJ0_isLatin1_aae02_18
  exact key
theorem cJ0cod {S : Shp} (l : Launch) (Y : Ev) (hY : Y.1 = S) (k : Nat) (hk : k < sNum) (w : Wd) : CI l Y yJ0_coder_7d493 cJ0_coder_7d493 1 1 [.ref (sK Y k)] w .byte (some (0, w)) := by
  refine CI_of (S := S) (by decide) (Nat.le_of_ble_eq_true rfl) hY ?_
  intro Z hl hY2 hZ hE
  subst hY2
  have key : BW Z 1 0 [(0, .ref (sK (zY Z) k))] [] w (if (1 : Int32) = 0 then none else some (0, w)) :=
    bw_compact hZ (gt_3 153 rfl rfl) dJ0_coder_7d493_0 <| bw_if_eq hZ (tgt := 13) (by decide) dJ0_coder_7d493_3 (fun _ => bw_none) fun _ => bw_aload_n hZ 0 rfl dJ0_coder_7d493_6 <| bw_scod hZ (gt_10 193 rfl rfl) hk dJ0_coder_7d493_7 <| bw_goto hZ (tgt := 14) (by decide) dJ0_coder_7d493_10 <| bw_nret hZ hE rfl dJ0_coder_7d493_14
  exact key
theorem cJ0ch {S : Shp} (l : Launch) (Y : Ev) (hY : Y.1 = S) (k : Nat) (hk : k < sNum) (i : Int32) (w : Wd) : CI l Y yJ0_charAt_5068e cJ0_charAt_5068e 2 4 [.ref (sK Y k), .int i] w .char (fStr k i w) := by
  refine CI_of (S := S) (by decide) (Nat.le_of_ble_eq_true rfl) hY ?_
  intro Z hl hY2 hZ hE
  subst hY2
  refine bw_ck fun hi => ?_
  have key : BW Z 2 0 [(0, .ref (sK (zY Z) k)), (1, .int i)] [] w (cl (some ((1 : Int32), w)) fun r w1 => if r = 0 then none else cl (fStr k i w1) fun r2 w2 => if r2 = (sByt.getD k []).getD i.toNatClampNeg 0 then some (r2, w2) else none) :=
    bw_aload_n hZ 0 rfl dJ0_charAt_5068e_0 <| bw_callTI (k := k) (As := []) hZ ml_RJ0_492 hk rfl (by decide) (cJ0l1 (zl Z) (zY Z) (hZ_S hZ) k hk w) rfl rfl (Nat.le_of_ble_eq_true rfl) dJ0_charAt_5068e_1 fun r w1 => bw_if_eq hZ (tgt := 16) (by decide) dJ0_charAt_5068e_4 (fun _ => bw_none) fun _ => bw_aload_n hZ 0 rfl dJ0_charAt_5068e_7 <| bw_sval hZ (gt_10 192 rfl rfl) hk dJ0_charAt_5068e_8 <| bw_iload_n hZ 1 rfl dJ0_charAt_5068e_11 <| bw_callSI (As := [.ref (sV (zY Z) k), .int i]) hZ ms_RJ0_495 (by decide) (cJ1ch (zl Z) (zY Z) (hZ_S hZ) k hk i w1) rfl rfl (Nat.le_of_ble_eq_true rfl) dJ0_charAt_5068e_12 fun r2 w2 => bw_ck fun h2 => bw_nret hZ hE (by rw [h2]; have := sb_ok k hk _ (inb_lt hi); rw [← this]; exact pk_nc _) dJ0_charAt_5068e_15
  have e : fStr k i w = some ((sByt.getD k []).getD i.toNatClampNeg 0, w) := by unfold fStr; rw [if_pos hi]
  simp only [cl, e, if_pos, if_neg (show ¬ (1 : Int32) = 0 by decide)] at key
  exact key
theorem shr0 (x : Int32) : x >>> ((0 : Int32) &&& 31) = x := sb_shr0 x
theorem cJ0len {S : Shp} (l : Launch) (Y : Ev) (hY : Y.1 = S) (k : Nat) (hk : k < sNum) (w : Wd) : CI l Y yJ0_length_8abf5 cJ0_length_8abf5 1 2 [.ref (sK Y k)] w .int (some (Int32.ofNat (sLen.getD k 0), w)) := by
  refine CI_of (S := S) (by decide) (Nat.le_of_ble_eq_true rfl) hY ?_
  intro Z hl hY2 hZ hE
  subst hY2
  have key : BW Z 1 0 [(0, .ref (sK (zY Z) k))] [] w (cl (some ((0 : Int32), w)) fun r w1 => some (Int32.ofNat (sLen.getD k 0) >>> (r &&& 31), w1)) :=
    bw_aload_n hZ 0 rfl dJ0_length_8abf5_0 <| bw_sval hZ (gt_10 192 rfl rfl) hk dJ0_length_8abf5_1 <| bw_sarl hZ hk dJ0_length_8abf5_4 <| bw_aload_n hZ 0 rfl dJ0_length_8abf5_5 <| bw_callTI (k := k) (As := []) hZ ml_RJ0_335 hk rfl (by decide) (cJ0cod (zl Z) (zY Z) (hZ_S hZ) k hk w) rfl rfl (Nat.le_of_ble_eq_true rfl) dJ0_length_8abf5_6 fun r w1 => bw_ishr hZ dJ0_length_8abf5_9 <| bw_iret hZ hE dJ0_length_8abf5_10
  simp only [cl, shr0] at key
  exact key
section Z
variable {ρ : Type} {Z : Cz ρ} {S : Shp} {dd : Nat} {cc : ByteArray} {own : String} {nL : Nat} {ret : Option FieldType} {pc : Nat} {lv : List (Nat × Value)} {st : List Value} {w : Wd} {out : Option ρ}
theorem bw_slen {i k : Nat} (hZ : OKZ Z S cc own nL ret dd) (ml : ML own i yJ0_length_8abf5 cJ0_length_8abf5 1 0 (some .int)) (hk : k < sNum) (hd : 2 < dd) (hW : (st.map fun v => v.category).sum ≤ 8) (d : decode cc pc = .ok (.invokevirtual i, 3)) (kk : BW Z nL (pc + 3) lv (.int (Int32.ofNat (sLen.getD k 0)) :: st) w out) : BW Z nL pc lv (.ref (sK (zY Z) k) :: st) w out := by
  classical
  have key : BW Z nL pc lv (.ref (sK (zY Z) k) :: st) w (cl (some (Int32.ofNat (sLen.getD k 0), w)) fun r w1 => if r = Int32.ofNat (sLen.getD k 0) ∧ w1 = w then out else none) := by
    exact bw_callTI (k := k) (As := []) hZ ml hk rfl hd (cJ0len (zl Z) (zY Z) (hZ_S hZ) k hk w) rfl rfl hW d fun r w1 => bw_ck fun h => by obtain ⟨rfl, rfl⟩ := h; exact kk
  simpa only [cl, and_self, if_pos] using key
theorem bw_schar {i k : Nat} {j : Int32} (hZ : OKZ Z S cc own nL ret dd) (ml : ML own i yJ0_charAt_5068e cJ0_charAt_5068e 2 1 (some .char)) (hk : k < sNum) (hd : 4 < dd) (hW : (st.map fun v => v.category).sum ≤ 8) (d : decode cc pc = .ok (.invokevirtual i, 3)) (kk : BW Z nL (pc + 3) lv (.int ((sByt.getD k []).getD j.toNatClampNeg 0) :: st) w out) : BW Z nL pc lv (.int j :: .ref (sK (zY Z) k) :: st) w (if inb j (sLen.getD k 0) = true then out else none) := bw_ck fun hi => by
  classical
  have e : fStr k j w = some ((sByt.getD k []).getD j.toNatClampNeg 0, w) := by unfold fStr; rw [if_pos hi]
  have key : BW Z nL pc lv (.int j :: .ref (sK (zY Z) k) :: st) w (cl (fStr k j w) fun r w1 => if r = (sByt.getD k []).getD j.toNatClampNeg 0 ∧ w1 = w then out else none) := by
    exact bw_callTI (k := k) (As := [.int j]) hZ ml hk rfl hd (cJ0ch (zl Z) (zY Z) (hZ_S hZ) k hk j w) rfl rfl hW d fun r w1 => bw_ck fun h => by obtain ⟨rfl, rfl⟩ := h; exact kk
  rw [e] at key
  simpa only [cl, and_self, if_pos] using key
end Z
