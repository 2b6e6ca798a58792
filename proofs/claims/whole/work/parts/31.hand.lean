theorem dX2_takeDraft_0 : decode cX2_takeDraft 0 = .ok (.aload_n 0, 1) := by decide +kernel
theorem dX2_takeDraft_1 : decode cX2_takeDraft 1 = .ok (.getfield 12, 3) := by decide +kernel
theorem dX2_takeDraft_4 : decode cX2_takeDraft 4 = .ok (.astore_n 1, 1) := by decide +kernel
theorem dX2_takeDraft_5 : decode cX2_takeDraft 5 = .ok (.aload_n 0, 1) := by decide +kernel
theorem dX2_takeDraft_6 : decode cX2_takeDraft 6 = .ok (.aload_n 0, 1) := by decide +kernel
theorem dX2_takeDraft_7 : decode cX2_takeDraft 7 = .ok (.getfield 30, 3) := by decide +kernel
theorem dX2_takeDraft_10 : decode cX2_takeDraft 10 = .ok (.putfield 12, 3) := by decide +kernel
theorem dX2_takeDraft_13 : decode cX2_takeDraft 13 = .ok (.aload_n 0, 1) := by decide +kernel
theorem dX2_takeDraft_14 : decode cX2_takeDraft 14 = .ok (.aload_n 1, 1) := by decide +kernel
theorem dX2_takeDraft_15 : decode cX2_takeDraft 15 = .ok (.putfield 30, 3) := by decide +kernel
theorem dX2_takeDraft_18 : decode cX2_takeDraft 18 = .ok (.aload_n 0, 1) := by decide +kernel
theorem dX2_takeDraft_19 : decode cX2_takeDraft 19 = .ok (.iconst 0, 1) := by decide +kernel
theorem dX2_takeDraft_20 : decode cX2_takeDraft 20 = .ok (.putfield 46, 3) := by decide +kernel
theorem dX2_takeDraft_23 : decode cX2_takeDraft 23 = .ok (.aload_n 0, 1) := by decide +kernel
theorem dX2_takeDraft_24 : decode cX2_takeDraft 24 = .ok (.iconst 0, 1) := by decide +kernel
theorem dX2_takeDraft_25 : decode cX2_takeDraft 25 = .ok (.putfield 49, 3) := by decide +kernel
theorem dX2_takeDraft_28 : decode cX2_takeDraft 28 = .ok (.aload_n 0, 1) := by decide +kernel
theorem dX2_takeDraft_29 : decode cX2_takeDraft 29 = .ok (.invokevirtual 52, 3) := by decide +kernel
theorem dX2_takeDraft_32 : decode cX2_takeDraft 32 = .ok (.return_, 1) := by decide +kernel
theorem dX5_addRow_0 : decode cX5_addRow 0 = .ok (.aload_n 0, 1) := by decide +kernel
theorem dX5_addRow_1 : decode cX5_addRow 1 = .ok (.getfield 47, 3) := by decide +kernel
theorem dX5_addRow_4 : decode cX5_addRow 4 = .ok (.aload_n 0, 1) := by decide +kernel
theorem dX5_addRow_5 : decode cX5_addRow 5 = .ok (.getfield 15, 3) := by decide +kernel
theorem dX5_addRow_8 : decode cX5_addRow 8 = .ok (.if_icmp .lt 56, 3) := by decide +kernel
theorem dX5_addRow_11 : decode cX5_addRow 11 = .ok (.aload_n 0, 1) := by decide +kernel
theorem dX5_addRow_12 : decode cX5_addRow 12 = .ok (.dup, 1) := by decide +kernel
theorem dX5_addRow_13 : decode cX5_addRow 13 = .ok (.getfield 15, 3) := by decide +kernel
theorem dX5_addRow_16 : decode cX5_addRow 16 = .ok (.iconst 2, 1) := by decide +kernel
theorem dX5_addRow_17 : decode cX5_addRow 17 = .ok (.imul, 1) := by decide +kernel
theorem dX5_addRow_18 : decode cX5_addRow 18 = .ok (.putfield 15, 3) := by decide +kernel
theorem dX5_addRow_21 : decode cX5_addRow 21 = .ok (.aload_n 0, 1) := by decide +kernel
theorem dX5_addRow_22 : decode cX5_addRow 22 = .ok (.aload_n 0, 1) := by decide +kernel
theorem dX5_addRow_23 : decode cX5_addRow 23 = .ok (.getfield 19, 3) := by decide +kernel
theorem dX5_addRow_26 : decode cX5_addRow 26 = .ok (.aload_n 0, 1) := by decide +kernel
theorem dX5_addRow_27 : decode cX5_addRow 27 = .ok (.getfield 15, 3) := by decide +kernel
theorem dX5_addRow_30 : decode cX5_addRow 30 = .ok (.bipush 8, 2) := by decide +kernel
theorem dX5_addRow_32 : decode cX5_addRow 32 = .ok (.imul, 1) := by decide +kernel
theorem dX5_addRow_33 : decode cX5_addRow 33 = .ok (.invokestatic 90, 3) := by decide +kernel
theorem dX5_addRow_36 : decode cX5_addRow 36 = .ok (.putfield 19, 3) := by decide +kernel
theorem dX5_addRow_39 : decode cX5_addRow 39 = .ok (.aload_n 0, 1) := by decide +kernel
theorem dX5_addRow_40 : decode cX5_addRow 40 = .ok (.aload_n 0, 1) := by decide +kernel
theorem dX5_addRow_41 : decode cX5_addRow 41 = .ok (.getfield 22, 3) := by decide +kernel
theorem dX5_addRow_44 : decode cX5_addRow 44 = .ok (.aload_n 0, 1) := by decide +kernel
theorem dX5_addRow_45 : decode cX5_addRow 45 = .ok (.getfield 15, 3) := by decide +kernel
theorem dX5_addRow_48 : decode cX5_addRow 48 = .ok (.invokestatic 90, 3) := by decide +kernel
theorem dX5_addRow_51 : decode cX5_addRow 51 = .ok (.putfield 22, 3) := by decide +kernel
theorem dX5_addRow_54 : decode cX5_addRow 54 = .ok (.aload_n 0, 1) := by decide +kernel
theorem dX5_addRow_55 : decode cX5_addRow 55 = .ok (.aload_n 0, 1) := by decide +kernel
theorem dX5_addRow_56 : decode cX5_addRow 56 = .ok (.getfield 15, 3) := by decide +kernel
theorem dX5_addRow_59 : decode cX5_addRow 59 = .ok (.newarray .int, 2) := by decide +kernel
theorem dX5_addRow_61 : decode cX5_addRow 61 = .ok (.putfield 25, 3) := by decide +kernel
theorem dX5_addRow_64 : decode cX5_addRow 64 = .ok (.aload_n 1, 1) := by decide +kernel
theorem dX5_addRow_65 : decode cX5_addRow 65 = .ok (.iconst 0, 1) := by decide +kernel
theorem dX5_addRow_66 : decode cX5_addRow 66 = .ok (.aload_n 0, 1) := by decide +kernel
theorem dX5_addRow_67 : decode cX5_addRow 67 = .ok (.getfield 19, 3) := by decide +kernel
theorem dX5_addRow_70 : decode cX5_addRow 70 = .ok (.aload_n 0, 1) := by decide +kernel
theorem dX5_addRow_71 : decode cX5_addRow 71 = .ok (.getfield 47, 3) := by decide +kernel
theorem dX5_addRow_74 : decode cX5_addRow 74 = .ok (.bipush 8, 2) := by decide +kernel
theorem dX5_addRow_76 : decode cX5_addRow 76 = .ok (.imul, 1) := by decide +kernel
theorem dX5_addRow_77 : decode cX5_addRow 77 = .ok (.bipush 8, 2) := by decide +kernel
theorem dX5_addRow_79 : decode cX5_addRow 79 = .ok (.invokestatic 94, 3) := by decide +kernel
theorem dX5_addRow_82 : decode cX5_addRow 82 = .ok (.aload_n 0, 1) := by decide +kernel
theorem dX5_addRow_83 : decode cX5_addRow 83 = .ok (.getfield 22, 3) := by decide +kernel
theorem dX5_addRow_86 : decode cX5_addRow 86 = .ok (.aload_n 0, 1) := by decide +kernel
theorem dX5_addRow_87 : decode cX5_addRow 87 = .ok (.getfield 47, 3) := by decide +kernel
theorem dX5_addRow_90 : decode cX5_addRow 90 = .ok (.aload_n 0, 1) := by decide +kernel
theorem dX5_addRow_91 : decode cX5_addRow 91 = .ok (.getfield 28, 3) := by decide +kernel
theorem dX5_addRow_94 : decode cX5_addRow 94 = .ok (.iload_n 2, 1) := by decide +kernel
theorem dX5_addRow_95 : decode cX5_addRow 95 = .ok (.iaload, 1) := by decide +kernel
theorem dX5_addRow_96 : decode cX5_addRow 96 = .ok (.iastore, 1) := by decide +kernel
theorem dX5_addRow_97 : decode cX5_addRow 97 = .ok (.aload_n 0, 1) := by decide +kernel
theorem dX5_addRow_98 : decode cX5_addRow 98 = .ok (.getfield 28, 3) := by decide +kernel
theorem dX5_addRow_101 : decode cX5_addRow 101 = .ok (.iload_n 2, 1) := by decide +kernel
theorem dX5_addRow_102 : decode cX5_addRow 102 = .ok (.aload_n 0, 1) := by decide +kernel
theorem dX5_addRow_103 : decode cX5_addRow 103 = .ok (.getfield 47, 3) := by decide +kernel
theorem dX5_addRow_106 : decode cX5_addRow 106 = .ok (.iastore, 1) := by decide +kernel
theorem dX5_addRow_107 : decode cX5_addRow 107 = .ok (.aload_n 0, 1) := by decide +kernel
theorem dX5_addRow_108 : decode cX5_addRow 108 = .ok (.dup, 1) := by decide +kernel
theorem dX5_addRow_109 : decode cX5_addRow 109 = .ok (.getfield 47, 3) := by decide +kernel
theorem dX5_addRow_112 : decode cX5_addRow 112 = .ok (.iconst 1, 1) := by decide +kernel
theorem dX5_addRow_113 : decode cX5_addRow 113 = .ok (.iadd, 1) := by decide +kernel
theorem dX5_addRow_114 : decode cX5_addRow 114 = .ok (.putfield 47, 3) := by decide +kernel
theorem dX5_addRow_117 : decode cX5_addRow 117 = .ok (.aload_n 0, 1) := by decide +kernel
theorem dX5_addRow_118 : decode cX5_addRow 118 = .ok (.getfield 47, 3) := by decide +kernel
theorem dX5_addRow_121 : decode cX5_addRow 121 = .ok (.iconst 1, 1) := by decide +kernel
theorem dX5_addRow_122 : decode cX5_addRow 122 = .ok (.isub, 1) := by decide +kernel
theorem dX5_addRow_123 : decode cX5_addRow 123 = .ok (.ireturn, 1) := by decide +kernel
theorem dJ7_copyOf_59c91_0 : decode cJ7_copyOf_59c91 0 = .ok (.iload_n 1, 1) := by decide +kernel
theorem dJ7_copyOf_59c91_1 : decode cJ7_copyOf_59c91 1 = .ok (.aload_n 0, 1) := by decide +kernel
theorem dJ7_copyOf_59c91_2 : decode cJ7_copyOf_59c91 2 = .ok (.arraylength, 1) := by decide +kernel
theorem dJ7_copyOf_59c91_3 : decode cJ7_copyOf_59c91 3 = .ok (.if_icmp .ne 11, 3) := by decide +kernel
theorem dJ7_copyOf_59c91_6 : decode cJ7_copyOf_59c91 6 = .ok (.aload_n 0, 1) := by decide +kernel
theorem dJ7_copyOf_59c91_7 : decode cJ7_copyOf_59c91 7 = .ok (.invokevirtual 316, 3) := by decide +kernel
theorem dJ7_copyOf_59c91_10 : decode cJ7_copyOf_59c91 10 = .ok (.checkcast 317, 3) := by decide +kernel
theorem dJ7_copyOf_59c91_13 : decode cJ7_copyOf_59c91 13 = .ok (.areturn, 1) := by decide +kernel
theorem dJ7_copyOf_59c91_14 : decode cJ7_copyOf_59c91 14 = .ok (.iload_n 1, 1) := by decide +kernel
theorem dJ7_copyOf_59c91_15 : decode cJ7_copyOf_59c91 15 = .ok (.newarray .int, 2) := by decide +kernel
theorem dJ7_copyOf_59c91_17 : decode cJ7_copyOf_59c91 17 = .ok (.astore_n 2, 1) := by decide +kernel
theorem dJ7_copyOf_59c91_18 : decode cJ7_copyOf_59c91 18 = .ok (.aload_n 0, 1) := by decide +kernel
theorem dJ7_copyOf_59c91_19 : decode cJ7_copyOf_59c91 19 = .ok (.iconst 0, 1) := by decide +kernel
theorem dJ7_copyOf_59c91_20 : decode cJ7_copyOf_59c91 20 = .ok (.aload_n 2, 1) := by decide +kernel
theorem dJ7_copyOf_59c91_21 : decode cJ7_copyOf_59c91 21 = .ok (.iconst 0, 1) := by decide +kernel
theorem dJ7_copyOf_59c91_22 : decode cJ7_copyOf_59c91 22 = .ok (.aload_n 0, 1) := by decide +kernel
theorem dJ7_copyOf_59c91_23 : decode cJ7_copyOf_59c91 23 = .ok (.arraylength, 1) := by decide +kernel
theorem dJ7_copyOf_59c91_24 : decode cJ7_copyOf_59c91 24 = .ok (.iload_n 1, 1) := by decide +kernel
theorem dJ7_copyOf_59c91_25 : decode cJ7_copyOf_59c91 25 = .ok (.invokestatic 304, 3) := by decide +kernel
theorem dJ7_copyOf_59c91_28 : decode cJ7_copyOf_59c91 28 = .ok (.invokestatic 150, 3) := by decide +kernel
theorem dJ7_copyOf_59c91_31 : decode cJ7_copyOf_59c91 31 = .ok (.aload_n 2, 1) := by decide +kernel
theorem dJ7_copyOf_59c91_32 : decode cJ7_copyOf_59c91 32 = .ok (.areturn, 1) := by decide +kernel
/-! takeDraft: the two estates change places -/
def sw (i : Nat) : Nat := if 31 ≤ i ∧ i < 44 then i + 13 else if 44 ≤ i ∧ i < 57 then i - 13 else i
def swW (w : Wd) : Wd := (fun i => w.1 (sw i), fun i => w.2 (sw i))
def swY (Y : Ev) : Ev := (Y.1, Y.2.1, Y.2.2.1, Y.2.2.2.1, fun i => ph Y (sw i), Y.2.2.2.2.2.1, Y.2.2.2.2.2.2.1, Y.2.2.2.2.2.2.2)
theorem sw_sw (i : Nat) : sw (sw i) = i := by unfold sw; split <;> split <;> (try split) <;> omega
theorem sw_lt {i : Nat} (h : i < 96) : sw i < 96 := by unfold sw; split <;> (try split) <;> omega
theorem swY_mv (Y : Ev) : MV Y (swY Y) := by
  refine ⟨rfl, rfl, rfl, rfl, rfl, rfl, fun i hi => ?_, Nat.le_refl _⟩
  show ph Y (sw i) = ph Y i
  have : sw i = i := by
    unfold mvb at hi
    have := of_decide_eq_false hi
    unfold sw; split <;> (try split) <;> omega
  rw [this]
theorem swY_ij {Y : Ev} (hY : Y.1 = SC) (h : IJ Y) : IJ (swY Y) := by
  intro i j hi hj e
  have hi : i < 96 := by have : (swY Y).1.1 = 96 := by show Y.1.1 = 96; rw [hY]; rfl
                         omega
  have hj : j < 96 := by have : (swY Y).1.1 = 96 := by show Y.1.1 = 96; rw [hY]; rfl
                         omega
  have hN : Y.1.1 = 96 := by rw [hY]; rfl
  have := h (sw i) (sw j) (by rw [hN]; exact sw_lt hi) (by rw [hN]; exact sw_lt hj) e
  rw [← sw_sw i, this, sw_sw]
theorem sw_kind : ∀ i, i < 96 → kCl.getD i 0 = kCl.getD (sw i) 0 := by decide +kernel
theorem sw_len : ∀ i, i < 96 → lCl.getD i 0 = lCl.getD (sw i) 0 ∧ (i = 18 ↔ sw i = 18) ∧ (i = 19 ↔ sw i = 19) ∧ (i = 20 ↔ sw i = 20) := by decide +kernel
theorem sw_ref : ∀ i, i < 96 → i ≠ 3 → kCl.getD i 0 < 20 → ∀ k, k < nfl (kCl.getD i 0) → fcode (tyOf (kCl.getD i 0) k) = 2 → sw (SC.2.2.2 i k) = SC.2.2.2 (sw i) k := by decide +kernel
theorem sw_arr : ∀ i, i < 96 → 24 ≤ kCl.getD i 0 → (i = 4 ∨ i = 5 ∨ i = 12) ∧ sw i = i := by decide +kernel
theorem cell_sw {Y : Ev} {w : Wd} (hY : Y.1 = SC) {i : Nat} (hi : i < 96) (h3 : i ≠ 3) : cellW (swY Y) (swW w) i = cellW Y w (sw i) := by
  have e0 : (swY Y).1 = SC := hY
  have k1 : (swY Y).1.2.1 i = kCl.getD i 0 := by rw [e0]; rfl
  have k2 : Y.1.2.1 (sw i) = kCl.getD i 0 := by rw [hY]; exact (sw_kind i hi).symm
  obtain ⟨l1, l2, l3, l4⟩ := sw_len i hi
  have hlen : (swY Y).1.2.2.1 (yc (swY Y)) i = Y.1.2.2.1 (yc Y) (sw i) := by
    rw [e0, hY]
    show (if i = 18 then 8 * yc Y else if i = 19 then yc Y else if i = 20 then yc Y else lCl.getD i 0) = (if sw i = 18 then 8 * yc Y else if sw i = 19 then yc Y else if sw i = 20 then yc Y else lCl.getD (sw i) 0)
    simp only [l1, l2, l3, l4]
  unfold cellW
  rw [k1, k2]
  by_cases hc : kCl.getD i 0 < 20
  · rw [if_pos hc, if_pos hc]
    congr 2
    apply List.map_congr_left
    intro k hk
    have hk := List.mem_range.mp hk
    unfold fV
    have hr := sw_ref i hi h3 hc k hk
    have er : fcode (tyOf (kCl.getD i 0) k) = 2 → Value.ref (ph (swY Y) ((swY Y).1.2.2.2 i k)) = Value.ref (ph Y (Y.1.2.2.2 (sw i) k)) := by
      intro h
      have h := hr h
      rw [e0, hY]
      show Value.ref (ph Y (sw (SC.2.2.2 i k))) = _
      rw [h]
    split
    · rfl
    · exact er (by assumption)
    · rfl
  · rw [if_neg hc, if_neg hc]
    unfold aV
    rw [hlen]
    have e4 : (swY Y).2.2.2.1 = Y.2.2.2.1 := rfl
    rw [e4]
    by_cases h23 : kCl.getD i 0 < 23
    · rw [if_pos h23, if_pos h23]; rfl
    · rw [if_neg h23, if_neg h23]
      by_cases h24 : kCl.getD i 0 = 23
      · rw [if_pos h24, if_pos h24]; rfl
      · rw [if_neg h24, if_neg h24]
        obtain ⟨h4, hs⟩ := sw_arr i hi (by omega)
        rw [hs]
        congr 7
        funext j
        show some (ph Y (sw ((swY Y).1.2.2.2 i j))) = _
        rw [e0, hY]
        congr 2
        rcases h4 with rfl | rfl | rfl
        · show sw (57 + 6 * j) = 57 + 6 * j
          unfold sw; split <;> (try split) <;> omega
        · show sw (81 + j) = 81 + j
          unfold sw; split <;> (try split) <;> omega
        · show sw (84 + 3 * j) = 84 + 3 * j
          unfold sw; split <;> (try split) <;> omega
theorem cell_sw3 {Y : Ev} {w : Wd} (hY : Y.1 = SC) : cellW (swY Y) (swW w) 3 = .inr (2, (((List.range (nfl 2)).map (fV Y w 2 3)).set 0 (.ref (ph Y 44))).set 7 (.ref (ph Y 31))) := by
  obtain ⟨S, a, b, c, f, k, v, n⟩ := Y
  have hY : S = SC := hY
  subst hY
  rw [cell_obj (c := 2) rfl (by decide)]
  congr 2
theorem f_sw3 : nfl 2 = 10 := rfl
theorem bw_take {Z : Cz (Wd × Nat)} {Y0 : Ev} {dd : Nat} {w : Wd} {out : Option (Wd × Nat)} (hZ : OKZ Z SC cX2_takeDraft RX2 2 none dd) (hE : EndM QMV cV Y0 Z) (hcap : ∀ q, out = some q → yc (zY Z) ≤ cV q)
    (kk : ∀ Z1 : Cz (Wd × Nat), OKZ Z1 SC cX2_takeDraft RX2 2 none dd → EndM QMV cV Y0 Z1 → yc (zY Z1) = yc (zY Z) → BW Z1 2 18 [(0, .ref (ph (zY Z1) 3))] [] (swW w) out) : BW Z 2 0 [(0, .ref (ph (zY Z) 3))] [] w out := by
  intro hr H locs ls hP hS hl
  have hYS : (zY Z).1 = SC := hZ_S hZ
  have hN : (zY Z).1.1 = 96 := by rw [hYS]; rfl
  have hc : vwCl[2]? = some (RX2, TX2, 10) := rfl
  have hin := inG2
  have hlink0 : Cond.fieldLink RX2 12 (TX2 0).1 (TX2 0).2.1 (TX2 0).2.2.1 ∈ GT := gt_2 52 rfl rfl
  have hlink7 : Cond.fieldLink RX2 30 (TX2 7).1 (TX2 7).2.1 (TX2 7).2.2.1 ∈ GT := gt_2 77 rfl rfl
  have hty : ∀ k, k < 10 → parseFieldDescriptor (TX2 k).2.2.1 = some (tyOf 2 k) := ty_2
  have hnm := nmX2
  have d0 : parseFieldDescriptor (TX2 0).2.2.1 = some (.object "WhichWill$Estate") := hty 0 (by decide)
  have d7 : parseFieldDescriptor (TX2 7).2.2.1 = some (.object "WhichWill$Estate") := hty 7 (by decide)
  have o3 := hZ_o hZ obC_3
  have hD := hZ_D hZ w
  have hts := hZ.2.2.2.2.1
  have hown := hZ.2.2.2.1
  have hK := hZ.2.2.2.2.2.2.2.1
  have hw3 : (wsW (zY Z) w)[3]? = some (ph (zY Z) 3, .inr (2, (List.range (nfl 2)).map (fV (zY Z) w 2 3))) := (ws_at _ w o3.1).trans (by rw [cell_obj o3.2 (by decide)])
  have v0 : fV (zY Z) w 2 3 0 = .ref (ph (zY Z) 31) := by
    show Value.ref (ph (zY Z) ((zY Z).1.2.2.2 3 0)) = _
    rw [hYS]; rfl
  have v7 : fV (zY Z) w 2 3 7 = .ref (ph (zY Z) 44) := by
    show Value.ref (ph (zY Z) ((zY Z).1.2.2.2 3 7)) = _
    rw [hYS]; rfl
  unfold ZW
  refine lv_aload_n hZ.1 hZ.2.1 dX2_takeDraft_0 rfl (lv_at hl 0 rfl) ?_
  refine va_get (q0 := 3) (ci := 2) (k := 0) (T := TX2) (C := RX2) (N := 10) (ref := (TX2 0).1) hZ.1 hZ.2.1 hts hin hown hK hP hw3 hc (by decide) (hts _ hlink0) (fun _ h => h) (v := .ref (ph (zY Z) 31)) (by rw [List.getElem?_map, List.getElem?_range (by decide), Option.map_some, v0]) dX2_takeDraft_1 ?_
  refine lv_astore_n (lv' := [(1, .ref (ph (zY Z) 31)), (0, .ref (ph (zY Z) 3))]) hZ.1 hZ.2.1 dX2_takeDraft_4 rfl hl (by decide) rfl (fun ls hl => ?_)
  refine lv_aload_n hZ.1 hZ.2.1 dX2_takeDraft_5 rfl (lv_at hl 1 rfl) ?_
  refine lv_aload_n hZ.1 hZ.2.1 dX2_takeDraft_6 rfl (lv_at hl 1 rfl) ?_
  refine va_get (q0 := 3) (ci := 2) (k := 7) (T := TX2) (C := RX2) (N := 10) (ref := (TX2 7).1) hZ.1 hZ.2.1 hts hin hown hK hP hw3 hc (by decide) (hts _ hlink7) (fun _ h => h) (v := .ref (ph (zY Z) 44)) (by rw [List.getElem?_map, List.getElem?_range (by decide), Option.map_some, v7]) dX2_takeDraft_7 ?_
  refine va_put (q0 := 3) (ci := 2) (k := 0) (T := TX2) (C := RX2) (N := 10) (ref := (TX2 0).1) hZ.1 hZ.2.1 hts hin (tyOf 2) hty hnm hown hK hP hD hS hw3 hc (by decide) (hts _ hlink0) (fun _ h => h) rfl d0 rfl rfl (by rw [List.length_map, List.length_range]; decide) dX2_takeDraft_10 ?_
  intro H1 locs1 hP1 hD1 hS1
  have hl1 : 3 < (wsW (zY Z) w).length := by simp [wsW, hN]
  have hw31 := List.getElem?_set_self (a := (ph (zY Z) 3, (.inr (2, ((List.range (nfl 2)).map (fV (zY Z) w 2 3)).set 0 (.ref (ph (zY Z) 44))) : va_E))) hl1
  refine lv_aload_n hZ.1 hZ.2.1 dX2_takeDraft_13 rfl (lv_at hl 1 rfl) ?_
  refine lv_aload_n hZ.1 hZ.2.1 dX2_takeDraft_14 rfl (lv_at hl 0 rfl) ?_
  refine va_put (q0 := 3) (ci := 2) (k := 7) (T := TX2) (C := RX2) (N := 10) (ref := (TX2 7).1) hZ.1 hZ.2.1 hts hin (tyOf 2) hty hnm hown hK hP1 hD1 hS1 hw31 hc (by decide) (hts _ hlink7) (fun _ h => h) rfl d7 rfl rfl (by rw [List.length_set, List.length_map, List.length_range]; decide) dX2_takeDraft_15 ?_
  intro H2 locs2 hP2 hD2 hS2
  rw [List.set_set] at hP2
  have hRP : RP (swY (zY Z)) (swW w) H2 := by
    intro i q hq
    obtain ⟨hi, rfl⟩ := ws_get hq
    have hi96 : i < 96 := by have : (swY (zY Z)).1.1 = 96 := hN; omega
    have hph : ph (swY (zY Z)) i = ph (zY Z) (sw i) := rfl
    have hat : va_at ((zY Z).2.1, (zY Z).2.2.1) vwCl (ph (zY Z) (sw i), cellW (swY (zY Z)) (swW w) i) H2 := by
      by_cases h3 : i = 3
      · subst h3
        rw [cell_sw3 hYS]
        exact hP2 3 _ (List.getElem?_set_self hl1)
      · rw [cell_sw hYS hi96 h3]
        have hs3 : sw i ≠ 3 := fun e => h3 (by rw [← sw_sw i, e]; rfl)
        refine hP2 (sw i) _ ?_
        rw [List.getElem?_set_ne (Ne.symm hs3)]
        exact ws_at _ w (by rw [hN]; exact sw_lt hi96)
    rw [hph]
    exact hat
  have hq := swY_mv (zY Z)
  have hyc : yc (swY (zY Z)) = yc (zY Z) := rfl
  obtain ⟨k1, k2⟩ := mvZ_ok (c := 0) (Y1 := swY (zY Z)) hZ hE (Or.inr trivial) hq (swY_ij hYS hZ.2.2.2.2.2.2.2.2.1) (fun i hi => hZ.2.2.2.2.2.2.2.2.2.1 (sw i) (by rw [hN]; exact sw_lt (by have : (swY (zY Z)).1.1 = 96 := hN; omega))) (hcap _ hr)
  have key := kk _ k1 k2 rfl hr H2 locs2 ls hRP hS2 (lv_sub hl [1] rfl)
  rw [hyc, Nat.sub_self] at key
  exact key
def f_X2_takeDraft (cp : Nat) (w : Wd) : Option (Wd × Nat) := lt (wI (swW w) 3 3 0) fun w2 => lt (wI w2 3 4 0) fun w3 => cv (f_X2_findOrders w3) fun w4 => some (w4, cp)
theorem m_f_X2_takeDraft (cp : Nat) (w : Wd) : Mono cV cp (f_X2_takeDraft cp w) := mo_lt fun _ => mo_lt fun _ => mo_cv fun _ => mo_some
set_option maxRecDepth 100000 in
theorem c_X2_takeDraft (l : Launch) (Y : Ev) (hY : Y.1 = SC) (w : Wd) : CMV l Y yX2_takeDraft cX2_takeDraft 2 9 [.ref (ph Y 3)] w (f_X2_takeDraft (yc Y) w) := by
  refine CMV_of (S := SC) (by decide) (Nat.le_of_ble_eq_true rfl) hY ?_
  intro Z hl hY2 hZ hE
  subst hY2
  refine bw_take hZ hE (m_f_X2_takeDraft _ w) fun Z hZ hE hc => ?_
  unfold f_X2_takeDraft
  rw [← hc]
  exact bw_aload_n hZ 0 rfl dX2_takeDraft_18 <| bw_iconst hZ 0 (by decide) dX2_takeDraft_19 <| bw_putI hZ fl_RX2_46 rfl rfl (by decide) obC_3 dX2_takeDraft_20 fun w1 => bw_aload_n hZ 0 rfl dX2_takeDraft_23 <| bw_iconst hZ 0 (by decide) dX2_takeDraft_24 <| bw_putI hZ fl_RX2_49 rfl rfl (by decide) obC_3 dX2_takeDraft_25 fun w2 => bw_aload_n hZ 0 rfl dX2_takeDraft_28 <| bw_callVV (As := []) hZ ml_RX2_52 rc_2 obC_3 (by decide) (c_X2_findOrders (zl Z) (zY Z) (hZ_S hZ) w2) rfl rfl (Nat.le_of_ble_eq_true rfl) dX2_takeDraft_29 fun w3 => bw_vretM hZ hE dX2_takeDraft_32
/-! addRow: rows that grow -/
theorem cp_at {D : va_G} {cl : List vw_C} {A : Nat → Prop} {L : va_W} {H H1 : Heap} {a q1 j : Nat} {ea e1 : va_E} (hP : va_P D cl L H) (hD : va_D A L) (hj : L[j]? = some (a, ea)) (hk : ∀ q : Nat, q < H.size → ¬ (q = a ∨ H.size ≤ q) → H1[q]? = H[q]?) (hP1 : va_P D cl [(a, ea), (q1, e1)] H1) : va_P D cl (L ++ [(q1, e1)]) H1 := by
  intro k q hq
  by_cases hl : k < L.length
  · rw [List.getElem?_append_left hl] at hq
    by_cases ha : q.1 = a
    · have hkj := hD.1 k j q (a, ea) hq hj ha
      subst hkj
      rw [hj] at hq
      cases hq
      exact hP1 0 _ rfl
    · have hlt := (hP k q hq).lt
      exact (hP k q hq).kept (hk q.1 hlt (fun h => h.elim ha (fun h => by omega)))
  · rw [List.getElem?_append_right (by omega)] at hq
    have hz : k - L.length < 1 := (List.getElem?_eq_some_iff.mp hq).1
    rw [show k - L.length = 0 by omega] at hq
    cases hq
    exact hP1 1 _ rfl
def cpA (a sz : Nat) : Nat → Prop := fun q => q = a ∨ sz ≤ q
set_option maxRecDepth 100000 in
theorem c_copyOf (l : Launch) (D : va_G) (cI : ClassId) (a n : Nat) (f : Nat → Int32) (N : Int32) (N' sz : Nat) (h0 : ¬ N < 0) (hN : N.toNatClampNeg = N') (hne : n < N') (hbig : N' ≤ 2000000) : Met l yJ7_copyOf_59c91 (.code yJ7_copyOf_59c91 cJ7_copyOf_59c91 3 (some (.array .int)) :: GT) (rmD 3 1 N') (va_Pc [.ref a, .int N] (fun U => U.heap.size = sz ∧ va_P D vwCl [(a, .inl (cI, n, .inl f))] U.heap ∧ va_K D vwCl [(cI, .int)] U)) (va_Qr (fun _ : Unit => True) (fun _ q t => sz ≤ q ∧ va_P D vwCl [(a, .inl (cI, n, .inl f)), (q, .inl (cI, N', .inl (va_cpy f (fun _ => 0) 0 0 n)))] t.heap) (cpA a sz)) 1 N' (cpA a sz) := by
  refine Met.ofW (cc := cJ7_copyOf_59c91) (maxL := 3) (ret := some (.array .int)) (by decide) rfl ?_
  intro p e s m args below meth c s₁ B hml hv
  obtain ⟨rfl, hsz, hP, hK⟩ := hv
  have hx := B.exec
  have hb := B.bytes
  have hr := B.returns
  have hts0 := atoms_spec (ws := .code yJ7_copyOf_59c91 cJ7_copyOf_59c91 3 (some (.array .int)) :: GT) B.pre
  have hts : ∀ w ∈ GT, w.before _ s = true := fun w hw => hts0 w (List.mem_cons_of_mem _ hw)
  have hown : s.vm.findClass RJ7 = some m.cls := findClass_of_methodNamed B.named
  have hlocks := B.notSynchronized
  subst hsz
  have ha : a < s.heap.size := (hP 0 _ rfl).lt
  have hD : va_D (cpA a s.heap.size) [(a, (.inl (cI, n, .inl f) : va_E))] := by
    refine ⟨fun i j x y h1 h2 _ => ?_, fun k q h => ?_⟩
    · have := (List.getElem?_eq_some_iff.mp h1).1
      have := (List.getElem?_eq_some_iff.mp h2).1
      simp at *; omega
    · have hz : k < 1 := (List.getElem?_eq_some_iff.mp h).1
      rw [show k = 0 by omega] at h
      cases h
      exact Or.inl rfl
  have hA : ∀ q : Nat, s.heap.size ≤ q → cpA a s.heap.size q := fun q h => Or.inr h
  have hS : va_S (cpA a s.heap.size) s.heap s.heap [] := va_S.rf
  have hl := lv_entry ([.ref a, .int N]) (n := 3) (Nat.le_of_ble_eq_true rfl)
  rw [lg_entry_eq]
  generalize (lg_sl ([.ref a, .int N]) ++ List.replicate (3 - (lg_sl ([.ref a, .int N])).length) Slot.unset).toArray = ls at hl ⊢
  have hl : lv_has ls 3 [(0, .ref a), (1, .int N)] := hl
  have hNn : ¬ N = Int32.ofNat n := by
    intro e
    have : N.toNatClampNeg = n := by rw [e]; exact nI_clamp (by omega)
    omega
  refine lv_iload_n hx hb dJ7_copyOf_59c91_0 rfl (lv_at hl 1 rfl) ?_
  refine lv_aload_n hx hb dJ7_copyOf_59c91_1 rfl (lv_at hl 0 rfl) ?_
  refine va_alen (q0 := 0) (t0 := 0) (cA := cI) (x := (n, .inl f)) hx hb hK hP rfl rfl rfl dJ7_copyOf_59c91_2 ?_
  refine lv_icmp_ne (tgt := 14) hx hb dJ7_copyOf_59c91_3 (by decide) (fun _ => ?_) (fun h => absurd h hNn)
  refine lv_iload_n hx hb dJ7_copyOf_59c91_14 rfl (lv_at hl 1 rfl) ?_
  refine va_newa (ty := .int) (N' := N') (a0 := (N', .inl (fun _ => 0))) hx hb (hts _ (gt_1 184 rfl rfl)) rfl hK hP hD hS hA (fun cA => rfl) h0 hN (by show N' * 4 ≤ _; omega) (Nat.le_refl _) (by show 0 + N' ≤ N'; omega) dJ7_copyOf_59c91_15 ?_
  intro q cA H1 hK1 hP1 hD1 hS1
  have hcA : cA = cI := by
    have e1 := (hK1.2 0 _ rfl).2
    have e2 := (hK1.2 1 _ rfl).2
    exact Option.some.inj (e2.symm.trans e1)
  subst hcA
  have hq : s.heap.size ≤ q := by
    rcases hD1.2 1 _ rfl with h | h
    · exact absurd (hD1.1 1 0 _ _ rfl rfl h) (by decide)
    · exact h
  refine lv_astore_n (lv' := [(2, .ref q), (0, .ref a), (1, .int N)]) hx hb dJ7_copyOf_59c91_17 rfl hl (by decide) rfl (fun ls hl => ?_)
  refine lv_aload_n hx hb dJ7_copyOf_59c91_18 rfl (lv_at hl 1 rfl) ?_
  refine lv_iconst (v := 0) hx hb dJ7_copyOf_59c91_19 (by decide) ?_
  refine lv_aload_n hx hb dJ7_copyOf_59c91_20 rfl (lv_at hl 0 rfl) ?_
  refine lv_iconst (v := 0) hx hb dJ7_copyOf_59c91_21 (by decide) ?_
  refine lv_aload_n hx hb dJ7_copyOf_59c91_22 rfl (lv_at hl 1 rfl) ?_
  refine va_alen (q0 := 0) (t0 := 0) (cA := cA) (x := (n, .inl f)) hx hb hK1 hP1 rfl rfl rfl dJ7_copyOf_59c91_23 ?_
  refine lv_iload_n hx hb dJ7_copyOf_59c91_24 rfl (lv_at hl 2 rfl) ?_
  refine va_mmin hx hb (hml.trans hl.1.symm) hown (hts _ kl_RJ7_304) (hts _ km_min.1) (hts _ km_min.2.1) (hts _ km_min.2.2) (by show 1 ≤ 3; omega) (Nat.le_of_ble_eq_true rfl) (by show 0 + 1 ≤ 1; omega) (by show 0 + N' ≤ N'; omega) dJ7_copyOf_59c91_25 ?_
  have hmin : (if N < Int32.ofNat n then N else Int32.ofNat n) = Int32.ofNat n := by
    rw [if_neg]
    intro h
    have e : N = nI N' := by
      obtain ⟨j, hj, rfl⟩ := nI_of h0
      rw [nI_clamp hj] at hN; rw [hN]
    rw [e] at h
    exact nI_nlt (a := N') (b := n) (by omega) (by omega) h
  rw [hmin]
  refine va_copyi (q0 := 0) (q1 := 1) (t0 := 0) (t1 := 1) (n0 := n) (n1 := N') (f := f) (g := fun _ => 0) (ty := .int) hx hb (hml.trans hl.1.symm) hown (hts _ (gt_6 89 rfl rfl)) (hts _ (gt_6 91 rfl rfl)) (hts _ (gt_6 90 rfl rfl)) (hts _ (gt_1 21 rfl rfl)) hK1 hP1 hD1 hS1 rfl rfl rfl rfl rfl (by decide) (by decide) (nI_pos (by omega)) (by show 0 + (nI n).toNatClampNeg ≤ n; rw [nI_clamp (by omega)]; omega) (by show 0 + (nI n).toNatClampNeg ≤ N'; rw [nI_clamp (by omega)]; omega) (fun i _ => rfl) (by show 1 ≤ 3; omega) (by show _ ≤ 40 * 3; decide) dJ7_copyOf_59c91_28 ?_
  intro H2 locs2 hP2 hD2 hS2
  refine lv_aload_n hx hb dJ7_copyOf_59c91_31 rfl (lv_at hl 0 rfl) ?_
  have hcp : (nI n).toNatClampNeg = n := nI_clamp (by omega)
  refine W.widen (k := 1) (n := N') (by omega) (by omega) ?_
  exact W.aret hx hb hr (Or.inr ⟨_, rfl⟩) (Or.inr ⟨_, rfl⟩) (fun t ht _ => ⟨⟨(), q, rfl, trivial, hq, by rw [ht]; have hP2' := hP2; rw [show (Int32.ofNat n).toNatClampNeg = n from hcp] at hP2'; exact hP2'⟩, hS2.F ht⟩) hS2.2.2 dJ7_copyOf_59c91_32
theorem D_push {A : Nat → Prop} {L : va_W} {sz q : Nat} {e : va_E} (hD : va_D A L) (hlt : ∀ (k : Nat) (x : Nat × va_E), L[k]? = some x → x.1 < sz) (hq : sz ≤ q) (hA : A q) : va_D A (L ++ [(q, e)]) := by
  refine va_D.app hD ⟨fun i j x y h1 h2 _ => ?_, fun k x h => ?_⟩ (fun i j x y h1 h2 => ?_)
  · have := (List.getElem?_eq_some_iff.mp h1).1
    have := (List.getElem?_eq_some_iff.mp h2).1
    simp at *; omega
  · have hz : k < 1 := (List.getElem?_eq_some_iff.mp h).1
    rw [show k = 0 by omega] at h
    cases h
    exact hA
  · have hz : j < 1 := (List.getElem?_eq_some_iff.mp h2).1
    rw [show j = 0 by omega] at h2
    cases h2
    have := hlt i x h1
    show x.1 ≠ q
    omega
/-- the world's cells but for the cell 16, whose fields are fs, and new ones behind -/
def Lx (Y : Ev) (w : Wd) (fs : List Value) (news : va_W) : va_W := (wsW Y w).set 16 (ph Y 16, .inr (5, fs)) ++ news
theorem Lx_len {Y : Ev} {w : Wd} {fs : List Value} (hY : Y.1 = SC) : ((wsW Y w).set 16 (ph Y 16, (.inr (5, fs) : va_E))).length = 96 := by
  rw [List.length_set]; simp [wsW, hY]; rfl
theorem Lx_16 {Y : Ev} {w : Wd} {fs : List Value} {news : va_W} (hY : Y.1 = SC) : (Lx Y w fs news)[16]? = some (ph Y 16, .inr (5, fs)) := by
  unfold Lx
  rw [List.getElem?_append_left (by rw [Lx_len hY]; decide), List.getElem?_set_self (by simp [wsW, hY]; decide)]
theorem Lx_at {Y : Ev} {w : Wd} {fs : List Value} {news : va_W} (hY : Y.1 = SC) {i : Nat} (hi : i < 96) (h : i ≠ 16) : (Lx Y w fs news)[i]? = some (ph Y i, cellW Y w i) := by
  unfold Lx
  rw [List.getElem?_append_left (by rw [Lx_len hY]; exact hi), List.getElem?_set_ne (Ne.symm h)]
  exact ws_at Y w (by rw [hY]; exact hi)
theorem Lx_new {Y : Ev} {w : Wd} {fs : List Value} {news : va_W} (hY : Y.1 = SC) (j : Nat) : (Lx Y w fs news)[96 + j]? = news[j]? := by
  unfold Lx
  rw [List.getElem?_append_right (by rw [Lx_len hY]; omega), Lx_len hY]
  congr 1; omega
theorem Lx_set {Y : Ev} {w : Wd} {fs fs' : List Value} {news : va_W} (hY : Y.1 = SC) : (Lx Y w fs news).set 16 (ph Y 16, .inr (5, fs')) = Lx Y w fs' news := by
  unfold Lx
  rw [List.set_append_left _ _ (by rw [Lx_len hY]; decide), List.set_set]
theorem Lx_0 {Y : Ev} {w : Wd} (hY : Y.1 = SC) : wsW Y w = Lx Y w ((List.range (nfl 5)).map (fV Y w 5 16)) [] := by
  unfold Lx
  rw [List.append_nil]
  exact (ws_set (w := w) (w' := w) (by rw [hY]; decide) (fun _ _ => rfl) (cell_obj (by rw [hY]; rfl) (by decide))).symm
/-- the rows' new places and lengths -/
def grY (Y : Ev) (q1 q2 q3 : Nat) : Ev := (Y.1, Y.2.1, Y.2.2.1, Y.2.2.2.1, fun i => if i = 18 then q1 else if i = 19 then q2 else if i = 20 then q3 else ph Y i, Y.2.2.2.2.2.1, Y.2.2.2.2.2.2.1, 2 * yc Y)
def grW (cp : Nat) (w : Wd) : Wd := (fun a => if a = 18 then va_cpy (w.1 18) (fun _ => 0) 0 0 (8 * cp) else if a = 19 then va_cpy (w.1 19) (fun _ => 0) 0 0 cp else if a = 20 then (fun _ => 0) else w.1 a, w.2)
theorem gr_ref : ∀ i, i < 96 → i ≠ 16 → kCl.getD i 0 < 20 → ∀ k, k < nfl (kCl.getD i 0) → fcode (tyOf (kCl.getD i 0) k) = 2 → decide (18 ≤ SC.2.2.2 i k ∧ SC.2.2.2 i k < 21) = false := by decide +kernel
theorem gr_arr : ∀ i, i < 96 → 24 ≤ kCl.getD i 0 → (i = 4 ∨ i = 5 ∨ i = 12) := by decide +kernel
theorem cell_gr {Y : Ev} {w : Wd} {q1 q2 q3 : Nat} (hY : Y.1 = SC) {i : Nat} (hi : i < 96) (h16 : i ≠ 16) (h18 : i ≠ 18) (h19 : i ≠ 19) (h20 : i ≠ 20) : cellW (grY Y q1 q2 q3) (grW (yc Y) w) i = cellW Y w i := by
  have e0 : (grY Y q1 q2 q3).1 = SC := hY
  have k1 : (grY Y q1 q2 q3).1.2.1 i = kCl.getD i 0 := by rw [e0]; rfl
  have k2 : Y.1.2.1 i = kCl.getD i 0 := by rw [hY]; rfl
  have w1 : (grW (yc Y) w).1 i = w.1 i := by simp [grW, h18, h19, h20]
  have hlen : (grY Y q1 q2 q3).1.2.2.1 (yc (grY Y q1 q2 q3)) i = Y.1.2.2.1 (yc Y) i := by
    rw [e0, hY]
    show (if i = 18 then _ else if i = 19 then _ else if i = 20 then _ else lCl.getD i 0) = (if i = 18 then _ else if i = 19 then _ else if i = 20 then _ else lCl.getD i 0)
    simp only [if_neg h18, if_neg h19, if_neg h20]
  have hph : ∀ j, j ≠ 18 → j ≠ 19 → j ≠ 20 → ph (grY Y q1 q2 q3) j = ph Y j := by
    intro j a b c
    show (if j = 18 then q1 else if j = 19 then q2 else if j = 20 then q3 else ph Y j) = _
    rw [if_neg a, if_neg b, if_neg c]
  unfold cellW
  rw [k1, k2]
  by_cases hc : kCl.getD i 0 < 20
  · rw [if_pos hc, if_pos hc]
    congr 2
    apply List.map_congr_left
    intro k hk
    have hk := List.mem_range.mp hk
    unfold fV
    have hr := gr_ref i hi h16 hc k hk
    have er : fcode (tyOf (kCl.getD i 0) k) = 2 → Value.ref (ph (grY Y q1 q2 q3) ((grY Y q1 q2 q3).1.2.2.2 i k)) = Value.ref (ph Y (Y.1.2.2.2 i k)) := by
      intro h
      have hd := of_decide_eq_false (hr h)
      rw [e0, hY, hph _ (by omega) (by omega) (by omega)]
    split
    · rfl
    · exact er (by assumption)
    · rw [w1]
  · rw [if_neg hc, if_neg hc]
    unfold aV
    rw [hlen, w1]
    have e4 : (grY Y q1 q2 q3).2.2.2.1 = Y.2.2.2.1 := rfl
    rw [e4]
    by_cases h23 : kCl.getD i 0 < 23
    · rw [if_pos h23, if_pos h23]
    · rw [if_neg h23, if_neg h23]
      by_cases h24 : kCl.getD i 0 = 23
      · rw [if_pos h24, if_pos h24]; rfl
      · rw [if_neg h24, if_neg h24]
        have h4 := gr_arr i hi (by omega)
        congr 7
        funext j
        rw [e0, hY]
        congr 1
        rcases h4 with rfl | rfl | rfl
        · exact hph (57 + 6 * j) (by omega) (by omega) (by omega)
        · exact hph (81 + j) (by omega) (by omega) (by omega)
        · exact hph (84 + 3 * j) (by omega) (by omega) (by omega)
theorem cell_gr16 {Y : Ev} {w : Wd} {q1 q2 q3 : Nat} (hY : Y.1 = SC) : cellW (grY Y q1 q2 q3) (grW (yc Y) w) 16 = .inr (5, ((((List.range (nfl 5)).map (fV Y w 5 16)).set 5 (.ref q1)).set 6 (.ref q2)).set 7 (.ref q3)) := by
  obtain ⟨S, a, b, c, f, k, v, n⟩ := Y
  have hY : S = SC := hY
  subst hY
  rw [cell_obj (c := 5) rfl (by decide)]
  congr 2
theorem gr_mv (Y : Ev) (q1 q2 q3 : Nat) : MV Y (grY Y q1 q2 q3) := by
  refine ⟨rfl, rfl, rfl, rfl, rfl, rfl, fun i hi => ?_, ?_⟩
  · unfold mvb at hi
    have := of_decide_eq_false hi
    show (if i = 18 then q1 else if i = 19 then q2 else if i = 20 then q3 else ph Y i) = _
    rw [if_neg (by omega), if_neg (by omega), if_neg (by omega)]
  · show yc Y ≤ 2 * yc Y
    omega
theorem gr_ij {Y : Ev} {q1 q2 q3 : Nat} (hI : IJ Y) (hne : ∀ i, i < Y.1.1 → ph Y i ≠ q1 ∧ ph Y i ≠ q2 ∧ ph Y i ≠ q3) (h12 : q1 ≠ q2) (h13 : q1 ≠ q3) (h23 : q2 ≠ q3) : IJ (grY Y q1 q2 q3) := by
  intro i j hi hj e
  have hi : i < Y.1.1 := hi
  have hj : j < Y.1.1 := hj
  have e : (if i = 18 then q1 else if i = 19 then q2 else if i = 20 then q3 else ph Y i) = (if j = 18 then q1 else if j = 19 then q2 else if j = 20 then q3 else ph Y j) := e
  obtain ⟨a4, a5, a6⟩ := hne i hi
  obtain ⟨b4, b5, b6⟩ := hne j hj
  by_cases a1 : i = 18
  · rw [if_pos a1] at e
    split at e
    · omega
    · split at e
      · exact absurd e h12
      · split at e
        · exact absurd e h13
        · exact absurd e.symm b4
  · rw [if_neg a1] at e
    by_cases a2 : i = 19
    · rw [if_pos a2] at e
      split at e
      · exact absurd e.symm h12
      · split at e
        · omega
        · split at e
          · exact absurd e h23
          · exact absurd e.symm b5
    · rw [if_neg a2] at e
      by_cases a3 : i = 20
      · rw [if_pos a3] at e
        split at e
        · exact absurd e.symm h13
        · split at e
          · exact absurd e.symm h23
          · split at e
            · omega
            · exact absurd e.symm b6
      · rw [if_neg a3] at e
        split at e
        · exact absurd e a4
        · split at e
          · exact absurd e a5
          · split at e
            · exact absurd e a6
            · exact hI i j hi hj e
theorem room2 {cp : Nat} (h : cp ≤ 100000) : (Int32.ofNat (2 * cp)).toNatClampNeg = 2 * cp ∧ (Int32.ofNat (2 * cp) * 8).toNatClampNeg = 16 * cp ∧ ¬ Int32.ofNat (2 * cp) < 0 ∧ ¬ Int32.ofNat (2 * cp) * 8 < 0 := by
  have e8 : Int32.ofNat (2 * cp) * 8 = nI (16 * cp) := by
    show nI (2 * cp) * nI 8 = nI (16 * cp)
    rw [pk_mul]
    congr 1; omega
  rw [e8]
  exact ⟨nI_clamp (by omega), nI_clamp (by omega), nI_pos (by omega), nI_pos (by omega)⟩
set_option maxHeartbeats 4000000 in
set_option maxRecDepth 100000 in
theorem bw_grow {Z : Cz (Int32 × Wd × Nat)} {Y0 : Ev} {w : Wd} {x2 : Int32} {out : Option (Int32 × Wd × Nat)} (hZ : OKZ Z SC cX5_addRow RX5 3 (some .int) 6) (hE : EndM QMI cI Y0 Z) (hroom : w.1 16 4 = Int32.ofNat (2 * yc (zY Z))) (h0 : 32 ≤ yc (zY Z)) (hb : yc (zY Z) ≤ 100000) (hcap : ∀ q, out = some q → 2 * yc (zY Z) ≤ cI q)
    (kk : ∀ Z1 : Cz (Int32 × Wd × Nat), OKZ Z1 SC cX5_addRow RX5 3 (some .int) 6 → EndM QMI cI Y0 Z1 → yc (zY Z1) = 2 * yc (zY Z) → BW Z1 3 64 [(0, .ref (ph (zY Z1) 16)), (1, .ref (ph (zY Z1) 11)), (2, .int x2)] [] (grW (yc (zY Z)) w) out) : BW Z 3 21 [(0, .ref (ph (zY Z) 16)), (1, .ref (ph (zY Z) 11)), (2, .int x2)] [] w out := by
  intro hr H locs ls hP hS hl
  have hYS : (zY Z).1 = SC := hZ_S hZ
  have hN : (zY Z).1.1 = 96 := by rw [hYS]; rfl
  have hx := hZ.1
  have hbc := hZ.2.1
  have hml := hZ.2.2.1
  have hts := hZ.2.2.2.2.1
  have hown := hZ.2.2.2.1
  have hK := hZ.2.2.2.2.2.2.2.1
  have hR := hZ.2.2.2.2.2.2.2.2.2.2.2.2.2.1
  have hE' := hE
  obtain ⟨e1, e2, e3, e4, e5, e6, e7⟩ := hE
  have m1 := e2.2.2.2.2.2.2.2
  have hcr := hcap _ hr
  have hc : vwCl[5]? = some (RX5, TX5, 10) := rfl
  have hin := inG5
  have hty : ∀ k, k < 10 → parseFieldDescriptor (TX5 k).2.2.1 = some (tyOf 5 k) := ty_5
  have hnm := nmX5
  have dA : parseFieldDescriptor (TX5 5).2.2.1 = some (.array .int) := hty 5 (by decide)
  have dB : parseFieldDescriptor (TX5 6).2.2.1 = some (.array .int) := hty 6 (by decide)
  have dC : parseFieldDescriptor (TX5 7).2.2.1 = some (.array .int) := hty 7 (by decide)
  have lk4 : Cond.fieldLink RX5 15 (TX5 4).1 (TX5 4).2.1 (TX5 4).2.2.1 ∈ GT := gt_2 209 rfl rfl
  have lk5 : Cond.fieldLink RX5 19 (TX5 5).1 (TX5 5).2.1 (TX5 5).2.2.1 ∈ GT := gt_2 210 rfl rfl
  have lk6 : Cond.fieldLink RX5 22 (TX5 6).1 (TX5 6).2.1 (TX5 6).2.2.1 ∈ GT := gt_2 211 rfl rfl
  have lk7 : Cond.fieldLink RX5 25 (TX5 7).1 (TX5 7).2.1 (TX5 7).2.2.1 ∈ GT := gt_2 212 rfl rfl
  have v4 : fV (zY Z) w 5 16 4 = .int (w.1 16 4) := rfl
  have v5 : fV (zY Z) w 5 16 5 = .ref (ph (zY Z) 18) := by
    show Value.ref (ph (zY Z) ((zY Z).1.2.2.2 16 5)) = _
    rw [hYS]; rfl
  have v6 : fV (zY Z) w 5 16 6 = .ref (ph (zY Z) 19) := by
    show Value.ref (ph (zY Z) ((zY Z).1.2.2.2 16 6)) = _
    rw [hYS]; rfl
  have k18 : cellW (zY Z) w 18 = .inl ((zY Z).2.2.2.1 20, 8 * yc (zY Z), .inl (w.1 18)) := by
    rw [cell_int (t := 20) (by rw [hYS]; rfl) (by decide) (by decide), hYS]; rfl
  have k19 : cellW (zY Z) w 19 = .inl ((zY Z).2.2.2.1 20, yc (zY Z), .inl (w.1 19)) := by
    rw [cell_int (t := 20) (by rw [hYS]; rfl) (by decide) (by decide), hYS]; rfl
  obtain ⟨r1, r2, r3, r4⟩ := room2 hb
  generalize hfs0 : (List.range (nfl 5)).map (fV (zY Z) w 5 16) = fs0
  have hfl0 : fs0.length = 10 := by rw [← hfs0, List.length_map, List.length_range]; rfl
  have g4 : fs0[4]? = some (.int (w.1 16 4)) := by rw [← hfs0, List.getElem?_map, List.getElem?_range (by decide), Option.map_some, v4]
  have g5 : fs0[5]? = some (.ref (ph (zY Z) 18)) := by rw [← hfs0, List.getElem?_map, List.getElem?_range (by decide), Option.map_some, v5]
  have g6 : fs0[6]? = some (.ref (ph (zY Z) 19)) := by rw [← hfs0, List.getElem?_map, List.getElem?_range (by decide), Option.map_some, v6]
  have hP0 : va_P ((zY Z).2.1, (zY Z).2.2.1) vwCl (Lx (zY Z) w fs0 []) H := by rw [← hfs0, ← Lx_0 hYS]; exact hP
  have hD0 : va_D (zA Z) (Lx (zY Z) w fs0 []) := by rw [← hfs0, ← Lx_0 hYS]; exact hZ_D hZ w
  unfold ZW
  refine lv_aload_n hx hbc dX5_addRow_21 rfl (lv_at hl 0 rfl) ?_
  refine lv_aload_n hx hbc dX5_addRow_22 rfl (lv_at hl 0 rfl) ?_
  refine va_get (q0 := 16) (ci := 5) (k := 5) (T := TX5) (C := RX5) (N := 10) (ref := (TX5 5).1) hx hbc hts hin hown hK hP0 (Lx_16 hYS) hc (by decide) (hts _ lk5) (fun _ h => h) (v := .ref (ph (zY Z) 18)) g5 dX5_addRow_23 ?_
  refine lv_aload_n hx hbc dX5_addRow_26 rfl (lv_at hl 0 rfl) ?_
  refine va_get (q0 := 16) (ci := 5) (k := 4) (T := TX5) (C := RX5) (N := 10) (ref := (TX5 4).1) hx hbc hts hin hown hK hP0 (Lx_16 hYS) hc (by decide) (hts _ lk4) (fun _ h => h) (v := .int (w.1 16 4)) g4 dX5_addRow_27 ?_
  refine lv_bipush (v := 8) hx hbc dX5_addRow_30 (by decide) ?_
  refine lv_imul hx hbc dX5_addRow_32 ?_
  rw [hroom]
  have hcw1 := cwS_of (Z := Z) hZ (d' := 3) (a := 1) (b := 16 * yc (zY Z)) ms_RX5_90 (by decide)
  have hPc : va_P ((zY Z).2.1, (zY Z).2.2.1) vwCl [(ph (zY Z) 18, .inl ((zY Z).2.2.2.1 20, 8 * yc (zY Z), .inl (w.1 18)))] H := by
    intro k q hq
    have hz : k < 1 := (List.getElem?_eq_some_iff.mp hq).1
    rw [show k = 0 by omega] at hq
    cases hq
    rw [← k18]
    exact hP0 18 _ (Lx_at hYS (by decide) (by decide))
  have hKc : va_K ((zY Z).2.1, (zY Z).2.2.1) vwCl [((zY Z).2.2.2.1 20, .int)] (zs Z) := hK.sub [0] rfl
  have bl : ∀ (a n sz : Nat) (f : Nat → Int32) (av : List Value), FrameBlind (va_Pc av (fun U => U.heap.size = sz ∧ va_P ((zY Z).2.1, (zY Z).2.2.1) vwCl [(a, .inl ((zY Z).2.2.2.1 20, n, .inl f))] U.heap ∧ va_K ((zY Z).2.1, (zY Z).2.2.1) vwCl [((zY Z).2.2.2.1 20, .int)] U)) := by
    intro a n sz f av x U g mk q
    obtain ⟨q0, q1, q2, q3⟩ := q
    exact ⟨q0, q1, q2, va_K.moved (u := U) (U := U.calling g mk x) (Vm.Alike.refl U.vm) q3⟩
  have run1 := va_runS (H := H) (locs := locs) (cells := zu Z) (slots := zv Z) (p := zp Z) (l := zl Z) (e := ze Z) (below := zb Z) (meth := zme Z) (g := F0 (zm Z) 33 ls ([.ref (ph (zY Z) 18), .int (Int32.ofNat (2 * yc (zY Z)) * 8)].reverse ++ [.ref (ph (zY Z) 16)])) (As := [.ref (ph (zY Z) 18), .int (Int32.ofNat (2 * yc (zY Z)) * 8)]) (rest := [.ref (ph (zY Z) 16)]) (fix_of hZ) (c_copyOf (zl Z) ((zY Z).2.1, (zY Z).2.2.1) ((zY Z).2.2.2.1 20) (ph (zY Z) 18) (8 * yc (zY Z)) (w.1 18) (Int32.ofNat (2 * yc (zY Z)) * 8) (16 * yc (zY Z)) H.size r4 r2 (by omega) (by omega)) hcw1 ⟨bl _ _ _ _ _, fun U hU hW => ⟨rfl, by rw [hU], by rw [hU]; exact hPc, va_K.moved hW.alike hKc⟩⟩ rfl rfl hl.1 rfl (lv_room (Nat.le_of_ble_eq_true rfl)) dX5_addRow_33 (by rw [hR]; constructor; (show zu Z + 1 ≤ zmc Z; rw [e4, e6]; omega); (show zv Z + 16 * yc (zY Z) ≤ zms Z; rw [e5, e7]; omega))
  have h18A : zA Z (ph (zY Z) 18) := hZ.2.2.2.2.2.2.2.2.2.1 18 (by rw [hN]; decide)
  have h19A : zA Z (ph (zY Z) 19) := hZ.2.2.2.2.2.2.2.2.2.1 19 (by rw [hN]; decide)
  refine va_callr run1 hS (fun q _ h => h.elim (fun h => h ▸ h18A) (fun h => e3 q (Nat.le_trans hS.1 h))) (fun q h => h.elim (fun h => h ▸ h18A) (fun h => e3 q (Nat.le_trans hS.1 h))) fun _ q1 t1 H1 locs1 ht1 _ _ hB1 hz1 hk1 hS1 => ?_
  obtain ⟨hq1, hP1⟩ := hB1
  rw [ht1] at hP1
  have hPa := cp_at (e1 := .inl ((zY Z).2.2.2.1 20, 16 * yc (zY Z), .inl (va_cpy (w.1 18) (fun _ => 0) 0 0 (8 * yc (zY Z))))) hP0 hD0 ((Lx_at (i := 18) hYS (by decide) (by decide)).trans (by rw [k18])) hk1 hP1
  have hlt0 : ∀ (k : Nat) (x : Nat × va_E), (Lx (zY Z) w fs0 [])[k]? = some x → x.1 < H.size := fun k x hx => (hP0 k x hx).lt
  have hDa := D_push (e := .inl ((zY Z).2.2.2.1 20, 16 * yc (zY Z), .inl (va_cpy (w.1 18) (fun _ => 0) 0 0 (8 * yc (zY Z))))) hD0 hlt0 hq1 (e3 q1 (Nat.le_trans hS.1 hq1))
  generalize hn1 : (.inl ((zY Z).2.2.2.1 20, 16 * yc (zY Z), .inl (va_cpy (w.1 18) (fun _ => 0) 0 0 (8 * yc (zY Z)))) : va_E) = en1 at hPa hDa
  have hPa : va_P ((zY Z).2.1, (zY Z).2.2.1) vwCl (Lx (zY Z) w fs0 [(q1, en1)]) H1 := by unfold Lx at hPa ⊢; rw [List.append_nil] at hPa; exact hPa
  have hDa : va_D (zA Z) (Lx (zY Z) w fs0 [(q1, en1)]) := by unfold Lx at hDa ⊢; rw [List.append_nil] at hDa; exact hDa
  refine va_put (q0 := 16) (ci := 5) (k := 5) (T := TX5) (C := RX5) (N := 10) (ref := (TX5 5).1) hx hbc hts hin (tyOf 5) hty hnm hown hK hPa hDa hS1 (Lx_16 hYS) hc (by decide) (hts _ lk5) (fun _ h => h) rfl dA rfl rfl (by rw [hfl0]; decide) dX5_addRow_36 ?_
  intro H2 locs2 hP2 hD2 hS2
  rw [Lx_set hYS] at hP2 hD2
  have b4 : (fs0.set 5 (.ref q1))[4]? = some (.int (w.1 16 4)) := by rw [List.getElem?_set_ne (by decide)]; exact g4
  have b6 : (fs0.set 5 (.ref q1))[6]? = some (.ref (ph (zY Z) 19)) := by rw [List.getElem?_set_ne (by decide)]; exact g6
  refine lv_aload_n hx hbc dX5_addRow_39 rfl (lv_at hl 0 rfl) ?_
  refine lv_aload_n hx hbc dX5_addRow_40 rfl (lv_at hl 0 rfl) ?_
  refine va_get (q0 := 16) (ci := 5) (k := 6) (T := TX5) (C := RX5) (N := 10) (ref := (TX5 6).1) hx hbc hts hin hown hK hP2 (Lx_16 hYS) hc (by decide) (hts _ lk6) (fun _ h => h) (v := .ref (ph (zY Z) 19)) b6 dX5_addRow_41 ?_
  refine lv_aload_n hx hbc dX5_addRow_44 rfl (lv_at hl 0 rfl) ?_
  refine va_get (q0 := 16) (ci := 5) (k := 4) (T := TX5) (C := RX5) (N := 10) (ref := (TX5 4).1) hx hbc hts hin hown hK hP2 (Lx_16 hYS) hc (by decide) (hts _ lk4) (fun _ h => h) (v := .int (w.1 16 4)) b4 dX5_addRow_45 ?_
  rw [hroom]
  have hcw2 := cwS_of (Z := Z) hZ (d' := 3) (a := 1) (b := 2 * yc (zY Z)) ms_RX5_90 (by decide)
  have hPc2 : va_P ((zY Z).2.1, (zY Z).2.2.1) vwCl [(ph (zY Z) 19, .inl ((zY Z).2.2.2.1 20, yc (zY Z), .inl (w.1 19)))] H2 := by
    intro k q hq
    have hz : k < 1 := (List.getElem?_eq_some_iff.mp hq).1
    rw [show k = 0 by omega] at hq
    cases hq
    rw [← k19]
    exact hP2 19 _ (Lx_at hYS (by decide) (by decide))
  have run2 := va_runS (H := H2) (locs := locs2) (cells := zu Z + 1) (slots := zv Z + 16 * yc (zY Z)) (p := zp Z) (l := zl Z) (e := ze Z) (below := zb Z) (meth := zme Z) (g := F0 (zm Z) 48 ls ([.ref (ph (zY Z) 19), .int (Int32.ofNat (2 * yc (zY Z)))].reverse ++ [.ref (ph (zY Z) 16)])) (As := [.ref (ph (zY Z) 19), .int (Int32.ofNat (2 * yc (zY Z)))]) (rest := [.ref (ph (zY Z) 16)]) (fix_of hZ) (c_copyOf (zl Z) ((zY Z).2.1, (zY Z).2.2.1) ((zY Z).2.2.2.1 20) (ph (zY Z) 19) (yc (zY Z)) (w.1 19) (Int32.ofNat (2 * yc (zY Z))) (2 * yc (zY Z)) H2.size r3 r1 (by omega) (by omega)) hcw2 ⟨bl _ _ _ _ _, fun U hU hW => ⟨rfl, by rw [hU], by rw [hU]; exact hPc2, va_K.moved hW.alike hKc⟩⟩ rfl rfl hl.1 rfl (lv_room (Nat.le_of_ble_eq_true rfl)) dX5_addRow_48 (by rw [hR]; constructor; (show zu Z + 1 + 1 ≤ zmc Z; rw [e4, e6]; omega); (show zv Z + 16 * yc (zY Z) + 2 * yc (zY Z) ≤ zms Z; rw [e5, e7]; omega))
  refine va_callr run2 hS2 (fun q _ h => h.elim (fun h => h ▸ h19A) (fun h => e3 q (Nat.le_trans hS2.1 h))) (fun q h => h.elim (fun h => h ▸ h19A) (fun h => e3 q (Nat.le_trans hS2.1 h))) fun _ q2 t3 H3 locs3 ht3 _ _ hB3 hz3 hk3 hS3 => ?_
  obtain ⟨hq2, hP3⟩ := hB3
  rw [ht3] at hP3
  have hPb := cp_at (e1 := .inl ((zY Z).2.2.2.1 20, 2 * yc (zY Z), .inl (va_cpy (w.1 19) (fun _ => 0) 0 0 (yc (zY Z))))) hP2 hD2 ((Lx_at (i := 19) hYS (by decide) (by decide)).trans (by rw [k19])) hk3 hP3
  have hlt2 : ∀ (k : Nat) (x : Nat × va_E), (Lx (zY Z) w (fs0.set 5 (.ref q1)) [(q1, en1)])[k]? = some x → x.1 < H2.size := fun k x hx => (hP2 k x hx).lt
  have hDb := D_push (e := .inl ((zY Z).2.2.2.1 20, 2 * yc (zY Z), .inl (va_cpy (w.1 19) (fun _ => 0) 0 0 (yc (zY Z))))) hD2 hlt2 hq2 (e3 q2 (Nat.le_trans hS2.1 hq2))
  generalize hn2 : (.inl ((zY Z).2.2.2.1 20, 2 * yc (zY Z), .inl (va_cpy (w.1 19) (fun _ => 0) 0 0 (yc (zY Z)))) : va_E) = en2 at hPb hDb
  have hPb : va_P ((zY Z).2.1, (zY Z).2.2.1) vwCl (Lx (zY Z) w (fs0.set 5 (.ref q1)) [(q1, en1), (q2, en2)]) H3 := by unfold Lx at hPb ⊢; rw [List.append_assoc] at hPb; exact hPb
  have hDb : va_D (zA Z) (Lx (zY Z) w (fs0.set 5 (.ref q1)) [(q1, en1), (q2, en2)]) := by unfold Lx at hDb ⊢; rw [List.append_assoc] at hDb; exact hDb
  refine va_put (q0 := 16) (ci := 5) (k := 6) (T := TX5) (C := RX5) (N := 10) (ref := (TX5 6).1) hx hbc hts hin (tyOf 5) hty hnm hown hK hPb hDb hS3 (Lx_16 hYS) hc (by decide) (hts _ lk6) (fun _ h => h) rfl dB rfl rfl (by rw [List.length_set, hfl0]; decide) dX5_addRow_51 ?_
  intro H4 locs4 hP4 hD4 hS4
  rw [Lx_set hYS] at hP4 hD4
  have d4 : ((fs0.set 5 (.ref q1)).set 6 (.ref q2))[4]? = some (.int (w.1 16 4)) := by rw [List.getElem?_set_ne (by decide)]; exact b4
  refine lv_aload_n hx hbc dX5_addRow_54 rfl (lv_at hl 0 rfl) ?_
  refine lv_aload_n hx hbc dX5_addRow_55 rfl (lv_at hl 0 rfl) ?_
  refine va_get (q0 := 16) (ci := 5) (k := 4) (T := TX5) (C := RX5) (N := 10) (ref := (TX5 4).1) hx hbc hts hin hown hK hP4 (Lx_16 hYS) hc (by decide) (hts _ lk4) (fun _ h => h) (v := .int (w.1 16 4)) d4 dX5_addRow_56 ?_
  rw [hroom]
  refine va_newa (ty := .int) (N' := 2 * yc (zY Z)) (a0 := (2 * yc (zY Z), .inl (fun _ => 0))) hx hbc (hts _ (gt_1 184 rfl rfl)) rfl hK hP4 hD4 hS4 e3 (fun cA => rfl) r3 r1 (by show 2 * yc (zY Z) * 4 ≤ _; omega) (by rw [hR]; show zu Z + 1 + 1 + 1 ≤ zmc Z; rw [e4, e6]; omega) (by rw [hR]; show zv Z + 16 * yc (zY Z) + 2 * yc (zY Z) + 2 * yc (zY Z) ≤ zms Z; rw [e5, e7]; omega) dX5_addRow_59 ?_
  intro q3 cA H5 hK5 hP5 hD5 hS5
  have hcA : cA = (zY Z).2.2.2.1 20 := by
    have x1 := (hK5.2 0 _ rfl).2
    have x2 := (hK5.2 7 _ rfl).2
    exact Option.some.inj (x2.symm.trans x1)
  subst hcA
  generalize hn3 : (.inl ((zY Z).2.2.2.1 20, 2 * yc (zY Z), .inl (fun _ => (0 : Int32))) : va_E) = en3 at hP5 hD5
  have hP5 : va_P ((zY Z).2.1, (zY Z).2.2.1) vwCl (Lx (zY Z) w ((fs0.set 5 (.ref q1)).set 6 (.ref q2)) [(q1, en1), (q2, en2), (q3, en3)]) H5 := by unfold Lx at hP5 ⊢; rw [List.append_assoc] at hP5; exact hP5
  have hD5 : va_D (zA Z) (Lx (zY Z) w ((fs0.set 5 (.ref q1)).set 6 (.ref q2)) [(q1, en1), (q2, en2), (q3, en3)]) := by unfold Lx at hD5 ⊢; rw [List.append_assoc] at hD5; exact hD5
  refine va_put (q0 := 16) (ci := 5) (k := 7) (T := TX5) (C := RX5) (N := 10) (ref := (TX5 7).1) hx hbc hts hin (tyOf 5) hty hnm hown hK hP5 hD5 hS5 (Lx_16 hYS) hc (by decide) (hts _ lk7) (fun _ h => h) rfl dC rfl rfl (by rw [List.length_set, List.length_set, hfl0]; decide) dX5_addRow_61 ?_
  intro H6 locs6 hP6 hD6 hS6
  rw [Lx_set hYS] at hP6 hD6
  have n1 : (Lx (zY Z) w (((fs0.set 5 (.ref q1)).set 6 (.ref q2)).set 7 (.ref q3)) [(q1, en1), (q2, en2), (q3, en3)])[96]? = some (q1, en1) := by rw [show 96 = 96 + 0 from rfl, Lx_new hYS]; rfl
  have n2 : (Lx (zY Z) w (((fs0.set 5 (.ref q1)).set 6 (.ref q2)).set 7 (.ref q3)) [(q1, en1), (q2, en2), (q3, en3)])[97]? = some (q2, en2) := by rw [show 97 = 96 + 1 from rfl, Lx_new hYS]; rfl
  have n3 : (Lx (zY Z) w (((fs0.set 5 (.ref q1)).set 6 (.ref q2)).set 7 (.ref q3)) [(q1, en1), (q2, en2), (q3, en3)])[98]? = some (q3, en3) := by rw [show 98 = 96 + 2 from rfl, Lx_new hYS]; rfl
  have hY1S : (grY (zY Z) q1 q2 q3).1 = SC := hYS
  have hRP : RP (grY (zY Z) q1 q2 q3) (grW (yc (zY Z)) w) H6 := by
    intro i q hq
    obtain ⟨hi, rfl⟩ := ws_get hq
    have hi96 : i < 96 := by have : (grY (zY Z) q1 q2 q3).1.1 = 96 := hN; omega
    by_cases c18 : i = 18
    · subst c18
      have ec : cellW (grY (zY Z) q1 q2 q3) (grW (yc (zY Z)) w) 18 = en1 := by
        rw [cell_int (t := 20) (by rw [hY1S]; rfl) (by decide) (by decide), hY1S, ← hn1]
        show (.inl ((zY Z).2.2.2.1 20, 8 * (2 * yc (zY Z)), .inl (va_cpy (w.1 18) (fun _ => 0) 0 0 (8 * yc (zY Z)))) : va_E) = _
        rw [show 8 * (2 * yc (zY Z)) = 16 * yc (zY Z) by omega]
      rw [ec]
      exact hP6 96 _ n1
    · by_cases c19 : i = 19
      · subst c19
        have ec : cellW (grY (zY Z) q1 q2 q3) (grW (yc (zY Z)) w) 19 = en2 := by
          rw [cell_int (t := 20) (by rw [hY1S]; rfl) (by decide) (by decide), hY1S, ← hn2]; rfl
        rw [ec]
        exact hP6 97 _ n2
      · by_cases c20 : i = 20
        · subst c20
          have ec : cellW (grY (zY Z) q1 q2 q3) (grW (yc (zY Z)) w) 20 = en3 := by
            rw [cell_int (t := 20) (by rw [hY1S]; rfl) (by decide) (by decide), hY1S, ← hn3]; rfl
          rw [ec]
          exact hP6 98 _ n3
        · have hphi : ph (grY (zY Z) q1 q2 q3) i = ph (zY Z) i := by
            show (if i = 18 then q1 else if i = 19 then q2 else if i = 20 then q3 else ph (zY Z) i) = _
            rw [if_neg c18, if_neg c19, if_neg c20]
          rw [hphi]
          by_cases c16 : i = 16
          · subst c16
            rw [cell_gr16 hYS, hfs0]
            exact hP6 16 _ (Lx_16 hYS)
          · rw [cell_gr hYS hi96 c16 c18 c19 c20]
            exact hP6 i _ (Lx_at hYS hi96 c16)
  have hat : ∀ i, i < 96 → ∃ e, (Lx (zY Z) w (((fs0.set 5 (.ref q1)).set 6 (.ref q2)).set 7 (.ref q3)) [(q1, en1), (q2, en2), (q3, en3)])[i]? = some (ph (zY Z) i, e) := by
    intro i hi
    by_cases c16 : i = 16
    · subst c16; exact ⟨_, Lx_16 hYS⟩
    · exact ⟨_, Lx_at hYS hi c16⟩
  have hne : ∀ i, i < (zY Z).1.1 → ph (zY Z) i ≠ q1 ∧ ph (zY Z) i ≠ q2 ∧ ph (zY Z) i ≠ q3 := by
    intro i hi
    have hi : i < 96 := by omega
    obtain ⟨e, he⟩ := hat i hi
    refine ⟨fun h => ?_, fun h => ?_, fun h => ?_⟩
    · have := hD6.1 i 96 _ _ he n1 h; omega
    · have := hD6.1 i 97 _ _ he n2 h; omega
    · have := hD6.1 i 98 _ _ he n3 h; omega
  have hI1 := gr_ij (q1 := q1) (q2 := q2) (q3 := q3) hZ.2.2.2.2.2.2.2.2.1 hne (fun h => absurd (hD6.1 96 97 _ _ n1 n2 h) (by decide)) (fun h => absurd (hD6.1 96 98 _ _ n1 n3 h) (by decide)) (fun h => absurd (hD6.1 97 98 _ _ n2 n3 h) (by decide))
  have hA1 : ∀ i, i < (grY (zY Z) q1 q2 q3).1.1 → zA Z (ph (grY (zY Z) q1 q2 q3) i) := by
    intro i hi
    show zA Z (if i = 18 then q1 else if i = 19 then q2 else if i = 20 then q3 else ph (zY Z) i)
    split
    · exact hD6.2 96 _ n1
    · split
      · exact hD6.2 97 _ n2
      · split
        · exact hD6.2 98 _ n3
        · exact hZ.2.2.2.2.2.2.2.2.2.1 i hi
  have hyc : yc (grY (zY Z) q1 q2 q3) = 2 * yc (zY Z) := rfl
  obtain ⟨k1, k2⟩ := mvZ_ok (c := 0) (Y1 := grY (zY Z) q1 q2 q3) hZ hE' (Or.inr trivial) (gr_mv _ _ _ _) hI1 hA1 (by rw [hyc]; exact hcr)
  have p16 : ph (grY (zY Z) q1 q2 q3) 16 = ph (zY Z) 16 := rfl
  have p11 : ph (grY (zY Z) q1 q2 q3) 11 = ph (zY Z) 11 := rfl
  have key := kk _ k1 k2 hyc hr H6 locs6 ls hRP hS6 (by show lv_has ls 3 [(0, .ref (ph (grY (zY Z) q1 q2 q3) 16)), (1, .ref (ph (grY (zY Z) q1 q2 q3) 11)), (2, .int x2)]; rw [p16, p11]; exact hl)
  rw [hyc] at key
  refine W.widen (k := zu Z + (2 * yc (zY Z) - yc (zY Z))) (n := zv Z + 20 * (2 * yc (zY Z) - yc (zY Z))) (by omega) (by omega) ?_
  exact key
def wC (w : Wd) (o : Nat) (f : Nat → Int32) : Wd := (fun a => if a = o then f else w.1 a, w.2)
theorem ws_cpy {Y : Ev} {w : Wd} {o : Nat} {f : Nat → Int32} (ho : o < Y.1.1) (hk : Y.1.2.1 o = 20) : (wsW Y w).set o (ph Y o, .inl (Y.2.2.2.1 20, Y.1.2.2.1 (yc Y) o, .inl f)) = wsW Y (wC w o f) := by
  refine ws_set ho (fun id h => cell_congr (by simp [wC, h]) rfl) ?_
  rw [cell_int hk (by decide) (by decide)]
  simp [wC]
def aok (sp dp n : Int32) (a b : Nat) : Bool := decide (¬ sp < 0 ∧ ¬ dp < 0 ∧ ¬ n < 0 ∧ sp.toNatClampNeg + n.toNatClampNeg ≤ a ∧ dp.toNatClampNeg + n.toNatClampNeg ≤ b)
theorem bw_acopy {ρ : Type} {Z : Cz ρ} {S : Shp} {dd : Nat} {cc : ByteArray} {own : String} {nL : Nat} {ret : Option FieldType} {pc : Nat} {lv : List (Nat × Value)} {st : List Value} {w : Wd} {i o o' a b : Nat} {sp dp n : Int32} {F : Wd → Option ρ} (hZ : OKZ Z S cc own nL ret dd) (hl1 : Cond.methodLink own i arraycopyName ∈ GT) (hd : 2 ≤ dd) (ar : AR S (yc (zY Z)) o 20 a) (ar' : AR S (yc (zY Z)) o' 20 b) (hW : (st.map fun v => v.category).sum ≤ 8) (d : decode cc pc = .ok (.invokestatic i, 3)) (kk : ∀ w1, BW Z nL (pc + 3) lv st w1 (F w1)) : BW Z nL pc lv (.int n :: .int dp :: .ref (ph (zY Z) o') :: .int sp :: .ref (ph (zY Z) o) :: st) w (if aok sp dp n a b = true then lt (wC w o' (va_cpy (w.1 o) (w.1 o') sp.toNatClampNeg dp.toNatClampNeg n.toNatClampNeg)) F else none) := bw_ck fun hi => by
  intro hr H locs ls hP hS hl
  obtain ⟨h1, h2, h3⟩ := hZ_a hZ _ ar
  obtain ⟨g1, g2, g3⟩ := hZ_a hZ _ ar'
  obtain ⟨c1, c2, c3, c4, c5⟩ := of_decide_eq_true hi
  have hR := hZ.2.2.2.2.2.2.2.2.2.2.2.2.2.1
  have hts := hZ.2.2.2.2.1
  have hnf : nativeFrameWords "java/lang/System" "arraycopy" 5 + 11 ≤ 60 := by decide
  refine va_copyi (q0 := o) (q1 := o') (t0 := 0) (t1 := 0) (n0 := a) (n1 := b) (f := w.1 o) (g := w.1 o') (ty := .int) hZ.1 hZ.2.1 (hZ.2.2.1.trans hl.1.symm) hZ.2.2.2.1 (hts _ hl1) (hts _ (gt_6 91 rfl rfl)) (hts _ (gt_6 90 rfl rfl)) (hts _ (gt_1 21 rfl rfl)) hZ.2.2.2.2.2.2.2.1 hP (hZ_D hZ w) hS ((ws_at _ w h1).trans (by rw [cell_int h2 (by decide) (by decide), h3])) ((ws_at _ w g1).trans (by rw [cell_int g2 (by decide) (by decide), g3])) rfl rfl rfl c1 c2 c3 c4 c5 (fun _ _ => rfl) (by rw [hR]; show 1 ≤ dd; omega) (by rw [hR]; show _ ≤ 40 * dd; omega) d ?_
  intro H1 locs1 hP1 hD1 hS1
  rw [← g3, ws_cpy g1 g2] at hP1
  exact kk _ hr H1 locs1 ls hP1 hS1 hl
def X5_addBody (cp : Nat) (x2 : Int32) (w : Wd) : Option (Int32 × Wd × Nat) :=
  if aok 0 ((w.1 16 1) * 8) 8 8 (8 * cp) = true then
  (lt (wC w 18 (va_cpy (w.1 11) (w.1 18) (Int32.toNatClampNeg 0) (Int32.toNatClampNeg ((w.1 16 1) * 8)) (Int32.toNatClampNeg 8))) fun w1 =>
  if inb x2 256 = true then
  (if inb (w1.1 16 1) cp = true then
  (lt (wI w1 19 (Int32.toNatClampNeg (w1.1 16 1)) (w1.1 21 (Int32.toNatClampNeg x2))) fun w2 =>
  if inb x2 256 = true then
  (lt (wI w2 21 (Int32.toNatClampNeg x2) (w2.1 16 1)) fun w3 =>
  lt (wI w3 16 1 ((w3.1 16 1) + 1)) fun w4 =>
  some ((w4.1 16 1) - 1, w4, cp))
  else none)
  else none)
  else none)
  else none
theorem m_X5_addBody (cp : Nat) (x2 : Int32) (w : Wd) : Mono cI cp (X5_addBody cp x2 w) := mo_if (mo_lt fun _ => mo_if (mo_if (mo_lt fun _ => mo_if (mo_lt fun _ => mo_lt fun _ => mo_some) mo_none) mo_none) mo_none) mo_none
set_option maxRecDepth 100000 in
theorem t_X5_addBody {Y0 : Ev} {Z : Cz (Int32 × Wd × Nat)} (hZ : OKZ Z SC cX5_addRow RX5 3 (some .int) 6) (hE : EndM QMI cI Y0 Z) (x2 : Int32) (w : Wd) : BW Z 3 64 [(0, .ref (ph (zY Z) 16)), (1, .ref (ph (zY Z) 11)), (2, .int x2)] [] w (X5_addBody (yc (zY Z)) x2 w) :=
  bw_aload_n hZ 1 rfl dX5_addRow_64 <| bw_iconst hZ 0 (by decide) dX5_addRow_65 <| bw_aload_n hZ 0 rfl dX5_addRow_66 <| bw_getR hZ fl_RX5_19 obC_16 rfl dX5_addRow_67 <| bw_aload_n hZ 0 rfl dX5_addRow_70 <| bw_getI hZ fl_RX5_47 (by decide) obC_16 dX5_addRow_71 <| bw_bipush hZ 8 (by decide) dX5_addRow_74 <| bw_imul hZ dX5_addRow_76 <| bw_bipush hZ 8 (by decide) dX5_addRow_77 <|
  bw_acopy hZ (gt_6 92 rfl rfl) (by decide) (arC_11 _) (arC_18 _) (Nat.le_of_ble_eq_true rfl) dX5_addRow_79 fun w1 =>
  bw_aload_n hZ 0 rfl dX5_addRow_82 <| bw_getR hZ fl_RX5_22 obC_16 rfl dX5_addRow_83 <| bw_aload_n hZ 0 rfl dX5_addRow_86 <| bw_getI hZ fl_RX5_47 (by decide) obC_16 dX5_addRow_87 <| bw_aload_n hZ 0 rfl dX5_addRow_90 <| bw_getR hZ fl_RX5_28 obC_16 rfl dX5_addRow_91 <| bw_iload_n hZ 2 rfl dX5_addRow_94 <| bw_iald hZ (arC_21 _) dX5_addRow_95 <| bw_iast hZ (arC_19 _) dX5_addRow_96 fun w2 =>
  bw_aload_n hZ 0 rfl dX5_addRow_97 <| bw_getR hZ fl_RX5_28 obC_16 rfl dX5_addRow_98 <| bw_iload_n hZ 2 rfl dX5_addRow_101 <| bw_aload_n hZ 0 rfl dX5_addRow_102 <| bw_getI hZ fl_RX5_47 (by decide) obC_16 dX5_addRow_103 <| bw_iast hZ (arC_21 _) dX5_addRow_106 fun w3 =>
  bw_aload_n hZ 0 rfl dX5_addRow_107 <| bw_dup hZ rfl dX5_addRow_108 <| bw_getI hZ fl_RX5_47 (by decide) obC_16 dX5_addRow_109 <| bw_iconst hZ 1 (by decide) dX5_addRow_112 <| bw_iadd hZ dX5_addRow_113 <| bw_putI hZ fl_RX5_47 rfl rfl (by decide) obC_16 dX5_addRow_114 fun w4 =>
  bw_aload_n hZ 0 rfl dX5_addRow_117 <| bw_getI hZ fl_RX5_47 (by decide) obC_16 dX5_addRow_118 <| bw_iconst hZ 1 (by decide) dX5_addRow_121 <| bw_isub hZ dX5_addRow_122 <| bw_iretM hZ hE dX5_addRow_123
def f_X5_addRow (cp : Nat) (x2 : Int32) (w : Wd) : Option (Int32 × Wd × Nat) :=
  if (w.1 16 1) < (w.1 16 4) then X5_addBody cp x2 w
  else lt (wI w 16 4 ((w.1 16 4) * 2)) fun w1 => if w1.1 16 4 = Int32.ofNat (2 * cp) ∧ 32 ≤ cp ∧ cp ≤ 100000 then X5_addBody (2 * cp) x2 (grW cp w1) else none
theorem m_f_X5_addRow (cp : Nat) (x2 : Int32) (w : Wd) : Mono cI cp (f_X5_addRow cp x2 w) := mo_if (m_X5_addBody cp x2 w) (mo_lt fun w1 => mo_if (fun q h => Nat.le_trans (by omega) (m_X5_addBody (2 * cp) x2 _ q h)) mo_none)
set_option maxRecDepth 100000 in
theorem c_X5_addRow (l : Launch) (Y : Ev) (hY : Y.1 = SC) (x2 : Int32) (w : Wd) : CMI l Y yX5_addRow cX5_addRow 3 6 [.ref (ph Y 16), .ref (ph Y 11), .int x2] w .int (f_X5_addRow (yc Y) x2 w) := by
  refine CMI_of (S := SC) (by decide) (Nat.le_of_ble_eq_true rfl) hY ?_
  intro Z hl hY2 hZ hE
  subst hY2
  exact bw_aload_n hZ 0 rfl dX5_addRow_0 <| bw_getI hZ fl_RX5_47 (by decide) obC_16 dX5_addRow_1 <| bw_aload_n hZ 0 rfl dX5_addRow_4 <| bw_getI hZ fl_RX5_15 (by decide) obC_16 dX5_addRow_5 <| bw_icmp_lt hZ (tgt := 64) (by decide) dX5_addRow_8 (fun _ => t_X5_addBody hZ hE x2 w) (fun _ =>
    bw_aload_n hZ 0 rfl dX5_addRow_11 <| bw_dup hZ rfl dX5_addRow_12 <| bw_getI hZ fl_RX5_15 (by decide) obC_16 dX5_addRow_13 <| bw_iconst hZ 2 (by decide) dX5_addRow_16 <| bw_imul hZ dX5_addRow_17 <| bw_putI hZ fl_RX5_15 rfl rfl (by decide) obC_16 dX5_addRow_18 fun w1 =>
    bw_ck fun hb => bw_grow hZ hE hb.1 hb.2.1 hb.2.2 (m_X5_addBody _ x2 _) fun Z1 hZ1 hE1 hc => hc ▸ t_X5_addBody hZ1 hE1 x2 _)
