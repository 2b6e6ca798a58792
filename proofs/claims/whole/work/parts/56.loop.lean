/-! the law's loop -/
theorem i_add {x y : Int32} (h1 : -2147483648 ≤ x.toInt + y.toInt) (h2 : x.toInt + y.toInt < 2147483648) : (x + y).toInt = x.toInt + y.toInt := by
  rw [Int32.toInt_add]; exact Int.bmod_eq_of_le (by omega) (by omega)
theorem i_sub {x y : Int32} (h1 : -2147483648 ≤ x.toInt - y.toInt) (h2 : x.toInt - y.toInt < 2147483648) : (x - y).toInt = x.toInt - y.toInt := by
  rw [Int32.toInt_sub]; exact Int.bmod_eq_of_le (by omega) (by omega)
theorem i_nat {n : Nat} (h : n < 2147483648) : (Int32.ofNat n).toInt = n := Int32.toInt_ofNat_of_lt h
theorem i_lt {x y : Int32} : x < y ↔ x.toInt < y.toInt := Int32.lt_iff_toInt_lt
theorem vp_of {x : Int32} {n : Nat} (h0 : 0 ≤ x.toInt) (h1 : x.toInt < n) : vp_in x n := by
  have e : x.toNatClampNeg = x.toInt.toNat := rfl
  have z : (0 : Int32).toInt = 0 := rfl
  intro h
  rcases h with h | h
  · rw [i_lt, z] at h; omega
  · omega
theorem ain_of {J : Lz} {x : Int32} (h0 : 0 ≤ x.toInt) (h1 : x.toInt + 6 ≤ (jL J : Int)) (h2 : jL J ≤ 3072) : AIN J x := by
  have e1 : (1 : Int32).toInt = 1 := rfl
  have e2 : (2 : Int32).toInt = 2 := rfl
  have e3 : (3 : Int32).toInt = 3 := rfl
  have e4 : (4 : Int32).toInt = 4 := rfl
  have e5 : (5 : Int32).toInt = 5 := rfl
  have a1 := i_add (x := x) (y := 1) (by omega) (by omega)
  have a2 := i_add (x := x) (y := 2) (by omega) (by omega)
  have a3 := i_add (x := x) (y := 3) (by omega) (by omega)
  have a4 := i_add (x := x) (y := 4) (by omega) (by omega)
  have a5 := i_add (x := x) (y := 5) (by omega) (by omega)
  exact ⟨vp_of (by omega) (by omega), vp_of (by omega) (by omega), vp_of (by omega) (by omega), vp_of (by omega) (by omega), vp_of (by omega) (by omega)⟩
theorem jk_sub {J : Lz} {pc : Nat} {lv lv' : List (Nat × Value)} {st : List Value} {k n : Nat} {Yc Ym : Ev} {wc wm : Wd} (ks : List Nat) (h : lv_pick lv ks = lv') (kk : LJ J pc lv' st k n Yc wc Ym wm) : LJ J pc lv st k n Yc wc Ym wm :=
  fun H locs ls hP hM hS hl => kk H locs ls hP hM hS (lv_sub hl ks h)
def STall (REL : Nat → Wd → Nat → Wd → Prop) : Prop := ST_feed REL ∧ ST_end REL ∧ ST_estate REL ∧ ST_paper REL ∧ ST_fault REL ∧ ST_event REL ∧ ST_told REL ∧ ST_rule REL ∧ ST_look REL ∧ ST_orders REL ∧ ST_item REL ∧ ST_ahead REL ∧ ST_law REL ∧ ST_ring REL ∧ ST_good REL ∧ ST_counts REL ∧ ST_undone REL ∧ ST_ways REL ∧ ST_goes REL ∧ ST_how REL ∧ ST_paid REL ∧ ST_sum REL ∧ ST_lack REL ∧ ST_sure REL ∧ ST_surely REL ∧ ST_hangs REL ∧ ST_outcomes REL ∧ ST_ask REL ∧ ST_says REL ∧ ST_tells REL ∧ ST_stories REL ∧ ST_gain REL ∧ ST_settle REL ∧ ST_floor REL ∧ ST_mend REL ∧ ST_count REL
theorem law_loop {REL : Nat → Wd → Nat → Wd → Prop} (hs : STall REL) (hb : HB REL) (hmo : ∀ n wc c wm, REL n wc c wm → REL (n + 1) wc c wm) {J : Lz} (hJ : JOK J) {Ym : Ev} (hM : WL J SM Ym) (hL : jL J ≤ 3072) : ∀ (f n : Nat) (Yc : Ev) (wc wm : Wd) (x3 : Int32), WL J SC Yc → APT Yc Ym → REL n wc (yc Yc) wm → x3.toInt = 6 * (n : Int) → x3.toInt ≤ 3072 → (jL J : Int) ≤ x3.toInt + f + 5 → LJ J 18 (LVs J Yc Ym x3) [] (kq (yc Yc)) (nq (yc Yc)) Yc wc Ym wm := by
  obtain ⟨h_feed, h_end, h_estate, h_paper, h_fault, h_event, h_told, h_rule, h_look, h_orders, h_item, h_ahead, h_law, h_ring, h_good, h_counts, h_undone, h_ways, h_goes, h_how, h_paid, h_sum, h_lack, h_sure, h_surely, h_hangs, h_outcomes, h_ask, h_says, h_tells, h_stories, h_gain, h_settle, h_floor, h_mend, h_count⟩ := hs
  intro f
  induction f with
  | zero =>
    intro n Yc wc wm x3 hC ha hR h0 h1 h2
    refine jk_iload_n hJ 3 rfl dL_law_18 ?_
    refine jk_aload_n hJ 0 rfl dL_law_19 ?_
    refine jk_len hJ dL_law_20 ?_
    refine jk_bipush hJ 6 rfl dL_law_21 ?_
    refine jk_isub hJ dL_law_23 ?_
    have e6 : (6 : Int32).toInt = 6 := rfl
    have eL := i_nat (n := jL J) (by omega)
    have hy := i_sub (x := Int32.ofNat (jL J)) (y := 6) (by omega) (by omega)
    refine jk_gtT hJ (i_lt.mpr (by omega)) (tgt := 1242) (by decide) dL_law_24 ?_
    refine jk_iconst hJ 1 rfl dL_law_1242 ?_
    exact jk_ret hJ (kq_le (hb _ _ _ _ hR)) (nq_le (hb _ _ _ _ hR)) dL_law_1243
  | succ f ih =>
    intro n Yc wc wm x3 hC ha hR h0 h1 h2
    refine jk_iload_n hJ 3 rfl dL_law_18 ?_
    refine jk_aload_n hJ 0 rfl dL_law_19 ?_
    refine jk_len hJ dL_law_20 ?_
    refine jk_bipush hJ 6 rfl dL_law_21 ?_
    refine jk_isub hJ dL_law_23 ?_
    have e6 : (6 : Int32).toInt = 6 := rfl
    have eL := i_nat (n := jL J) (by omega)
    have hy := i_sub (x := Int32.ofNat (jL J)) (y := 6) (by omega) (by omega)
    by_cases hg : Int32.ofNat (jL J) - 6 < x3
    · refine jk_gtT hJ hg (tgt := 1242) (by decide) dL_law_24 ?_
      refine jk_iconst hJ 1 rfl dL_law_1242 ?_
      exact jk_ret hJ (kq_le (hb _ _ _ _ hR)) (nq_le (hb _ _ _ _ hR)) dL_law_1243
    · refine jk_gtF hJ hg (tgt := 1242) (by decide) dL_law_24 ?_
      rw [i_lt] at hg
      have h6 : x3.toInt + 6 ≤ (jL J : Int) := by omega
      have ex := i_add (x := x3) (y := 6) (by omega) (by omega)
      refine jk_aload_n hJ 0 rfl dL_law_27 ?_
      refine jk_iload_n hJ 3 rfl dL_law_28 ?_
      refine jk_sld hJ (vp_of (by omega) (by omega)) dL_law_29 ?_
      refine jk_bipush hJ 63 rfl dL_law_30 ?_
      refine jk_iand hJ dL_law_32 ?_
      have hi : AIN J x3 := ain_of (by omega) h6 hL
      have hn : n < 512 := by omega
      have kk : KQ REL (n + 1) J Ym x3 := by
        intro Y wc1 wm1 hC1 ha1 _ hR1
        refine jk_iinc hJ (v := x3 + 6) (lv' := [(3, .int (x3 + 6)), (0, .ref (jx J)), (1, .ref (ph Y 0)), (2, .ref (ph Ym 0))]) 3 rfl rfl (by decide) rfl dL_law_1236 ?_
        refine jk_goto hJ (tgt := 18) (by decide) dL_law_1239 ?_
        refine jk_sub [1, 2, 3, 0] rfl ?_
        exact ih (n + 1) Y wc1 wm1 (x3 + 6) hC1 ha1 hR1 (by omega) (by omega) (by omega)
      generalize jxs J x3.toNatClampNeg &&& 63 = z
      have hz : ∀ z : Int, z < 0 ∨ 35 < z ∨ z = 0 ∨ z = 1 ∨ z = 2 ∨ z = 3 ∨ z = 4 ∨ z = 5 ∨ z = 6 ∨ z = 7 ∨ z = 8 ∨ z = 9 ∨ z = 10 ∨ z = 11 ∨ z = 12 ∨ z = 13 ∨ z = 14 ∨ z = 15 ∨ z = 16 ∨ z = 17 ∨ z = 18 ∨ z = 19 ∨ z = 20 ∨ z = 21 ∨ z = 22 ∨ z = 23 ∨ z = 24 ∨ z = 25 ∨ z = 26 ∨ z = 27 ∨ z = 28 ∨ z = 29 ∨ z = 30 ∨ z = 31 ∨ z = 32 ∨ z = 33 ∨ z = 34 ∨ z = 35 := fun z => by omega
      rcases hz z.toInt with hz | hz | hz | hz | hz | hz | hz | hz | hz | hz | hz | hz | hz | hz | hz | hz | hz | hz | hz | hz | hz | hz | hz | hz | hz | hz | hz | hz | hz | hz | hz | hz | hz | hz | hz | hz | hz | hz
      · exact jk_tabOut hJ (Or.inl hz) (tgt := 1236) (by decide) dL_law_33 (kk Yc wc wm hC ha ha.sy (hmo _ _ _ _ hR))
      · exact jk_tabOut hJ (Or.inr hz) (tgt := 1236) (by decide) dL_law_33 (kk Yc wc wm hC ha ha.sy (hmo _ _ _ _ hR))
      · exact jk_tabIn hJ 0 hz (by decide) (by decide) rfl (tgt := 192) (by decide) dL_law_33 (lc_feed h_feed hb hn hJ hC hM ha hR hi kk)
      · exact jk_tabIn hJ 1 hz (by decide) (by decide) rfl (tgt := 255) (by decide) dL_law_33 (lc_end h_end hb hn hJ hC hM ha hR hi kk)
      · exact jk_tabIn hJ 2 hz (by decide) (by decide) rfl (tgt := 278) (by decide) dL_law_33 (lc_estate h_estate hb hn hJ hC hM ha hR hi kk)
      · exact jk_tabIn hJ 3 hz (by decide) (by decide) rfl (tgt := 291) (by decide) dL_law_33 (lc_paper h_paper hb hn hJ hC hM ha hR hi kk)
      · exact jk_tabIn hJ 4 hz (by decide) (by decide) rfl (tgt := 304) (by decide) dL_law_33 (lc_fault h_fault hb hn hJ hC hM ha hR hi kk)
      · exact jk_tabIn hJ 5 hz (by decide) (by decide) rfl (tgt := 327) (by decide) dL_law_33 (lc_event h_event hb hn hJ hC hM ha hR hi kk)
      · exact jk_tabIn hJ 6 hz (by decide) (by decide) rfl (tgt := 390) (by decide) dL_law_33 (lc_told h_told hb hn hJ hC hM ha hR hi kk)
      · exact jk_tabIn hJ 7 hz (by decide) (by decide) rfl (tgt := 413) (by decide) dL_law_33 (lc_rule h_rule hb hn hJ hC hM ha hR hi kk)
      · exact jk_tabIn hJ 8 hz (by decide) (by decide) rfl (tgt := 446) (by decide) dL_law_33 (lc_look h_look hb hn hJ hC hM ha hR hi kk)
      · exact jk_tabIn hJ 9 hz (by decide) (by decide) rfl (tgt := 479) (by decide) dL_law_33 (lc_orders h_orders hb hn hJ hC hM ha hR hi kk)
      · exact jk_tabIn hJ 10 hz (by decide) (by decide) rfl (tgt := 492) (by decide) dL_law_33 (lc_item h_item hb hn hJ hC hM ha hR hi kk)
      · exact jk_tabIn hJ 11 hz (by decide) (by decide) rfl (tgt := 525) (by decide) dL_law_33 (lc_ahead h_ahead hb hn hJ hC hM ha hR hi kk)
      · exact jk_tabIn hJ 12 hz (by decide) (by decide) rfl (tgt := 558) (by decide) dL_law_33 (lc_law h_law hb hn hJ hC hM ha hR hi kk)
      · exact jk_tabIn hJ 13 hz (by decide) (by decide) rfl (tgt := 581) (by decide) dL_law_33 (lc_ring h_ring hb hn hJ hC hM ha hR hi kk)
      · exact jk_tabIn hJ 14 hz (by decide) (by decide) rfl (tgt := 604) (by decide) dL_law_33 (lc_good h_good hb hn hJ hC hM ha hR hi kk)
      · exact jk_tabIn hJ 15 hz (by decide) (by decide) rfl (tgt := 637) (by decide) dL_law_33 (lc_counts h_counts hb hn hJ hC hM ha hR hi kk)
      · exact jk_tabIn hJ 16 hz (by decide) (by decide) rfl (tgt := 670) (by decide) dL_law_33 (lc_undone h_undone hb hn hJ hC hM ha hR hi kk)
      · exact jk_tabIn hJ 17 hz (by decide) (by decide) rfl (tgt := 713) (by decide) dL_law_33 (lc_ways h_ways hb hn hJ hC hM ha hR hi kk)
      · exact jk_tabIn hJ 18 hz (by decide) (by decide) rfl (tgt := 726) (by decide) dL_law_33 (lc_goes h_goes hb hn hJ hC hM ha hR hi kk)
      · exact jk_tabIn hJ 19 hz (by decide) (by decide) rfl (tgt := 759) (by decide) dL_law_33 (lc_how h_how hb hn hJ hC hM ha hR hi kk)
      · exact jk_tabIn hJ 20 hz (by decide) (by decide) rfl (tgt := 792) (by decide) dL_law_33 (lc_paid h_paid hb hn hJ hC hM ha hR hi kk)
      · exact jk_tabIn hJ 21 hz (by decide) (by decide) rfl (tgt := 825) (by decide) dL_law_33 (lc_sum h_sum hb hn hJ hC hM ha hR hi kk)
      · exact jk_tabIn hJ 22 hz (by decide) (by decide) rfl (tgt := 858) (by decide) dL_law_33 (lc_lack h_lack hb hn hJ hC hM ha hR hi kk)
      · exact jk_tabIn hJ 23 hz (by decide) (by decide) rfl (tgt := 881) (by decide) dL_law_33 (lc_sure h_sure hb hn hJ hC hM ha hR hi kk)
      · exact jk_tabIn hJ 24 hz (by decide) (by decide) rfl (tgt := 930) (by decide) dL_law_33 (lc_surely h_surely hb hn hJ hC hM ha hR hi kk)
      · exact jk_tabIn hJ 25 hz (by decide) (by decide) rfl (tgt := 953) (by decide) dL_law_33 (lc_hangs h_hangs hb hn hJ hC hM ha hR hi kk)
      · exact jk_tabIn hJ 26 hz (by decide) (by decide) rfl (tgt := 976) (by decide) dL_law_33 (lc_outcomes h_outcomes hb hn hJ hC hM ha hR hi kk)
      · exact jk_tabIn hJ 27 hz (by decide) (by decide) rfl (tgt := 989) (by decide) dL_law_33 (lc_ask h_ask hb hn hJ hC hM ha hR hi kk)
      · exact jk_tabIn hJ 28 hz (by decide) (by decide) rfl (tgt := 1002) (by decide) dL_law_33 (lc_says h_says hb hn hJ hC hM ha hR hi kk)
      · exact jk_tabIn hJ 29 hz (by decide) (by decide) rfl (tgt := 1045) (by decide) dL_law_33 (lc_tells h_tells hb hn hJ hC hM ha hR hi kk)
      · exact jk_tabIn hJ 30 hz (by decide) (by decide) rfl (tgt := 1088) (by decide) dL_law_33 (lc_stories h_stories hb hn hJ hC hM ha hR hi kk)
      · exact jk_tabIn hJ 31 hz (by decide) (by decide) rfl (tgt := 1111) (by decide) dL_law_33 (lc_gain h_gain hb hn hJ hC hM ha hR hi kk)
      · exact jk_tabIn hJ 32 hz (by decide) (by decide) rfl (tgt := 1134) (by decide) dL_law_33 (lc_settle h_settle hb hn hJ hC hM ha hR hi kk)
      · exact jk_tabIn hJ 33 hz (by decide) (by decide) rfl (tgt := 1147) (by decide) dL_law_33 (lc_floor h_floor hb hn hJ hC hM ha hR hi kk)
      · exact jk_tabIn hJ 34 hz (by decide) (by decide) rfl (tgt := 1170) (by decide) dL_law_33 (lc_mend h_mend hb hn hJ hC hM ha hR hi kk)
      · exact jk_tabIn hJ 35 hz (by decide) (by decide) rfl (tgt := 1213) (by decide) dL_law_33 (lc_count h_count hb hn hJ hC hM ha hR hi kk)
