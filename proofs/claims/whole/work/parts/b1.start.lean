/-! the law's start: both objects are made -/
theorem dL_law_0 : decode code 0 = .ok (.new 7, 3) := by decide +kernel
theorem dL_law_3 : decode code 3 = .ok (.dup, 1) := by decide +kernel
theorem dL_law_4 : decode code 4 = .ok (.invokespecial 9, 3) := by decide +kernel
theorem dL_law_7 : decode code 7 = .ok (.astore_n 1, 1) := by decide +kernel
theorem dL_law_8 : decode code 8 = .ok (.new 10, 3) := by decide +kernel
theorem dL_law_11 : decode code 11 = .ok (.dup, 1) := by decide +kernel
theorem dL_law_12 : decode code 12 = .ok (.invokespecial 12, 3) := by decide +kernel
theorem dL_law_15 : decode code 15 = .ok (.astore_n 2, 1) := by decide +kernel
theorem dL_law_16 : decode code 16 = .ok (.iconst 0, 1) := by decide +kernel
theorem dL_law_17 : decode code 17 = .ok (.istore_n 3, 1) := by decide +kernel
theorem dv_fst {A : Nat → Prop} {ws ws' : va_W} (h : ws'.map Prod.fst = ws.map Prod.fst) (hD : va_D A ws) : va_D A ws' := by
  have key : ∀ (i : Nat) (p : Nat × va_E), ws'[i]? = some p → ∃ p' : Nat × va_E, ws[i]? = some p' ∧ p'.1 = p.1 := by
    intro i p hp
    have e1 : (ws'.map Prod.fst)[i]? = some p.1 := by rw [List.getElem?_map, hp]; rfl
    rw [h, List.getElem?_map] at e1
    cases hw : ws[i]? with
    | none => rw [hw] at e1; cases e1
    | some p' => rw [hw] at e1; exact ⟨p', rfl, Option.some.inj e1⟩
  refine ⟨fun i j x y h1 h2 e => ?_, fun k q hq => ?_⟩
  · obtain ⟨x', a1, a2⟩ := key i x h1
    obtain ⟨y', b1, b2⟩ := key j y h2
    exact hD.1 i j x' y' a1 b1 (a2.trans (e.trans b2.symm))
  · obtain ⟨q', a1, a2⟩ := key k q hq
    rw [← a2]; exact hD.2 k q' a1
set_option maxRecDepth 100000 in
set_option maxHeartbeats 4000000 in
theorem lC_f (D : va_G) (dA : Nat → ClassId) (sk sv : Nat → Nat) (h0 : Nat) (q : Nat → Nat) : (lC D dA sk sv h0 q).map Prod.fst = ((h0, k0_RX11 dA h0 q) :: kr_RX11 dA h0 q).map Prod.fst := rfl
set_option maxRecDepth 100000 in
set_option maxHeartbeats 4000000 in
theorem lC_s (D : va_G) (dA : Nat → ClassId) (sk sv : Nat → Nat) (h0 : Nat) (q : Nat → Nat) : pC.map (fun i => (lC D dA sk sv h0 q)[i]?) = (wsW (yC D dA sk sv h0 q) w0C).map some := rfl
theorem dvC {D : va_G} {dA : Nat → ClassId} {sk sv : Nat → Nat} {h0 : Nat} {q : Nat → Nat} {A : Nat → Prop} (h : va_D A ((h0, k0_RX11 dA h0 q) :: kr_RX11 dA h0 q)) : va_D A (wsW (yC D dA sk sv h0 q) w0C) := (dv_fst (lC_f D dA sk sv h0 q) h).sub pC (by decide) (lC_s D dA sk sv h0 q)
theorem ij_D {Y : Ev} {w : Wd} {A : Nat → Prop} (h : va_D A (wsW Y w)) : IJ Y ∧ ∀ i, i < Y.1.1 → A (ph Y i) := ⟨fun i j hi hj e => h.1 i j _ _ (ws_at Y w hi) (ws_at Y w hj) e, fun i hi => h.2 i _ (ws_at Y w hi)⟩
def KMP (D : va_G) (dA : Nat → ClassId) (sk sv : Nat → Nat) (h0 sz : Nat) (U : State) : Prop := U.heap.size = sz ∧ va_P D vwCl [(h0, .inr (12, blk 12))] U.heap ∧ va_K D vwCl (tysA dA) U ∧ NW U ∧ STR (yM D dA sk sv h0 (fun _ => 0)) (cpA h0 sz) U U.heap
theorem KMP.blind (D : va_G) (dA : Nat → ClassId) (sk sv : Nat → Nat) (h0 sz : Nat) (av : List Value) : FrameBlind (va_Pc av (KMP D dA sk sv h0 sz)) := by
  intro a U g mk h
  obtain ⟨g0, g1, g2, g3, g4, g5, g6, g7, g8⟩ := h
  exact ⟨g0, g1, g2, va_K.moved (u := U) (U := U.calling g mk a) (Vm.Alike.refl U.vm) g3, NW.same (u := U) (U := U.calling g mk a) rfl g4, vk_S.moved (u := U) (U := U.calling g mk a) (Vm.Alike.refl U.vm) g5, fun i hi q hq => (g6 i hi q hq).same rfl, va_Z.moved (u := U) (U := U.calling g mk a) (Vm.Alike.refl U.vm) g7, va_Zq.moved (u := U) (U := U.calling g mk a) (Vm.Alike.refl U.vm) g8⟩
theorem STR_mv {Y : Ev} {A B : Nat → Prop} {s U : State} {H : Heap} {locs : List Loc} (h : STR Y A s s.heap) (hS : va_S A s.heap H locs) (hAB : ∀ q, B q → A q) (hU : U.heap = H) (hW : s.WarmedH U.vm) : STR Y B U U.heap := by
  obtain ⟨h1, h2, h3, h4⟩ := h
  refine ⟨?_, fun i hi q hq => (h2 i hi q hq).warm hW, ?_, ?_⟩
  · rw [hU]; exact ((h1.kept hS.2.1).moved hW.alike).narrow hAB
  · rw [hU]; exact ((h3.kept hS.2.1).moved hW.alike).narrow hAB
  · rw [hU]; exact ((h4.kept hS.2.1).moved hW.alike).narrow hAB
/-- behind both constructors -/
theorem whole_tail {J : Lz} (hJ : JOK J) (hL : jL J ≤ 3072) {Yc Ym : Ev} {k n : Nat} (hC : WL J SC Yc) (hM : WL J SM Ym) (ha : APT Yc Ym) (hy : yc Yc = 32) (hk : k = kq 32) (hn : n = nq 32) {H : Heap} {locs : List Loc} {ls : Array Slot} (hP : RP Yc w0C H) (hQ : RP Ym w1M H) (hS : va_S (jA J) (js J).heap H locs) (hl : lv_has ls 4 [(2, .ref (ph Ym 0)), (1, .ref (ph Yc 0)), (0, .ref (jx J))]) : W (jp J) (jl J) (je J) room_1 (js J) (jm J) #[Value.ref (jx J)] (jb J) (jme J) (jc J) H locs k n (lw_Z (jb J) #[Value.ref (jx J)] (js J)) (F0 (jm J) 16 ls []) := by
  refine lv_iconst (v := 0) hJ.1 hJ.2.1 dL_law_16 (by decide) ?_
  refine lv_istore_n (lv' := [(3, .int 0), (2, .ref (ph Ym 0)), (1, .ref (ph Yc 0)), (0, .ref (jx J))]) hJ.1 hJ.2.1 dL_law_17 rfl hl (by decide) rfl (fun ls hl => ?_)
  have hr : RELN 0 w0C (yc Yc) w1M := by rw [hy]; exact rl_0
  have h0 : ((0 : Int32).toInt) = 6 * ((0 : Nat) : Int) := by decide
  have q := law_loop st_all rl_hb rl_mo hJ hM hL (jL J) 0 Yc w0C w1M 0 hC ha hr h0 (by decide) (by rw [h0]; omega) H locs ls hP hQ hS (lv_sub hl [3, 2, 1, 0] rfl)
  rw [hy] at q
  rw [hk, hn]
  exact q
set_option maxRecDepth 100000 in
set_option maxHeartbeats 4000000 in
/-- from the entry, for every script of at most 3072 ints, the law comes to its end with true -/
theorem whole_start {p : Program} {e : Env} {s : State} {m : MethodId} {below : List Frame} {meth : Method} {c : Code} (l : Launch) {b L : Nat} {xs : Nat → Int32} (hL : L ≤ 3072) (C0 : lw_At p s m meth c b L xs) : W p l e room_1 s m #[Value.ref b] below meth c s.heap [] 0 0 (lw_Z below #[Value.ref b] s) (entryFrame m ([Value.ref b] : List Value).toArray 4) := by
  have hJ : JOK (p, l, e, s, m, below, meth, c, b, L, xs) := C0
  obtain ⟨hx, hb, hr, hml, hown, hts, hX, hbl, hlocks, hgv⟩ := id C0
  have hg : ∀ w ∈ GT, w.before #[Value.ref b] s = true := fun w hw => hts w (List.mem_filter.mp hw).1
  have hn : ∀ w ∈ nwF, w.before #[Value.ref b] s = true := flat_of_before _ hgv
  have hA : ∀ q : Nat, s.heap.size ≤ q → (fun q : Nat => s.heap.size ≤ q) q := fun _ h => h
  obtain ⟨D, dA, hK⟩ := k_all hts
  have hNW := nw_all hts
  obtain ⟨sk, sv, hST⟩ := st_text (A := fun q : Nat => s.heap.size ≤ q) hts hn (fun a h => Nat.not_le.mpr h)
  have hfix : CallFix p m c code 4 s #[Value.ref b] GT RL := ⟨hx, hb, hml, hown, hg⟩
  have hS : va_S (fun q : Nat => s.heap.size ≤ q) s.heap s.heap [] := va_S.rf
  have hP : va_P D vwCl [] s.heap := fun k q h => by simp at h
  have hD : va_D (fun q : Nat => s.heap.size ≤ q) [] := ⟨fun i j p q h => by simp at h, fun k q h => by simp at h⟩
  have hl := lv_entry ([.ref b]) (n := 4) (Nat.le_of_ble_eq_true rfl)
  rw [lg_entry_eq]
  generalize (lg_sl ([.ref b]) ++ List.replicate (4 - (lg_sl ([.ref b])).length) Slot.unset).toArray = ls at hl ⊢
  have hl : lv_has ls 4 [(0, .ref b)] := hl
  refine va_new (ci := 11) (fs := blk 11) (C := RX11) (T := TX11) (N := 9) (D := D) (cl := vwCl) (tys := tysA dA) hx hb hg inG11 (tyOf 11) ty_11 hown (hts (.classLink RL 7 RX11) (tb_1 22 rfl)) (hts (.instantiable RX11 9) (tb_1 23 rfl)) (hts (.initialized RX11) (tb_1 1 rfl)) hK hP hD hS hA rfl (fun j hj => blk_V hj) (Nat.le_of_ble_eq_true rfl) (Nat.le_of_ble_eq_true rfl) dL_law_0 (fun h0 H hP hD hS => ?_)
  have hP : va_P D vwCl [(h0, .inr (11, blk 11))] H := hP
  have hD : va_D (fun q : Nat => s.heap.size ≤ q) [(h0, .inr (11, blk 11))] := hD
  refine lv_dup hx hb dL_law_3 rfl ?_
  have hpre : PreS s H (va_Pc [.ref h0] (KPre D dA h0 11 H.size)) [.ref h0] := ⟨KPre.blind _ _ _ _ _ _, fun U hU hW => ⟨rfl, by rw [hU], by rw [hU]; exact hP, va_K.moved hW.alike hK, NW.warm hW hNW⟩⟩
  have hh0 : s.heap.size ≤ h0 := hD.2 0 _ rfl
  have hsub : ∀ q, cpA h0 H.size q → s.heap.size ≤ q := fun q h => h.elim (fun h => h ▸ hh0) (fun h => Nat.le_trans hS.1 h)
  have hrun := va_runI (p := p) (l := l) (e := e) (R := room_1) (below := below) (meth := meth) (As := []) (rest := [.ref h0]) (g := F0 m 4 ls [.ref h0, .ref h0]) (cells := 1) (slots := 9) (H := H) (locs := []) hfix (ci_RX11 l D dA h0 H.size) (cwI 0 hg (gt_goodIn (gt_1 26 rfl rfl)) rfl rfl rfl (hg _ (gt_1 1 rfl rfl)) (hg _ (gt_1 24 rfl rfl)) (hg _ (gt_1 25 rfl rfl)) rfl ⟨by decide, by decide, by decide +kernel⟩ ⟨Nat.le_of_ble_eq_true rfl, Nat.le_of_ble_eq_true rfl⟩) hpre rfl rfl hl.1 rfl (lv_room (Nat.le_of_ble_eq_true rfl)) dL_law_4 ⟨Nat.le_of_ble_eq_true rfl, Nat.le_of_ble_eq_true rfl⟩
  refine va_callv hrun hS (fun q _ h => hsub q h) hsub fun qc t H1 locs1 ht _ _ hB hz1 hk1 hS1 => ?_
  obtain ⟨hP1, hD1⟩ := hB
  rw [ht] at hP1
  obtain ⟨Yc, y1, y2, y3, y4, y5, y6, y7, y8⟩ : ∃ Yc : Ev, Yc.1 = SC ∧ yc Yc = 32 ∧ ph Yc 0 = h0 ∧ KE Yc s ∧ STR Yc (fun q : Nat => s.heap.size ≤ q) s s.heap ∧ va_P D vwCl (wsW Yc w0C) H1 ∧ va_D (cpA h0 H.size) (wsW Yc w0C) ∧ (Yc.2.1, Yc.2.2.1) = D := ⟨yC D dA sk sv h0 qc, rfl, rfl, rfl, hK, hST _ rfl rfl, rp_C D dA sk sv h0 qc hP1, dvC hD1, rfl⟩
  clear hP1 hD1
  have hDA : va_D (fun q : Nat => s.heap.size ≤ q) (wsW Yc w0C) := ⟨y7.1, fun k q h => hsub _ (y7.2 k q h)⟩
  refine lv_astore_n (lv' := [(1, .ref h0), (0, .ref b)]) hx hb dL_law_7 rfl hl (by decide) rfl (fun ls hl => ?_)
  refine va_new (ci := 12) (fs := blk 12) (C := RX12) (T := TX12) (N := 106) (D := D) (cl := vwCl) (tys := tysA dA) (ws := wsW Yc w0C) hx hb hg inG12 (tyOf 12) ty_12 hown (hts (.classLink RL 10 RX12) (tb_7 21 rfl)) (hts (.instantiable RX12 106) (tb_7 22 rfl)) (hts (.initialized RX12) (tb_1 13 rfl)) hK y6 hDA hS1 hA rfl (fun j hj => blk_V hj) (Nat.le_of_ble_eq_true rfl) (Nat.le_of_ble_eq_true rfl) dL_law_8 (fun g0 H2 hP2 hD2 hS2 => ?_)
  refine lv_dup hx hb dL_law_11 rfl ?_
  have wl : (wsW Yc w0C).length = Yc.1.1 := by simp [wsW]
  have at2 : (wsW Yc w0C ++ [(g0, (.inr (12, blk 12) : va_E))])[Yc.1.1]? = some (g0, .inr (12, blk 12)) := by
    rw [List.getElem?_append_right (by omega), wl, Nat.sub_self]; rfl
  have hPc : va_P D vwCl (wsW Yc w0C) H2 := fun k q hq => hP2 k q (by rw [List.getElem?_append_left (List.getElem?_eq_some_iff.mp hq).1]; exact hq)
  have hPn : va_P D vwCl [(g0, .inr (12, blk 12))] H2 := by
    intro k q hq
    have hz : k < 1 := (List.getElem?_eq_some_iff.mp hq).1
    rw [show k = 0 by omega] at hq
    cases hq
    exact hP2 _ _ at2
  have hg0 : s.heap.size ≤ g0 := hD2.2 _ _ at2
  have hsub2 : ∀ q, cpA g0 H2.size q → s.heap.size ≤ q := fun q h => h.elim (fun h => h ▸ hg0) (fun h => Nat.le_trans hS2.1 h)
  have hap : ∀ i, i < Yc.1.1 → ¬ cpA g0 H2.size (ph Yc i) := by
    intro i hi h
    have hq := ws_at Yc w0C hi
    rcases h with h | h
    · have := hD2.1 i Yc.1.1 _ _ (by rw [List.getElem?_append_left (by omega)]; exact hq) at2 h
      omega
    · have := (hPc i _ hq).lt
      exact absurd h (Nat.not_le.mpr this)
  have hpre2 : PreS s H2 (va_Pc [.ref g0] (KMP D dA sk sv g0 H2.size)) [.ref g0] := ⟨KMP.blind _ _ _ _ _ _ _, fun U hU hW => ⟨rfl, by rw [hU], by rw [hU]; exact hPn, va_K.moved hW.alike hK, NW.warm hW hNW, STR_mv (hST _ rfl rfl) hS2 hsub2 hU hW⟩⟩
  have hrun2 := va_runI (p := p) (l := l) (e := e) (R := room_1) (below := below) (meth := meth) (As := []) (rest := [.ref g0]) (g := F0 m 12 ls [.ref g0, .ref g0]) (cells := 1 + 95 + 1) (slots := 9 + 8775 + 106) (H := H2) (locs := locs1) hfix (ciM l D dA sk sv g0 w1M w1M_o H2.size) (cwI 0 hg (gt_goodIn (gt_7 25 rfl rfl)) rfl rfl rfl (hg _ (gt_1 13 rfl rfl)) (hg _ (gt_7 23 rfl rfl)) (hg _ (gt_7 24 rfl rfl)) rfl ⟨by decide, by decide, by decide +kernel⟩ ⟨Nat.le_of_ble_eq_true rfl, Nat.le_of_ble_eq_true rfl⟩) hpre2 rfl rfl hl.1 rfl (lv_room (Nat.le_of_ble_eq_true rfl)) dL_law_12 ⟨Nat.le_of_ble_eq_true rfl, Nat.le_of_ble_eq_true rfl⟩
  refine va_callv hrun2 hS2 (fun q _ h => hsub2 q h) hsub2 fun qm t2 H3 locs2 ht2 _ _ hB2 hz2 hk2 hS3 => ?_
  obtain ⟨hP3, hD3⟩ := hB2
  rw [ht2] at hP3
  obtain ⟨Ym, z1, z2, z3, z4, z5, z6⟩ : ∃ Ym : Ev, Ym.1 = SM ∧ ph Ym 0 = g0 ∧ KE Ym s ∧ STR Ym (fun q : Nat => s.heap.size ≤ q) s s.heap ∧ RP Ym w1M H3 ∧ va_D (cpA g0 H2.size) (wsW Ym w1M) := ⟨yM D dA sk sv g0 qm, rfl, rfl, hK, hST _ rfl rfl, hP3, hD3⟩
  clear hP3 hD3
  refine lv_astore_n (lv' := [(2, .ref g0), (1, .ref h0), (0, .ref b)]) hx hb dL_law_15 rfl hl (by decide) rfl (fun ls hl => ?_)
  have hRc : RP Yc w0C H2 := by unfold RP; rw [y8]; exact hPc
  have hRc3 : RP Yc w0C H3 := RP_keep hRc hk2 hap
  obtain ⟨i1, i2⟩ := ij_D hDA
  obtain ⟨j1, j2⟩ := ij_D z6
  have hWC : WL (p, l, e, s, m, below, meth, c, b, L, xs) SC Yc := ⟨y1, i1, i2, y4, y5⟩
  have hWM : WL (p, l, e, s, m, below, meth, c, b, L, xs) SM Ym := ⟨z1, j1, fun i hi => hsub2 _ (j2 i hi), z3, z4⟩
  have hapt : APT Yc Ym := fun i j hi hj h => hap i hi (h ▸ j2 j hj)
  refine whole_tail hJ hL hWC hWM hapt y2 rfl rfl hRc3 z5 hS3 ?_
  rw [z2, y3]; exact hl
