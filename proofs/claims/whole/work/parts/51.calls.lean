/-! the law's calls -/
theorem RP_keep {Y : Ev} {w : Wd} {H H1 : Heap} {A : Nat → Prop} (h : RP Y w H) (hk : ∀ q : Nat, q < H.size → ¬ A q → H1[q]? = H[q]?) (hA : ∀ i, i < Y.1.1 → ¬ A (ph Y i)) : RP Y w H1 := by
  intro a q hq
  have ha : a < Y.1.1 := by
    have := (List.getElem?_eq_some_iff.mp hq).1
    simpa [wsW] using this
  have e := (ws_at Y w ha).symm.trans hq
  have e1 : ph Y a = q.1 := by cases e; rfl
  exact (h a q hq).kept (hk q.1 (h a q hq).lt (e1 ▸ hA a ha))
def APT (Y Y' : Ev) : Prop := ∀ i j, i < Y.1.1 → j < Y'.1.1 → ph Y i ≠ ph Y' j
theorem APT.fr {Y Y' : Ev} (h : APT Y Y') : ∀ j, j < Y'.1.1 → ¬ frE Y (ph Y' j) := fun j hj ⟨i, hi, e⟩ => h i j hi hj e
section J
variable {J : Lz} {pc : Nat} {lv : List (Nat × Value)} {st : List Value} {k n : Nat} {Yc Ym : Ev} {wc wm : Wd}
theorem j_gt (hJ : JOK J) : ∀ w ∈ GT, w.before #[Value.ref (jx J)] (js J) = true := fun w hw => hJ.2.2.2.2.2.1 w (List.mem_filter.mp hw).1
theorem j_fix (hJ : JOK J) : CallFix (jp J) (jm J) (jc J) code 4 (js J) #[Value.ref (jx J)] GT RL := ⟨hJ.1, hJ.2.1, hJ.2.2.2.1, hJ.2.2.2.2.1, j_gt hJ⟩
theorem j_fr {S : Shp} {Y : Ev} (hY : WL J S Y) : ∀ q, frE Y q → jA J q := fun q ⟨i, hi, e⟩ => e ▸ hY.2.2.1 i hi
theorem j_pre {S : Shp} {Y : Ev} {w : Wd} (hY : WL J S Y) {H : Heap} {locs : List Loc} (hP : RP Y w H) (hS : va_S (jA J) (js J).heap H locs) (U : State) (hU : U.heap = H) (hW : (js J).WarmedH U.vm) : PRE Y w U := by
  have hAe := j_fr hY
  obtain ⟨-, hI, hA, hK, ⟨h1, h2, h3, h4⟩⟩ := hY
  refine ⟨by rw [hU]; exact hP, va_K.moved hW.alike hK, hI, ?_, fun i hi q hq => (h2 i hi q hq).warm hW, ?_, ?_⟩
  · rw [hU]; exact ((h1.kept hS.2.1).moved hW.alike).narrow hAe
  · rw [hU]; exact ((h3.kept hS.2.1).moved hW.alike).narrow hAe
  · rw [hU]; exact ((h4.kept hS.2.1).moved hW.alike).narrow hAe
theorem j_recv {S : Shp} {Y : Ev} {w : Wd} (hY : WL J S Y) {o ci : Nat} {C : String} {T : u_T} {N : Nat} (ob : OB S o ci) (hci : ci < 20) (hc : vwCl[ci]? = some (C, T, N)) {H : Heap} (hP : RP Y w H) : ∃ cell : Cell, H[ph Y o]? = some cell ∧ cell.vm.isStatics = false ∧ (js J).vm.findClass C = some cell.cls := by
  obtain ⟨hs, -, -, hK, -⟩ := hY
  subst hs
  exact va_recv (q := (C, T, N)) hK hP hc ((ws_at _ w ob.1).trans (by rw [cell_obj ob.2 hci]))
theorem j_cw (hJ : JOK J) {i nL' m d' a b : Nat} {y : MethodName} {cc' : ByteArray} {ret' : Option FieldType} (ml : ML RL i y cc' nL' m ret') (hd : d' ≤ 2000) : CallW room_1 (js J) #[Value.ref (jx J)] RL y.cls i y cc' nL' ret' (.code y cc' nL' ret' :: GT) (rmD d' a b) a b m := by
  have hts := j_gt hJ
  obtain ⟨h1, h2, h3, h4, h5, h6, h7, h8, h9⟩ := ml
  refine ⟨callB_of m hts (gt_goodIn h5) rfl rfl rfl (hts _ h4) (hts _ h1) ⟨h6, h7, h8⟩ ⟨?_, ?_⟩, hts _ h2, hts _ h3⟩
  · show d' + 1 ≤ 2048; omega
  · show 8 + (nL' + 11) + 40 * d' ≤ 84000; omega
theorem jk_callC (hJ : JOK J) (hC : WL J SC Yc) (hap : APT Yc Ym) {i ci o nL' m d' : Nat} {y : MethodName} {cc' : ByteArray} {rt : FieldType} {As stk : List Value} {r : Int32} {w1 : Wd} (ml : ML RL i y cc' nL' m (some rt)) (rc : RC ci y.cls) (ob : OB SC o ci) (hd : d' ≤ 2000) (hc : CI (jl J) Yc y cc' nL' d' (.ref (ph Yc o) :: As) wc rt (some (r, w1))) (hm : As.length = m) (hst : stk = As.reverse ++ .ref (ph Yc o) :: st) (hW : (st.map fun v => v.category).sum ≤ 8) (hk : k ≤ 600000) (hn : n ≤ 7302250) (d : decode code pc = .ok (.invokevirtual i, 3)) (kk : LJ J (pc + 3) lv (.int r :: st) k n Yc w1 Ym wm) : LJ J pc lv stk k n Yc wc Ym wm := by
  intro H locs ls hP hM hS hl
  subst hst
  obtain ⟨hci, T, N, hcl⟩ := rc
  have hrun := va_runV (H := H) (locs := locs) (cells := k) (slots := n) (p := jp J) (l := jl J) (e := je J) (below := jb J) (meth := jme J) (g := F0 (jm J) pc ls (As.reverse ++ .ref (ph Yc o) :: st)) (As := As) (rest := st) (b := ph Yc o) (j_fix hJ) (hc _ rfl) (j_cw hJ ml hd) ⟨PRE.blind _ _ _, j_recv hC ob hci hcl hP, fun U hU hW => ⟨rfl, j_pre hC hP hS U hU hW⟩⟩ rfl hm hl.1 rfl (lv_room hW) d ⟨hk, hn⟩
  refine va_calli hrun hS (fun q _ h => j_fr hC q h) (j_fr hC) fun a u t H1 locs1 ht _ hp hB _ hkeep hS1 => ?_
  cases hp
  exact kk H1 locs1 ls (by rw [← ht]; exact hB) (RP_keep hM hkeep hap.fr) hS1 hl
theorem jk_callM (hJ : JOK J) (hC : WL J SM Ym) (hap : APT Ym Yc) {i ci o nL' m d' : Nat} {y : MethodName} {cc' : ByteArray} {rt : FieldType} {As stk : List Value} {r : Int32} {w1 : Wd} (ml : ML RL i y cc' nL' m (some rt)) (rc : RC ci y.cls) (ob : OB SM o ci) (hd : d' ≤ 2000) (hc : CI (jl J) Ym y cc' nL' d' (.ref (ph Ym o) :: As) wm rt (some (r, w1))) (hm : As.length = m) (hst : stk = As.reverse ++ .ref (ph Ym o) :: st) (hW : (st.map fun v => v.category).sum ≤ 8) (hk : k ≤ 600000) (hn : n ≤ 7302250) (d : decode code pc = .ok (.invokevirtual i, 3)) (kk : LJ J (pc + 3) lv (.int r :: st) k n Yc wc Ym w1) : LJ J pc lv stk k n Yc wc Ym wm := by
  intro H locs ls hP hM hS hl
  subst hst
  obtain ⟨hci, T, N, hcl⟩ := rc
  have hrun := va_runV (H := H) (locs := locs) (cells := k) (slots := n) (p := jp J) (l := jl J) (e := je J) (below := jb J) (meth := jme J) (g := F0 (jm J) pc ls (As.reverse ++ .ref (ph Ym o) :: st)) (As := As) (rest := st) (b := ph Ym o) (j_fix hJ) (hc _ rfl) (j_cw hJ ml hd) ⟨PRE.blind _ _ _, j_recv hC ob hci hcl hM, fun U hU hW => ⟨rfl, j_pre hC hM hS U hU hW⟩⟩ rfl hm hl.1 rfl (lv_room hW) d ⟨hk, hn⟩
  refine va_calli hrun hS (fun q _ h => j_fr hC q h) (j_fr hC) fun a u t H1 locs1 ht _ hp hB _ hkeep hS1 => ?_
  cases hp
  exact kk H1 locs1 ls (RP_keep hP hkeep hap.fr) (by rw [← ht]; exact hB) hS1 hl
end J
