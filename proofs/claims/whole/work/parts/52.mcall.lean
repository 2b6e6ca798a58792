/-! the law's calls of methods behind which cells may lie elsewhere -/
theorem RP_lt {Y : Ev} {w : Wd} {H : Heap} (h : RP Y w H) {i : Nat} (hi : i < Y.1.1) : ph Y i < H.size := (h i _ (ws_at Y w hi)).lt
section J
variable {J : Lz} {pc : Nat} {lv : List (Nat × Value)} {st : List Value} {k n : Nat} {Yc Ym : Ev} {wc wm : Wd}
theorem jk_callCM (hJ : JOK J) (hC : WL J SC Yc) (hap : APT Yc Ym) {i ci o nL' m d' : Nat} {y : MethodName} {cc' : ByteArray} {rt : FieldType} {As stk : List Value} {r : Int32} {w1 : Wd} {cap : Nat} (ml : ML RL i y cc' nL' m (some rt)) (rc : RC ci y.cls) (ob : OB SC o ci) (hd : d' ≤ 2000) (hc : CMI (jl J) Yc y cc' nL' d' (.ref (ph Yc o) :: As) wc rt (some (r, w1, cap))) (hm : As.length = m) (hst : stk = As.reverse ++ .ref (ph Yc o) :: st) (hW : (st.map fun v => v.category).sum ≤ 8) (hk : k + (cap - yc Yc) ≤ 600000) (hn : n + 20 * (cap - yc Yc) ≤ 7302250) (d : decode code pc = .ok (.invokevirtual i, 3)) (kk : ∀ Y', MV Yc Y' → yc Y' = cap → WL J SC Y' → APT Y' Ym → LJ J (pc + 3) lv (.int r :: st) (k + (cap - yc Yc)) (n + 20 * (cap - yc Yc)) Y' w1 Ym wm) : LJ J pc lv stk k n Yc wc Ym wm := by
  intro H locs ls hP hM hS hl
  subst hst
  obtain ⟨hci, T, N, hcl⟩ := rc
  have hsub : ∀ q, frA Yc H.size q → jA J q := fun q h => h.elim (j_fr hC q) (fun h => Nat.le_trans hS.1 h)
  have hrun := va_runV (H := H) (locs := locs) (cells := k) (slots := n) (p := jp J) (l := jl J) (e := je J) (below := jb J) (meth := jme J) (g := F0 (jm J) pc ls (As.reverse ++ .ref (ph Yc o) :: st)) (As := As) (rest := st) (b := ph Yc o) (j_fix hJ) (hc _ rfl H.size) (j_cw hJ ml hd) ⟨PREz.blind _ _ _ _, j_recv hC ob hci hcl hP, fun U hU hW => ⟨rfl, by rw [hU], j_pre hC hP hS U hU hW⟩⟩ rfl hm hl.1 rfl (lv_room hW) d ⟨hk, hn⟩
  refine va_calli hrun hS (fun q _ h => hsub q h) hsub fun a u t H1 locs1 ht _ hp hB _ hkeep hS1 => ?_
  obtain ⟨rfl, hv, hcap, hI, hA⟩ := hp
  have hnot : ∀ j, j < Ym.1.1 → ¬ frA Yc H.size (ph Ym j) := fun j hj h => h.elim (hap.fr j hj) (fun h => by have := RP_lt hM hj; omega)
  refine kk u hv hcap ⟨hv.1.trans hC.1, hI, fun i hi => hsub _ (hA i hi), MV_KE hv hC.2.2.2.1, MV_STR hv hC.2.2.2.2⟩ (fun i j hi hj e => ?_) H1 locs1 ls (by rw [← ht]; exact hB) (RP_keep hM hkeep hnot) hS1 hl
  have h := hA i hi
  rw [e] at h
  exact hnot j hj h
end J
