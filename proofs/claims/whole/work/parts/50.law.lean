/-! THE CLAIM OUT OF ONE WALK OF THE LAW'S BODY. Your part is whole_start (and what it stands on); all else here is the same for every law, but numbers. -/
def R_law : String := "WhichWillLaw"
def lw_P (b : Addr) (xs : List Int32) (args : Array Value) (s : State) : Prop := args = #[.ref b] ∧ s.IntsAt b xs ∧ xs.length ≤ 3072 ∧ (Jvm.Cond.and given_1 narrow_1).before args s = true
def lw_Q (_ : Array Value) (s : State) (o : Outcome) (t : State) : Prop := o = .returned (some (.int 1)) ∧ Framed s o t [] 600000 7302250
def lw_Z (below : List Frame) (a : Array Value) (s : State) : State → Prop := fun t => ∃ o, t.status = .running ∧ Ended t below o ∧ lw_Q a s o t
/-- the law's own end, with 1 on the stack, nothing written that was there before, its room as the claim has it -/
theorem lw_ret {p : Program} {l : Launch} {e : Env} {s : State} {m : MethodId} {below : List Frame} {meth : Method} {c : Code} {b : Nat} (hx : p.tables.exec = Jvm.exec) (hb : c.code = code) (hr : meth.sig.returnType = ret) (hlocks : meth.locks = false) {pc : Nat} {H : Heap} {ls : Array Slot} (hdg : decode code pc = .ok (.ireturn, 1)) : W p l e room_1 s m #[Value.ref b] below meth c H [] 600000 7302250 (lw_Z below #[Value.ref b] s) (F0 m pc ls [.int 1]) := by
  intro T hT X
  obtain ⟨fs, hret, hrun, hended, hW, hframe⟩ := X.leave (v := some (.int 1)) (hlocks := hlocks) (fun h => by rw [hr] at h; cases h)
  have hmeth' : T.vm.method? m = some meth := X.method'
  refine ⟨T.setFrames fs, ?_, .returned (some (.int 1)), hrun, hended, rfl, ⟨_, rfl⟩, hW, hframe⟩
  jvm_step X.here [X.here.top, hx, hb, hdg, hmeth', hr, ret, narrow_b1]
  (try refine ⟨rfl, ?_⟩); (try refine ⟨rfl, ?_⟩)
  first | (intro acts; rw [hret _ acts rfl rfl rfl]) | rw [hret _ _ rfl rfl rfl]
  exact Steps.refl _
/-- what holds at the law's entry: the machine, the code, the tables' words (any of lw_tbl by 'hts w (by decide +kernel)'), the script of L ints xs at the cell b, what the Statement gives of the start (any of its parts by flat_of_before) -/
def lw_At (p : Program) (s : State) (m : MethodId) (meth : Method) (c : Code) (b L : Nat) (xs : Nat → Int32) : Prop :=
  p.tables.exec = Jvm.exec ∧ c.code = code ∧ meth.sig.returnType = ret ∧ c.maxLocals = 4 ∧ s.vm.findClass R_law = some m.cls ∧ (∀ w ∈ lw_tbl, w.before #[Value.ref b] s = true) ∧ va_X b L xs s s.heap ∧ b < s.heap.size ∧ meth.locks = false ∧ (Jvm.Cond.and given_1 narrow_1).before #[Value.ref b] s = true
/-! the law: two worlds side by side -/
/-- the machine in the law's frame -/
abbrev Lz : Type := Program × Launch × Env × State × MethodId × List Frame × Method × Code × Nat × Nat × (Nat → Int32)
abbrev jp (J : Lz) : Program := J.1
abbrev jl (J : Lz) : Launch := J.2.1
abbrev je (J : Lz) : Env := J.2.2.1
abbrev js (J : Lz) : State := J.2.2.2.1
abbrev jm (J : Lz) : MethodId := J.2.2.2.2.1
abbrev jb (J : Lz) : List Frame := J.2.2.2.2.2.1
abbrev jme (J : Lz) : Method := J.2.2.2.2.2.2.1
abbrev jc (J : Lz) : Code := J.2.2.2.2.2.2.2.1
abbrev jx (J : Lz) : Nat := J.2.2.2.2.2.2.2.2.1
abbrev jL (J : Lz) : Nat := J.2.2.2.2.2.2.2.2.2.1
abbrev jxs (J : Lz) : Nat → Int32 := J.2.2.2.2.2.2.2.2.2.2
def JOK (J : Lz) : Prop := lw_At (jp J) (js J) (jm J) (jme J) (jc J) (jx J) (jL J) (jxs J)
def jA (J : Lz) : Nat → Prop := fun q => (js J).heap.size ≤ q
/-- a world of the law: its cells, new, apart, its texts old -/
def WL (J : Lz) (S : Shp) (Y : Ev) : Prop := Y.1 = S ∧ IJ Y ∧ (∀ i, i < Y.1.1 → jA J (ph Y i)) ∧ KE Y (js J) ∧ STR Y (jA J) (js J) (js J).heap
def LJ (J : Lz) (pc : Nat) (lv : List (Nat × Value)) (st : List Value) (k n : Nat) (Yc : Ev) (wc : Wd) (Ym : Ev) (wm : Wd) : Prop :=
  ∀ (H : Heap) (locs : List Loc) (ls : Array Slot), RP Yc wc H → RP Ym wm H → va_S (jA J) (js J).heap H locs → lv_has ls 4 lv → W (jp J) (jl J) (je J) room_1 (js J) (jm J) #[Value.ref (jx J)] (jb J) (jme J) (jc J) H locs k n (lw_Z (jb J) #[Value.ref (jx J)] (js J)) (F0 (jm J) pc ls st)
section J
variable {J : Lz} {pc : Nat} {lv : List (Nat × Value)} {st : List Value} {k n : Nat} {Yc Ym : Ev} {wc wm : Wd}
theorem jk_go {pc' : Nat} {st' : List Value} (f : ∀ (H : Heap) (locs : List Loc) (Q : State → Prop) (ls : Array Slot), va_S (jA J) (js J).heap H locs → lv_has ls 4 lv → W (jp J) (jl J) (je J) room_1 (js J) (jm J) #[Value.ref (jx J)] (jb J) (jme J) (jc J) H locs k n Q (F0 (jm J) pc' ls st') → W (jp J) (jl J) (je J) room_1 (js J) (jm J) #[Value.ref (jx J)] (jb J) (jme J) (jc J) H locs k n Q (F0 (jm J) pc ls st)) (kk : LJ J pc' lv st' k n Yc wc Ym wm) : LJ J pc lv st k n Yc wc Ym wm :=
  fun H locs ls hP hM hS hl => f _ _ _ _ hS hl (kk H locs ls hP hM hS hl)
theorem jk_goL {pc' : Nat} {st' : List Value} {lv' : List (Nat × Value)} (f : ∀ (H : Heap) (locs : List Loc) (Q : State → Prop) (ls : Array Slot), lv_has ls 4 lv → (∀ ls', lv_has ls' 4 lv' → W (jp J) (jl J) (je J) room_1 (js J) (jm J) #[Value.ref (jx J)] (jb J) (jme J) (jc J) H locs k n Q (F0 (jm J) pc' ls' st')) → W (jp J) (jl J) (je J) room_1 (js J) (jm J) #[Value.ref (jx J)] (jb J) (jme J) (jc J) H locs k n Q (F0 (jm J) pc ls st)) (kk : LJ J pc' lv' st' k n Yc wc Ym wm) : LJ J pc lv st k n Yc wc Ym wm :=
  fun H locs ls hP hM hS hl => f _ _ _ _ hl (fun ls' hl' => kk H locs ls' hP hM hS hl')
theorem jk_iconst (hJ : JOK J) {i : Int} (v : Int32) (hv : Int32.ofInt i = v) (d : decode code pc = .ok (.iconst i, 1)) (kk : LJ J (pc + 1) lv (.int v :: st) k n Yc wc Ym wm) : LJ J pc lv st k n Yc wc Ym wm := jk_go (fun _ _ _ _ _ _ q => lv_iconst hJ.1 hJ.2.1 d hv q) kk
theorem jk_bipush (hJ : JOK J) {i : Int} (v : Int32) (hv : (Int8.ofInt i).toInt32 = v) (d : decode code pc = .ok (.bipush i, 2)) (kk : LJ J (pc + 2) lv (.int v :: st) k n Yc wc Ym wm) : LJ J pc lv st k n Yc wc Ym wm := jk_go (fun _ _ _ _ _ _ q => lv_bipush hJ.1 hJ.2.1 d hv q) kk
theorem jk_aload_n (hJ : JOK J) {i : Fin 4} {x : Nat} (j : Nat) (h : lv[j]? = some ((i : Nat), .ref x)) (d : decode code pc = .ok (.aload_n i, 1)) (kk : LJ J (pc + 1) lv (.ref x :: st) k n Yc wc Ym wm) : LJ J pc lv st k n Yc wc Ym wm := jk_go (fun _ _ _ _ _ hl q => lv_aload_n hJ.1 hJ.2.1 d rfl (lv_at hl j h) q) kk
theorem jk_iload_n (hJ : JOK J) {i : Fin 4} {x : Int32} (j : Nat) (h : lv[j]? = some ((i : Nat), .int x)) (d : decode code pc = .ok (.iload_n i, 1)) (kk : LJ J (pc + 1) lv (.int x :: st) k n Yc wc Ym wm) : LJ J pc lv st k n Yc wc Ym wm := jk_go (fun _ _ _ _ _ hl q => lv_iload_n hJ.1 hJ.2.1 d rfl (lv_at hl j h) q) kk
theorem jk_iadd (hJ : JOK J) {x y : Int32} (d : decode code pc = .ok (.iadd, 1)) (kk : LJ J (pc + 1) lv (.int (x + y) :: st) k n Yc wc Ym wm) : LJ J pc lv (.int y :: .int x :: st) k n Yc wc Ym wm := jk_go (fun _ _ _ _ _ _ q => lv_iadd hJ.1 hJ.2.1 d q) kk
theorem jk_isub (hJ : JOK J) {x y : Int32} (d : decode code pc = .ok (.isub, 1)) (kk : LJ J (pc + 1) lv (.int (x - y) :: st) k n Yc wc Ym wm) : LJ J pc lv (.int y :: .int x :: st) k n Yc wc Ym wm := jk_go (fun _ _ _ _ _ _ q => lv_isub hJ.1 hJ.2.1 d q) kk
theorem jk_iand (hJ : JOK J) {x y : Int32} (d : decode code pc = .ok (.iand, 1)) (kk : LJ J (pc + 1) lv (.int (x &&& y) :: st) k n Yc wc Ym wm) : LJ J pc lv (.int y :: .int x :: st) k n Yc wc Ym wm := jk_go (fun _ _ _ _ _ _ q => lv_iand hJ.1 hJ.2.1 d q) kk
theorem jk_goto (hJ : JOK J) {off : Int} {tgt : Nat} (ht : (pc : Int) + off = (tgt : Int)) (d : decode code pc = .ok (.goto off, 3)) (kk : LJ J tgt lv st k n Yc wc Ym wm) : LJ J pc lv st k n Yc wc Ym wm := jk_go (fun _ _ _ _ _ _ q => lv_goto hJ.1 hJ.2.1 d ht q) kk
theorem jk_iinc (hJ : JOK J) {i : Nat} {z : Int} {x v : Int32} {lv' : List (Nat × Value)} (j : Nat) (hk : lv[j]? = some (i, .int x)) (hv : x + Int32.ofInt z = v) (hn : i < 4) (hl : (i, Value.int v) :: lv.filter (fun q => !(q.1 == i) && !(q.1 + 1 == i && q.2.category == 2)) = lv') (d : decode code pc = .ok (.iinc i z, 3)) (kk : LJ J (pc + 3) lv' st k n Yc wc Ym wm) : LJ J pc lv st k n Yc wc Ym wm := jk_goL (fun _ _ _ _ h q => lv_iinc hJ.1 hJ.2.1 d h hk hv hn hl q) kk
theorem jk_eq (hJ : JOK J) {x : Int32} {off : Int} {tgt : Nat} (ht : (pc : Int) + off = (tgt : Int)) (d : decode code pc = .ok (.if_icmp .eq off, 3)) (kk : LJ J tgt lv st k n Yc wc Ym wm) : LJ J pc lv (.int x :: .int x :: st) k n Yc wc Ym wm := jk_go (fun _ _ _ _ _ _ q => lv_icmp_eq hJ.1 hJ.2.1 d ht (fun _ => q) (fun h => absurd rfl h)) kk
theorem jk_gtT (hJ : JOK J) {x y : Int32} {off : Int} {tgt : Nat} (h : y < x) (ht : (pc : Int) + off = (tgt : Int)) (d : decode code pc = .ok (.if_icmp .gt off, 3)) (kk : LJ J tgt lv st k n Yc wc Ym wm) : LJ J pc lv (.int y :: .int x :: st) k n Yc wc Ym wm := jk_go (fun _ _ _ _ _ _ q => lv_icmp_gt hJ.1 hJ.2.1 d ht (fun _ => q) (fun h2 => absurd h h2)) kk
theorem jk_gtF (hJ : JOK J) {x y : Int32} {off : Int} {tgt : Nat} (h : ¬ y < x) (ht : (pc : Int) + off = (tgt : Int)) (d : decode code pc = .ok (.if_icmp .gt off, 3)) (kk : LJ J (pc + 3) lv st k n Yc wc Ym wm) : LJ J pc lv (.int y :: .int x :: st) k n Yc wc Ym wm := jk_go (fun _ _ _ _ _ _ q => lv_icmp_gt hJ.1 hJ.2.1 d ht (fun h2 => absurd h2 h) (fun _ => q)) kk
theorem jk_eq0 (hJ : JOK J) {x : Int32} {off : Int} {tgt : Nat} (ht : (pc : Int) + off = (tgt : Int)) (d : decode code pc = .ok (.ifCond .eq off, 3)) (kt : x = 0 → LJ J tgt lv st k n Yc wc Ym wm) (kf : ¬ x = 0 → LJ J (pc + 3) lv st k n Yc wc Ym wm) : LJ J pc lv (.int x :: st) k n Yc wc Ym wm := by
  by_cases h : x = 0
  · exact jk_go (fun _ _ _ _ _ _ q => lv_if_eq hJ.1 hJ.2.1 d ht (fun _ => q) (fun h2 => absurd h h2)) (kt h)
  · exact jk_go (fun _ _ _ _ _ _ q => lv_if_eq hJ.1 hJ.2.1 d ht (fun h2 => absurd h2 h) (fun _ => q)) (kf h)
theorem jk_len (hJ : JOK J) (d : decode code pc = .ok (.arraylength, 1)) (kk : LJ J (pc + 1) lv (.int (Int32.ofNat (jL J)) :: st) k n Yc wc Ym wm) : LJ J pc lv (.ref (jx J) :: st) k n Yc wc Ym wm := jk_go (fun _ _ _ _ hS _ q => va_slen hJ.1 hJ.2.1 hJ.2.2.2.2.2.2.1 hJ.2.2.2.2.2.2.2.1 (Nat.not_le.mpr hJ.2.2.2.2.2.2.2.1) hS d q) kk
theorem jk_sld (hJ : JOK J) {i : Int32} (hin : vp_in i (jL J)) (d : decode code pc = .ok (.iaload, 1)) (kk : LJ J (pc + 1) lv (.int (jxs J i.toNatClampNeg) :: st) k n Yc wc Ym wm) : LJ J pc lv (.int i :: .ref (jx J) :: st) k n Yc wc Ym wm := jk_go (fun _ _ _ _ hS _ q => va_sld hJ.1 hJ.2.1 hJ.2.2.2.2.2.2.1 hJ.2.2.2.2.2.2.2.1 (Nat.not_le.mpr hJ.2.2.2.2.2.2.2.1) hS hin d q) kk
theorem jk_ret (hJ : JOK J) (hk : k ≤ 600000) (hn : n ≤ 7302250) (d : decode code pc = .ok (.ireturn, 1)) : LJ J pc lv [.int 1] k n Yc wc Ym wm := by
  intro H locs ls _ _ hS hl
  refine va_forget (fun q hq => hS.2.2 q hq) ?_
  refine W.widen hk hn ?_
  exact lw_ret hJ.1 hJ.2.1 hJ.2.2.1 hJ.2.2.2.2.2.2.2.2.1 d
theorem jk_tabIn (hJ : JOK J) {dflt lo hi : Int} {offs : Array Int} {len : Nat} {x : Int32} {off : Int} {tgt : Nat} (z : Int) (hx : x.toInt = z) (h1 : ¬ z < lo) (h2 : ¬ hi < z) (ho : offs[(z - lo).toNat]? = some off) (ht : (pc : Int) + off = (tgt : Int)) (d : decode code pc = .ok (.tableswitch dflt lo hi offs, len)) (kk : LJ J tgt lv st k n Yc wc Ym wm) : LJ J pc lv (.int x :: st) k n Yc wc Ym wm := jk_go (fun _ _ _ _ _ _ q => lv_tableIn hJ.1 hJ.2.1 d (by rw [hx]; exact h1) (by rw [hx]; exact h2) (by rw [hx]; exact ho) ht q) kk
theorem jk_tabOut (hJ : JOK J) {dflt lo hi : Int} {offs : Array Int} {len : Nat} {x : Int32} {tgt : Nat} (h : x.toInt < lo ∨ hi < x.toInt) (ht : (pc : Int) + dflt = (tgt : Int)) (d : decode code pc = .ok (.tableswitch dflt lo hi offs, len)) (kk : LJ J tgt lv st k n Yc wc Ym wm) : LJ J pc lv (.int x :: st) k n Yc wc Ym wm := jk_go (fun _ _ _ _ _ _ q => lv_tableOut hJ.1 hJ.2.1 d h ht q) kk
end J
