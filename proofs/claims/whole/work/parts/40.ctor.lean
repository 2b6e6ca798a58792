/-! constructors: worlds as lists of cells -/
def tysA (dA : Nat → ClassId) : List (ClassId × FieldType) := [(dA 20, .int), (dA 21, .byte), (dA 22, .boolean), (dA 23, .long), (dA 24, .object RX6), (dA 25, .object RX1), (dA 26, .object RX8)]
def blk (ci : Nat) : List Value := (List.range (nfl ci)).map fun j => defaultValue (tyOf ci j)
theorem blk_V {ci j : Nat} (h : j < nfl ci) : defaultValue (tyOf ci j) = vp_V (blk ci) j := by
  unfold vp_V blk
  rw [List.getD_eq_getElem?_getD, List.getElem?_map, List.getElem?_range h]
  rfl
/-- machine; classes; array classes; what may change; cells and slots in all; the end -/
abbrev Kz : Type := Cx × va_G × (Nat → ClassId) × (Nat → Prop) × (Nat × Nat) × (Array Value → State → Outcome → State → Prop)
abbrev kp (K : Kz) : Program := K.1.1
abbrev kl (K : Kz) : Launch := K.1.2.1
abbrev ke (K : Kz) : Env := K.1.2.2.1
abbrev kR (K : Kz) : Room := K.1.2.2.2.1
abbrev ks (K : Kz) : State := K.1.2.2.2.2.1
abbrev km (K : Kz) : MethodId := K.1.2.2.2.2.2.1
abbrev ka (K : Kz) : Array Value := K.1.2.2.2.2.2.2.1
abbrev kb (K : Kz) : List Frame := K.1.2.2.2.2.2.2.2.1
abbrev kme (K : Kz) : Method := K.1.2.2.2.2.2.2.2.2.1
abbrev kc (K : Kz) : Code := K.1.2.2.2.2.2.2.2.2.2
abbrev kD (K : Kz) : va_G := K.2.1
abbrev kdA (K : Kz) : Nat → ClassId := K.2.2.1
abbrev kA (K : Kz) : Nat → Prop := K.2.2.2.1
abbrev kmc (K : Kz) : Nat := K.2.2.2.2.1.1
abbrev kms (K : Kz) : Nat := K.2.2.2.2.1.2
abbrev kQ (K : Kz) : Array Value → State → Outcome → State → Prop := K.2.2.2.2.2
def KB (K : Kz) (nL pc : Nat) (lv : List (Nat × Value)) (st : List Value) (k n : Nat) (L : va_W) : Prop :=
  ∀ (H : Heap) (locs : List Loc) (ls : Array Slot), va_P (kD K) vwCl L H → va_D (kA K) L → va_S (kA K) (ks K).heap H locs → lv_has ls nL lv → W (kp K) (kl K) (ke K) (kR K) (ks K) (km K) (ka K) (kb K) (kme K) (kc K) H locs k n (MQ (kb K) (kQ K) (ka K) (ks K) (kmc K) (kms K) (kA K)) (F0 (km K) pc ls st)
/-- the calls of nest mates' constructors -/
def NW (s : State) : Prop := va_Nw (.methodLinkNest RX11 9 yX10_init "WhichWill") s ∧ va_Nw (.methodLinkNest RX2 11 yX0_init "WhichWill") s ∧ va_Nw (.methodLinkNest RX2 40 yX6_init "WhichWill") s ∧ va_Nw (.methodLinkNest RX2 41 yX1_init "WhichWill") s ∧ va_AO RX6 s ∧ va_AO RX1 s ∧ va_AO RX8 s
theorem NW.same {u U : State} (h : u.vm = U.vm) (q : NW u) : NW U := ⟨va_Nw.same rfl h q.1, va_Nw.same rfl h q.2.1, va_Nw.same rfl h q.2.2.1, va_Nw.same rfl h q.2.2.2.1, va_AO.moved (h ▸ Vm.Alike.refl u.vm) q.2.2.2.2.1, va_AO.moved (h ▸ Vm.Alike.refl u.vm) q.2.2.2.2.2.1, va_AO.moved (h ▸ Vm.Alike.refl u.vm) q.2.2.2.2.2.2⟩
theorem NW.warm {s U : State} (h : s.WarmedH U.vm) (q : NW s) : NW U := ⟨va_Nw.warmM h q.1, va_Nw.warmM h q.2.1, va_Nw.warmM h q.2.2.1, va_Nw.warmM h q.2.2.2.1, va_AO.moved h.alike q.2.2.2.2.1, va_AO.moved h.alike q.2.2.2.2.2.1, va_AO.moved h.alike q.2.2.2.2.2.2⟩
def OKK (K : Kz) (cc : ByteArray) (own : String) (nL dd : Nat) : Prop :=
  (kp K).tables.exec = Jvm.exec ∧ (kc K).code = cc ∧ (kc K).maxLocals = nL ∧ (ks K).vm.findClass own = some (km K).cls ∧ (∀ w ∈ GT, w.before (ka K) (ks K) = true) ∧ (kme K).locks = false ∧ (kme K).sig.returnType = none ∧ va_K (kD K) vwCl (tysA (kdA K)) (ks K) ∧ (∀ q, (ks K).heap.size ≤ q → kA K q) ∧ kR K = rmD dd (kmc K) (kms K) ∧ (kme K).name = "<init>" ∧ NW (ks K)
/-- a constructor's contract: from the blank cell at h0 to its cells -/
def KC (l : Launch) (y : MethodName) (cc : ByteArray) (nL d mc ms : Nat) (D : va_G) (dA : Nat → ClassId) (h0 : Nat) (av : List Value) (ci : Nat) (c0 : (Nat → Nat) → va_E) (cs : (Nat → Nat) → va_W) : Prop :=
  ∀ sz, Met l y (.code y cc nL none :: GT) (rmD d mc ms) (va_Pc (.ref h0 :: av) (fun U => U.heap.size = sz ∧ va_P D vwCl [(h0, .inr (ci, blk ci))] U.heap ∧ va_K D vwCl (tysA dA) U ∧ NW U)) (va_Qv (fun _ : Nat → Nat => True) (fun q t => va_P D vwCl ((h0, c0 q) :: cs q) t.heap ∧ va_D (cpA h0 sz) ((h0, c0 q) :: cs q)) (cpA h0 sz)) mc ms (cpA h0 sz)
section K
variable {K : Kz} {dd : Nat} {cc : ByteArray} {own : String} {nL pc : Nat} {lv : List (Nat × Value)} {st : List Value} {k n : Nat} {L : va_W}
theorem kb_go {pc' : Nat} {st' : List Value} (f : ∀ (H : Heap) (locs : List Loc) (Q : State → Prop) (ls : Array Slot), lv_has ls nL lv → W (kp K) (kl K) (ke K) (kR K) (ks K) (km K) (ka K) (kb K) (kme K) (kc K) H locs k n Q (F0 (km K) pc' ls st') → W (kp K) (kl K) (ke K) (kR K) (ks K) (km K) (ka K) (kb K) (kme K) (kc K) H locs k n Q (F0 (km K) pc ls st)) (kk : KB K nL pc' lv st' k n L) : KB K nL pc lv st k n L :=
  fun H locs ls hP hD hS hl => f _ _ _ _ hl (kk H locs ls hP hD hS hl)
theorem kb_goL {pc' : Nat} {st' : List Value} {lv' : List (Nat × Value)} (f : ∀ (H : Heap) (locs : List Loc) (Q : State → Prop) (ls : Array Slot), lv_has ls nL lv → (∀ ls', lv_has ls' nL lv' → W (kp K) (kl K) (ke K) (kR K) (ks K) (km K) (ka K) (kb K) (kme K) (kc K) H locs k n Q (F0 (km K) pc' ls' st')) → W (kp K) (kl K) (ke K) (kR K) (ks K) (km K) (ka K) (kb K) (kme K) (kc K) H locs k n Q (F0 (km K) pc ls st)) (kk : KB K nL pc' lv' st' k n L) : KB K nL pc lv st k n L :=
  fun H locs ls hP hD hS hl => f _ _ _ _ hl (fun ls' hl' => kk H locs ls' hP hD hS hl')
theorem kb_iconst (hK : OKK K cc own nL dd) {i : Int} (v : Int32) (hv : Int32.ofInt i = v) (d : decode cc pc = .ok (.iconst i, 1)) (kk : KB K nL (pc + 1) lv (.int v :: st) k n L) : KB K nL pc lv st k n L := kb_go (fun _ _ _ _ _ q => lv_iconst hK.1 hK.2.1 d hv q) kk
theorem kb_bipush (hK : OKK K cc own nL dd) {i : Int} (v : Int32) (hv : (Int8.ofInt i).toInt32 = v) (d : decode cc pc = .ok (.bipush i, 2)) (kk : KB K nL (pc + 2) lv (.int v :: st) k n L) : KB K nL pc lv st k n L := kb_go (fun _ _ _ _ _ q => lv_bipush hK.1 hK.2.1 d hv q) kk
theorem kb_sipush (hK : OKK K cc own nL dd) {i : Int} (v : Int32) (hv : (Int16.ofInt i).toInt32 = v) (d : decode cc pc = .ok (.sipush i, 3)) (kk : KB K nL (pc + 3) lv (.int v :: st) k n L) : KB K nL pc lv st k n L := kb_go (fun _ _ _ _ _ q => lv_sipush hK.1 hK.2.1 d hv q) kk
theorem kb_ldc (hK : OKK K cc own nL dd) {i : Nat} {v : Int32} (c : Cond.constant own i v ∈ GT) (d : decode cc pc = .ok (.ldc i, 2)) (kk : KB K nL (pc + 2) lv (.int v :: st) k n L) : KB K nL pc lv st k n L := kb_go (fun _ _ _ _ _ q => lv_ldc hK.1 hK.2.1 hK.2.2.2.1 (hK.2.2.2.2.1 _ c) d q) kk
theorem kb_ldcw (hK : OKK K cc own nL dd) {i : Nat} {v : Int32} (c : Cond.constant own i v ∈ GT) (d : decode cc pc = .ok (.ldc_w i, 3)) (kk : KB K nL (pc + 3) lv (.int v :: st) k n L) : KB K nL pc lv st k n L := kb_go (fun _ _ _ _ _ q => lv_ldcw hK.1 hK.2.1 hK.2.2.2.1 (hK.2.2.2.2.1 _ c) d q) kk
theorem kb_aload_n (hK : OKK K cc own nL dd) {i : Fin 4} {x : Nat} (j : Nat) (h : lv[j]? = some ((i : Nat), .ref x)) (d : decode cc pc = .ok (.aload_n i, 1)) (kk : KB K nL (pc + 1) lv (.ref x :: st) k n L) : KB K nL pc lv st k n L := kb_go (fun _ _ _ _ hl q => lv_aload_n hK.1 hK.2.1 d rfl (lv_at hl j h) q) kk
theorem kb_iload_n (hK : OKK K cc own nL dd) {i : Fin 4} {x : Int32} (j : Nat) (h : lv[j]? = some ((i : Nat), .int x)) (d : decode cc pc = .ok (.iload_n i, 1)) (kk : KB K nL (pc + 1) lv (.int x :: st) k n L) : KB K nL pc lv st k n L := kb_go (fun _ _ _ _ hl q => lv_iload_n hK.1 hK.2.1 d rfl (lv_at hl j h) q) kk
theorem kb_istore_n (hK : OKK K cc own nL dd) {j : Fin 4} {i : Nat} {x : Int32} {lv' : List (Nat × Value)} (hi : (j : Nat) = i) (hn : i < nL) (hl : (i, Value.int x) :: lv.filter (fun q => !(q.1 == i) && !(q.1 + 1 == i && q.2.category == 2)) = lv') (d : decode cc pc = .ok (.istore_n j, 1)) (kk : KB K nL (pc + 1) lv' st k n L) : KB K nL pc lv (.int x :: st) k n L := kb_goL (fun _ _ _ _ h q => lv_istore_n hK.1 hK.2.1 d hi h hn hl q) kk
theorem kb_iinc (hK : OKK K cc own nL dd) {i : Nat} {m : Int} {x v : Int32} {lv' : List (Nat × Value)} (j : Nat) (hk : lv[j]? = some (i, .int x)) (hv : x + Int32.ofInt m = v) (hn : i < nL) (hl : (i, Value.int v) :: lv.filter (fun q => !(q.1 == i) && !(q.1 + 1 == i && q.2.category == 2)) = lv') (d : decode cc pc = .ok (.iinc i m, 3)) (kk : KB K nL (pc + 3) lv' st k n L) : KB K nL pc lv st k n L := kb_goL (fun _ _ _ _ h q => lv_iinc hK.1 hK.2.1 d h hk hv hn hl q) kk
theorem kb_dup (hK : OKK K cc own nL dd) {a : Value} (ha : a.category = 1) (d : decode cc pc = .ok (.dup, 1)) (kk : KB K nL (pc + 1) lv (a :: a :: st) k n L) : KB K nL pc lv (a :: st) k n L := kb_go (fun _ _ _ _ _ q => lv_dup hK.1 hK.2.1 d ha q) kk
theorem kb_goto (hK : OKK K cc own nL dd) {off : Int} {tgt : Nat} (ht : (pc : Int) + off = (tgt : Int)) (d : decode cc pc = .ok (.goto off, 3)) (kk : KB K nL tgt lv st k n L) : KB K nL pc lv st k n L := kb_go (fun _ _ _ _ _ q => lv_goto hK.1 hK.2.1 d ht q) kk
theorem kb_geT (hK : OKK K cc own nL dd) {x y : Int32} {off : Int} {tgt : Nat} (h : y ≤ x) (ht : (pc : Int) + off = (tgt : Int)) (d : decode cc pc = .ok (.if_icmp .ge off, 3)) (kk : KB K nL tgt lv st k n L) : KB K nL pc lv (.int y :: .int x :: st) k n L := kb_go (fun _ _ _ _ _ q => lv_icmp_ge hK.1 hK.2.1 d ht (fun _ => q) (fun h2 => absurd h h2)) kk
theorem kb_geF (hK : OKK K cc own nL dd) {x y : Int32} {off : Int} {tgt : Nat} (h : ¬ y ≤ x) (ht : (pc : Int) + off = (tgt : Int)) (d : decode cc pc = .ok (.if_icmp .ge off, 3)) (kk : KB K nL (pc + 3) lv st k n L) : KB K nL pc lv (.int y :: .int x :: st) k n L := kb_go (fun _ _ _ _ _ q => lv_icmp_ge hK.1 hK.2.1 d ht (fun h2 => absurd h2 h) (fun _ => q)) kk
theorem kb_super (hK : OKK K cc own nL dd) {i a : Nat} (hl1 : Cond.methodLink own i Lib.objectInit ∈ GT) (hg : Cond.instanceMethod Lib.objectInit ∈ GT ∧ Cond.code Lib.objectInit ⟨#[0xb1]⟩ 1 none ∈ GT) (hd : 1 ≤ dd) (hW : (st.map fun v => v.category).sum ≤ 8) (d : decode cc pc = .ok (.invokespecial i, 3)) (kk : KB K nL (pc + 3) lv st k n L) : KB K nL pc lv (.ref a :: st) k n L := kb_go (fun _ _ _ ls hl q => W.objInit hK.1 hK.2.1 hK.2.2.2.1 (hK.2.2.2.2.1 _ hl1) (hK.2.2.2.2.1 _ hg.1) (hK.2.2.2.2.1 _ hg.2) rfl (by rw [hK.2.2.1]; exact hl.1) rfl d (by rw [hK.2.2.2.2.2.2.2.2.2.1]; exact hd) (by rw [hK.2.2.2.2.2.2.2.2.2.1]; show 2 * 0 + _ + 12 ≤ 40 * dd; omega) q) kk
theorem kb_new (hK : OKK K cc own nL dd) {i ci : Nat} {C : String} {T : u_T} (hcl : vwCl[ci]? = some (C, T, nfl ci)) (hin : ∀ w ∈ u_ws C T (nfl ci), w ∈ GT) (hty : ∀ k, k < nfl ci → parseFieldDescriptor (T k).2.2.1 = some (tyOf ci k)) (h1 : Cond.classLink own i C ∈ GT) (h2 : Cond.instantiable C (nfl ci) ∈ GT) (h3 : Cond.initialized C ∈ GT) (hc : k + 1 ≤ kmc K) (hn : n + nfl ci ≤ kms K) (d : decode cc pc = .ok (.new i, 3)) (kk : ∀ q, KB K nL (pc + 3) lv (.ref q :: st) (k + 1) (n + nfl ci) (L ++ [(q, .inr (ci, blk ci))])) : KB K nL pc lv st k n L := by
  intro H locs ls hP hD hS hl
  have hts := hK.2.2.2.2.1
  have hR := hK.2.2.2.2.2.2.2.2.2.1
  exact va_new (ci := ci) (fs := blk ci) hK.1 hK.2.1 hts hin (tyOf ci) hty hK.2.2.2.1 (hts _ h1) (hts _ h2) (hts _ h3) hK.2.2.2.2.2.2.2.1 hP hD hS hK.2.2.2.2.2.2.2.2.1 hcl (fun j hj => blk_V hj) (by rw [hR]; exact hc) (by rw [hR]; exact hn) d (fun q H1 hP1 hD1 hS1 => kk q H1 locs ls hP1 hD1 hS1 hl)
theorem kb_arr (hK : OKK K cc own nL dd) {aty : ArrayType} {ty : FieldType} {t j : Nat} {v : Int32} {a0 : vp_A} (N' : Nat) (hty : newarray.typeOf aty = ty) (hw : Cond.arrayClass ty ∈ GT) (ht : (tysA (kdA K))[j]? = some (kdA K t, ty)) (hj : ∀ c : ClassId, va_RA (ks K) (kdA K t) ty → va_RA (ks K) c ty → c = kdA K t) (ha : ∀ cA : ClassId, vp_cell cA a0 = arrV cA N' (fun _ => defaultValue ty)) (h0 : ¬ v < 0) (hN : v.toNatClampNeg = N') (hb : N' * componentBytes ty ≤ 536870912) (hc : k + 1 ≤ kmc K) (hn : n + N' ≤ kms K) (d : decode cc pc = .ok (.newarray aty, 2)) (kk : ∀ q, KB K nL (pc + 2) lv (.ref q :: st) (k + 1) (n + N') (L ++ [(q, .inl (kdA K t, a0))])) : KB K nL pc lv (.int v :: st) k n L := by
  intro H locs ls hP hD hS hl
  have hts := hK.2.2.2.2.1
  have hR := hK.2.2.2.2.2.2.2.2.2.1
  have hk := hK.2.2.2.2.2.2.2.1
  refine va_newa (ty := ty) (N' := N') (a0 := a0) hK.1 hK.2.1 (by rw [hty]; exact hts _ hw) hty hk hP hD hS hK.2.2.2.2.2.2.2.2.1 ha h0 hN hb (by rw [hR]; exact hc) (by rw [hR]; exact hn) d (fun q cA H1 hK1 hP1 hD1 hS1 => ?_)
  have e : cA = kdA K t := hj cA (hk.2 j _ ht).2 (hK1.2 7 _ rfl).2
  subst e
  exact kk q H1 locs ls hP1 hD1 hS1 hl
theorem kb_arrI (hK : OKK K cc own nL dd) {v : Int32} (N' : Nat) (h0 : ¬ v < 0) (hN : v.toNatClampNeg = N') (hb : N' ≤ 100000) (hc : k + 1 ≤ kmc K) (hn : n + N' ≤ kms K) (d : decode cc pc = .ok (.newarray .int, 2)) (kk : ∀ q, KB K nL (pc + 2) lv (.ref q :: st) (k + 1) (n + N') (L ++ [(q, .inl (kdA K 20, N', .inl (fun _ => 0)))])) : KB K nL pc lv (.int v :: st) k n L := kb_arr hK (ty := .int) (t := 20) (j := 0) N' rfl (gt_1 184 rfl rfl) rfl (fun _ h1 h2 => Option.some.inj (h2.symm.trans h1)) (fun _ => rfl) h0 hN (by show N' * 4 ≤ _; omega) hc hn d kk
theorem kb_arrB (hK : OKK K cc own nL dd) {v : Int32} (N' : Nat) (h0 : ¬ v < 0) (hN : v.toNatClampNeg = N') (hb : N' ≤ 100000) (hc : k + 1 ≤ kmc K) (hn : n + N' ≤ kms K) (d : decode cc pc = .ok (.newarray .byte, 2)) (kk : ∀ q, KB K nL (pc + 2) lv (.ref q :: st) (k + 1) (n + N') (L ++ [(q, .inl (kdA K 21, N', .inl (fun _ => 0)))])) : KB K nL pc lv (.int v :: st) k n L := kb_arr hK (ty := .byte) (t := 21) (j := 1) N' rfl (gt_1 70 rfl rfl) rfl (fun _ h1 h2 => Option.some.inj (h2.symm.trans h1)) (fun _ => rfl) h0 hN (by show N' * 1 ≤ _; omega) hc hn d kk
theorem kb_arrZ (hK : OKK K cc own nL dd) {v : Int32} (N' : Nat) (h0 : ¬ v < 0) (hN : v.toNatClampNeg = N') (hb : N' ≤ 100000) (hc : k + 1 ≤ kmc K) (hn : n + N' ≤ kms K) (d : decode cc pc = .ok (.newarray .boolean, 2)) (kk : ∀ q, KB K nL (pc + 2) lv (.ref q :: st) (k + 1) (n + N') (L ++ [(q, .inl (kdA K 22, N', .inl (fun _ => 0)))])) : KB K nL pc lv (.int v :: st) k n L := kb_arr hK (ty := .boolean) (t := 22) (j := 2) N' rfl (gt_8 128 rfl rfl) rfl (fun _ h1 h2 => Option.some.inj (h2.symm.trans h1)) (fun _ => rfl) h0 hN (by show N' * 1 ≤ _; omega) hc hn d kk
theorem kb_arrJ (hK : OKK K cc own nL dd) {v : Int32} (N' : Nat) (h0 : ¬ v < 0) (hN : v.toNatClampNeg = N') (hb : N' ≤ 100000) (hc : k + 1 ≤ kmc K) (hn : n + N' ≤ kms K) (d : decode cc pc = .ok (.newarray .long, 2)) (kk : ∀ q, KB K nL (pc + 2) lv (.ref q :: st) (k + 1) (n + N') (L ++ [(q, .inl (kdA K 23, N', .inr (.inl (fun _ => 0))))])) : KB K nL pc lv (.int v :: st) k n L := kb_arr hK (ty := .long) (t := 23) (j := 3) N' rfl (gt_1 100 rfl rfl) rfl (fun _ h1 h2 => Option.some.inj (h2.symm.trans h1)) (fun _ => rfl) h0 hN (by show N' * 8 ≤ _; omega) hc hn d kk
theorem kb_arrR (hK : OKK K cc own nL dd) {i t j : Nat} {v : Int32} {C : String} (N' : Nat) (h1 : Cond.classLink own i C ∈ GT) (h2 : ∀ s, NW s → va_AO C s) (ht : (tysA (kdA K))[j]? = some (kdA K t, .object C)) (h0 : ¬ v < 0) (hN : v.toNatClampNeg = N') (hb : N' ≤ 100000) (hc : k + 1 ≤ kmc K) (hn : n + N' ≤ kms K) (d : decode cc pc = .ok (.anewarray i, 3)) (kk : ∀ q, KB K nL (pc + 3) lv (.ref q :: st) (k + 1) (n + N') (L ++ [(q, .inl (kdA K t, N', .inr (.inr (.inr (.inr (fun _ => none))))))])) : KB K nL pc lv (.int v :: st) k n L := by
  intro H locs ls hP hD hS hl
  have hts := hK.2.2.2.2.1
  have hR := hK.2.2.2.2.2.2.2.2.2.1
  have hk := hK.2.2.2.2.2.2.2.1
  refine va_newq hK.1 hK.2.1 hK.2.2.2.1 (hts _ h1) (h2 _ hK.2.2.2.2.2.2.2.2.2.2.2) hk hP hD hS hK.2.2.2.2.2.2.2.2.1 h0 hN (by omega) (by rw [hR]; exact hc) (by rw [hR]; exact hn) d (fun q cA H1 hK1 hP1 hD1 hS1 => ?_)
  have e : cA = kdA K t := by
    obtain ⟨_, _, _, _, _, e1⟩ := (hk.2 j _ ht).2
    obtain ⟨_, _, _, _, _, e2⟩ := (hK1.2 7 _ rfl).2
    exact Option.some.inj (e2.symm.trans e1)
  subst e
  exact kk q H1 locs ls hP1 hD1 hS1 hl
theorem kb_put (hK : OKK K cc own nL dd) {i ci a j : Nat} {v : Value} {fs : List Value} {C : String} {T : u_T} (p : Nat) (hcl : vwCl[ci]? = some (C, T, nfl ci)) (hin : ∀ w ∈ u_ws C T (nfl ci), w ∈ GT) (hty : ∀ k, k < nfl ci → parseFieldDescriptor (T k).2.2.1 = some (tyOf ci k)) (hnm : ∀ a, a < nfl ci → ∀ b, b < nfl ci → a ≠ b → (T a).2.1 ≠ (T b).2.1) (hj : j < nfl ci) (hlk : Cond.fieldLink own i (T j).1 (T j).2.1 (T j).2.2.1 ∈ GT) (hown : (T j).1 = own) (hL : L[p]? = some (a, .inr (ci, fs))) (hlen : fs.length = nfl ci) (h1 : narrow (tyOf ci j) v = v) (h2 : fits (tyOf ci j) v = true) (d : decode cc pc = .ok (.putfield i, 3)) (kk : KB K nL (pc + 3) lv st k n (L.set p (a, .inr (ci, fs.set j v)))) : KB K nL pc lv (v :: .ref a :: st) k n L := by
  intro H locs ls hP hD hS hl
  have hts := hK.2.2.2.2.1
  cases hf : (T j).2.2.2 with
  | false => exact va_put (q0 := p) (ci := ci) (k := j) (T := T) (C := C) (N := nfl ci) (ref := (T j).1) hK.1 hK.2.1 hts hin (tyOf ci) hty hnm hK.2.2.2.1 hK.2.2.2.2.2.2.2.1 hP hD hS hL hcl hj (hts _ hlk) (fun _ h => h) hf (hty j hj) h1 h2 (by rw [hlen]; exact hj) d (fun H1 locs1 hP1 hD1 hS1 => kk H1 locs1 ls hP1 hD1 hS1 hl)
  | true => exact va_putF (q0 := p) (ci := ci) (k := j) (T := T) (C := C) (N := nfl ci) (ref := (T j).1) hK.1 hK.2.1 hts hin (tyOf ci) hty hnm hK.2.2.2.1 hK.2.2.2.2.2.2.2.1 hP hD hS hL hcl hj (hts _ hlk) (fun _ h => h) hf hK.2.2.2.2.2.2.2.2.2.2.1 hown (hty j hj) h1 h2 (by rw [hlen]; exact hj) d (fun H1 locs1 hP1 hD1 hS1 => kk H1 locs1 ls hP1 hD1 hS1 hl)
theorem kb_get (hK : OKK K cc own nL dd) {i ci a j : Nat} {v : Value} {fs : List Value} {C : String} {T : u_T} (p : Nat) (hcl : vwCl[ci]? = some (C, T, nfl ci)) (hin : ∀ w ∈ u_ws C T (nfl ci), w ∈ GT) (hj : j < nfl ci) (hlk : Cond.fieldLink own i (T j).1 (T j).2.1 (T j).2.2.1 ∈ GT) (hL : L[p]? = some (a, .inr (ci, fs))) (hv : fs[j]? = some v) (d : decode cc pc = .ok (.getfield i, 3)) (kk : KB K nL (pc + 3) lv (v :: st) k n L) : KB K nL pc lv (.ref a :: st) k n L := by
  intro H locs ls hP hD hS hl
  have hts := hK.2.2.2.2.1
  exact va_get (q0 := p) (ci := ci) (k := j) (T := T) (C := C) (N := nfl ci) (ref := (T j).1) hK.1 hK.2.1 hts hin hK.2.2.2.1 hK.2.2.2.2.2.2.2.1 hP hL hcl hj (hts _ hlk) (fun _ h => h) hv d (kk H locs ls hP hD hS hl)
theorem kb_ast (hK : OKK K cc own nL dd) {a b t j m ci : Nat} {i : Int32} {r : vw_C} {f : Nat → Option Nat} {vs : List Value} (p q : Nat) (hL : L[p]? = some (a, .inl (kdA K t, m, .inr (.inr (.inr (.inr f)))))) (ht : (tysA (kdA K))[j]? = some (kdA K t, .object r.1)) (hv : L[q]? = some (b, .inr (ci, vs))) (hc : vwCl[ci]? = some r) (hi : inb i m = true) (d : decode cc pc = .ok (.aastore, 1)) (kk : KB K nL (pc + 1) lv st k n (L.set p (a, .inl (kdA K t, m, .inr (.inr (.inr (.inr (va_up f i.toNatClampNeg (some b))))))))) : KB K nL pc lv (.ref b :: .int i :: .ref a :: st) k n L := by
  intro H locs ls hP hD hS hl
  refine va_astq (q0 := p) (t0 := j) (qk := q) (ci := ci) hK.1 hK.2.1 hK.2.2.2.2.2.2.2.1 hP hD hS hL ht hv hc (inb_in hi) d (fun H1 locs1 hP1 hD1 hS1 => ?_)
  exact kk H1 locs1 ls hP1 hD1 hS1 hl
theorem kb_ret (hK : OKK K cc own nL dd) (hk : k ≤ kmc K) (hn : n ≤ kms K) (hq : ∀ t : State, va_P (kD K) vwCl L t.heap → va_D (kA K) L → va_F (kA K) (ks K) t → kQ K (ka K) (ks K) (.returned none) t) (d : decode cc pc = .ok (.return_, 1)) : KB K nL pc lv [] k n L := by
  intro H locs ls hP hD hS hl
  refine W.widen hk hn ?_
  exact W.vret hK.1 hK.2.1 hK.2.2.2.2.2.2.1 (fun t ht _ => hq t (by rw [ht]; exact hP) hD (hS.F ht)) hS.2.2 d hK.2.2.2.2.2.1
end K
def MK (own : String) (i : Nat) (y : MethodName) (cc : ByteArray) (nL n : Nat) : Prop :=
  (Cond.methodLink own i y ∈ GT ∨ ∃ host, ∀ s, NW s → va_Nw (.methodLinkNest own i y host) s) ∧ Cond.instanceMethod y ∈ GT ∧ Cond.initialized y.cls ∈ GT ∧ Cond.code y cc nL none ∈ GT ∧ y.name = "<init>" ∧ y.cls ≠ "java/lang/invoke/MethodHandle" ∧ y.cls ≠ "java/lang/invoke/VarHandle" ∧ (parseMethodDescriptor y.desc).map (fun d => d.parameters.length) = some n ∧ nL ≤ 21
def KPre (D : va_G) (dA : Nat → ClassId) (h0 ci sz : Nat) (U : State) : Prop := U.heap.size = sz ∧ va_P D vwCl [(h0, .inr (ci, blk ci))] U.heap ∧ va_K D vwCl (tysA dA) U ∧ NW U
theorem KPre.blind (D : va_G) (dA : Nat → ClassId) (h0 ci sz : Nat) (av : List Value) : FrameBlind (va_Pc av (KPre D dA h0 ci sz)) := by
  intro x U g mk q
  obtain ⟨q0, q1, q2, q3, q4⟩ := q
  exact ⟨q0, q1, q2, va_K.moved (u := U) (U := U.calling g mk x) (Vm.Alike.refl U.vm) q3, NW.same (u := U) (U := U.calling g mk x) rfl q4⟩
theorem ctor_P {D : va_G} {A : Nat → Prop} {L : va_W} {H H1 : Heap} {p h0 : Nat} {e0 e : va_E} {cs : va_W} (hP : va_P D vwCl L H) (hD : va_D A L) (hp : L[p]? = some (h0, e0)) (hk : ∀ q : Nat, q < H.size → ¬ cpA h0 H.size q → H1[q]? = H[q]?) (hP1 : va_P D vwCl ((h0, e) :: cs) H1) : va_P D vwCl (L.set p (h0, e) ++ cs) H1 := by
  have hl := (List.getElem?_eq_some_iff.mp hp).1
  refine va_P.app ?_ (fun k q hq => hP1 (k + 1) q hq)
  intro k q hq
  by_cases hkp : k = p
  · subst hkp
    rw [List.getElem?_set_self hl] at hq
    cases hq
    exact hP1 0 _ rfl
  · rw [List.getElem?_set_ne (Ne.symm hkp)] at hq
    have hlt := (hP k q hq).lt
    refine (hP k q hq).kept (hk q.1 hlt (fun h => ?_))
    rcases h with h | h
    · exact hkp (hD.1 k p q (h0, e0) hq hp h)
    · omega
theorem ctor_D {D : va_G} {A : Nat → Prop} {L : va_W} {H : Heap} {p h0 : Nat} {e0 e : va_E} {cs : va_W} (hP : va_P D vwCl L H) (hD : va_D A L) (hp : L[p]? = some (h0, e0)) (hA : ∀ q, H.size ≤ q → A q) (hD1 : va_D (cpA h0 H.size) ((h0, e) :: cs)) : va_D A (L.set p (h0, e) ++ cs) := by
  have hnew : ∀ (k : Nat) (q : Nat × va_E), cs[k]? = some q → H.size ≤ q.1 := by
    intro k q hq
    rcases hD1.2 (k + 1) q hq with h | h
    · exact absurd (hD1.1 (k + 1) 0 q (h0, e) hq rfl h) (by omega)
    · exact h
  refine va_D.app (hD.set hp) ⟨fun i j x y h1 h2 h => ?_, fun k q hq => hA _ (hnew k q hq)⟩ (fun i j x y h1 h2 h => ?_)
  · have := hD1.1 (i + 1) (j + 1) x y h1 h2 h
    omega
  · have h3 := hnew j y h2
    have hlt : x.1 < H.size := by
      have hl := (List.getElem?_eq_some_iff.mp hp).1
      by_cases hip : i = p
      · subst hip
        rw [List.getElem?_set_self hl] at h1
        cases h1
        exact (hP i _ hp).lt
      · rw [List.getElem?_set_ne (Ne.symm hip)] at h1
        exact (hP i _ h1).lt
    omega
section K
variable {K : Kz} {dd : Nat} {cc : ByteArray} {own : String} {nL pc : Nat} {lv : List (Nat × Value)} {st : List Value} {k n : Nat} {L : va_W}
theorem kb_ctor (hK : OKK K cc own nL dd) {i ci h0 nL' m d' mc ms : Nat} {y : MethodName} {cc' : ByteArray} {As stk : List Value} {c0 : (Nat → Nat) → va_E} {cs : (Nat → Nat) → va_W} (p : Nat) (mk : MK own i y cc' nL' m) (hd : d' < dd) (hc : KC (kl K) y cc' nL' d' mc ms (kD K) (kdA K) h0 As ci c0 cs) (hL : L[p]? = some (h0, .inr (ci, blk ci))) (hm : As.length = m) (hst : stk = As.reverse ++ .ref h0 :: st) (hW : (st.map fun v => v.category).sum ≤ 8) (hk : k + mc ≤ kmc K) (hn : n + ms ≤ kms K) (d : decode cc pc = .ok (.invokespecial i, 3)) (kk : ∀ q, KB K nL (pc + 3) lv st (k + mc) (n + ms) (L.set p (h0, c0 q) ++ cs q)) : KB K nL pc lv stk k n L := by
  intro H locs ls hP hD hS hl
  subst hst
  have hts := hK.2.2.2.2.1
  have hR := hK.2.2.2.2.2.2.2.2.2.1
  have hA := hK.2.2.2.2.2.2.2.2.1
  have hM := hc H.size
  obtain ⟨m1, m2, m3, m4, m5, m6, m7, m8, m9⟩ := mk
  have hfix : CallFix (kp K) (km K) (kc K) cc nL (ks K) (ka K) GT own := ⟨hK.1, hK.2.1, hK.2.2.1, hK.2.2.2.1, hts⟩
  have hPc : va_P (kD K) vwCl [(h0, .inr (ci, blk ci))] H := by
    intro j q hq
    have hz : j < 1 := (List.getElem?_eq_some_iff.mp hq).1
    rw [show j = 0 by omega] at hq
    cases hq
    exact hP p _ hL
  have hpre : PreS (ks K) H (va_Pc (.ref h0 :: As) (KPre (kD K) (kdA K) h0 ci H.size)) (.ref h0 :: As) := ⟨KPre.blind _ _ _ _ _ _, fun U hU hW => ⟨rfl, by rw [hU], by rw [hU]; exact hPc, va_K.moved hW.alike hK.2.2.2.2.2.2.2.1, NW.warm hW hK.2.2.2.2.2.2.2.2.2.2.2⟩⟩
  have hroom : (rmD d' mc ms).frames + 1 ≤ (kR K).frames ∧ 8 + (nL' + 11) + (rmD d' mc ms).locals ≤ (kR K).locals := by rw [hR]; exact room_ok hd m9
  have hf : k + mc ≤ (kR K).cells ∧ n + ms ≤ (kR K).slots := by rw [hR]; exact ⟨hk, hn⟩
  have hrun : va_Run (kp K) (kl K) (ke K) (kR K) (ks K) (km K) (ka K) (kb K) (kme K) (kc K) H locs k n mc ms (F0 (km K) pc ls (As.reverse ++ .ref h0 :: st)) st (va_Qv (fun _ : Nat → Nat => True) (fun q t => va_P (kD K) vwCl ((h0, c0 q) :: cs q) t.heap ∧ va_D (cpA h0 H.size) ((h0, c0 q) :: cs q)) (cpA h0 H.size) (Value.ref h0 :: As).toArray) (cpA h0 H.size) := by
    rcases m1 with m1 | ⟨host, m1⟩
    · exact va_runI (As := As) (rest := st) hfix hM (cwI m hts (gt_goodIn m4) rfl rfl rfl (hts _ m3) (hts _ m1) (hts _ m2) m5 ⟨m6, m7, m8⟩ hroom) hpre rfl hm hl.1 rfl (lv_room hW) d hf
    · exact va_runIN (As := As) (rest := st) hfix hM ⟨va_cnB m hts (gt_goodIn m4) rfl rfl rfl (m1 _ hK.2.2.2.2.2.2.2.2.2.2.2) (hts _ m3) ⟨m6, m7, m8⟩ hroom, m5, hts _ m2⟩ hpre rfl hm hl.1 rfl (lv_room hW) d hf
  have hh0 : kA K h0 := hD.2 p _ hL
  have hsub : ∀ q, cpA h0 H.size q → kA K q := fun q h => h.elim (fun h => h ▸ hh0) (fun h => hA q (Nat.le_trans hS.1 h))
  refine va_callv hrun hS (fun q _ h => hsub q h) hsub fun q t H1 locs1 ht _ _ hB _ hk1 hS1 => ?_
  obtain ⟨hP1, hD1⟩ := hB
  rw [ht] at hP1
  exact kk q H1 locs1 ls (ctor_P hP hD hL hk1 hP1) (ctor_D hP hD hL (fun q h => hA q (Nat.le_trans hS.1 h)) hD1) hS1 hl
end K
theorem KC_of {l : Launch} {y : MethodName} {cc : ByteArray} {nL dd mc ms : Nat} {D : va_G} {dA : Nat → ClassId} {h0 ci : Nat} {av : List Value} {c0 : (Nat → Nat) → va_E} {cs : (Nat → Nat) → va_W} (hy : plainName y.cls = true) (hy1 : y.name = "<init>") (hn : (lg_sl (.ref h0 :: av)).length ≤ nL)
    (body : ∀ K : Kz, kl K = l → kD K = D → kdA K = dA → OKK K cc y.cls nL dd → kmc K = mc → kms K = ms → kA K = cpA h0 (ks K).heap.size → kQ K = va_Qv (fun _ : Nat → Nat => True) (fun q t => va_P D vwCl ((h0, c0 q) :: cs q) t.heap ∧ va_D (cpA h0 (ks K).heap.size) ((h0, c0 q) :: cs q)) (cpA h0 (ks K).heap.size) → KB K nL 0 (lv_args 0 (.ref h0 :: av)) [] 0 0 [(h0, .inr (ci, blk ci))]) : KC l y cc nL dd mc ms D dA h0 av ci c0 cs := by
  intro sz
  refine Met.ofW (cc := cc) (maxL := nL) (ret := none) hy rfl ?_
  intro p e s m args below meth c s₁ B hml hv
  obtain ⟨rfl, rfl, hP, hK, hNW⟩ := hv
  have hts := atoms_spec (ws := .code y cc nL none :: GT) B.pre
  have hD : va_D (cpA h0 s.heap.size) [(h0, (.inr (ci, blk ci) : va_E))] := by
    refine ⟨fun i j x y h1 h2 _ => ?_, fun k q h => ?_⟩
    · have := (List.getElem?_eq_some_iff.mp h1).1
      have := (List.getElem?_eq_some_iff.mp h2).1
      simp at *; omega
    · have hz : k < 1 := (List.getElem?_eq_some_iff.mp h).1
      rw [show k = 0 by omega] at h
      cases h
      exact Or.inl rfl
  have hin : meth.name = "<init>" := (name_of_methodNamed B.named B.method).1.trans hy1
  have hbody := body ((p, l, e, rmD dd mc ms, s, m, (Value.ref h0 :: av).toArray, below, meth, c), D, dA, cpA h0 s.heap.size, (mc, ms), va_Qv (fun _ : Nat → Nat => True) (fun q t => va_P D vwCl ((h0, c0 q) :: cs q) t.heap ∧ va_D (cpA h0 s.heap.size) ((h0, c0 q) :: cs q)) (cpA h0 s.heap.size)) rfl rfl rfl ⟨B.exec, B.bytes, hml, findClass_of_methodNamed B.named, fun w hw => hts w (List.mem_cons_of_mem _ hw), B.notSynchronized, B.returns, hK, fun q h => Or.inr h, rfl, hin, hNW⟩ rfl rfl rfl rfl s.heap []
  rw [lg_entry_eq]
  exact hbody _ hP hD va_S.rf (lv_entry (.ref h0 :: av) hn)
