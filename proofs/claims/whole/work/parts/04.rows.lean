/-! fields, arrays, calls, ends -/
def FL (own : String) (index ci k t : Nat) : Prop := ∃ (C : String) (T : u_T), vwCl[ci]? = some (C, T, nfl ci) ∧ (∀ w ∈ u_ws C T (nfl ci), w ∈ GT) ∧ k < nfl ci ∧ ci < 20 ∧ Cond.fieldLink own index (T k).1 (T k).2.1 (T k).2.2.1 ∈ GT ∧ fcode (tyOf ci k) = t ∧ (∀ k, k < nfl ci → parseFieldDescriptor (T k).2.2.1 = some (tyOf ci k)) ∧ (∀ a, a < nfl ci → ∀ b, b < nfl ci → a ≠ b → (T a).2.1 ≠ (T b).2.1) ∧ ((T k).2.2.2 = false ∨ t = 2)
def OB (S : Shp) (o ci : Nat) : Prop := o < S.1 ∧ S.2.1 o = ci
def AR (S : Shp) (c o t n : Nat) : Prop := o < S.1 ∧ S.2.1 o = t ∧ S.2.2.1 c o = n
def inb (i : Int32) (n : Nat) : Bool := decide (¬ (i < 0 ∨ n ≤ i.toNatClampNeg))
theorem inb_in {i : Int32} {n : Nat} (h : inb i n = true) : vp_in i n := of_decide_eq_true (p := ¬ (i < 0 ∨ n ≤ i.toNatClampNeg)) h
def isB (v : Int32) : Bool := decide (v = 0 ∨ v = 1)
theorem isB_n {v : Int32} (h : isB v = true) : narrow .boolean (.int v) = .int v := by
  rcases of_decide_eq_true h with rfl | rfl <;> rfl
theorem isB_f {v : Int32} (h : isB v = true) : fits .boolean (.int v) = true := by
  rcases of_decide_eq_true h with rfl | rfl <;> rfl
def PRE (Y : Ev) (w : Wd) (U : State) : Prop := RP Y w U.heap ∧ KE Y U ∧ IJ Y ∧ STR Y (frE Y) U U.heap
def QI (Y : Ev) (A : Nat → Prop) (r : Int32 × Wd) : Array Value → State → Outcome → State → Prop := va_Qi (fun (a : Int32) (u : Wd) => (a, u) = r) (fun u t => RP Y u t.heap) A
def QL (Y : Ev) (A : Nat → Prop) (r : Int64 × Wd) : Array Value → State → Outcome → State → Prop := va_Ql (fun (a : Int64) (u : Wd) => (a, u) = r) (fun u t => RP Y u t.heap) A
def QV (Y : Ev) (A : Nat → Prop) (r : Wd) : Array Value → State → Outcome → State → Prop := va_Qv (fun u : Wd => u = r) (fun u t => RP Y u t.heap) A
def QR (Y : Ev) (A : Nat → Prop) (r : Nat × Wd) : Array Value → State → Outcome → State → Prop := va_Qr (fun u : Wd => u = r.2) (fun u a t => a = ph Y r.1 ∧ RP Y u t.heap) A
def CI (l : Launch) (Y : Ev) (y : MethodName) (cc : ByteArray) (nL d : Nat) (av : List Value) (w : Wd) (rt : FieldType) (out : Option (Int32 × Wd)) : Prop :=
  ∀ r, out = some r → Met l y (.code y cc nL (some rt) :: GT) (rmD d 0 0) (va_Pc av (PRE Y w)) (QI Y (frE Y) r) 0 0 (frE Y)
def CL (l : Launch) (Y : Ev) (y : MethodName) (cc : ByteArray) (nL d : Nat) (av : List Value) (w : Wd) (out : Option (Int64 × Wd)) : Prop :=
  ∀ r, out = some r → Met l y (.code y cc nL (some .long) :: GT) (rmD d 0 0) (va_Pc av (PRE Y w)) (QL Y (frE Y) r) 0 0 (frE Y)
def CV (l : Launch) (Y : Ev) (y : MethodName) (cc : ByteArray) (nL d : Nat) (av : List Value) (w : Wd) (out : Option Wd) : Prop :=
  ∀ r, out = some r → Met l y (.code y cc nL none :: GT) (rmD d 0 0) (va_Pc av (PRE Y w)) (QV Y (frE Y) r) 0 0 (frE Y)
def CR (l : Launch) (Y : Ev) (y : MethodName) (cc : ByteArray) (nL d : Nat) (av : List Value) (w : Wd) (rt : FieldType) (out : Option (Nat × Wd)) : Prop :=
  ∀ r, out = some r → Met l y (.code y cc nL (some rt) :: GT) (rmD d 0 0) (va_Pc av (PRE Y w)) (QR Y (frE Y) r) 0 0 (frE Y)
def ML (own : String) (index : Nat) (y : MethodName) (cc : ByteArray) (nL n : Nat) (ret : Option FieldType) : Prop :=
  Cond.methodLink own index y ∈ GT ∧ Cond.instanceMethod y ∈ GT ∧ Cond.selects y.cls y y ∈ GT ∧ Cond.initialized y.cls ∈ GT ∧ Cond.code y cc nL ret ∈ GT ∧ y.cls ≠ "java/lang/invoke/MethodHandle" ∧ y.cls ≠ "java/lang/invoke/VarHandle" ∧ (parseMethodDescriptor y.desc).map (fun d => d.parameters.length) = some n ∧ nL ≤ 21
def MS (own : String) (index : Nat) (y : MethodName) (cc : ByteArray) (nL n : Nat) (ret : Option FieldType) : Prop :=
  Cond.methodLink own index y ∈ GT ∧ Cond.static y ∈ GT ∧ Cond.initialized y.cls ∈ GT ∧ Cond.code y cc nL ret ∈ GT ∧ y.cls ≠ "java/lang/invoke/MethodHandle" ∧ y.cls ≠ "java/lang/invoke/VarHandle" ∧ (parseMethodDescriptor y.desc).map (fun d => d.parameters.length) = some n ∧ nL ≤ 21
theorem gt_good {w : Cond} (h : w ∈ GT) : (w.onTables && w.keeps) = true ∨ ∃ ty, w = .arrayClass ty := good_of_word (List.mem_filter.mp h).2
theorem gt_goodIn {y : MethodName} {cc : ByteArray} {nL : Nat} {ret : Option FieldType} (h : Cond.code y cc nL ret ∈ GT) : GoodIn GT (.code y cc nL ret :: GT) := fun w hw => by
  rcases List.mem_cons.mp hw with rfl | hw
  · exact ⟨h, gt_good h⟩
  · exact ⟨hw, gt_good hw⟩
theorem PRE.blind (Y : Ev) (w : Wd) (av : List Value) : FrameBlind (va_Pc av (PRE Y w)) := by
  intro a U g mk h
  obtain ⟨h0, h1, h2, h3, h4, h5, h6, h7⟩ := h
  exact ⟨h0, h1, va_K.moved (u := U) (U := U.calling g mk a) (Vm.Alike.refl U.vm) h2, h3, vk_S.moved (u := U) (U := U.calling g mk a) (Vm.Alike.refl U.vm) h4, fun i hi q hq => (h5 i hi q hq).same rfl, va_Z.moved (u := U) (U := U.calling g mk a) (Vm.Alike.refl U.vm) h6, va_Zq.moved (u := U) (U := U.calling g mk a) (Vm.Alike.refl U.vm) h7⟩
section Z
variable {ρ : Type} {Z : Cz ρ} {S : Shp} {dd : Nat} {cc : ByteArray} {own : String} {nL : Nat} {ret : Option FieldType} {pc : Nat} {lv : List (Nat × Value)} {st : List Value} {w : Wd} {out : Option ρ}
theorem hZ_o {o ci : Nat} (hZ : OKZ Z S cc own nL ret dd) (ho : OB S o ci) : o < (zY Z).1.1 ∧ (zY Z).1.2.1 o = ci := by
  have h := hZ.2.2.2.2.2.2.2.2.2.2.2.1
  rw [h]; exact ho
theorem hZ_a {o t n : Nat} (hZ : OKZ Z S cc own nL ret dd) (c : Nat) (ho : AR S c o t n) : o < (zY Z).1.1 ∧ (zY Z).1.2.1 o = t ∧ (zY Z).1.2.2.1 c o = n := by
  have h := hZ.2.2.2.2.2.2.2.2.2.2.2.1
  rw [h]; exact ho
theorem hZ_D (hZ : OKZ Z S cc own nL ret dd) (w : Wd) : va_D (zA Z) (wsW (zY Z) w) := ws_D hZ.2.2.2.2.2.2.2.2.1 hZ.2.2.2.2.2.2.2.2.2.1
theorem bw_nm {e : Int32} {F : Int32 → Option ρ} (k : ∀ x, BW Z nL pc lv (.int x :: st) w (F x)) : BW Z nL pc lv (.int e :: st) w (lt e F) := k e
theorem bw_nmL {e : Int64} {F : Int64 → Option ρ} (k : ∀ x, BW Z nL pc lv (.long x :: st) w (F x)) : BW Z nL pc lv (.long e :: st) w (lt e F) := k e
theorem bw_getV {v : Value} {i ci k t o : Nat} (hZ : OKZ Z S cc own nL ret dd) (fl : FL own i ci k t) (ob : OB S o ci) (hv : fV (zY Z) w ci o k = v) (d : decode cc pc = .ok (.getfield i, 3)) (kk : BW Z nL (pc + 3) lv (v :: st) w out) : BW Z nL pc lv (.ref (ph (zY Z) o) :: st) w out := by
  intro hr H locs ls hP hS hl
  obtain ⟨C, T, hc, hin, hkN, hci, hlink, -⟩ := fl
  obtain ⟨ho1, ho2⟩ := hZ_o hZ ob
  refine va_get (q0 := o) (ci := ci) (k := k) (T := T) (C := C) (N := nfl ci) (ref := (T k).1) hZ.1 hZ.2.1 hZ.2.2.2.2.1 hin hZ.2.2.2.1 hZ.2.2.2.2.2.2.2.1 hP ((ws_at _ w ho1).trans (by rw [cell_obj ho2 hci])) hc hkN (hZ.2.2.2.2.1 _ hlink) (fun _ h => h) (v := v) ?_ d (kk hr H locs ls hP hS hl)
  rw [List.getElem?_map, List.getElem?_range hkN, Option.map_some, hv]
theorem bw_getI {i ci k t o : Nat} (hZ : OKZ Z S cc own nL ret dd) (fl : FL own i ci k t) (ht : t = 0 ∨ t = 3) (ob : OB S o ci) (d : decode cc pc = .ok (.getfield i, 3)) (kk : BW Z nL (pc + 3) lv (.int (w.1 o k) :: st) w out) : BW Z nL pc lv (.ref (ph (zY Z) o) :: st) w out := by
  refine bw_getV hZ fl ob ?_ d kk
  obtain ⟨C, T, -, -, -, -, -, h, -⟩ := fl
  unfold fV; rcases ht with rfl | rfl <;> rw [h] <;> rfl
theorem bw_getG {i ci k o : Nat} (hZ : OKZ Z S cc own nL ret dd) (fl : FL own i ci k 1) (ob : OB S o ci) (d : decode cc pc = .ok (.getfield i, 3)) (kk : BW Z nL (pc + 3) lv (.long (w.2 o k) :: st) w out) : BW Z nL pc lv (.ref (ph (zY Z) o) :: st) w out := by
  refine bw_getV hZ fl ob ?_ d kk
  obtain ⟨C, T, -, -, -, -, -, h, -⟩ := fl
  unfold fV; rw [h]; rfl
theorem bw_getR {i ci k o o' : Nat} (hZ : OKZ Z S cc own nL ret dd) (fl : FL own i ci k 2) (ob : OB S o ci) (rf : S.2.2.2 o k = o') (d : decode cc pc = .ok (.getfield i, 3)) (kk : BW Z nL (pc + 3) lv (.ref (ph (zY Z) o') :: st) w out) : BW Z nL pc lv (.ref (ph (zY Z) o) :: st) w out := by
  refine bw_getV hZ fl ob ?_ d kk
  obtain ⟨C, T, -, -, -, -, -, h, -⟩ := fl
  unfold fV; rw [h, hZ.2.2.2.2.2.2.2.2.2.2.2.1, ← rf]; rfl
theorem bw_putI {i ci k t o : Nat} {v : Int32} {F : Wd → Option ρ} (hZ : OKZ Z S cc own nL ret dd) (fl : FL own i ci k t) (hn : narrow (tyOf ci k) (.int v) = .int v) (hf : fits (tyOf ci k) (.int v) = true) (ht : t = 0 ∨ t = 3) (ob : OB S o ci) (d : decode cc pc = .ok (.putfield i, 3)) (kk : ∀ w1, BW Z nL (pc + 3) lv st w1 (F w1)) : BW Z nL pc lv (.int v :: .ref (ph (zY Z) o) :: st) w (lt (wI w o k v) F) := by
  intro hr H locs ls hP hS hl
  obtain ⟨C, T, hc, hin, hkN, hci, hlink, h0, hty, hnm, hfin⟩ := fl
  obtain ⟨ho1, ho2⟩ := hZ_o hZ ob
  have hfin : (T k).2.2.2 = false := by rcases hfin with h | h; exact h; rcases ht with rfl | rfl <;> cases h
  refine va_put (q0 := o) (ci := ci) (k := k) (T := T) (C := C) (N := nfl ci) (ref := (T k).1) hZ.1 hZ.2.1 hZ.2.2.2.2.1 hin (tyOf ci) hty hnm hZ.2.2.2.1 hZ.2.2.2.2.2.2.2.1 hP (hZ_D hZ w) hS ((ws_at _ w ho1).trans (by rw [cell_obj ho2 hci])) hc hkN (hZ.2.2.2.2.1 _ hlink) (fun _ h => h) hfin (hty k hkN) hn hf (by simpa using hkN) d ?_
  intro H1 locs1 hP1 hD1 hS1
  rw [ws_putI ho1 ho2 hci (by rw [h0]; exact ht)] at hP1
  exact kk (wI w o k v) hr H1 locs1 ls hP1 hS1 hl
theorem bw_putG {i ci k o : Nat} {v : Int64} {F : Wd → Option ρ} (hZ : OKZ Z S cc own nL ret dd) (fl : FL own i ci k 1) (hn : tyOf ci k = .long) (ob : OB S o ci) (d : decode cc pc = .ok (.putfield i, 3)) (kk : ∀ w1, BW Z nL (pc + 3) lv st w1 (F w1)) : BW Z nL pc lv (.long v :: .ref (ph (zY Z) o) :: st) w (lt (wG w o k v) F) := by
  intro hr H locs ls hP hS hl
  obtain ⟨C, T, hc, hin, hkN, hci, hlink, h0, hty, hnm, hfin⟩ := fl
  obtain ⟨ho1, ho2⟩ := hZ_o hZ ob
  have hfin : (T k).2.2.2 = false := by rcases hfin with h | h; exact h; cases h
  refine va_put (q0 := o) (ci := ci) (k := k) (T := T) (C := C) (N := nfl ci) (ref := (T k).1) hZ.1 hZ.2.1 hZ.2.2.2.2.1 hin (tyOf ci) hty hnm hZ.2.2.2.1 hZ.2.2.2.2.2.2.2.1 hP (hZ_D hZ w) hS ((ws_at _ w ho1).trans (by rw [cell_obj ho2 hci])) hc hkN (hZ.2.2.2.2.1 _ hlink) (fun _ h => h) hfin (hty k hkN) (by rw [hn]; rfl) (by rw [hn]; rfl) (by simpa using hkN) d ?_
  intro H1 locs1 hP1 hD1 hS1
  rw [ws_putG ho1 ho2 hci h0] at hP1
  exact kk (wG w o k v) hr H1 locs1 ls hP1 hS1 hl
theorem bw_iald {o n : Nat} {i : Int32} (hZ : OKZ Z S cc own nL ret dd) (ar : AR S (yc (zY Z)) o 20 n) (d : decode cc pc = .ok (.iaload, 1)) (kk : BW Z nL (pc + 1) lv (.int (w.1 o i.toNatClampNeg) :: st) w out) : BW Z nL pc lv (.int i :: .ref (ph (zY Z) o) :: st) w (if inb i n = true then out else none) := bw_ck fun hi => by
  intro hr H locs ls hP hS hl
  obtain ⟨h1, h2, h3⟩ := hZ_a hZ _ ar
  exact va_iald (q0 := o) (t0 := 0) (cA := (zY Z).2.2.2.1 20) (n := n) (f := w.1 o) hZ.1 hZ.2.1 hZ.2.2.2.2.2.2.2.1 hP ((ws_at _ w h1).trans (by rw [cell_int h2 (by decide) (by decide), h3])) rfl (inb_in hi) d (kk hr H locs ls hP hS hl)
theorem bw_bald {o n : Nat} {i : Int32} (hZ : OKZ Z S cc own nL ret dd) (ar : AR S (yc (zY Z)) o 21 n) (d : decode cc pc = .ok (.baload, 1)) (kk : BW Z nL (pc + 1) lv (.int (w.1 o i.toNatClampNeg) :: st) w out) : BW Z nL pc lv (.int i :: .ref (ph (zY Z) o) :: st) w (if inb i n = true then out else none) := bw_ck fun hi => by
  intro hr H locs ls hP hS hl
  obtain ⟨h1, h2, h3⟩ := hZ_a hZ _ ar
  exact va_bald (q0 := o) (t0 := 1) (cA := (zY Z).2.2.2.1 21) (n := n) (f := w.1 o) hZ.1 hZ.2.1 hZ.2.2.2.2.2.2.2.1 hP ((ws_at _ w h1).trans (by rw [cell_int h2 (by decide) (by decide), h3])) rfl (inb_in hi) d (kk hr H locs ls hP hS hl)
theorem bw_zald {o n : Nat} {i : Int32} (hZ : OKZ Z S cc own nL ret dd) (ar : AR S (yc (zY Z)) o 22 n) (d : decode cc pc = .ok (.baload, 1)) (kk : BW Z nL (pc + 1) lv (.int (w.1 o i.toNatClampNeg) :: st) w out) : BW Z nL pc lv (.int i :: .ref (ph (zY Z) o) :: st) w (if inb i n = true then out else none) := bw_ck fun hi => by
  intro hr H locs ls hP hS hl
  obtain ⟨h1, h2, h3⟩ := hZ_a hZ _ ar
  exact va_zald (q0 := o) (t0 := 2) (cA := (zY Z).2.2.2.1 22) (n := n) (f := w.1 o) hZ.1 hZ.2.1 hZ.2.2.2.2.2.2.2.1 hP ((ws_at _ w h1).trans (by rw [cell_int h2 (by decide) (by decide), h3])) rfl (inb_in hi) d (kk hr H locs ls hP hS hl)
theorem bw_lald {o n : Nat} {i : Int32} (hZ : OKZ Z S cc own nL ret dd) (ar : AR S (yc (zY Z)) o 23 n) (d : decode cc pc = .ok (.laload, 1)) (kk : BW Z nL (pc + 1) lv (.long (w.2 o i.toNatClampNeg) :: st) w out) : BW Z nL pc lv (.int i :: .ref (ph (zY Z) o) :: st) w (if inb i n = true then out else none) := bw_ck fun hi => by
  intro hr H locs ls hP hS hl
  obtain ⟨h1, h2, h3⟩ := hZ_a hZ _ ar
  exact va_lald (q0 := o) (t0 := 3) (cA := (zY Z).2.2.2.1 23) (n := n) (f := w.2 o) hZ.1 hZ.2.1 hZ.2.2.2.2.2.2.2.1 hP ((ws_at _ w h1).trans (by rw [cell_long h2, h3])) rfl (inb_in hi) d (kk hr H locs ls hP hS hl)
theorem bw_iast {o n : Nat} {i x : Int32} {F : Wd → Option ρ} (hZ : OKZ Z S cc own nL ret dd) (ar : AR S (yc (zY Z)) o 20 n) (d : decode cc pc = .ok (.iastore, 1)) (kk : ∀ w1, BW Z nL (pc + 1) lv st w1 (F w1)) : BW Z nL pc lv (.int x :: .int i :: .ref (ph (zY Z) o) :: st) w (if inb i n = true then lt (wI w o i.toNatClampNeg x) F else none) := bw_ck fun hi => by
  intro hr H locs ls hP hS hl
  obtain ⟨h1, h2, h3⟩ := hZ_a hZ _ ar
  refine va_iast (q0 := o) (t0 := 0) (cA := (zY Z).2.2.2.1 20) (n := n) (f := w.1 o) hZ.1 hZ.2.1 hZ.2.2.2.2.2.2.2.1 hP (hZ_D hZ w) hS ((ws_at _ w h1).trans (by rw [cell_int h2 (by decide) (by decide), h3])) rfl (inb_in hi) d ?_
  intro H1 locs1 hP1 hD1 hS1
  rw [← h3, ws_ast h1 h2 (by decide) (by decide)] at hP1
  exact kk (wI w o i.toNatClampNeg x) hr H1 locs1 ls hP1 hS1 hl
theorem bw_bast {o n : Nat} {i x : Int32} {F : Wd → Option ρ} (hZ : OKZ Z S cc own nL ret dd) (ar : AR S (yc (zY Z)) o 21 n) (d : decode cc pc = .ok (.bastore, 1)) (kk : ∀ w1, BW Z nL (pc + 1) lv st w1 (F w1)) : BW Z nL pc lv (.int x :: .int i :: .ref (ph (zY Z) o) :: st) w (if inb i n = true then lt (wI w o i.toNatClampNeg (vp_nar .byte x)) F else none) := bw_ck fun hi => by
  intro hr H locs ls hP hS hl
  obtain ⟨h1, h2, h3⟩ := hZ_a hZ _ ar
  refine va_bast (q0 := o) (t0 := 1) (cA := (zY Z).2.2.2.1 21) (n := n) (f := w.1 o) hZ.1 hZ.2.1 hZ.2.2.2.2.2.2.2.1 hP (hZ_D hZ w) hS ((ws_at _ w h1).trans (by rw [cell_int h2 (by decide) (by decide), h3])) rfl (inb_in hi) d ?_
  intro H1 locs1 hP1 hD1 hS1
  rw [← h3, ws_ast h1 h2 (by decide) (by decide)] at hP1
  exact kk (wI w o i.toNatClampNeg (vp_nar .byte x)) hr H1 locs1 ls hP1 hS1 hl
theorem bw_zast {o n : Nat} {i x : Int32} {F : Wd → Option ρ} (hZ : OKZ Z S cc own nL ret dd) (ar : AR S (yc (zY Z)) o 22 n) (d : decode cc pc = .ok (.bastore, 1)) (kk : ∀ w1, BW Z nL (pc + 1) lv st w1 (F w1)) : BW Z nL pc lv (.int x :: .int i :: .ref (ph (zY Z) o) :: st) w (if inb i n = true then lt (wI w o i.toNatClampNeg (vp_nar .boolean x)) F else none) := bw_ck fun hi => by
  intro hr H locs ls hP hS hl
  obtain ⟨h1, h2, h3⟩ := hZ_a hZ _ ar
  refine va_zast (q0 := o) (t0 := 2) (cA := (zY Z).2.2.2.1 22) (n := n) (f := w.1 o) hZ.1 hZ.2.1 hZ.2.2.2.2.2.2.2.1 hP (hZ_D hZ w) hS ((ws_at _ w h1).trans (by rw [cell_int h2 (by decide) (by decide), h3])) rfl (inb_in hi) d ?_
  intro H1 locs1 hP1 hD1 hS1
  rw [← h3, ws_ast h1 h2 (by decide) (by decide)] at hP1
  exact kk (wI w o i.toNatClampNeg (vp_nar .boolean x)) hr H1 locs1 ls hP1 hS1 hl
theorem bw_last {o n : Nat} {i : Int32} {x : Int64} {F : Wd → Option ρ} (hZ : OKZ Z S cc own nL ret dd) (ar : AR S (yc (zY Z)) o 23 n) (d : decode cc pc = .ok (.lastore, 1)) (kk : ∀ w1, BW Z nL (pc + 1) lv st w1 (F w1)) : BW Z nL pc lv (.long x :: .int i :: .ref (ph (zY Z) o) :: st) w (if inb i n = true then lt (wG w o i.toNatClampNeg x) F else none) := bw_ck fun hi => by
  intro hr H locs ls hP hS hl
  obtain ⟨h1, h2, h3⟩ := hZ_a hZ _ ar
  refine va_last (q0 := o) (t0 := 3) (cA := (zY Z).2.2.2.1 23) (n := n) (f := w.2 o) hZ.1 hZ.2.1 hZ.2.2.2.2.2.2.2.1 hP (hZ_D hZ w) hS ((ws_at _ w h1).trans (by rw [cell_long h2, h3])) rfl (inb_in hi) d ?_
  intro H1 locs1 hP1 hD1 hS1
  rw [← h3, ws_last h1 h2] at hP1
  exact kk (wG w o i.toNatClampNeg x) hr H1 locs1 ls hP1 hS1 hl
theorem bw_aald {o n t : Nat} {i : Int32} {C : String} (o' : Nat) (hZ : OKZ Z S cc own nL ret dd) (ar : AR S (yc (zY Z)) o t n) (ht : (t = 24 ∧ C = RX6) ∨ (t = 25 ∧ C = RX1) ∨ (t = 26 ∧ C = RX8)) (rf : S.2.2.2 o i.toNatClampNeg = o') (d : decode cc pc = .ok (.aaload, 1)) (kk0 : inb i n = true → BW Z nL (pc + 1) lv (.ref (ph (zY Z) o') :: st) w out) : BW Z nL pc lv (.int i :: .ref (ph (zY Z) o) :: st) w (if inb i n = true then out else none) := bw_ck fun hi => by
  have kk := kk0 hi
  intro hr H locs ls hP hS hl
  obtain ⟨h1, h2, h3⟩ := hZ_a hZ _ ar
  have h4 := hZ.2.2.2.2.2.2.2.2.2.2.2.1
  have hv : va_rf ((fun j => some (ph (zY Z) ((zY Z).1.2.2.2 o j))) i.toNatClampNeg) = .ref (ph (zY Z) o') := by
    show Value.ref _ = _
    rw [h4, rf]
  rcases ht with ⟨rfl, rfl⟩ | ⟨rfl, rfl⟩ | ⟨rfl, rfl⟩
  · refine va_aldq (q0 := o) (t0 := 4) (cA := (zY Z).2.2.2.1 24) (n := n) (C := RX6) (f := fun j => some (ph (zY Z) ((zY Z).1.2.2.2 o j))) hZ.1 hZ.2.1 hZ.2.2.2.2.2.2.2.1 hP ((ws_at _ w h1).trans (by rw [cell_ref h2 (by decide), h3])) rfl (inb_in hi) d ?_
    rw [hv]; exact kk hr H locs ls hP hS hl
  · refine va_aldq (q0 := o) (t0 := 5) (cA := (zY Z).2.2.2.1 25) (n := n) (C := RX1) (f := fun j => some (ph (zY Z) ((zY Z).1.2.2.2 o j))) hZ.1 hZ.2.1 hZ.2.2.2.2.2.2.2.1 hP ((ws_at _ w h1).trans (by rw [cell_ref h2 (by decide), h3])) rfl (inb_in hi) d ?_
    rw [hv]; exact kk hr H locs ls hP hS hl
  · refine va_aldq (q0 := o) (t0 := 6) (cA := (zY Z).2.2.2.1 26) (n := n) (C := RX8) (f := fun j => some (ph (zY Z) ((zY Z).1.2.2.2 o j))) hZ.1 hZ.2.1 hZ.2.2.2.2.2.2.2.1 hP ((ws_at _ w h1).trans (by rw [cell_ref h2 (by decide), h3])) rfl (inb_in hi) d ?_
    rw [hv]; exact kk hr H locs ls hP hS hl
theorem bw_alenI {o n : Nat} {v : Int32} (hZ : OKZ Z S cc own nL ret dd) (ar : AR S (yc (zY Z)) o 20 n) (hv : Int32.ofNat n = v) (d : decode cc pc = .ok (.arraylength, 1)) (kk : BW Z nL (pc + 1) lv (.int v :: st) w out) : BW Z nL pc lv (.ref (ph (zY Z) o) :: st) w out := by
  intro hr H locs ls hP hS hl
  obtain ⟨h1, h2, h3⟩ := hZ_a hZ _ ar
  exact va_alen (q0 := o) (t0 := 0) (cA := (zY Z).2.2.2.1 20) (x := (n, .inl (w.1 o))) hZ.1 hZ.2.1 hZ.2.2.2.2.2.2.2.1 hP ((ws_at _ w h1).trans (by rw [cell_int h2 (by decide) (by decide), h3])) rfl hv d (kk hr H locs ls hP hS hl)
theorem bw_idivN (hZ : OKZ Z S cc own nL ret dd) {x y : Int32} (h : ¬ y = 0) (d : decode cc pc = .ok (.idiv, 1)) (k : BW Z nL (pc + 1) lv (.int (x / y) :: st) w out) : BW Z nL pc lv (.int y :: .int x :: st) w out := bw_go (fun _ _ _ _ _ _ _ k => lv_idiv hZ.1 hZ.2.1 d h k) k
theorem bw_iremN (hZ : OKZ Z S cc own nL ret dd) {x y : Int32} (h : ¬ y = 0) (d : decode cc pc = .ok (.irem, 1)) (k : BW Z nL (pc + 1) lv (.int (x - x / y * y) :: st) w out) : BW Z nL pc lv (.int y :: .int x :: st) w out := bw_go (fun _ _ _ _ _ _ _ k => lv_irem hZ.1 hZ.2.1 d h k) k
theorem bw_alenL {o n : Nat} {v : Int32} (hZ : OKZ Z S cc own nL ret dd) (ar : AR S (yc (zY Z)) o 23 n) (hv : Int32.ofNat n = v) (d : decode cc pc = .ok (.arraylength, 1)) (kk : BW Z nL (pc + 1) lv (.int v :: st) w out) : BW Z nL pc lv (.ref (ph (zY Z) o) :: st) w out := by
  intro hr H locs ls hP hS hl
  obtain ⟨h1, h2, h3⟩ := hZ_a hZ _ ar
  exact va_alen (q0 := o) (t0 := 3) (cA := (zY Z).2.2.2.1 23) (x := (n, .inr (.inl (w.2 o)))) hZ.1 hZ.2.1 hZ.2.2.2.2.2.2.2.1 hP ((ws_at _ w h1).trans (by rw [cell_long h2, h3])) rfl hv d (kk hr H locs ls hP hS hl)
theorem bw_mmax {i : Nat} {x y : Int32} (hZ : OKZ Z S cc own nL ret dd) (hl1 : Cond.methodLink own i Lib.Math.max.name ∈ GT) (hg : Cond.static Lib.Math.max.name ∈ GT ∧ Cond.initialized "java/lang/Math" ∈ GT ∧ Cond.code Lib.Math.max.name Lib.Math.max.code 2 (some .int) ∈ GT) (hd : 0 < dd) (hW : (st.map fun v => v.category).sum ≤ 8) (d : decode cc pc = .ok (.invokestatic i, 3)) (kk : BW Z nL (pc + 3) lv (.int (if x < y then y else x) :: st) w out) : BW Z nL pc lv (.int y :: .int x :: st) w out := by
  intro hr H locs ls hP hS hl
  obtain ⟨hR, hu1, hu2⟩ := hZ.2.2.2.2.2.2.2.2.2.2.2.2.2
  exact va_mmax hZ.1 hZ.2.1 (hZ.2.2.1.trans hl.1.symm) hZ.2.2.2.1 (hZ.2.2.2.2.1 _ hl1) (hZ.2.2.2.2.1 _ hg.1) (hZ.2.2.2.2.1 _ hg.2.1) (hZ.2.2.2.2.1 _ hg.2.2) (by rw [hR]; show 1 ≤ dd; omega) (by rw [hR]; show _ ≤ 40 * dd; omega) (by rw [hR]; exact hu1) (by rw [hR]; exact hu2) d (kk hr H locs ls hP hS hl)
theorem bw_mmin {i : Nat} {x y : Int32} (hZ : OKZ Z S cc own nL ret dd) (hl1 : Cond.methodLink own i Lib.Math.min.name ∈ GT) (hg : Cond.static Lib.Math.min.name ∈ GT ∧ Cond.initialized "java/lang/Math" ∈ GT ∧ Cond.code Lib.Math.min.name Lib.Math.min.code 2 (some .int) ∈ GT) (hd : 0 < dd) (hW : (st.map fun v => v.category).sum ≤ 8) (d : decode cc pc = .ok (.invokestatic i, 3)) (kk : BW Z nL (pc + 3) lv (.int (if y < x then y else x) :: st) w out) : BW Z nL pc lv (.int y :: .int x :: st) w out := by
  intro hr H locs ls hP hS hl
  obtain ⟨hR, hu1, hu2⟩ := hZ.2.2.2.2.2.2.2.2.2.2.2.2.2
  exact va_mmin hZ.1 hZ.2.1 (hZ.2.2.1.trans hl.1.symm) hZ.2.2.2.1 (hZ.2.2.2.2.1 _ hl1) (hZ.2.2.2.2.1 _ hg.1) (hZ.2.2.2.2.1 _ hg.2.1) (hZ.2.2.2.2.1 _ hg.2.2) (by rw [hR]; show 1 ≤ dd; omega) (by rw [hR]; show _ ≤ 40 * dd; omega) (by rw [hR]; exact hu1) (by rw [hR]; exact hu2) d (kk hr H locs ls hP hS hl)
def EndI (Z : Cz (Int32 × Wd)) : Prop := zQ Z = QI (zY Z) (zA Z) (zr Z) ∧ zu Z = zmc Z ∧ zv Z = zms Z
def EndL (Z : Cz (Int64 × Wd)) : Prop := zQ Z = QL (zY Z) (zA Z) (zr Z) ∧ zu Z = zmc Z ∧ zv Z = zms Z
def EndV (Z : Cz Wd) : Prop := zQ Z = QV (zY Z) (zA Z) (zr Z) ∧ zu Z = zmc Z ∧ zv Z = zms Z
def EndR (Z : Cz (Nat × Wd)) : Prop := zQ Z = QR (zY Z) (zA Z) (zr Z) ∧ zu Z = zmc Z ∧ zv Z = zms Z
theorem bw_iret {Z : Cz (Int32 × Wd)} {v : Int32} (hZ : OKZ Z S cc own nL (some .int) dd) (hE : EndI Z) (d : decode cc pc = .ok (.ireturn, 1)) : BW Z nL pc lv [.int v] w (some (v, w)) := by
  intro hr H locs ls hP hS hl
  have hr : (v, w) = zr Z := Option.some.inj hr
  unfold ZW
  rw [hE.1, ← hE.2.1, ← hE.2.2]
  exact W.iret hZ.1 hZ.2.1 hZ.2.2.2.2.2.2.1 (fun t ht _ => ⟨⟨v, w, rfl, hr, by show RP (zY Z) w t.heap; rw [ht]; exact hP⟩, hS.F ht⟩) hS.2.2 d hZ.2.2.2.2.2.1
theorem bw_zret {Z : Cz (Int32 × Wd)} {v : Int32} (hZ : OKZ Z S cc own nL (some .boolean) dd) (hE : EndI Z) (hv : isB v = true) (d : decode cc pc = .ok (.ireturn, 1)) : BW Z nL pc lv [.int v] w (some (v, w)) := by
  intro hr H locs ls hP hS hl
  have hr : (v, w) = zr Z := Option.some.inj hr
  unfold ZW
  rw [hE.1, ← hE.2.1, ← hE.2.2]
  exact W.zret hZ.1 hZ.2.1 hZ.2.2.2.2.2.2.1 (isB_n hv) (fun t ht _ => ⟨⟨v, w, rfl, hr, by show RP (zY Z) w t.heap; rw [ht]; exact hP⟩, hS.F ht⟩) hS.2.2 d hZ.2.2.2.2.2.1
theorem bw_zretC {Z : Cz (Int32 × Wd)} {v : Int32} (hZ : OKZ Z S cc own nL (some .boolean) dd) (hE : EndI Z) (d : decode cc pc = .ok (.ireturn, 1)) : BW Z nL pc lv [.int v] w (if isB v = true then some (v, w) else none) := bw_ck fun hv => bw_zret hZ hE hv d
theorem bw_lret {Z : Cz (Int64 × Wd)} {v : Int64} (hZ : OKZ Z S cc own nL (some .long) dd) (hE : EndL Z) (d : decode cc pc = .ok (.lreturn, 1)) : BW Z nL pc lv [.long v] w (some (v, w)) := by
  intro hr H locs ls hP hS hl
  have hr : (v, w) = zr Z := Option.some.inj hr
  unfold ZW
  rw [hE.1, ← hE.2.1, ← hE.2.2]
  exact W.lret hZ.1 hZ.2.1 hZ.2.2.2.2.2.2.1 (fun t ht _ => ⟨⟨v, w, rfl, hr, by show RP (zY Z) w t.heap; rw [ht]; exact hP⟩, hS.F ht⟩) hS.2.2 d hZ.2.2.2.2.2.1
theorem bw_vret {Z : Cz Wd} (hZ : OKZ Z S cc own nL none dd) (hE : EndV Z) (d : decode cc pc = .ok (.return_, 1)) : BW Z nL pc lv [] w (some w) := by
  intro hr H locs ls hP hS hl
  have hr : w = zr Z := Option.some.inj hr
  unfold ZW
  rw [hE.1, ← hE.2.1, ← hE.2.2]
  exact W.vret hZ.1 hZ.2.1 hZ.2.2.2.2.2.2.1 (fun t ht _ => ⟨⟨w, rfl, hr, by show RP (zY Z) w t.heap; rw [ht]; exact hP⟩, hS.F ht⟩) hS.2.2 d hZ.2.2.2.2.2.1
theorem bw_aret {Z : Cz (Nat × Wd)} {o : Nat} {C : String} (hZ : OKZ Z S cc own nL (some (.object C)) dd) (hE : EndR Z) (d : decode cc pc = .ok (.areturn, 1)) : BW Z nL pc lv [.ref (ph (zY Z) o)] w (some (o, w)) := by
  intro hr H locs ls hP hS hl
  have hr : (o, w) = zr Z := Option.some.inj hr
  unfold ZW
  rw [hE.1, ← hE.2.1, ← hE.2.2]
  exact W.aret hZ.1 hZ.2.1 hZ.2.2.2.2.2.2.1 (Or.inl ⟨_, rfl⟩) (Or.inr ⟨_, rfl⟩) (fun t ht _ => ⟨⟨w, ph (zY Z) o, rfl, by rw [← hr], by rw [← hr], by show RP (zY Z) w t.heap; rw [ht]; exact hP⟩, hS.F ht⟩) hS.2.2 d hZ.2.2.2.2.2.1
/-- what a callee's start needs, out of the caller's -/
theorem pre_at (hZ : OKZ Z S cc own nL ret dd) {H : Heap} {locs : List Loc} (hP : RP (zY Z) w H) (hS : va_S (zA Z) (zs Z).heap H locs) (U : State) (hU : U.heap = H) (hW : (zs Z).WarmedH U.vm) : PRE (zY Z) w U := by
  obtain ⟨-, -, -, -, -, -, -, hK, hI, hA, ⟨h1, h2, h3, h4⟩, -, -⟩ := hZ
  have hAe : ∀ q, frE (zY Z) q → zA Z q := fun q ⟨i, hi, e⟩ => e ▸ hA i hi
  refine ⟨by rw [hU]; exact hP, va_K.moved hW.alike hK, hI, ?_, fun i hi q hq => (h2 i hi q hq).warm hW, ?_, ?_⟩
  · rw [hU]; exact ((h1.kept hS.2.1).moved hW.alike).narrow hAe
  · rw [hU]; exact ((h3.kept hS.2.1).moved hW.alike).narrow hAe
  · rw [hU]; exact ((h4.kept hS.2.1).moved hW.alike).narrow hAe
theorem fr_sub (hZ : OKZ Z S cc own nL ret dd) : ∀ q, frE (zY Z) q → zA Z q := fun q ⟨i, hi, e⟩ => e ▸ hZ.2.2.2.2.2.2.2.2.2.1 i hi
/-- the room of a call -/
theorem room_ok {d' nL' a b a' b' : Nat} (h : d' < dd) (hn : nL' ≤ 21) : (rmD d' a b).frames + 1 ≤ (rmD dd a' b').frames ∧ 8 + (nL' + 11) + (rmD d' a b).locals ≤ (rmD dd a' b').locals := by
  constructor
  · show d' + 1 ≤ dd; omega
  · show 8 + (nL' + 11) + 40 * d' ≤ 40 * dd; omega
theorem recv_at (hZ : OKZ Z S cc own nL ret dd) {o ci : Nat} {C : String} {T : u_T} {N : Nat} (ob : OB S o ci) (hci : ci < 20) (hc : vwCl[ci]? = some (C, T, N)) {H : Heap} (hP : RP (zY Z) w H) : ∃ cell : Cell, H[ph (zY Z) o]? = some cell ∧ cell.vm.isStatics = false ∧ (zs Z).vm.findClass C = some cell.cls := by
  obtain ⟨ho1, ho2⟩ := hZ_o hZ ob
  exact va_recv (q := (C, T, N)) hZ.2.2.2.2.2.2.2.1 hP hc ((ws_at _ w ho1).trans (by rw [cell_obj ho2 hci]))
def RC (ci : Nat) (C : String) : Prop := ci < 20 ∧ ∃ T N, vwCl[ci]? = some (C, T, N)
theorem cwV_of (hZ : OKZ Z S cc own nL ret dd) {i nL' n d' a b : Nat} {y : MethodName} {cc' : ByteArray} {ret' : Option FieldType} (ml : ML own i y cc' nL' n ret') (hd : d' < dd) : CallW (zR Z) (zs Z) (za Z) own y.cls i y cc' nL' ret' (.code y cc' nL' ret' :: GT) (rmD d' a b) a b n := by
  have hts := hZ.2.2.2.2.1
  have hR := hZ.2.2.2.2.2.2.2.2.2.2.2.2.2.1
  obtain ⟨h1, h2, h3, h4, h5, h6, h7, h8, h9⟩ := ml
  exact ⟨callB_of n hts (gt_goodIn h5) rfl rfl rfl (hts _ h4) (hts _ h1) ⟨h6, h7, h8⟩ (by rw [hR]; exact room_ok hd h9), hts _ h2, hts _ h3⟩
theorem cwS_of (hZ : OKZ Z S cc own nL ret dd) {i nL' n d' a b : Nat} {y : MethodName} {cc' : ByteArray} {ret' : Option FieldType} (ml : MS own i y cc' nL' n ret') (hd : d' < dd) : CallB (zR Z) (zs Z) (za Z) own i y cc' nL' ret' (.code y cc' nL' ret' :: GT) (rmD d' a b) a b n ∧ (Cond.static y).before (za Z) (zs Z) = true := by
  have hts := hZ.2.2.2.2.1
  have hR := hZ.2.2.2.2.2.2.2.2.2.2.2.2.2.1
  obtain ⟨h1, h2, h4, h5, h6, h7, h8, h9⟩ := ml
  exact ⟨callB_of n hts (gt_goodIn h5) rfl rfl rfl (hts _ h4) (hts _ h1) ⟨h6, h7, h8⟩ (by rw [hR]; exact room_ok hd h9), hts _ h2⟩
theorem fix_of (hZ : OKZ Z S cc own nL ret dd) : CallFix (zp Z) (zm Z) (zc Z) cc nL (zs Z) (za Z) GT own := ⟨hZ.1, hZ.2.1, hZ.2.2.1, hZ.2.2.2.1, hZ.2.2.2.2.1⟩
theorem fits_ok (hZ : OKZ Z S cc own nL ret dd) : zu Z + 0 ≤ (zR Z).cells ∧ zv Z + 0 ≤ (zR Z).slots := by
  obtain ⟨hR, h1, h2⟩ := hZ.2.2.2.2.2.2.2.2.2.2.2.2.2
  rw [hR]; exact ⟨h1, h2⟩
theorem bw_callVI {i ci o nL' n d' : Nat} {y : MethodName} {cc' : ByteArray} {rt : FieldType} {As stk : List Value} {oc : Option (Int32 × Wd)} {F : Int32 → Wd → Option ρ} (hZ : OKZ Z S cc own nL ret dd) (ml : ML own i y cc' nL' n (some rt)) (rc : RC ci y.cls) (ob : OB S o ci) (hd : d' < dd) (hc : CI (zl Z) (zY Z) y cc' nL' d' (.ref (ph (zY Z) o) :: As) w rt oc) (hn : As.length = n) (hst : stk = As.reverse ++ .ref (ph (zY Z) o) :: st) (hW : (st.map fun v => v.category).sum ≤ 8) (d : decode cc pc = .ok (.invokevirtual i, 3)) (kk : ∀ r w1, BW Z nL (pc + 3) lv (.int r :: st) w1 (F r w1)) : BW Z nL pc lv stk w (cl oc F) := by
  intro hr H locs ls hP hS hl
  cases hoc : oc with
  | none => rw [hoc] at hr; cases hr
  | some q =>
    rw [hoc] at hr
    have hr : F q.1 q.2 = some (zr Z) := hr
    have hM := hc q hoc
    have hkk := kk q.1 q.2 hr
    subst hst
    obtain ⟨hci, T, N, hcl⟩ := rc
    have hrun := va_runV (H := H) (locs := locs) (cells := zu Z) (slots := zv Z) (p := zp Z) (l := zl Z) (e := ze Z) (below := zb Z) (meth := zme Z) (g := F0 (zm Z) pc ls (As.reverse ++ .ref (ph (zY Z) o) :: st)) (As := As) (rest := st) (b := ph (zY Z) o) (fix_of hZ) hM (cwV_of hZ ml hd) ⟨PRE.blind _ _ _, recv_at hZ ob hci hcl hP, fun U hU hW => ⟨rfl, pre_at hZ hP hS U hU hW⟩⟩ rfl hn hl.1 rfl (lv_room hW) d (fits_ok hZ)
    refine va_calli hrun hS (fun q _ h => fr_sub hZ q h) (fr_sub hZ) fun a u t H1 locs1 ht _ hp hB _ _ hS1 => ?_
    cases hp
    exact hkk H1 locs1 ls (by rw [← ht]; exact hB) hS1 hl
theorem bw_callVV {i ci o nL' n d' : Nat} {y : MethodName} {cc' : ByteArray} {As stk : List Value} {oc : Option Wd} {F : Wd → Option ρ} (hZ : OKZ Z S cc own nL ret dd) (ml : ML own i y cc' nL' n none) (rc : RC ci y.cls) (ob : OB S o ci) (hd : d' < dd) (hc : CV (zl Z) (zY Z) y cc' nL' d' (.ref (ph (zY Z) o) :: As) w oc) (hn : As.length = n) (hst : stk = As.reverse ++ .ref (ph (zY Z) o) :: st) (hW : (st.map fun v => v.category).sum ≤ 8) (d : decode cc pc = .ok (.invokevirtual i, 3)) (kk : ∀ w1, BW Z nL (pc + 3) lv st w1 (F w1)) : BW Z nL pc lv stk w (cv oc F) := by
  intro hr H locs ls hP hS hl
  cases hoc : oc with
  | none => rw [hoc] at hr; cases hr
  | some q =>
    rw [hoc] at hr
    have hr : F q = some (zr Z) := hr
    have hM := hc q hoc
    have hkk := kk q hr
    subst hst
    obtain ⟨hci, T, N, hcl⟩ := rc
    have hrun := va_runV (H := H) (locs := locs) (cells := zu Z) (slots := zv Z) (p := zp Z) (l := zl Z) (e := ze Z) (below := zb Z) (meth := zme Z) (g := F0 (zm Z) pc ls (As.reverse ++ .ref (ph (zY Z) o) :: st)) (As := As) (rest := st) (b := ph (zY Z) o) (fix_of hZ) hM (cwV_of hZ ml hd) ⟨PRE.blind _ _ _, recv_at hZ ob hci hcl hP, fun U hU hW => ⟨rfl, pre_at hZ hP hS U hU hW⟩⟩ rfl hn hl.1 rfl (lv_room hW) d (fits_ok hZ)
    refine va_callv hrun hS (fun q _ h => fr_sub hZ q h) (fr_sub hZ) fun u t H1 locs1 ht _ hp hB _ _ hS1 => ?_
    cases hp
    exact hkk H1 locs1 ls (by rw [← ht]; exact hB) hS1 hl
theorem bw_callVL {i ci o nL' n d' : Nat} {y : MethodName} {cc' : ByteArray} {As stk : List Value} {oc : Option (Int64 × Wd)} {F : Int64 → Wd → Option ρ} (hZ : OKZ Z S cc own nL ret dd) (ml : ML own i y cc' nL' n (some .long)) (rc : RC ci y.cls) (ob : OB S o ci) (hd : d' < dd) (hc : CL (zl Z) (zY Z) y cc' nL' d' (.ref (ph (zY Z) o) :: As) w oc) (hn : As.length = n) (hst : stk = As.reverse ++ .ref (ph (zY Z) o) :: st) (hW : (st.map fun v => v.category).sum ≤ 8) (d : decode cc pc = .ok (.invokevirtual i, 3)) (kk : ∀ r w1, BW Z nL (pc + 3) lv (.long r :: st) w1 (F r w1)) : BW Z nL pc lv stk w (cl oc F) := by
  intro hr H locs ls hP hS hl
  cases hoc : oc with
  | none => rw [hoc] at hr; cases hr
  | some q =>
    rw [hoc] at hr
    have hr : F q.1 q.2 = some (zr Z) := hr
    have hM := hc q hoc
    have hkk := kk q.1 q.2 hr
    subst hst
    obtain ⟨hci, T, N, hcl⟩ := rc
    have hrun := va_runV (H := H) (locs := locs) (cells := zu Z) (slots := zv Z) (p := zp Z) (l := zl Z) (e := ze Z) (below := zb Z) (meth := zme Z) (g := F0 (zm Z) pc ls (As.reverse ++ .ref (ph (zY Z) o) :: st)) (As := As) (rest := st) (b := ph (zY Z) o) (fix_of hZ) hM (cwV_of hZ ml hd) ⟨PRE.blind _ _ _, recv_at hZ ob hci hcl hP, fun U hU hW => ⟨rfl, pre_at hZ hP hS U hU hW⟩⟩ rfl hn hl.1 rfl (lv_room hW) d (fits_ok hZ)
    refine va_calll hrun hS (fun q _ h => fr_sub hZ q h) (fr_sub hZ) fun a u t H1 locs1 ht _ hp hB _ _ hS1 => ?_
    cases hp
    exact hkk H1 locs1 ls (by rw [← ht]; exact hB) hS1 hl
theorem bw_callVR {i ci o nL' n d' : Nat} {y : MethodName} {cc' : ByteArray} {rt : FieldType} {As stk : List Value} {oc : Option (Nat × Wd)} {F : Nat → Wd → Option ρ} (hZ : OKZ Z S cc own nL ret dd) (ml : ML own i y cc' nL' n (some rt)) (rc : RC ci y.cls) (ob : OB S o ci) (hd : d' < dd) (hc : CR (zl Z) (zY Z) y cc' nL' d' (.ref (ph (zY Z) o) :: As) w rt oc) (hn : As.length = n) (hst : stk = As.reverse ++ .ref (ph (zY Z) o) :: st) (hW : (st.map fun v => v.category).sum ≤ 8) (d : decode cc pc = .ok (.invokevirtual i, 3)) (kk : ∀ r w1, oc = some (r, w1) → BW Z nL (pc + 3) lv (.ref (ph (zY Z) r) :: st) w1 (F r w1)) : BW Z nL pc lv stk w (cl oc F) := by
  intro hr H locs ls hP hS hl
  cases hoc : oc with
  | none => rw [hoc] at hr; cases hr
  | some q =>
    rw [hoc] at hr
    have hr : F q.1 q.2 = some (zr Z) := hr
    have hM := hc q hoc
    have hkk := kk q.1 q.2 hoc hr
    subst hst
    obtain ⟨hci, T, N, hcl⟩ := rc
    have hrun := va_runV (H := H) (locs := locs) (cells := zu Z) (slots := zv Z) (p := zp Z) (l := zl Z) (e := ze Z) (below := zb Z) (meth := zme Z) (g := F0 (zm Z) pc ls (As.reverse ++ .ref (ph (zY Z) o) :: st)) (As := As) (rest := st) (b := ph (zY Z) o) (fix_of hZ) hM (cwV_of hZ ml hd) ⟨PRE.blind _ _ _, recv_at hZ ob hci hcl hP, fun U hU hW => ⟨rfl, pre_at hZ hP hS U hU hW⟩⟩ rfl hn hl.1 rfl (lv_room hW) d (fits_ok hZ)
    refine va_callr hrun hS (fun q _ h => fr_sub hZ q h) (fr_sub hZ) fun u a t H1 locs1 ht _ hp hB _ _ hS1 => ?_
    obtain ⟨rfl, hB⟩ := hB
    cases hp
    exact hkk H1 locs1 ls (by rw [← ht]; exact hB) hS1 hl
theorem bw_callSI {i nL' n d' : Nat} {y : MethodName} {cc' : ByteArray} {rt : FieldType} {As stk : List Value} {oc : Option (Int32 × Wd)} {F : Int32 → Wd → Option ρ} (hZ : OKZ Z S cc own nL ret dd) (ml : MS own i y cc' nL' n (some rt)) (hd : d' < dd) (hc : CI (zl Z) (zY Z) y cc' nL' d' (As) w rt oc) (hn : As.length = n) (hst : stk = As.reverse ++ st) (hW : (st.map fun v => v.category).sum ≤ 8) (d : decode cc pc = .ok (.invokestatic i, 3)) (kk : ∀ r w1, BW Z nL (pc + 3) lv (.int r :: st) w1 (F r w1)) : BW Z nL pc lv stk w (cl oc F) := by
  intro hr H locs ls hP hS hl
  cases hoc : oc with
  | none => rw [hoc] at hr; cases hr
  | some q =>
    rw [hoc] at hr
    have hr : F q.1 q.2 = some (zr Z) := hr
    have hM := hc q hoc
    have hkk := kk q.1 q.2 hr
    subst hst
    have hrun := va_runS (H := H) (locs := locs) (cells := zu Z) (slots := zv Z) (p := zp Z) (l := zl Z) (e := ze Z) (below := zb Z) (meth := zme Z) (g := F0 (zm Z) pc ls (As.reverse ++ st)) (As := As) (rest := st) (fix_of hZ) hM (cwS_of hZ ml hd) ⟨PRE.blind _ _ _, fun U hU hW => ⟨rfl, pre_at hZ hP hS U hU hW⟩⟩ rfl hn hl.1 rfl (lv_room hW) d (fits_ok hZ)
    refine va_calli hrun hS (fun q _ h => fr_sub hZ q h) (fr_sub hZ) fun a u t H1 locs1 ht _ hp hB _ _ hS1 => ?_
    cases hp
    exact hkk H1 locs1 ls (by rw [← ht]; exact hB) hS1 hl
theorem bw_callSV {i nL' n d' : Nat} {y : MethodName} {cc' : ByteArray} {As stk : List Value} {oc : Option Wd} {F : Wd → Option ρ} (hZ : OKZ Z S cc own nL ret dd) (ml : MS own i y cc' nL' n none) (hd : d' < dd) (hc : CV (zl Z) (zY Z) y cc' nL' d' (As) w oc) (hn : As.length = n) (hst : stk = As.reverse ++ st) (hW : (st.map fun v => v.category).sum ≤ 8) (d : decode cc pc = .ok (.invokestatic i, 3)) (kk : ∀ w1, BW Z nL (pc + 3) lv st w1 (F w1)) : BW Z nL pc lv stk w (cv oc F) := by
  intro hr H locs ls hP hS hl
  cases hoc : oc with
  | none => rw [hoc] at hr; cases hr
  | some q =>
    rw [hoc] at hr
    have hr : F q = some (zr Z) := hr
    have hM := hc q hoc
    have hkk := kk q hr
    subst hst
    have hrun := va_runS (H := H) (locs := locs) (cells := zu Z) (slots := zv Z) (p := zp Z) (l := zl Z) (e := ze Z) (below := zb Z) (meth := zme Z) (g := F0 (zm Z) pc ls (As.reverse ++ st)) (As := As) (rest := st) (fix_of hZ) hM (cwS_of hZ ml hd) ⟨PRE.blind _ _ _, fun U hU hW => ⟨rfl, pre_at hZ hP hS U hU hW⟩⟩ rfl hn hl.1 rfl (lv_room hW) d (fits_ok hZ)
    refine va_callv hrun hS (fun q _ h => fr_sub hZ q h) (fr_sub hZ) fun u t H1 locs1 ht _ hp hB _ _ hS1 => ?_
    cases hp
    exact hkk H1 locs1 ls (by rw [← ht]; exact hB) hS1 hl
end Z
theorem CI_of {S : Shp} {l : Launch} {Y : Ev} {y : MethodName} {cc : ByteArray} {nL dd : Nat} {av : List Value} {w : Wd} {rt : FieldType} {out : Option (Int32 × Wd)} (hy : plainName y.cls = true) (hn : (lg_sl av).length ≤ nL) (hY : Y.1 = S) (body : ∀ Z : Cz (Int32 × Wd), zl Z = l → zY Z = Y → OKZ Z S cc y.cls nL (some rt) dd → EndI Z → BW Z nL 0 (lv_args 0 av) [] w out) : CI l Y y cc nL dd av w rt out := by
  intro r hr
  refine Met.ofW (cc := cc) (maxL := nL) (ret := (some rt)) hy rfl ?_
  intro p e s m args below meth c s₁ B hml hv
  obtain ⟨rfl, hP, hK, hI, hS⟩ := hv
  have hts := atoms_spec (ws := .code y cc nL (some rt) :: GT) B.pre
  have hbody := body ((p, l, e, rmD dd 0 0, s, m, av.toArray, below, meth, c), Y, frE Y, (0, 0, 0, 0), dd, r, QI Y (frE Y) r) rfl rfl ⟨B.exec, B.bytes, hml, findClass_of_methodNamed B.named, fun w hw => hts w (List.mem_cons_of_mem _ hw), B.notSynchronized, B.returns, hK, hI, fun i hi => ⟨i, hi, rfl⟩, hS, hY, rfl, rfl, Nat.le_refl _, Nat.le_refl _⟩ ⟨rfl, rfl, rfl⟩ hr s.heap []
  rw [lg_entry_eq]
  exact hbody _ hP va_S.rf (lv_entry av hn)
theorem CV_of {S : Shp} {l : Launch} {Y : Ev} {y : MethodName} {cc : ByteArray} {nL dd : Nat} {av : List Value} {w : Wd} {out : Option (Wd)} (hy : plainName y.cls = true) (hn : (lg_sl av).length ≤ nL) (hY : Y.1 = S) (body : ∀ Z : Cz (Wd), zl Z = l → zY Z = Y → OKZ Z S cc y.cls nL none dd → EndV Z → BW Z nL 0 (lv_args 0 av) [] w out) : CV l Y y cc nL dd av w out := by
  intro r hr
  refine Met.ofW (cc := cc) (maxL := nL) (ret := none) hy rfl ?_
  intro p e s m args below meth c s₁ B hml hv
  obtain ⟨rfl, hP, hK, hI, hS⟩ := hv
  have hts := atoms_spec (ws := .code y cc nL none :: GT) B.pre
  have hbody := body ((p, l, e, rmD dd 0 0, s, m, av.toArray, below, meth, c), Y, frE Y, (0, 0, 0, 0), dd, r, QV Y (frE Y) r) rfl rfl ⟨B.exec, B.bytes, hml, findClass_of_methodNamed B.named, fun w hw => hts w (List.mem_cons_of_mem _ hw), B.notSynchronized, B.returns, hK, hI, fun i hi => ⟨i, hi, rfl⟩, hS, hY, rfl, rfl, Nat.le_refl _, Nat.le_refl _⟩ ⟨rfl, rfl, rfl⟩ hr s.heap []
  rw [lg_entry_eq]
  exact hbody _ hP va_S.rf (lv_entry av hn)
theorem CL_of {S : Shp} {l : Launch} {Y : Ev} {y : MethodName} {cc : ByteArray} {nL dd : Nat} {av : List Value} {w : Wd} {out : Option (Int64 × Wd)} (hy : plainName y.cls = true) (hn : (lg_sl av).length ≤ nL) (hY : Y.1 = S) (body : ∀ Z : Cz (Int64 × Wd), zl Z = l → zY Z = Y → OKZ Z S cc y.cls nL (some .long) dd → EndL Z → BW Z nL 0 (lv_args 0 av) [] w out) : CL l Y y cc nL dd av w out := by
  intro r hr
  refine Met.ofW (cc := cc) (maxL := nL) (ret := (some .long)) hy rfl ?_
  intro p e s m args below meth c s₁ B hml hv
  obtain ⟨rfl, hP, hK, hI, hS⟩ := hv
  have hts := atoms_spec (ws := .code y cc nL (some .long) :: GT) B.pre
  have hbody := body ((p, l, e, rmD dd 0 0, s, m, av.toArray, below, meth, c), Y, frE Y, (0, 0, 0, 0), dd, r, QL Y (frE Y) r) rfl rfl ⟨B.exec, B.bytes, hml, findClass_of_methodNamed B.named, fun w hw => hts w (List.mem_cons_of_mem _ hw), B.notSynchronized, B.returns, hK, hI, fun i hi => ⟨i, hi, rfl⟩, hS, hY, rfl, rfl, Nat.le_refl _, Nat.le_refl _⟩ ⟨rfl, rfl, rfl⟩ hr s.heap []
  rw [lg_entry_eq]
  exact hbody _ hP va_S.rf (lv_entry av hn)
theorem CR_of {S : Shp} {l : Launch} {Y : Ev} {y : MethodName} {cc : ByteArray} {nL dd : Nat} {av : List Value} {w : Wd} {rt : FieldType} {out : Option (Nat × Wd)} (hy : plainName y.cls = true) (hn : (lg_sl av).length ≤ nL) (hY : Y.1 = S) (body : ∀ Z : Cz (Nat × Wd), zl Z = l → zY Z = Y → OKZ Z S cc y.cls nL (some rt) dd → EndR Z → BW Z nL 0 (lv_args 0 av) [] w out) : CR l Y y cc nL dd av w rt out := by
  intro r hr
  refine Met.ofW (cc := cc) (maxL := nL) (ret := (some rt)) hy rfl ?_
  intro p e s m args below meth c s₁ B hml hv
  obtain ⟨rfl, hP, hK, hI, hS⟩ := hv
  have hts := atoms_spec (ws := .code y cc nL (some rt) :: GT) B.pre
  have hbody := body ((p, l, e, rmD dd 0 0, s, m, av.toArray, below, meth, c), Y, frE Y, (0, 0, 0, 0), dd, r, QR Y (frE Y) r) rfl rfl ⟨B.exec, B.bytes, hml, findClass_of_methodNamed B.named, fun w hw => hts w (List.mem_cons_of_mem _ hw), B.notSynchronized, B.returns, hK, hI, fun i hi => ⟨i, hi, rfl⟩, hS, hY, rfl, rfl, Nat.le_refl _, Nat.le_refl _⟩ ⟨rfl, rfl, rfl⟩ hr s.heap []
  rw [lg_entry_eq]
  exact hbody _ hP va_S.rf (lv_entry av hn)
