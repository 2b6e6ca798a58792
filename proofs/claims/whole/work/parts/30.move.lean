/-! methods behind which cells lie elsewhere (the two estates change places; the rows of outcomes grow) -/
def mvb (i : Nat) : Bool := decide ((18 ≤ i ∧ i < 21) ∨ (31 ≤ i ∧ i < 57))
/-- the same world, its movable cells perhaps elsewhere, its room no less -/
def MV (Y Y' : Ev) : Prop := Y'.1 = Y.1 ∧ Y'.2.1 = Y.2.1 ∧ Y'.2.2.1 = Y.2.2.1 ∧ Y'.2.2.2.1 = Y.2.2.2.1 ∧ Y'.2.2.2.2.2.1 = Y.2.2.2.2.2.1 ∧ Y'.2.2.2.2.2.2.1 = Y.2.2.2.2.2.2.1 ∧ (∀ i, mvb i = false → ph Y' i = ph Y i) ∧ yc Y ≤ yc Y'
theorem MV.rf (Y : Ev) : MV Y Y := ⟨rfl, rfl, rfl, rfl, rfl, rfl, fun _ _ => rfl, Nat.le_refl _⟩
theorem MV.tr {Y Y1 Y2 : Ev} (h : MV Y Y1) (k : MV Y1 Y2) : MV Y Y2 := by
  obtain ⟨a1, a2, a3, a4, a5, a6, a7, a8⟩ := h
  obtain ⟨b1, b2, b3, b4, b5, b6, b7, b8⟩ := k
  exact ⟨b1.trans a1, b2.trans a2, b3.trans a3, b4.trans a4, b5.trans a5, b6.trans a6, fun i hi => (b7 i hi).trans (a7 i hi), Nat.le_trans a8 b8⟩
theorem MV_KE {Y Y' : Ev} (h : MV Y Y') {s : State} (hK : KE Y s) : KE Y' s := by
  obtain ⟨a1, a2, a3, a4, -⟩ := h
  unfold KE tysE at *
  rw [a2, a3, a4]; exact hK
theorem MV_STR {Y Y' : Ev} (h : MV Y Y') {A : Nat → Prop} {s : State} {H : Heap} (hS : STR Y A s H) : STR Y' A s H := by
  obtain ⟨-, -, -, -, a5, a6, -⟩ := h
  have e1 : sK Y' = sK Y := by funext i; unfold sK; rw [a5]
  have e2 : sV Y' = sV Y := by funext i; unfold sV; rw [a6]
  unfold STR at *
  rw [e1, e2]; exact hS
def frA (Y : Ev) (sz : Nat) : Nat → Prop := fun q => frE Y q ∨ sz ≤ q
theorem O_wide {C : String} {t : Nat} {A : Nat → Prop} {U : State} {H : Heap} (h : va_O C t A U H) : va_O C t (fun q => A q ∨ H.size ≤ q) U H := by
  obtain ⟨c, h1, h2, h3, h4⟩ := h
  exact ⟨c, h1, h2, h3, fun q => q.elim h4 (fun q => by have := (Array.getElem?_eq_some_iff.mp h1).1; omega)⟩
theorem OF_wide {o n d : String} {v : Value} {t : Nat} {A : Nat → Prop} {U : State} {H : Heap} (h : va_OF o n d v t A U H) : va_OF o n d v t (fun q => A q ∨ H.size ≤ q) U H := by
  obtain ⟨a, b, c, d, e, h1, h2, h3, h4, h5, h6⟩ := h
  exact ⟨a, b, c, d, e, h1, h2, h3, h4, h5, fun q => q.elim h6 (fun q => by have := (Array.getElem?_eq_some_iff.mp h3).1; omega)⟩
theorem T_wide {ty : FieldType} {t n : Nat} {f : Nat → Value} {A : Nat → Prop} {U : State} {H : Heap} (h : va_T ty t n f A U H) : va_T ty t n f (fun q => A q ∨ H.size ≤ q) U H := by
  obtain ⟨c, h1, h2, h3, h4, h5, h6, h7⟩ := h
  exact ⟨c, h1, h2, h3, h4, h5, h6, fun q => q.elim h7 (fun q => by have := (Array.getElem?_eq_some_iff.mp h1).1; omega)⟩
theorem Z_wide {C n d : String} {v : Value} {A : Nat → Prop} {U : State} {H : Heap} (h : va_Z C n d v A U H) : va_Z C n d v (fun q => A q ∨ H.size ≤ q) U H := by
  obtain ⟨a, b, c, d, e, f, h1, h2, h3, h4, h5, h6, h7, h8⟩ := h
  exact ⟨a, b, c, d, e, f, h1, h2, h3, h4, h5, h6, h7, fun q => q.elim h8 (fun q => by have := (Array.getElem?_eq_some_iff.mp h5).1; omega)⟩
theorem STR_wide {Y : Ev} {A : Nat → Prop} {U : State} {H : Heap} (h : STR Y A U H) : STR Y (fun q => A q ∨ H.size ≤ q) U H := by
  obtain ⟨h1, h2, h3, h4⟩ := h
  refine ⟨⟨fun i hi => ?_, h1.2⟩, h2, Z_wide h3, ?_⟩
  · obtain ⟨a, b, c, d⟩ := h1.1 i hi
    exact ⟨O_wide a, OF_wide b, OF_wide c, T_wide d⟩
  · rcases h4 with h | ⟨t, h⟩
    · exact Or.inl (Z_wide h)
    · exact Or.inr ⟨t, Z_wide h⟩
/-- what a moving method leaves: the world at Y' -/
def MQp (Y : Ev) (A : Nat → Prop) (c : Nat) (Y' : Ev) : Prop := MV Y Y' ∧ yc Y' = c ∧ IJ Y' ∧ ∀ i, i < Y'.1.1 → A (ph Y' i)
def QMI (Y : Ev) (A : Nat → Prop) (r : Int32 × Wd × Nat) : Array Value → State → Outcome → State → Prop := va_Qi (fun (a : Int32) (Y' : Ev) => a = r.1 ∧ MQp Y A r.2.2 Y') (fun Y' t => RP Y' r.2.1 t.heap) A
def QMV (Y : Ev) (A : Nat → Prop) (r : Wd × Nat) : Array Value → State → Outcome → State → Prop := va_Qv (fun (Y' : Ev) => MQp Y A r.2 Y') (fun Y' t => RP Y' r.1 t.heap) A
def PREz (Y : Ev) (w : Wd) (sz : Nat) (U : State) : Prop := U.heap.size = sz ∧ PRE Y w U
def CMI (l : Launch) (Y : Ev) (y : MethodName) (cc : ByteArray) (nL d : Nat) (av : List Value) (w : Wd) (rt : FieldType) (out : Option (Int32 × Wd × Nat)) : Prop :=
  ∀ r, out = some r → ∀ sz, Met l y (.code y cc nL (some rt) :: GT) (rmD d (r.2.2 - yc Y) (20 * (r.2.2 - yc Y))) (va_Pc av (PREz Y w sz)) (QMI Y (frA Y sz) r) (r.2.2 - yc Y) (20 * (r.2.2 - yc Y)) (frA Y sz)
def CMV (l : Launch) (Y : Ev) (y : MethodName) (cc : ByteArray) (nL d : Nat) (av : List Value) (w : Wd) (out : Option (Wd × Nat)) : Prop :=
  ∀ r, out = some r → ∀ sz, Met l y (.code y cc nL none :: GT) (rmD d (r.2 - yc Y) (20 * (r.2 - yc Y))) (va_Pc av (PREz Y w sz)) (QMV Y (frA Y sz) r) (r.2 - yc Y) (20 * (r.2 - yc Y)) (frA Y sz)
theorem PREz.blind (Y : Ev) (w : Wd) (sz : Nat) (av : List Value) : FrameBlind (va_Pc av (PREz Y w sz)) := by
  intro a U g mk h
  obtain ⟨h0, hz, h1⟩ := h
  obtain ⟨-, h2⟩ := PRE.blind Y w av a U g mk ⟨h0, h1⟩
  exact ⟨h0, hz, h2⟩
def clm {α β : Type} (x : Option (α × Wd × Nat)) (f : α → Wd → Nat → Option β) : Option β := match x with
  | none => none
  | some q => f q.1 q.2.1 q.2.2
def cvm {β : Type} (x : Option (Wd × Nat)) (f : Wd → Nat → Option β) : Option β := match x with
  | none => none
  | some q => f q.1 q.2
/-- in a moving method: what its end must be, where its world began -/
def EndM {ρ : Type} (Qm : Ev → (Nat → Prop) → ρ → Array Value → State → Outcome → State → Prop) (cap : ρ → Nat) (Y0 : Ev) (Z : Cz ρ) : Prop :=
  zQ Z = Qm Y0 (zA Z) (zr Z) ∧ MV Y0 (zY Z) ∧ (∀ q, (zs Z).heap.size ≤ q → zA Z q) ∧ zu Z = yc (zY Z) - yc Y0 ∧ zv Z = 20 * (yc (zY Z) - yc Y0) ∧ zmc Z = cap (zr Z) - yc Y0 ∧ zms Z = 20 * (cap (zr Z) - yc Y0)
def cI (r : Int32 × Wd × Nat) : Nat := r.2.2
def cV (r : Wd × Nat) : Nat := r.2
section Z
variable {S : Shp} {dd : Nat} {cc : ByteArray} {own : String} {nL : Nat} {ret : Option FieldType} {pc : Nat} {lv : List (Nat × Value)} {st : List Value} {w : Wd}
theorem bw_iretM {Z : Cz (Int32 × Wd × Nat)} {Y0 : Ev} {v : Int32} (hZ : OKZ Z S cc own nL (some .int) dd) (hE : EndM QMI cI Y0 Z) (d : decode cc pc = .ok (.ireturn, 1)) : BW Z nL pc lv [.int v] w (some (v, w, yc (zY Z))) := by
  intro hr H locs ls hP hS hl
  have hr : (v, w, yc (zY Z)) = zr Z := Option.some.inj hr
  obtain ⟨e1, e2, e3, e4, e5, e6, e7⟩ := hE
  have ec : cI (zr Z) = yc (zY Z) := by rw [← hr]; rfl
  unfold ZW
  rw [ec] at e6 e7
  rw [e1, e6, e7, e4, e5]
  exact W.iret hZ.1 hZ.2.1 hZ.2.2.2.2.2.2.1 (fun t ht _ => ⟨⟨v, zY Z, rfl, ⟨by rw [← hr], e2, by rw [← hr], hZ.2.2.2.2.2.2.2.2.1, hZ.2.2.2.2.2.2.2.2.2.1⟩, by show RP (zY Z) (zr Z).2.1 t.heap; rw [ht, ← hr]; exact hP⟩, hS.F ht⟩) hS.2.2 d hZ.2.2.2.2.2.1
theorem bw_vretM {Z : Cz (Wd × Nat)} {Y0 : Ev} (hZ : OKZ Z S cc own nL none dd) (hE : EndM QMV cV Y0 Z) (d : decode cc pc = .ok (.return_, 1)) : BW Z nL pc lv [] w (some (w, yc (zY Z))) := by
  intro hr H locs ls hP hS hl
  have hr : (w, yc (zY Z)) = zr Z := Option.some.inj hr
  obtain ⟨e1, e2, e3, e4, e5, e6, e7⟩ := hE
  have ec : cV (zr Z) = yc (zY Z) := by rw [← hr]; rfl
  unfold ZW
  rw [ec] at e6 e7
  rw [e1, e6, e7, e4, e5]
  exact W.vret hZ.1 hZ.2.1 hZ.2.2.2.2.2.2.1 (fun t ht _ => ⟨⟨zY Z, rfl, ⟨e2, by rw [← hr], hZ.2.2.2.2.2.2.2.2.1, hZ.2.2.2.2.2.2.2.2.2.1⟩, by show RP (zY Z) (zr Z).1 t.heap; rw [ht, ← hr]; exact hP⟩, hS.F ht⟩) hS.2.2 d hZ.2.2.2.2.2.1
end Z
section Zρ
variable {ρ : Type} {Z : Cz ρ} {S : Shp} {dd : Nat} {cc : ByteArray} {own : String} {nL : Nat} {ret : Option FieldType} {pc : Nat} {lv : List (Nat × Value)} {st : List Value} {w : Wd} {out : Option ρ}
/-- the method's place, its world at Y1 now, k cells and n slots more made -/
def mvZ (Z : Cz ρ) (Y1 : Ev) (k n : Nat) : Cz ρ := (Z.1, Y1, Z.2.2.1, (zu Z + k, zv Z + n, zmc Z, zms Z), Z.2.2.2.2)
theorem mvZ_ok {Qm : Ev → (Nat → Prop) → ρ → Array Value → State → Outcome → State → Prop} {cap : ρ → Nat} {Y0 Y1 : Ev} {c : Nat} (hZ : OKZ Z S cc own nL ret dd) (hE : EndM Qm cap Y0 Z) (hm : MQp (zY Z) (frA (zY Z) 0) c Y1 ∨ True) (hq : MV (zY Z) Y1) (hi : IJ Y1) (hA : ∀ i, i < Y1.1.1 → zA Z (ph Y1 i)) (hc : yc Y1 ≤ cap (zr Z)) :
    OKZ (mvZ Z Y1 (yc Y1 - yc (zY Z)) (20 * (yc Y1 - yc (zY Z)))) S cc own nL ret dd ∧ EndM Qm cap Y0 (mvZ Z Y1 (yc Y1 - yc (zY Z)) (20 * (yc Y1 - yc (zY Z)))) := by
  obtain ⟨h1, h2, h3, h4, h5, h6, h7, h8, h9, h10, h11, h12, h13, h14, h15, h16⟩ := hZ
  obtain ⟨e1, e2, e3, e4, e5, e6, e7⟩ := hE
  have m1 := e2.2.2.2.2.2.2.2
  have m2 := hq.2.2.2.2.2.2.2
  refine ⟨⟨h1, h2, h3, h4, h5, h6, h7, MV_KE hq h8, hi, hA, MV_STR hq h11, hq.1.trans h12, h13, h14, ?_, ?_⟩, e1, e2.tr hq, e3, ?_, ?_, e6, e7⟩
  · show zu Z + (yc Y1 - yc (zY Z)) ≤ zmc Z
    rw [e4, e6]; omega
  · show zv Z + 20 * (yc Y1 - yc (zY Z)) ≤ zms Z
    rw [e5, e7]; omega
  · show zu Z + (yc Y1 - yc (zY Z)) = yc Y1 - yc Y0
    rw [e4]; omega
  · show zv Z + 20 * (yc Y1 - yc (zY Z)) = 20 * (yc Y1 - yc Y0)
    rw [e5]; omega
theorem bw_callMI {i ci o nL' n d' : Nat} {y : MethodName} {cc' : ByteArray} {rt : FieldType} {As stk : List Value} {oc : Option (Int32 × Wd × Nat)} {F : Int32 → Wd → Nat → Option ρ} {Qm : Ev → (Nat → Prop) → ρ → Array Value → State → Outcome → State → Prop} {cap : ρ → Nat} {Y0 : Ev} (hZ : OKZ Z S cc own nL ret dd) (hE : EndM Qm cap Y0 Z) (ml : ML own i y cc' nL' n (some rt)) (rc : RC ci y.cls) (ob : OB S o ci) (hd : d' < dd) (hc : CMI (zl Z) (zY Z) y cc' nL' d' (.ref (ph (zY Z) o) :: As) w rt oc) (hn : As.length = n) (lv1 : Ev → List (Nat × Value)) (st1 : Ev → List Value) (hlv : lv = lv1 (zY Z)) (hst : stk = As.reverse ++ .ref (ph (zY Z) o) :: st1 (zY Z)) (hmv : ∀ Y1, MV (zY Z) Y1 → lv1 (zY Z) = lv1 Y1 ∧ st1 (zY Z) = st1 Y1) (hW : ((st1 (zY Z)).map fun v => v.category).sum ≤ 8) (d : decode cc pc = .ok (.invokevirtual i, 3)) (hmono : ∀ r w1 c1 q, F r w1 c1 = some q → c1 ≤ cap q)
    (kk : ∀ Z1 : Cz ρ, OKZ Z1 S cc own nL ret dd → EndM Qm cap Y0 Z1 → zl Z1 = zl Z → ∀ r w1, BW Z1 nL (pc + 3) (lv1 (zY Z1)) (.int r :: st1 (zY Z1)) w1 (F r w1 (yc (zY Z1)))) : BW Z nL pc lv stk w (clm oc F) := by
  intro hr H locs ls hP hS hl
  cases hoc : oc with
  | none => rw [hoc] at hr; cases hr
  | some q =>
    rw [hoc] at hr
    have hr : F q.1 q.2.1 q.2.2 = some (zr Z) := hr
    have hcap := hmono _ _ _ _ hr
    subst hst
    subst hlv
    have hM := hc q hoc H.size
    obtain ⟨hci, T, N, hcl⟩ := rc
    have hE' := hE
    obtain ⟨e1, e2, e3, e4, e5, e6, e7⟩ := hE
    have hR := hZ.2.2.2.2.2.2.2.2.2.2.2.2.2.1
    have m1 := e2.2.2.2.2.2.2.2
    have hrun := va_runV (H := H) (locs := locs) (cells := zu Z) (slots := zv Z) (p := zp Z) (l := zl Z) (e := ze Z) (below := zb Z) (meth := zme Z) (g := F0 (zm Z) pc ls (As.reverse ++ .ref (ph (zY Z) o) :: st1 (zY Z))) (As := As) (rest := st1 (zY Z)) (b := ph (zY Z) o) (fix_of hZ) hM (cwV_of hZ ml hd) ⟨PREz.blind _ _ _ _, recv_at hZ ob hci hcl hP, fun U hU hW => ⟨rfl, by rw [hU], pre_at hZ hP hS U hU hW⟩⟩ rfl hn hl.1 rfl (lv_room hW) d (by
      rw [hR]
      by_cases hle : yc (zY Z) ≤ q.2.2
      · constructor
        · show zu Z + (q.2.2 - yc (zY Z)) ≤ zmc Z
          rw [e4, e6]; omega
        · show zv Z + 20 * (q.2.2 - yc (zY Z)) ≤ zms Z
          rw [e5, e7]; omega
      · have hz : q.2.2 - yc (zY Z) = 0 := by omega
        rw [hz]
        exact ⟨hZ.2.2.2.2.2.2.2.2.2.2.2.2.2.2.1, hZ.2.2.2.2.2.2.2.2.2.2.2.2.2.2.2⟩)
    have hsub : ∀ q, frA (zY Z) H.size q → zA Z q := fun q h => h.elim (fr_sub hZ q) (fun h => e3 q (Nat.le_trans hS.1 h))
    refine va_calli hrun hS (fun q _ h => hsub q h) hsub fun a Y1 t H1 locs1 ht _ hp hB _ _ hS1 => ?_
    obtain ⟨rfl, hm1, hm2, hm3, hm4⟩ := hp
    obtain ⟨k1, k2⟩ := mvZ_ok (c := 0) hZ hE' (Or.inr trivial) hm1 hm3 (fun i hi => hsub _ (hm4 i hi)) (by rw [hm2]; exact hcap)
    obtain ⟨l1, l2⟩ := hmv Y1 hm1
    have key := kk _ k1 k2 rfl q.1 q.2.1 (by show F q.1 q.2.1 (yc Y1) = some (zr Z); rw [hm2]; exact hr) H1 locs1 ls (by rw [← ht]; exact hB) hS1 (by show lv_has ls nL (lv1 Y1); rw [← l1]; exact hl)
    have key2 : ZW (mvZ Z Y1 (yc Y1 - yc (zY Z)) (20 * (yc Y1 - yc (zY Z)))) H1 locs1 (F0 (zm Z) (pc + 3) ls (.int q.1 :: st1 Y1)) := key
    rw [← l2, hm2] at key2
    exact key2
theorem bw_callMV {i ci o nL' n d' : Nat} {y : MethodName} {cc' : ByteArray} {As stk : List Value} {oc : Option (Wd × Nat)} {F : Wd → Nat → Option ρ} {Qm : Ev → (Nat → Prop) → ρ → Array Value → State → Outcome → State → Prop} {cap : ρ → Nat} {Y0 : Ev} (hZ : OKZ Z S cc own nL ret dd) (hE : EndM Qm cap Y0 Z) (ml : ML own i y cc' nL' n none) (rc : RC ci y.cls) (ob : OB S o ci) (hd : d' < dd) (hc : CMV (zl Z) (zY Z) y cc' nL' d' (.ref (ph (zY Z) o) :: As) w oc) (hn : As.length = n) (lv1 : Ev → List (Nat × Value)) (st1 : Ev → List Value) (hlv : lv = lv1 (zY Z)) (hst : stk = As.reverse ++ .ref (ph (zY Z) o) :: st1 (zY Z)) (hmv : ∀ Y1, MV (zY Z) Y1 → lv1 (zY Z) = lv1 Y1 ∧ st1 (zY Z) = st1 Y1) (hW : ((st1 (zY Z)).map fun v => v.category).sum ≤ 8) (d : decode cc pc = .ok (.invokevirtual i, 3)) (hmono : ∀ w1 c1 q, F w1 c1 = some q → c1 ≤ cap q)
    (kk : ∀ Z1 : Cz ρ, OKZ Z1 S cc own nL ret dd → EndM Qm cap Y0 Z1 → zl Z1 = zl Z → ∀ w1, BW Z1 nL (pc + 3) (lv1 (zY Z1)) (st1 (zY Z1)) w1 (F w1 (yc (zY Z1)))) : BW Z nL pc lv stk w (cvm oc F) := by
  intro hr H locs ls hP hS hl
  cases hoc : oc with
  | none => rw [hoc] at hr; cases hr
  | some q =>
    rw [hoc] at hr
    have hr : F q.1 q.2 = some (zr Z) := hr
    have hcap := hmono _ _ _ hr
    subst hst
    subst hlv
    have hM := hc q hoc H.size
    obtain ⟨hci, T, N, hcl⟩ := rc
    have hE' := hE
    obtain ⟨e1, e2, e3, e4, e5, e6, e7⟩ := hE
    have hR := hZ.2.2.2.2.2.2.2.2.2.2.2.2.2.1
    have m1 := e2.2.2.2.2.2.2.2
    have hrun := va_runV (H := H) (locs := locs) (cells := zu Z) (slots := zv Z) (p := zp Z) (l := zl Z) (e := ze Z) (below := zb Z) (meth := zme Z) (g := F0 (zm Z) pc ls (As.reverse ++ .ref (ph (zY Z) o) :: st1 (zY Z))) (As := As) (rest := st1 (zY Z)) (b := ph (zY Z) o) (fix_of hZ) hM (cwV_of hZ ml hd) ⟨PREz.blind _ _ _ _, recv_at hZ ob hci hcl hP, fun U hU hW => ⟨rfl, by rw [hU], pre_at hZ hP hS U hU hW⟩⟩ rfl hn hl.1 rfl (lv_room hW) d (by
      rw [hR]
      by_cases hle : yc (zY Z) ≤ q.2
      · constructor
        · show zu Z + (q.2 - yc (zY Z)) ≤ zmc Z
          rw [e4, e6]; omega
        · show zv Z + 20 * (q.2 - yc (zY Z)) ≤ zms Z
          rw [e5, e7]; omega
      · have hz : q.2 - yc (zY Z) = 0 := by omega
        rw [hz]
        exact ⟨hZ.2.2.2.2.2.2.2.2.2.2.2.2.2.2.1, hZ.2.2.2.2.2.2.2.2.2.2.2.2.2.2.2⟩)
    have hsub : ∀ q, frA (zY Z) H.size q → zA Z q := fun q h => h.elim (fr_sub hZ q) (fun h => e3 q (Nat.le_trans hS.1 h))
    refine va_callv hrun hS (fun q _ h => hsub q h) hsub fun Y1 t H1 locs1 ht _ hp hB _ _ hS1 => ?_
    obtain ⟨hm1, hm2, hm3, hm4⟩ := hp
    obtain ⟨k1, k2⟩ := mvZ_ok (c := 0) hZ hE' (Or.inr trivial) hm1 hm3 (fun i hi => hsub _ (hm4 i hi)) (by rw [hm2]; exact hcap)
    obtain ⟨l1, l2⟩ := hmv Y1 hm1
    have key := kk _ k1 k2 rfl q.1 (by show F q.1 (yc Y1) = some (zr Z); rw [hm2]; exact hr) H1 locs1 ls (by rw [← ht]; exact hB) hS1 (by show lv_has ls nL (lv1 Y1); rw [← l1]; exact hl)
    have key2 : ZW (mvZ Z Y1 (yc Y1 - yc (zY Z)) (20 * (yc Y1 - yc (zY Z)))) H1 locs1 (F0 (zm Z) (pc + 3) ls (st1 Y1)) := key
    rw [← l2, hm2] at key2
    exact key2
end Zρ
theorem CMI_of {S : Shp} {l : Launch} {Y : Ev} {y : MethodName} {cc : ByteArray} {nL dd : Nat} {av : List Value} {w : Wd} {rt : FieldType} {out : Option (Int32 × Wd × Nat)} (hy : plainName y.cls = true) (hn : (lg_sl av).length ≤ nL) (hY : Y.1 = S) (body : ∀ Z : Cz (Int32 × Wd × Nat), zl Z = l → zY Z = Y → OKZ Z S cc y.cls nL (some rt) dd → EndM QMI cI Y Z → BW Z nL 0 (lv_args 0 av) [] w out) : CMI l Y y cc nL dd av w rt out := by
  intro r hr sz
  refine Met.ofW (cc := cc) (maxL := nL) (ret := (some rt)) hy rfl ?_
  intro p e s m args below meth c s₁ B hml hv
  obtain ⟨rfl, rfl, hP, hK, hI, hS⟩ := hv
  have hts := atoms_spec (ws := .code y cc nL (some rt) :: GT) B.pre
  have hbody := body ((p, l, e, rmD dd (r.2.2 - yc Y) (20 * (r.2.2 - yc Y)), s, m, av.toArray, below, meth, c), Y, frA Y s.heap.size, (0, 0, r.2.2 - yc Y, 20 * (r.2.2 - yc Y)), dd, r, QMI Y (frA Y s.heap.size) r) rfl rfl ⟨B.exec, B.bytes, hml, findClass_of_methodNamed B.named, fun w hw => hts w (List.mem_cons_of_mem _ hw), B.notSynchronized, B.returns, hK, hI, fun i hi => Or.inl ⟨i, hi, rfl⟩, STR_wide hS, hY, rfl, rfl, Nat.zero_le _, Nat.zero_le _⟩ ⟨rfl, MV.rf Y, fun q h => Or.inr h, (Nat.sub_self _).symm, by show 0 = 20 * (yc Y - yc Y); rw [Nat.sub_self], rfl, rfl⟩ hr s.heap []
  rw [lg_entry_eq]
  exact hbody _ hP va_S.rf (lv_entry av hn)
theorem CMV_of {S : Shp} {l : Launch} {Y : Ev} {y : MethodName} {cc : ByteArray} {nL dd : Nat} {av : List Value} {w : Wd} {out : Option (Wd × Nat)} (hy : plainName y.cls = true) (hn : (lg_sl av).length ≤ nL) (hY : Y.1 = S) (body : ∀ Z : Cz (Wd × Nat), zl Z = l → zY Z = Y → OKZ Z S cc y.cls nL none dd → EndM QMV cV Y Z → BW Z nL 0 (lv_args 0 av) [] w out) : CMV l Y y cc nL dd av w out := by
  intro r hr sz
  refine Met.ofW (cc := cc) (maxL := nL) (ret := none) hy rfl ?_
  intro p e s m args below meth c s₁ B hml hv
  obtain ⟨rfl, rfl, hP, hK, hI, hS⟩ := hv
  have hts := atoms_spec (ws := .code y cc nL none :: GT) B.pre
  have hbody := body ((p, l, e, rmD dd (r.2 - yc Y) (20 * (r.2 - yc Y)), s, m, av.toArray, below, meth, c), Y, frA Y s.heap.size, (0, 0, r.2 - yc Y, 20 * (r.2 - yc Y)), dd, r, QMV Y (frA Y s.heap.size) r) rfl rfl ⟨B.exec, B.bytes, hml, findClass_of_methodNamed B.named, fun w hw => hts w (List.mem_cons_of_mem _ hw), B.notSynchronized, B.returns, hK, hI, fun i hi => Or.inl ⟨i, hi, rfl⟩, STR_wide hS, hY, rfl, rfl, Nat.zero_le _, Nat.zero_le _⟩ ⟨rfl, MV.rf Y, fun q h => Or.inr h, (Nat.sub_self _).symm, by show 0 = 20 * (yc Y - yc Y); rw [Nat.sub_self], rfl, rfl⟩ hr s.heap []
  rw [lg_entry_eq]
  exact hbody _ hP va_S.rf (lv_entry av hn)
/-- the room never shrinks -/
def Mono {ρ : Type} (cap : ρ → Nat) (c : Nat) (out : Option ρ) : Prop := ∀ q, out = some q → c ≤ cap q
section Mo
variable {ρ α β : Type} {cap : ρ → Nat} {c : Nat}
theorem mo_none : Mono cap c none := fun q h => by cases h
theorem mo_some {q : ρ} (h : c ≤ cap q := by exact Nat.le_refl _) : Mono cap c (some q) := fun q h => by cases h; assumption
theorem mo_lt {x : α} {f : α → Option ρ} (h : ∀ y, Mono cap c (f y)) : Mono cap c (lt x f) := h x
theorem mo_if {p : Prop} {hp : Decidable p} {a b : Option ρ} (h1 : Mono cap c a) (h2 : Mono cap c b) : Mono cap c (@ite _ p hp a b) := by
  by_cases h : p
  · rw [if_pos h]; exact h1
  · rw [if_neg h]; exact h2
theorem mo_cl {x : Option (α × Wd)} {f : α → Wd → Option ρ} (h : ∀ r w, Mono cap c (f r w)) : Mono cap c (cl x f) := by
  cases x with
  | none => exact mo_none
  | some q => exact h q.1 q.2
theorem mo_cv {x : Option Wd} {f : Wd → Option ρ} (h : ∀ w, Mono cap c (f w)) : Mono cap c (cv x f) := by
  cases x with
  | none => exact mo_none
  | some q => exact h q
theorem mo_clm {x : Option (Int32 × Wd × Nat)} {f : Int32 → Wd → Nat → Option ρ} (h0 : Mono cI c x) (h : ∀ r w c1, Mono cap c1 (f r w c1)) : Mono cap c (clm x f) := by
  cases x with
  | none => exact mo_none
  | some q => exact fun z hz => Nat.le_trans (h0 q rfl) (h q.1 q.2.1 q.2.2 z hz)
theorem mo_cvm {x : Option (Wd × Nat)} {f : Wd → Nat → Option ρ} (h0 : Mono cV c x) (h : ∀ w c1, Mono cap c1 (f w c1)) : Mono cap c (cvm x f) := by
  cases x with
  | none => exact mo_none
  | some q => exact fun z hz => Nat.le_trans (h0 q rfl) (h q.1 q.2 z hz)
end Mo
