def sNum : Nat := 47
def sLen : List Nat := [4, 4, 4, 6, 4, 3, 4, 4, 4, 4, 4, 5, 5, 4, 4, 4, 0, 3, 5, 4, 4, 5, 6, 5, 3, 6, 4, 5, 2, 5, 4, 4, 6, 2, 4, 3, 2, 2, 4, 3, 5, 4, 3, 4, 5, 5, 4]
def sByt : List (List Int32) := [[108, 97, 110, 100], [115, 101, 101, 110], [104, 97, 110, 100], [112, 101, 110, 99, 105, 108], [103, 97, 105, 110], [119, 101, 100], [112, 97, 114, 116], [116, 101, 97, 114], [119, 97, 107, 101], [108, 111, 115, 116], [119, 105, 102, 101], [102, 111, 114, 99, 101], [104, 111, 117, 115, 101], [109, 111, 118, 101], [118, 111, 105, 100], [103, 105, 102, 116], [], [111, 119, 110], [116, 104, 101, 114, 101], [104, 111, 109, 101], [98, 111, 114, 110], [99, 111, 117, 114, 116], [112, 101, 114, 115, 111, 110], [99, 104, 105, 108, 100], [107, 105, 110], [102, 114, 105, 101, 110, 100], [100, 101, 97, 100], [116, 104, 105, 110, 103], [105, 110], [109, 111, 110, 101, 121], [111, 119, 101, 100], [109, 97, 100, 101], [115, 105, 103, 110, 101, 100], [98, 121], [103, 105, 118, 101], [112, 97, 121], [116, 111], [105, 102], [102, 97, 99, 116], [110, 111, 116], [97, 108, 105, 118, 101], [114, 101, 115, 116], [97, 110, 100], [117, 110, 100, 111], [112, 97, 112, 101, 114], [97, 103, 97, 105, 110], [119, 105, 116, 104]]
def sTab : List (String × Nat × String × Nat) := [("WhichWill$Estate", 107, "land", 0), ("WhichWill$Estate", 189, "seen", 1), ("WhichWill$Estate", 191, "hand", 2), ("WhichWill$Estate", 193, "pencil", 3), ("WhichWill$Estate", 195, "gain", 4), ("WhichWill$Estate", 197, "wed", 5), ("WhichWill$Estate", 199, "part", 6), ("WhichWill$Estate", 201, "tear", 7), ("WhichWill$Estate", 203, "wake", 8), ("WhichWill$Estate", 205, "lost", 9), ("WhichWill$Estate", 207, "wife", 10), ("WhichWill$Estate", 208, "force", 11), ("WhichWill$Estate", 210, "house", 12), ("WhichWill$Estate", 212, "move", 13), ("WhichWill$Estate", 214, "void", 14), ("WhichWill$Estate", 216, "gift", 15), ("WhichWill$Estate", 218, "", 16), ("WhichWill$Estate", 224, "own", 17), ("WhichWill$Estate", 226, "there", 18), ("WhichWill$Estate", 121, "home", 19), ("WhichWill$Estate", 122, "born", 20), ("WhichWill$Estate", 116, "court", 21), ("WhichWill$Estate", 123, "person", 22), ("WhichWill$Estate", 235, "child", 23), ("WhichWill$Estate", 237, "kin", 24), ("WhichWill$Estate", 239, "friend", 25), ("WhichWill$Estate", 231, "dead", 26), ("WhichWill$Estate", 128, "thing", 27), ("WhichWill$Estate", 241, "in", 28), ("WhichWill$Estate", 133, "money", 29), ("WhichWill$Estate", 137, "owed", 30), ("WhichWill$Paper", 87, "made", 31), ("WhichWill$Paper", 97, "hand", 2), ("WhichWill$Paper", 103, "pencil", 3), ("WhichWill$Paper", 105, "signed", 32), ("WhichWill$Paper", 107, "by", 33), ("WhichWill$Paper", 113, "give", 34), ("WhichWill$Paper", 115, "pay", 35), ("WhichWill$Paper", 180, "to", 36), ("WhichWill$Paper", 185, "if", 37), ("WhichWill$Paper", 187, "fact", 38), ("WhichWill$Paper", 189, "not", 39), ("WhichWill$Paper", 191, "dead", 26), ("WhichWill$Paper", 193, "alive", 40), ("WhichWill$Paper", 120, "rest", 41), ("WhichWill$Paper", 195, "and", 42), ("WhichWill$Paper", 124, "undo", 43), ("WhichWill$Paper", 197, "paper", 44), ("WhichWill$Paper", 132, "again", 45), ("WhichWill$Paper", 142, "with", 46), ("WhichWillModel", 217, "land", 0), ("WhichWillModel", 82, "seen", 1), ("WhichWillModel", 84, "hand", 2), ("WhichWillModel", 85, "pencil", 3), ("WhichWillModel", 87, "gain", 4), ("WhichWillModel", 89, "wed", 5), ("WhichWillModel", 91, "part", 6), ("WhichWillModel", 93, "tear", 7), ("WhichWillModel", 95, "wake", 8), ("WhichWillModel", 97, "lost", 9), ("WhichWillModel", 99, "wife", 10), ("WhichWillModel", 101, "force", 11), ("WhichWillModel", 103, "house", 12), ("WhichWillModel", 105, "move", 13), ("WhichWillModel", 107, "void", 14), ("WhichWillModel", 109, "gift", 15), ("WhichWillModel", 111, "own", 17), ("WhichWillModel", 113, "there", 18), ("WhichWillModel", 115, "home", 19), ("WhichWillModel", 117, "born", 20), ("WhichWillModel", 223, "person", 22), ("WhichWillModel", 152, "child", 23), ("WhichWillModel", 154, "kin", 24), ("WhichWillModel", 156, "friend", 25), ("WhichWillModel", 174, "dead", 26), ("WhichWillModel", 228, "thing", 27), ("WhichWillModel", 188, "in", 28), ("WhichWillModel", 189, "court", 21), ("WhichWillModel", 191, "money", 29), ("WhichWillModel", 193, "owed", 30), ("WhichWillModel", 496, "give", 34), ("WhichWillModel", 465, "to", 36), ("WhichWillModel", 457, "if", 37), ("WhichWillModel", 459, "fact", 38), ("WhichWillModel", 461, "not", 39), ("WhichWillModel", 463, "alive", 40), ("WhichWillModel", 502, "pay", 35), ("WhichWillModel", 504, "undo", 43), ("WhichWillModel", 478, "paper", 44), ("WhichWillModel", 509, "by", 33), ("WhichWillModel", 514, "again", 45), ("WhichWillModel", 483, "made", 31), ("WhichWillModel", 485, "signed", 32), ("WhichWillModel", 487, "rest", 41), ("WhichWillModel", 489, "with", 46), ("WhichWillModel", 476, "and", 42)]
/-! worlds: numbered cells of a fixed shape; w = (ints by cell and place, longs by cell and place) -/
abbrev Wd : Type := (Nat → Nat → Int32) × (Nat → Nat → Int64)
def wI (w : Wd) (o k : Nat) (v : Int32) : Wd := (fun a => if a = o then upd (w.1 o) k v else w.1 a, w.2)
def wG (w : Wd) (o k : Nat) (v : Int64) : Wd := (w.1, fun a => if a = o then vp_updL (w.2 o) k v else w.2 a)
/-- how many cells; a cell's kind (below 20 a class, else an array); an array's length, by the room; where a reference leads -/
abbrev Shp : Type := Nat × (Nat → Nat) × (Nat → Nat → Nat) × (Nat → Nat → Nat)
def fcode (t : FieldType) : Nat := match t with
  | .long => 1
  | .object _ => 2
  | .array _ => 2
  | .boolean => 3
  | _ => 0
def tyOf (c : Nat) : Nat → FieldType := match c with
  | 0 => tyX0
  | 1 => tyX1
  | 2 => tyX2
  | 3 => tyX3
  | 4 => tyX4
  | 5 => tyX5
  | 6 => tyX6
  | 7 => tyX7
  | 8 => tyX8
  | 9 => tyX9
  | 10 => tyX10
  | 11 => tyX11
  | _ => tyX12
def nfl (c : Nat) : Nat := match c with
  | 0 => 19
  | 1 => 5
  | 2 => 10
  | 3 => 7
  | 4 => 2
  | 5 => 10
  | 6 => 17
  | 7 => 14
  | 8 => 11
  | 9 => 11
  | 10 => 9
  | 11 => 9
  | _ => 106
/-- shape; classes; slots; array classes; addresses of the cells; addresses of the texts and of their bytes; the room of the rows that grow -/
abbrev Ev : Type := Shp × (Nat → ClassId) × (Nat → Nat → Nat) × (Nat → ClassId) × (Nat → Nat) × (Nat → Nat) × (Nat → Nat) × Nat
def ph (Y : Ev) (i : Nat) : Nat := Y.2.2.2.2.1 i
def sK (Y : Ev) (i : Nat) : Nat := Y.2.2.2.2.2.1 i
def sV (Y : Ev) (i : Nat) : Nat := Y.2.2.2.2.2.2.1 i
def yc (Y : Ev) : Nat := Y.2.2.2.2.2.2.2
def fV (Y : Ev) (w : Wd) (c id k : Nat) : Value := match fcode (tyOf c k) with
  | 1 => .long (w.2 id k)
  | 2 => .ref (ph Y (Y.1.2.2.2 id k))
  | _ => .int (w.1 id k)
def aV (Y : Ev) (w : Wd) (t id : Nat) : vp_A := (Y.1.2.2.1 (yc Y) id, if t < 23 then .inl (w.1 id) else if t = 23 then .inr (.inl (w.2 id)) else .inr (.inr (.inr (.inr (fun j => some (ph Y (Y.1.2.2.2 id j)))))))
def cellW (Y : Ev) (w : Wd) (id : Nat) : va_E := if Y.1.2.1 id < 20 then .inr (Y.1.2.1 id, (List.range (nfl (Y.1.2.1 id))).map (fV Y w (Y.1.2.1 id) id)) else .inl (Y.2.2.2.1 (Y.1.2.1 id), aV Y w (Y.1.2.1 id) id)
def wsW (Y : Ev) (w : Wd) : va_W := (List.range Y.1.1).map fun id => (ph Y id, cellW Y w id)
def RP (Y : Ev) (w : Wd) (H : Heap) : Prop := va_P (Y.2.1, Y.2.2.1) vwCl (wsW Y w) H
def frE (Y : Ev) : Nat → Prop := fun q => ∃ id, id < Y.1.1 ∧ ph Y id = q
def tysE (Y : Ev) : List (ClassId × FieldType) := [(Y.2.2.2.1 20, .int), (Y.2.2.2.1 21, .byte), (Y.2.2.2.1 22, .boolean), (Y.2.2.2.1 23, .long), (Y.2.2.2.1 24, .object RX6), (Y.2.2.2.1 25, .object RX1), (Y.2.2.2.1 26, .object RX8)]
def KE (Y : Ev) (s : State) : Prop := va_K (Y.2.1, Y.2.2.1) vwCl (tysE Y) s
def IJ (Y : Ev) : Prop := ∀ i j, i < Y.1.1 → j < Y.1.1 → ph Y i = ph Y j → i = j
theorem ws_at (Y : Ev) (w : Wd) {id : Nat} (h : id < Y.1.1) : (wsW Y w)[id]? = some (ph Y id, cellW Y w id) := by
  simp [wsW, List.getElem?_range h]
theorem ws_get {Y : Ev} {w : Wd} {id : Nat} {q : Nat × va_E} (h : (wsW Y w)[id]? = some q) : id < Y.1.1 ∧ q = (ph Y id, cellW Y w id) := by
  have hl : id < (wsW Y w).length := (List.getElem?_eq_some_iff.mp h).1
  have hl2 : id < Y.1.1 := by simpa [wsW] using hl
  rw [ws_at Y w hl2] at h
  exact ⟨hl2, (Option.some.inj h).symm⟩
theorem ws_D {Y : Ev} {w : Wd} {A : Nat → Prop} (hi : IJ Y) (hA : ∀ i, i < Y.1.1 → A (ph Y i)) : va_D A (wsW Y w) := by
  refine ⟨fun i j p q h1 h2 e => ?_, fun k q h => ?_⟩
  · obtain ⟨a1, rfl⟩ := ws_get h1
    obtain ⟨a2, rfl⟩ := ws_get h2
    exact hi i j a1 a2 e
  · obtain ⟨a1, rfl⟩ := ws_get h
    exact hA k a1
theorem cell_obj {Y : Ev} {w : Wd} {id c : Nat} (h : Y.1.2.1 id = c) (hc : c < 20) : cellW Y w id = .inr (c, (List.range (nfl c)).map (fV Y w c id)) := by
  unfold cellW; rw [h, if_pos hc]
theorem cell_int {Y : Ev} {w : Wd} {id t : Nat} (h : Y.1.2.1 id = t) (h1 : 20 ≤ t) (h2 : t < 23) : cellW Y w id = .inl (Y.2.2.2.1 t, Y.1.2.2.1 (yc Y) id, .inl (w.1 id)) := by
  unfold cellW aV; rw [h, if_neg (by omega), if_pos h2]
theorem cell_long {Y : Ev} {w : Wd} {id : Nat} (h : Y.1.2.1 id = 23) : cellW Y w id = .inl (Y.2.2.2.1 23, Y.1.2.2.1 (yc Y) id, .inr (.inl (w.2 id))) := by
  unfold cellW aV; rw [h, if_neg (by omega), if_neg (by omega), if_pos rfl]
theorem cell_ref {Y : Ev} {w : Wd} {id t : Nat} (h : Y.1.2.1 id = t) (h1 : 24 ≤ t) : cellW Y w id = .inl (Y.2.2.2.1 t, Y.1.2.2.1 (yc Y) id, .inr (.inr (.inr (.inr (fun j => some (ph Y (Y.1.2.2.2 id j))))))) := by
  unfold cellW aV; rw [h, if_neg (by omega), if_neg (by omega), if_neg (by omega)]
theorem cell_congr {Y : Ev} {w w' : Wd} {id : Nat} (h1 : w'.1 id = w.1 id) (h2 : w'.2 id = w.2 id) : cellW Y w' id = cellW Y w id := by
  unfold cellW aV
  have : fV Y w' (Y.1.2.1 id) id = fV Y w (Y.1.2.1 id) id := by
    funext k; unfold fV; rw [h1, h2]
  rw [h1, h2, this]
theorem ws_set {Y : Ev} {w w' : Wd} {o : Nat} {e : va_E} (ho : o < Y.1.1) (h : ∀ id, id ≠ o → cellW Y w' id = cellW Y w id) (he : cellW Y w' o = e) : (wsW Y w).set o (ph Y o, e) = wsW Y w' := by
  apply List.ext_getElem?
  intro i
  by_cases hi : i = o
  · subst hi
    have hl : i < (wsW Y w).length := by simpa [wsW] using ho
    rw [List.getElem?_set_self hl, ws_at Y w' ho, he]
  · rw [List.getElem?_set_ne (Ne.symm hi)]
    by_cases hl : i < Y.1.1
    · rw [ws_at Y w hl, ws_at Y w' hl, h i hi]
    · rw [List.getElem?_eq_none (by simpa [wsW] using hl), List.getElem?_eq_none (by simpa [wsW] using hl)]
theorem wI_ne {w : Wd} {o k a : Nat} {v : Int32} (h : a ≠ o) : (wI w o k v).1 a = w.1 a := by simp [wI, h]
theorem wI_eq {w : Wd} {o k : Nat} {v : Int32} : (wI w o k v).1 o = upd (w.1 o) k v := by simp [wI]
theorem wG_ne {w : Wd} {o k a : Nat} {v : Int64} (h : a ≠ o) : (wG w o k v).2 a = w.2 a := by simp [wG, h]
theorem wG_eq {w : Wd} {o k : Nat} {v : Int64} : (wG w o k v).2 o = vp_updL (w.2 o) k v := by simp [wG]
theorem ws_putI {Y : Ev} {w : Wd} {o k c : Nat} {v : Int32} (ho : o < Y.1.1) (hk : Y.1.2.1 o = c) (hc : c < 20) (ht : fcode (tyOf c k) = 0 ∨ fcode (tyOf c k) = 3) : (wsW Y w).set o (ph Y o, .inr (c, ((List.range (nfl c)).map (fV Y w c o)).set k (.int v))) = wsW Y (wI w o k v) := by
  refine ws_set ho (fun id h => cell_congr (wI_ne h) rfl) ?_
  rw [cell_obj hk hc]
  congr 2
  apply List.ext_getElem?
  intro i
  by_cases hl : i < nfl c
  · by_cases hi : i = k
    · subst hi
      rw [List.getElem?_set_self (by simpa using hl)]
      simp only [List.getElem?_map, List.getElem?_range hl, Option.map_some, fV, wI_eq]
      rcases ht with h | h <;> rw [h] <;> simp [upd]
    · rw [List.getElem?_set_ne (Ne.symm hi)]
      simp only [List.getElem?_map, List.getElem?_range hl, Option.map_some, fV, wI_eq, upd, if_neg hi]
      rfl
  · rw [List.getElem?_eq_none (by simpa using hl), List.getElem?_eq_none (by simpa using hl)]
theorem ws_putG {Y : Ev} {w : Wd} {o k c : Nat} {v : Int64} (ho : o < Y.1.1) (hk : Y.1.2.1 o = c) (hc : c < 20) (ht : fcode (tyOf c k) = 1) : (wsW Y w).set o (ph Y o, .inr (c, ((List.range (nfl c)).map (fV Y w c o)).set k (.long v))) = wsW Y (wG w o k v) := by
  refine ws_set ho (fun id h => cell_congr rfl (wG_ne h)) ?_
  rw [cell_obj hk hc]
  congr 2
  apply List.ext_getElem?
  intro i
  by_cases hl : i < nfl c
  · by_cases hi : i = k
    · subst hi
      rw [List.getElem?_set_self (by simpa using hl)]
      simp only [List.getElem?_map, List.getElem?_range hl, Option.map_some, fV, wG_eq]
      rw [ht]; simp [vp_updL]
    · rw [List.getElem?_set_ne (Ne.symm hi)]
      simp only [List.getElem?_map, List.getElem?_range hl, Option.map_some, fV, wG_eq, vp_updL, if_neg hi]
      rfl
  · rw [List.getElem?_eq_none (by simpa using hl), List.getElem?_eq_none (by simpa using hl)]
theorem ws_ast {Y : Ev} {w : Wd} {o k t : Nat} {v : Int32} (ho : o < Y.1.1) (hk : Y.1.2.1 o = t) (h1 : 20 ≤ t) (h2 : t < 23) : (wsW Y w).set o (ph Y o, .inl (Y.2.2.2.1 t, Y.1.2.2.1 (yc Y) o, .inl (upd (w.1 o) k v))) = wsW Y (wI w o k v) := by
  refine ws_set ho (fun id h => cell_congr (wI_ne h) rfl) ?_
  rw [cell_int hk h1 h2, wI_eq]
theorem ws_last {Y : Ev} {w : Wd} {o k : Nat} {v : Int64} (ho : o < Y.1.1) (hk : Y.1.2.1 o = 23) : (wsW Y w).set o (ph Y o, .inl (Y.2.2.2.1 23, Y.1.2.2.1 (yc Y) o, .inr (.inl (vp_updL (w.2 o) k v)))) = wsW Y (wG w o k v) := by
  refine ws_set ho (fun id h => cell_congr rfl (wG_ne h)) ?_
  rw [cell_long hk, wG_eq]
/-! texts: their number, lengths, bytes; of each constant of a class: its class, entry, text, number -/
def STR (Y : Ev) (A : Nat → Prop) (s : State) (H : Heap) : Prop := vk_S sNum sLen sByt (sK Y) (sV Y) A s H ∧ (∀ i, i < sTab.length → ∀ q, sTab[i]? = some q → vk_R q.1 q.2.1 q.2.2.1 (sK Y q.2.2.2) s) ∧ va_Z "java/lang/String" "COMPACT_STRINGS" "Z" (.int 1) A s H ∧ va_Zq "jdk/internal/util/Preconditions" "SIOOBE_FORMATTER" "Ljava/util/function/BiFunction;" A s H
def rmD (d a b : Nat) : Room := { frames := d, cells := a, slots := b, locals := 40 * d }
abbrev Cx : Type := Program × Launch × Env × Room × State × MethodId × Array Value × List Frame × Method × Code
/-- machine; world; what may change; cells and slots made so far, and those that will have been; depth; the answer; the end that is due -/
abbrev Cz (ρ : Type) : Type := Cx × Ev × (Nat → Prop) × (Nat × Nat × Nat × Nat) × Nat × ρ × (Array Value → State → Outcome → State → Prop)
section Z
variable {ρ : Type}
abbrev zp (Z : Cz ρ) : Program := Z.1.1
abbrev zl (Z : Cz ρ) : Launch := Z.1.2.1
abbrev ze (Z : Cz ρ) : Env := Z.1.2.2.1
abbrev zR (Z : Cz ρ) : Room := Z.1.2.2.2.1
abbrev zs (Z : Cz ρ) : State := Z.1.2.2.2.2.1
abbrev zm (Z : Cz ρ) : MethodId := Z.1.2.2.2.2.2.1
abbrev za (Z : Cz ρ) : Array Value := Z.1.2.2.2.2.2.2.1
abbrev zb (Z : Cz ρ) : List Frame := Z.1.2.2.2.2.2.2.2.1
abbrev zme (Z : Cz ρ) : Method := Z.1.2.2.2.2.2.2.2.2.1
abbrev zc (Z : Cz ρ) : Code := Z.1.2.2.2.2.2.2.2.2.2
abbrev zY (Z : Cz ρ) : Ev := Z.2.1
abbrev zA (Z : Cz ρ) : Nat → Prop := Z.2.2.1
abbrev zu (Z : Cz ρ) : Nat := Z.2.2.2.1.1
abbrev zv (Z : Cz ρ) : Nat := Z.2.2.2.1.2.1
abbrev zmc (Z : Cz ρ) : Nat := Z.2.2.2.1.2.2.1
abbrev zms (Z : Cz ρ) : Nat := Z.2.2.2.1.2.2.2
abbrev zd (Z : Cz ρ) : Nat := Z.2.2.2.2.1
abbrev zr (Z : Cz ρ) : ρ := Z.2.2.2.2.2.1
abbrev zQ (Z : Cz ρ) : Array Value → State → Outcome → State → Prop := Z.2.2.2.2.2.2
/-- the machine in this method, at a place, with a heap, comes to the end that is due -/
def ZW (Z : Cz ρ) (H : Heap) (locs : List Loc) (g : JFrame) : Prop := W (zp Z) (zl Z) (ze Z) (zR Z) (zs Z) (zm Z) (za Z) (zb Z) (zme Z) (zc Z) H locs (zu Z) (zv Z) (MQ (zb Z) (zQ Z) (za Z) (zs Z) (zmc Z) (zms Z) (zA Z)) g
/-- from place pc with locals lv, stack st, world w the method comes to what out says -/
def BW (Z : Cz ρ) (nL pc : Nat) (lv : List (Nat × Value)) (st : List Value) (w : Wd) (out : Option ρ) : Prop :=
  out = some (zr Z) → ∀ (H : Heap) (locs : List Loc) (ls : Array Slot), RP (zY Z) w H → va_S (zA Z) (zs Z).heap H locs → lv_has ls nL lv → ZW Z H locs (F0 (zm Z) pc ls st)
def OKZ (Z : Cz ρ) (S : Shp) (cc : ByteArray) (own : String) (nL : Nat) (ret : Option FieldType) (dd : Nat) : Prop :=
  (zp Z).tables.exec = Jvm.exec ∧ (zc Z).code = cc ∧ (zc Z).maxLocals = nL ∧ (zs Z).vm.findClass own = some (zm Z).cls ∧ (∀ w ∈ GT, w.before (za Z) (zs Z) = true) ∧ (zme Z).locks = false ∧ (zme Z).sig.returnType = ret ∧ KE (zY Z) (zs Z) ∧ IJ (zY Z) ∧ (∀ i, i < (zY Z).1.1 → zA Z (ph (zY Z) i)) ∧ STR (zY Z) (zA Z) (zs Z) (zs Z).heap ∧ (zY Z).1 = S ∧ zd Z = dd ∧ zR Z = rmD dd (zmc Z) (zms Z) ∧ zu Z ≤ zmc Z ∧ zv Z ≤ zms Z
def lt {α β : Type} (x : α) (f : α → β) : β := f x
def cl {α β : Type} (x : Option (α × Wd)) (f : α → Wd → Option β) : Option β := match x with
  | none => none
  | some q => f q.1 q.2
def cv {β : Type} (x : Option Wd) (f : Wd → Option β) : Option β := match x with
  | none => none
  | some q => f q
variable {Z : Cz ρ} {S : Shp} {dd : Nat} {cc : ByteArray} {own : String} {nL : Nat} {ret : Option FieldType} {pc : Nat} {lv : List (Nat × Value)} {st : List Value} {w : Wd} {out : Option ρ}
theorem bw_none : BW Z nL pc lv st w none := fun h => by cases h
theorem bw_go {pc' : Nat} {st' : List Value} (f : ∀ (H : Heap) (locs : List Loc) (k n : Nat) (Q : State → Prop) (ls : Array Slot), lv_has ls nL lv → W (zp Z) (zl Z) (ze Z) (zR Z) (zs Z) (zm Z) (za Z) (zb Z) (zme Z) (zc Z) H locs k n Q (F0 (zm Z) pc' ls st') → W (zp Z) (zl Z) (ze Z) (zR Z) (zs Z) (zm Z) (za Z) (zb Z) (zme Z) (zc Z) H locs k n Q (F0 (zm Z) pc ls st)) (k : BW Z nL pc' lv st' w out) : BW Z nL pc lv st w out :=
  fun hr H locs ls hP hS hl => f _ _ _ _ _ _ hl (k hr H locs ls hP hS hl)
theorem bw_goL {pc' : Nat} {st' : List Value} {lv' : List (Nat × Value)} (f : ∀ (H : Heap) (locs : List Loc) (k n : Nat) (Q : State → Prop) (ls : Array Slot), lv_has ls nL lv → (∀ ls', lv_has ls' nL lv' → W (zp Z) (zl Z) (ze Z) (zR Z) (zs Z) (zm Z) (za Z) (zb Z) (zme Z) (zc Z) H locs k n Q (F0 (zm Z) pc' ls' st')) → W (zp Z) (zl Z) (ze Z) (zR Z) (zs Z) (zm Z) (za Z) (zb Z) (zme Z) (zc Z) H locs k n Q (F0 (zm Z) pc ls st)) (k : BW Z nL pc' lv' st' w out) : BW Z nL pc lv st w out :=
  fun hr H locs ls hP hS hl => f _ _ _ _ _ _ hl (fun ls' hl' => k hr H locs ls' hP hS hl')
theorem bw_sub (ks : List Nat) {lv' : List (Nat × Value)} (h : lv_pick lv ks = lv') (k : BW Z nL pc lv' st w out) : BW Z nL pc lv st w out :=
  fun hr H locs ls hP hS hl => k hr H locs ls hP hS (lv_sub hl ks h)
theorem bw_if {c : Prop} {hc : Decidable c} {o1 o2 : Option ρ} (h1 : c → BW Z nL pc lv st w o1) (h2 : ¬ c → BW Z nL pc lv st w o2) : BW Z nL pc lv st w (@ite _ c hc o1 o2) := by
  by_cases h : c
  · rw [if_pos h]; exact h1 h
  · rw [if_neg h]; exact h2 h
theorem bw_ck {c : Prop} {hc : Decidable c} (h1 : c → BW Z nL pc lv st w out) : BW Z nL pc lv st w (@ite _ c hc out none) := bw_if h1 (fun _ => bw_none)
theorem bw_iadd (hZ : OKZ Z S cc own nL ret dd) {x y : Int32} (d : decode cc pc = .ok (.iadd, 1)) (k : BW Z nL (pc + 1) lv (.int (x + y) :: st) w out) : BW Z nL pc lv (.int y :: .int x :: st) w out := bw_go (fun _ _ _ _ _ _ _ k => lv_iadd hZ.1 hZ.2.1 d k) k
theorem bw_isub (hZ : OKZ Z S cc own nL ret dd) {x y : Int32} (d : decode cc pc = .ok (.isub, 1)) (k : BW Z nL (pc + 1) lv (.int (x - y) :: st) w out) : BW Z nL pc lv (.int y :: .int x :: st) w out := bw_go (fun _ _ _ _ _ _ _ k => lv_isub hZ.1 hZ.2.1 d k) k
theorem bw_imul (hZ : OKZ Z S cc own nL ret dd) {x y : Int32} (d : decode cc pc = .ok (.imul, 1)) (k : BW Z nL (pc + 1) lv (.int (x * y) :: st) w out) : BW Z nL pc lv (.int y :: .int x :: st) w out := bw_go (fun _ _ _ _ _ _ _ k => lv_imul hZ.1 hZ.2.1 d k) k
theorem bw_iand (hZ : OKZ Z S cc own nL ret dd) {x y : Int32} (d : decode cc pc = .ok (.iand, 1)) (k : BW Z nL (pc + 1) lv (.int (x &&& y) :: st) w out) : BW Z nL pc lv (.int y :: .int x :: st) w out := bw_go (fun _ _ _ _ _ _ _ k => lv_iand hZ.1 hZ.2.1 d k) k
theorem bw_ior (hZ : OKZ Z S cc own nL ret dd) {x y : Int32} (d : decode cc pc = .ok (.ior, 1)) (k : BW Z nL (pc + 1) lv (.int (x ||| y) :: st) w out) : BW Z nL pc lv (.int y :: .int x :: st) w out := bw_go (fun _ _ _ _ _ _ _ k => lv_ior hZ.1 hZ.2.1 d k) k
theorem bw_ixor (hZ : OKZ Z S cc own nL ret dd) {x y : Int32} (d : decode cc pc = .ok (.ixor, 1)) (k : BW Z nL (pc + 1) lv (.int (x ^^^ y) :: st) w out) : BW Z nL pc lv (.int y :: .int x :: st) w out := bw_go (fun _ _ _ _ _ _ _ k => lv_ixor hZ.1 hZ.2.1 d k) k
theorem bw_ishl (hZ : OKZ Z S cc own nL ret dd) {x y : Int32} (d : decode cc pc = .ok (.ishl, 1)) (k : BW Z nL (pc + 1) lv (.int (x <<< (y &&& 31)) :: st) w out) : BW Z nL pc lv (.int y :: .int x :: st) w out := bw_go (fun _ _ _ _ _ _ _ k => lv_ishl hZ.1 hZ.2.1 d k) k
theorem bw_ishr (hZ : OKZ Z S cc own nL ret dd) {x y : Int32} (d : decode cc pc = .ok (.ishr, 1)) (k : BW Z nL (pc + 1) lv (.int (x >>> (y &&& 31)) :: st) w out) : BW Z nL pc lv (.int y :: .int x :: st) w out := bw_go (fun _ _ _ _ _ _ _ k => lv_ishr hZ.1 hZ.2.1 d k) k
theorem bw_ladd (hZ : OKZ Z S cc own nL ret dd) {x y : Int64} (d : decode cc pc = .ok (.ladd, 1)) (k : BW Z nL (pc + 1) lv (.long (x + y) :: st) w out) : BW Z nL pc lv (.long y :: .long x :: st) w out := bw_go (fun _ _ _ _ _ _ _ k => lv_ladd hZ.1 hZ.2.1 d k) k
theorem bw_lsub (hZ : OKZ Z S cc own nL ret dd) {x y : Int64} (d : decode cc pc = .ok (.lsub, 1)) (k : BW Z nL (pc + 1) lv (.long (x - y) :: st) w out) : BW Z nL pc lv (.long y :: .long x :: st) w out := bw_go (fun _ _ _ _ _ _ _ k => lv_lsub hZ.1 hZ.2.1 d k) k
theorem bw_lmul (hZ : OKZ Z S cc own nL ret dd) {x y : Int64} (d : decode cc pc = .ok (.lmul, 1)) (k : BW Z nL (pc + 1) lv (.long (x * y) :: st) w out) : BW Z nL pc lv (.long y :: .long x :: st) w out := bw_go (fun _ _ _ _ _ _ _ k => lv_lmul hZ.1 hZ.2.1 d k) k
theorem bw_lor (hZ : OKZ Z S cc own nL ret dd) {x y : Int64} (d : decode cc pc = .ok (.lor, 1)) (k : BW Z nL (pc + 1) lv (.long (x ||| y) :: st) w out) : BW Z nL pc lv (.long y :: .long x :: st) w out := bw_go (fun _ _ _ _ _ _ _ k => lv_lor hZ.1 hZ.2.1 d k) k
theorem bw_idiv (hZ : OKZ Z S cc own nL ret dd) {x y : Int32} (d : decode cc pc = .ok (.idiv, 1)) (k : BW Z nL (pc + 1) lv (.int (x / y) :: st) w out) : BW Z nL pc lv (.int y :: .int x :: st) w (if y = 0 then none else out) := bw_if (fun _ => bw_none) fun h => bw_go (fun _ _ _ _ _ _ _ k => lv_idiv hZ.1 hZ.2.1 d h k) k
theorem bw_irem (hZ : OKZ Z S cc own nL ret dd) {x y : Int32} (d : decode cc pc = .ok (.irem, 1)) (k : BW Z nL (pc + 1) lv (.int (x - x / y * y) :: st) w out) : BW Z nL pc lv (.int y :: .int x :: st) w (if y = 0 then none else out) := bw_if (fun _ => bw_none) fun h => bw_go (fun _ _ _ _ _ _ _ k => lv_irem hZ.1 hZ.2.1 d h k) k
theorem bw_ldiv (hZ : OKZ Z S cc own nL ret dd) {x y : Int64} (d : decode cc pc = .ok (.ldiv, 1)) (k : BW Z nL (pc + 1) lv (.long (x / y) :: st) w out) : BW Z nL pc lv (.long y :: .long x :: st) w (if y = 0 then none else out) := bw_if (fun _ => bw_none) fun h => bw_go (fun _ _ _ _ _ _ _ k => lv_ldiv hZ.1 hZ.2.1 d h k) k
theorem bw_iushr (hZ : OKZ Z S cc own nL ret dd) {x y : Int32} (d : decode cc pc = .ok (.iushr, 1)) (k : BW Z nL (pc + 1) lv (.int (x.toUInt32 >>> (y.toUInt32 &&& Int32.toUInt32 31)).toInt32 :: st) w out) : BW Z nL pc lv (.int y :: .int x :: st) w out := bw_go (fun _ _ _ _ _ _ _ k => lv_iushr hZ.1 hZ.2.1 d rfl k) k
theorem bw_lshl (hZ : OKZ Z S cc own nL ret dd) {x : Int64} {y : Int32} (d : decode cc pc = .ok (.lshl, 1)) (k : BW Z nL (pc + 1) lv (.long (x <<< (y.toInt64 &&& 63)) :: st) w out) : BW Z nL pc lv (.int y :: .long x :: st) w out := bw_go (fun _ _ _ _ _ _ _ k => lv_lshl hZ.1 hZ.2.1 d rfl k) k
theorem bw_lcmp (hZ : OKZ Z S cc own nL ret dd) {x y : Int64} (d : decode cc pc = .ok (.lcmp, 1)) (k : BW Z nL (pc + 1) lv (.int (lg_cmp x y) :: st) w out) : BW Z nL pc lv (.long y :: .long x :: st) w out := bw_go (fun _ _ _ _ _ _ _ k => W.lcmp hZ.1 hZ.2.1 d k) k
theorem bw_i2l (hZ : OKZ Z S cc own nL ret dd) {x : Int32} (d : decode cc pc = .ok (.i2l, 1)) (k : BW Z nL (pc + 1) lv (.long x.toInt64 :: st) w out) : BW Z nL pc lv (.int x :: st) w out := bw_go (fun _ _ _ _ _ _ _ k => lv_i2l hZ.1 hZ.2.1 d rfl k) k
theorem bw_l2i (hZ : OKZ Z S cc own nL ret dd) {x : Int64} (d : decode cc pc = .ok (.l2i, 1)) (k : BW Z nL (pc + 1) lv (.int x.toInt32 :: st) w out) : BW Z nL pc lv (.long x :: st) w out := bw_go (fun _ _ _ _ _ _ _ k => lv_l2i hZ.1 hZ.2.1 d rfl k) k
theorem bw_i2b (hZ : OKZ Z S cc own nL ret dd) {x : Int32} (d : decode cc pc = .ok (.i2b, 1)) (k : BW Z nL (pc + 1) lv (.int x.toInt8.toInt32 :: st) w out) : BW Z nL pc lv (.int x :: st) w out := bw_go (fun _ _ _ _ _ _ _ k => lv_i2b hZ.1 hZ.2.1 d rfl k) k
theorem bw_iconst (hZ : OKZ Z S cc own nL ret dd) {n : Int} (v : Int32) (hv : Int32.ofInt n = v) (d : decode cc pc = .ok (.iconst n, 1)) (k : BW Z nL (pc + 1) lv (.int v :: st) w out) : BW Z nL pc lv st w out := bw_go (fun _ _ _ _ _ _ _ k => lv_iconst hZ.1 hZ.2.1 d hv k) k
theorem bw_bipush (hZ : OKZ Z S cc own nL ret dd) {n : Int} (v : Int32) (hv : (Int8.ofInt n).toInt32 = v) (d : decode cc pc = .ok (.bipush n, 2)) (k : BW Z nL (pc + 2) lv (.int v :: st) w out) : BW Z nL pc lv st w out := bw_go (fun _ _ _ _ _ _ _ k => lv_bipush hZ.1 hZ.2.1 d hv k) k
theorem bw_sipush (hZ : OKZ Z S cc own nL ret dd) {n : Int} (v : Int32) (hv : (Int16.ofInt n).toInt32 = v) (d : decode cc pc = .ok (.sipush n, 3)) (k : BW Z nL (pc + 3) lv (.int v :: st) w out) : BW Z nL pc lv st w out := bw_go (fun _ _ _ _ _ _ _ k => lv_sipush hZ.1 hZ.2.1 d hv k) k
theorem bw_lconst (hZ : OKZ Z S cc own nL ret dd) {n : Fin 2} (v : Int64) (hv : Int64.ofNat (n : Nat) = v) (d : decode cc pc = .ok (.lconst n, 1)) (k : BW Z nL (pc + 1) lv (.long v :: st) w out) : BW Z nL pc lv st w out := bw_go (fun _ _ _ _ _ _ _ k => lv_lconst hZ.1 hZ.2.1 d hv k) k
theorem bw_ldc (hZ : OKZ Z S cc own nL ret dd) {i : Nat} {v : Int32} (c : Cond.constant own i v ∈ GT) (d : decode cc pc = .ok (.ldc i, 2)) (k : BW Z nL (pc + 2) lv (.int v :: st) w out) : BW Z nL pc lv st w out := bw_go (fun _ _ _ _ _ _ _ k => lv_ldc hZ.1 hZ.2.1 hZ.2.2.2.1 (hZ.2.2.2.2.1 _ c) d k) k
theorem bw_ldcw (hZ : OKZ Z S cc own nL ret dd) {i : Nat} {v : Int32} (c : Cond.constant own i v ∈ GT) (d : decode cc pc = .ok (.ldc_w i, 3)) (k : BW Z nL (pc + 3) lv (.int v :: st) w out) : BW Z nL pc lv st w out := bw_go (fun _ _ _ _ _ _ _ k => lv_ldcw hZ.1 hZ.2.1 hZ.2.2.2.1 (hZ.2.2.2.2.1 _ c) d k) k
theorem bw_ldc2 (hZ : OKZ Z S cc own nL ret dd) {i : Nat} {v : Int64} (c : Cond.constantLong own i v ∈ GT) (d : decode cc pc = .ok (.ldc2_w i, 3)) (k : BW Z nL (pc + 3) lv (.long v :: st) w out) : BW Z nL pc lv st w out := bw_go (fun _ _ _ _ _ _ _ k => lv_ldc2 hZ.1 hZ.2.1 hZ.2.2.2.1 (hZ.2.2.2.2.1 _ c) d k) k
theorem bw_ldcS (hZ : OKZ Z S cc own nL ret dd) {i x : Nat} {tx : String} (j : Nat) (c : sTab[j]? = some (own, i, tx, x)) (d : decode cc pc = .ok (.ldc i, 2)) (k : BW Z nL (pc + 2) lv (.ref (sK (zY Z) x) :: st) w out) : BW Z nL pc lv st w out := bw_go (fun _ _ _ _ _ _ _ k => va_ldcS hZ.1 hZ.2.1 hZ.2.2.2.1 (hZ.2.2.2.2.2.2.2.2.2.2.1.2.1 j (List.getElem?_eq_some_iff.mp c).1 _ c) d k) k
theorem bw_iload_n (hZ : OKZ Z S cc own nL ret dd) {k : Fin 4} {x : Int32} (j : Nat) (h : lv[j]? = some ((k : Nat), .int x)) (d : decode cc pc = .ok (.iload_n k, 1)) (k : BW Z nL (pc + 1) lv (.int x :: st) w out) : BW Z nL pc lv st w out := bw_go (fun _ _ _ _ _ _ hl k => lv_iload_n hZ.1 hZ.2.1 d rfl (lv_at hl j h) k) k
theorem bw_iload (hZ : OKZ Z S cc own nL ret dd) {i : Nat} {x : Int32} (j : Nat) (h : lv[j]? = some (i, .int x)) (d : decode cc pc = .ok (.iload i, 2)) (k : BW Z nL (pc + 2) lv (.int x :: st) w out) : BW Z nL pc lv st w out := bw_go (fun _ _ _ _ _ _ hl k => lv_iload hZ.1 hZ.2.1 d (lv_at hl j h) k) k
theorem bw_lload_n (hZ : OKZ Z S cc own nL ret dd) {k : Fin 4} {x : Int64} (j : Nat) (h : lv[j]? = some ((k : Nat), .long x)) (d : decode cc pc = .ok (.lload_n k, 1)) (k : BW Z nL (pc + 1) lv (.long x :: st) w out) : BW Z nL pc lv st w out := bw_go (fun _ _ _ _ _ _ hl k => lv_lload_n hZ.1 hZ.2.1 d rfl (lv_at hl j h) k) k
theorem bw_lload (hZ : OKZ Z S cc own nL ret dd) {i : Nat} {x : Int64} (j : Nat) (h : lv[j]? = some (i, .long x)) (d : decode cc pc = .ok (.lload i, 2)) (k : BW Z nL (pc + 2) lv (.long x :: st) w out) : BW Z nL pc lv st w out := bw_go (fun _ _ _ _ _ _ hl k => lv_lload hZ.1 hZ.2.1 d (lv_at hl j h) k) k
theorem bw_aload_n (hZ : OKZ Z S cc own nL ret dd) {k : Fin 4} {x : Nat} (j : Nat) (h : lv[j]? = some ((k : Nat), .ref x)) (d : decode cc pc = .ok (.aload_n k, 1)) (k : BW Z nL (pc + 1) lv (.ref x :: st) w out) : BW Z nL pc lv st w out := bw_go (fun _ _ _ _ _ _ hl k => lv_aload_n hZ.1 hZ.2.1 d rfl (lv_at hl j h) k) k
theorem bw_aload (hZ : OKZ Z S cc own nL ret dd) {i : Nat} {x : Nat} (j : Nat) (h : lv[j]? = some (i, .ref x)) (d : decode cc pc = .ok (.aload i, 2)) (k : BW Z nL (pc + 2) lv (.ref x :: st) w out) : BW Z nL pc lv st w out := bw_go (fun _ _ _ _ _ _ hl k => lv_aload hZ.1 hZ.2.1 d (lv_at hl j h) k) k
theorem bw_istore_n (hZ : OKZ Z S cc own nL ret dd) {k : Fin 4} {i : Nat} {x : Int32} {lv' : List (Nat × Value)} (hi : (k : Nat) = i) (hn : i < nL) (hl : (i, Value.int x) :: lv.filter (fun q => !(q.1 == i) && !(q.1 + 1 == i && q.2.category == 2)) = lv') (d : decode cc pc = .ok (.istore_n k, 1)) (k : BW Z nL (pc + 1) lv' st w out) : BW Z nL pc lv (.int x :: st) w out := bw_goL (fun _ _ _ _ _ _ h k => lv_istore_n hZ.1 hZ.2.1 d hi h hn hl k) k
theorem bw_istore (hZ : OKZ Z S cc own nL ret dd) {i : Nat} {x : Int32} {lv' : List (Nat × Value)} (hn : i < nL) (hl : (i, Value.int x) :: lv.filter (fun q => !(q.1 == i) && !(q.1 + 1 == i && q.2.category == 2)) = lv') (d : decode cc pc = .ok (.istore i, 2)) (k : BW Z nL (pc + 2) lv' st w out) : BW Z nL pc lv (.int x :: st) w out := bw_goL (fun _ _ _ _ _ _ h k => lv_istore hZ.1 hZ.2.1 d h hn hl k) k
theorem bw_lstore_n (hZ : OKZ Z S cc own nL ret dd) {k : Fin 4} {i : Nat} {x : Int64} {lv' : List (Nat × Value)} (hi : (k : Nat) = i) (hn : i + 1 < nL) (hl : (i, Value.long x) :: lv.filter (fun q => !(q.1 == i) && (!(q.1 == i + 1) && !(q.1 + 1 == i && q.2.category == 2))) = lv') (d : decode cc pc = .ok (.lstore_n k, 1)) (k : BW Z nL (pc + 1) lv' st w out) : BW Z nL pc lv (.long x :: st) w out := bw_goL (fun _ _ _ _ _ _ h k => lv_lstore_n hZ.1 hZ.2.1 d hi h hn hl k) k
theorem bw_lstore (hZ : OKZ Z S cc own nL ret dd) {i : Nat} {x : Int64} {lv' : List (Nat × Value)} (hn : i + 1 < nL) (hl : (i, Value.long x) :: lv.filter (fun q => !(q.1 == i) && (!(q.1 == i + 1) && !(q.1 + 1 == i && q.2.category == 2))) = lv') (d : decode cc pc = .ok (.lstore i, 2)) (k : BW Z nL (pc + 2) lv' st w out) : BW Z nL pc lv (.long x :: st) w out := bw_goL (fun _ _ _ _ _ _ h k => lv_lstore hZ.1 hZ.2.1 d h hn hl k) k
theorem bw_astore_n (hZ : OKZ Z S cc own nL ret dd) {k : Fin 4} {i : Nat} {x : Nat} {lv' : List (Nat × Value)} (hi : (k : Nat) = i) (hn : i < nL) (hl : (i, Value.ref x) :: lv.filter (fun q => !(q.1 == i) && !(q.1 + 1 == i && q.2.category == 2)) = lv') (d : decode cc pc = .ok (.astore_n k, 1)) (k : BW Z nL (pc + 1) lv' st w out) : BW Z nL pc lv (.ref x :: st) w out := bw_goL (fun _ _ _ _ _ _ h k => lv_astore_n hZ.1 hZ.2.1 d hi h hn hl k) k
theorem bw_astore (hZ : OKZ Z S cc own nL ret dd) {i : Nat} {x : Nat} {lv' : List (Nat × Value)} (hn : i < nL) (hl : (i, Value.ref x) :: lv.filter (fun q => !(q.1 == i) && !(q.1 + 1 == i && q.2.category == 2)) = lv') (d : decode cc pc = .ok (.astore i, 2)) (k : BW Z nL (pc + 2) lv' st w out) : BW Z nL pc lv (.ref x :: st) w out := bw_goL (fun _ _ _ _ _ _ h k => lv_astore hZ.1 hZ.2.1 d h hn hl k) k
theorem bw_iinc (hZ : OKZ Z S cc own nL ret dd) {i : Nat} {n : Int} {x : Int32} (v : Int32) {lv' : List (Nat × Value)} (j : Nat) (hk : lv[j]? = some (i, .int x)) (hv : Int32.ofInt n = v) (hn : i < nL) (hl : (i, Value.int (x + v)) :: lv.filter (fun q => !(q.1 == i) && !(q.1 + 1 == i && q.2.category == 2)) = lv') (d : decode cc pc = .ok (.iinc i n, 3)) (k : BW Z nL (pc + 3) lv' st w out) : BW Z nL pc lv st w out := bw_goL (fun _ _ _ _ _ _ h k => lv_iinc hZ.1 hZ.2.1 d h hk (by rw [hv]) hn hl k) k
theorem bw_dup (hZ : OKZ Z S cc own nL ret dd) {a : Value} (ha : a.category = 1) (d : decode cc pc = .ok (.dup, 1)) (k : BW Z nL (pc + 1) lv (a :: a :: st) w out) : BW Z nL pc lv (a :: st) w out := bw_go (fun _ _ _ _ _ _ _ k => lv_dup hZ.1 hZ.2.1 d ha k) k
theorem bw_pop (hZ : OKZ Z S cc own nL ret dd) {a : Value} (ha : a.category = 1) (d : decode cc pc = .ok (.pop, 1)) (k : BW Z nL (pc + 1) lv st w out) : BW Z nL pc lv (a :: st) w out := bw_go (fun _ _ _ _ _ _ _ k => lv_pop hZ.1 hZ.2.1 d ha k) k
theorem bw_dup_x1 (hZ : OKZ Z S cc own nL ret dd) {a b : Value} (ha : a.category = 1) (hb : b.category = 1) (d : decode cc pc = .ok (.dup_x1, 1)) (k : BW Z nL (pc + 1) lv (a :: b :: a :: st) w out) : BW Z nL pc lv (a :: b :: st) w out := bw_go (fun _ _ _ _ _ _ _ k => lv_dup_x1 hZ.1 hZ.2.1 d ha hb k) k
theorem bw_dup2 (hZ : OKZ Z S cc own nL ret dd) {a b : Value} (ha : a.category = 1) (hb : b.category = 1) (d : decode cc pc = .ok (.dup2, 1)) (k : BW Z nL (pc + 1) lv (a :: b :: a :: b :: st) w out) : BW Z nL pc lv (a :: b :: st) w out := bw_go (fun _ _ _ _ _ _ _ k => lv_dup2_11 hZ.1 hZ.2.1 d ha hb k) k
theorem bw_goto (hZ : OKZ Z S cc own nL ret dd) {off : Int} {tgt : Nat} (ht : (pc : Int) + off = (tgt : Int)) (d : decode cc pc = .ok (.goto off, 3)) (k : BW Z nL tgt lv st w out) : BW Z nL pc lv st w out := bw_go (fun _ _ _ _ _ _ _ k => lv_goto hZ.1 hZ.2.1 d ht k) k
theorem bw_if_eq (hZ : OKZ Z S cc own nL ret dd) {x : Int32} {off : Int} {tgt : Nat} {o1 o2 : Option ρ} (ht : (pc : Int) + off = (tgt : Int)) (d : decode cc pc = .ok (.ifCond .eq off, 3)) (kt : x = 0 → BW Z nL tgt lv st w o1) (kf : ¬ (x = 0) → BW Z nL (pc + 3) lv st w o2) : BW Z nL pc lv (.int x :: st) w (if x = 0 then o1 else o2) := bw_if (fun h => bw_go (fun _ _ _ _ _ _ _ k => lv_if_eq hZ.1 hZ.2.1 d ht (fun _ => k) (fun h2 => absurd h h2)) (kt h)) (fun h => bw_go (fun _ _ _ _ _ _ _ k => lv_if_eq hZ.1 hZ.2.1 d ht (fun h2 => absurd h2 h) (fun _ => k)) (kf h))
theorem bw_if_ne (hZ : OKZ Z S cc own nL ret dd) {x : Int32} {off : Int} {tgt : Nat} {o1 o2 : Option ρ} (ht : (pc : Int) + off = (tgt : Int)) (d : decode cc pc = .ok (.ifCond .ne off, 3)) (kt : ¬ x = 0 → BW Z nL tgt lv st w o1) (kf : x = 0 → BW Z nL (pc + 3) lv st w o2) : BW Z nL pc lv (.int x :: st) w (if x = 0 then o2 else o1) := bw_if (fun h => bw_go (fun _ _ _ _ _ _ _ k => lv_if_ne hZ.1 hZ.2.1 d ht (fun h2 => absurd h h2) (fun _ => k)) (kf h)) (fun h => bw_go (fun _ _ _ _ _ _ _ k => lv_if_ne hZ.1 hZ.2.1 d ht (fun _ => k) (fun h2 => absurd h2 h)) (kt h))
theorem bw_if_lt (hZ : OKZ Z S cc own nL ret dd) {x : Int32} {off : Int} {tgt : Nat} {o1 o2 : Option ρ} (ht : (pc : Int) + off = (tgt : Int)) (d : decode cc pc = .ok (.ifCond .lt off, 3)) (kt : x < 0 → BW Z nL tgt lv st w o1) (kf : ¬ (x < 0) → BW Z nL (pc + 3) lv st w o2) : BW Z nL pc lv (.int x :: st) w (if x < 0 then o1 else o2) := bw_if (fun h => bw_go (fun _ _ _ _ _ _ _ k => lv_if_lt hZ.1 hZ.2.1 d ht (fun _ => k) (fun h2 => absurd h h2)) (kt h)) (fun h => bw_go (fun _ _ _ _ _ _ _ k => lv_if_lt hZ.1 hZ.2.1 d ht (fun h2 => absurd h2 h) (fun _ => k)) (kf h))
theorem bw_if_ge (hZ : OKZ Z S cc own nL ret dd) {x : Int32} {off : Int} {tgt : Nat} {o1 o2 : Option ρ} (ht : (pc : Int) + off = (tgt : Int)) (d : decode cc pc = .ok (.ifCond .ge off, 3)) (kt : 0 ≤ x → BW Z nL tgt lv st w o1) (kf : ¬ (0 ≤ x) → BW Z nL (pc + 3) lv st w o2) : BW Z nL pc lv (.int x :: st) w (if 0 ≤ x then o1 else o2) := bw_if (fun h => bw_go (fun _ _ _ _ _ _ _ k => lv_if_ge hZ.1 hZ.2.1 d ht (fun _ => k) (fun h2 => absurd h h2)) (kt h)) (fun h => bw_go (fun _ _ _ _ _ _ _ k => lv_if_ge hZ.1 hZ.2.1 d ht (fun h2 => absurd h2 h) (fun _ => k)) (kf h))
theorem bw_if_gt (hZ : OKZ Z S cc own nL ret dd) {x : Int32} {off : Int} {tgt : Nat} {o1 o2 : Option ρ} (ht : (pc : Int) + off = (tgt : Int)) (d : decode cc pc = .ok (.ifCond .gt off, 3)) (kt : 0 < x → BW Z nL tgt lv st w o1) (kf : ¬ (0 < x) → BW Z nL (pc + 3) lv st w o2) : BW Z nL pc lv (.int x :: st) w (if 0 < x then o1 else o2) := bw_if (fun h => bw_go (fun _ _ _ _ _ _ _ k => lv_if_gt hZ.1 hZ.2.1 d ht (fun _ => k) (fun h2 => absurd h h2)) (kt h)) (fun h => bw_go (fun _ _ _ _ _ _ _ k => lv_if_gt hZ.1 hZ.2.1 d ht (fun h2 => absurd h2 h) (fun _ => k)) (kf h))
theorem bw_if_le (hZ : OKZ Z S cc own nL ret dd) {x : Int32} {off : Int} {tgt : Nat} {o1 o2 : Option ρ} (ht : (pc : Int) + off = (tgt : Int)) (d : decode cc pc = .ok (.ifCond .le off, 3)) (kt : x ≤ 0 → BW Z nL tgt lv st w o1) (kf : ¬ (x ≤ 0) → BW Z nL (pc + 3) lv st w o2) : BW Z nL pc lv (.int x :: st) w (if x ≤ 0 then o1 else o2) := bw_if (fun h => bw_go (fun _ _ _ _ _ _ _ k => lv_if_le hZ.1 hZ.2.1 d ht (fun _ => k) (fun h2 => absurd h h2)) (kt h)) (fun h => bw_go (fun _ _ _ _ _ _ _ k => lv_if_le hZ.1 hZ.2.1 d ht (fun h2 => absurd h2 h) (fun _ => k)) (kf h))
theorem bw_icmp_eq (hZ : OKZ Z S cc own nL ret dd) {x y : Int32} {off : Int} {tgt : Nat} {o1 o2 : Option ρ} (ht : (pc : Int) + off = (tgt : Int)) (d : decode cc pc = .ok (.if_icmp .eq off, 3)) (kt : x = y → BW Z nL tgt lv st w o1) (kf : ¬ (x = y) → BW Z nL (pc + 3) lv st w o2) : BW Z nL pc lv (.int y :: .int x :: st) w (if x = y then o1 else o2) := bw_if (fun h => bw_go (fun _ _ _ _ _ _ _ k => lv_icmp_eq hZ.1 hZ.2.1 d ht (fun _ => k) (fun h2 => absurd h h2)) (kt h)) (fun h => bw_go (fun _ _ _ _ _ _ _ k => lv_icmp_eq hZ.1 hZ.2.1 d ht (fun h2 => absurd h2 h) (fun _ => k)) (kf h))
theorem bw_icmp_ne (hZ : OKZ Z S cc own nL ret dd) {x y : Int32} {off : Int} {tgt : Nat} {o1 o2 : Option ρ} (ht : (pc : Int) + off = (tgt : Int)) (d : decode cc pc = .ok (.if_icmp .ne off, 3)) (kt : ¬ x = y → BW Z nL tgt lv st w o1) (kf : x = y → BW Z nL (pc + 3) lv st w o2) : BW Z nL pc lv (.int y :: .int x :: st) w (if x = y then o2 else o1) := bw_if (fun h => bw_go (fun _ _ _ _ _ _ _ k => lv_icmp_ne hZ.1 hZ.2.1 d ht (fun h2 => absurd h h2) (fun _ => k)) (kf h)) (fun h => bw_go (fun _ _ _ _ _ _ _ k => lv_icmp_ne hZ.1 hZ.2.1 d ht (fun _ => k) (fun h2 => absurd h2 h)) (kt h))
theorem bw_icmp_lt (hZ : OKZ Z S cc own nL ret dd) {x y : Int32} {off : Int} {tgt : Nat} {o1 o2 : Option ρ} (ht : (pc : Int) + off = (tgt : Int)) (d : decode cc pc = .ok (.if_icmp .lt off, 3)) (kt : x < y → BW Z nL tgt lv st w o1) (kf : ¬ (x < y) → BW Z nL (pc + 3) lv st w o2) : BW Z nL pc lv (.int y :: .int x :: st) w (if x < y then o1 else o2) := bw_if (fun h => bw_go (fun _ _ _ _ _ _ _ k => lv_icmp_lt hZ.1 hZ.2.1 d ht (fun _ => k) (fun h2 => absurd h h2)) (kt h)) (fun h => bw_go (fun _ _ _ _ _ _ _ k => lv_icmp_lt hZ.1 hZ.2.1 d ht (fun h2 => absurd h2 h) (fun _ => k)) (kf h))
theorem bw_icmp_ge (hZ : OKZ Z S cc own nL ret dd) {x y : Int32} {off : Int} {tgt : Nat} {o1 o2 : Option ρ} (ht : (pc : Int) + off = (tgt : Int)) (d : decode cc pc = .ok (.if_icmp .ge off, 3)) (kt : y ≤ x → BW Z nL tgt lv st w o1) (kf : ¬ (y ≤ x) → BW Z nL (pc + 3) lv st w o2) : BW Z nL pc lv (.int y :: .int x :: st) w (if y ≤ x then o1 else o2) := bw_if (fun h => bw_go (fun _ _ _ _ _ _ _ k => lv_icmp_ge hZ.1 hZ.2.1 d ht (fun _ => k) (fun h2 => absurd h h2)) (kt h)) (fun h => bw_go (fun _ _ _ _ _ _ _ k => lv_icmp_ge hZ.1 hZ.2.1 d ht (fun h2 => absurd h2 h) (fun _ => k)) (kf h))
theorem bw_icmp_gt (hZ : OKZ Z S cc own nL ret dd) {x y : Int32} {off : Int} {tgt : Nat} {o1 o2 : Option ρ} (ht : (pc : Int) + off = (tgt : Int)) (d : decode cc pc = .ok (.if_icmp .gt off, 3)) (kt : y < x → BW Z nL tgt lv st w o1) (kf : ¬ (y < x) → BW Z nL (pc + 3) lv st w o2) : BW Z nL pc lv (.int y :: .int x :: st) w (if y < x then o1 else o2) := bw_if (fun h => bw_go (fun _ _ _ _ _ _ _ k => lv_icmp_gt hZ.1 hZ.2.1 d ht (fun _ => k) (fun h2 => absurd h h2)) (kt h)) (fun h => bw_go (fun _ _ _ _ _ _ _ k => lv_icmp_gt hZ.1 hZ.2.1 d ht (fun h2 => absurd h2 h) (fun _ => k)) (kf h))
theorem bw_icmp_le (hZ : OKZ Z S cc own nL ret dd) {x y : Int32} {off : Int} {tgt : Nat} {o1 o2 : Option ρ} (ht : (pc : Int) + off = (tgt : Int)) (d : decode cc pc = .ok (.if_icmp .le off, 3)) (kt : x ≤ y → BW Z nL tgt lv st w o1) (kf : ¬ (x ≤ y) → BW Z nL (pc + 3) lv st w o2) : BW Z nL pc lv (.int y :: .int x :: st) w (if x ≤ y then o1 else o2) := bw_if (fun h => bw_go (fun _ _ _ _ _ _ _ k => lv_icmp_le hZ.1 hZ.2.1 d ht (fun _ => k) (fun h2 => absurd h h2)) (kt h)) (fun h => bw_go (fun _ _ _ _ _ _ _ k => lv_icmp_le hZ.1 hZ.2.1 d ht (fun h2 => absurd h2 h) (fun _ => k)) (kf h))
theorem bw_tabIn (hZ : OKZ Z S cc own nL ret dd) {dflt lo hi : Int} {offs : Array Int} {len : Nat} {x : Int32} {off : Int} {tgt : Nat} (n : Int) (hx : x.toInt = n) (h1 : ¬ n < lo) (h2 : ¬ hi < n) (ho : offs[(n - lo).toNat]? = some off) (ht : (pc : Int) + off = (tgt : Int)) (d : decode cc pc = .ok (.tableswitch dflt lo hi offs, len)) (k : BW Z nL tgt lv st w out) : BW Z nL pc lv (.int x :: st) w out := bw_go (fun _ _ _ _ _ _ _ k => lv_tableIn hZ.1 hZ.2.1 d (by rw [hx]; exact h1) (by rw [hx]; exact h2) (by rw [hx]; exact ho) ht k) k
theorem bw_tabOut (hZ : OKZ Z S cc own nL ret dd) {dflt lo hi : Int} {offs : Array Int} {len : Nat} {x : Int32} {tgt : Nat} (h : x.toInt < lo ∨ hi < x.toInt) (ht : (pc : Int) + dflt = (tgt : Int)) (d : decode cc pc = .ok (.tableswitch dflt lo hi offs, len)) (k : BW Z nL tgt lv st w out) : BW Z nL pc lv (.int x :: st) w out := bw_go (fun _ _ _ _ _ _ _ k => lv_tableOut hZ.1 hZ.2.1 d h ht k) k
theorem bw_look (hZ : OKZ Z S cc own nL ret dd) {dflt : Int} {ps : Array (Int × Int)} {len : Nat} {x : Int32} {off : Int} {tgt : Nat} (hp : (ps.toList.zip (ps.toList.drop 1)).all (fun (a, next) => a.1 < next.1) = true) (ho : Op.lookupswitch.offset ps.toList dflt x.toInt = off) (ht : (pc : Int) + off = (tgt : Int)) (d : decode cc pc = .ok (.lookupswitch dflt ps, len)) (k : BW Z nL tgt lv st w out) : BW Z nL pc lv (.int x :: st) w out := bw_go (fun _ _ _ _ _ _ _ k => lv_lookup hZ.1 hZ.2.1 d hp ho ht k) k
theorem ne_int {x y : Int32} (h : ¬ x = y) {n : Int} (hn : y.toInt = n) : ¬ x.toInt = n := fun e => h (Int32.toInt_inj.mp (e.trans hn.symm))
end Z
