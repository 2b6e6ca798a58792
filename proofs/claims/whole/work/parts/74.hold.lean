/-! what is void, which gifts hold -/
def PEI (A : Wd) : Prop := (∀ k, k < nPe A → (A.1 7 k = 0 ∨ A.1 7 k = 1) ∧ NN (A.1 3 k) 4 ∧ (A.1 4 k = -1 ∨ NN (A.1 4 k) k) ∧ (A.1 3 k = 1 → A.1 4 k = -1)) ∧ (A.1 0 19 = -1 ∨ NN (A.1 0 19) (nPe A)) ∧ (∀ t, t < nTh A → ∃ v, 1 ≤ v ∧ v ≤ 9999 ∧ A.1 5 t = nI v) ∧ NN (A.1 0 14) 100000 ∧ NN (A.1 0 15) 100000 ∧ (∀ l, l < nLa A → NN (A.1 2 (13 * l + 9)) 101 ∧ NN (A.1 2 (13 * l + 10)) 91)
def ddS (A : Wd) (k : Nat) : Bool := decide (¬ A.1 7 k = 0)
def vdS (A : Wd) (l : Nat) (vo : Nat → Bool) (p who : Nat) : Bool := (decide (A.1 2 (13 * l + 3) = 2) && bt (A.1 22 p) who) || (decide (nI who = A.1 0 19) && vo p)
def soS (A : Wd) (f n : Nat) : Bool := decide (A.1 35 n = -1) || ((if (A.1 35 n).toNatClampNeg < 10 then ddS A (A.1 35 n).toNatClampNeg else bt (nI f) ((A.1 35 n).toNatClampNeg - 10)) == decide (¬ A.1 37 n = 0))
def toS (A : Wd) (n : Nat) : Nat := (A.1 34 n).toNatClampNeg
def hdS (A : Wd) (l : Nat) (vo : Nat → Bool) (f p n : Nat) : Bool := !ddS A (toS A n) && !vdS A l vo p (toS A n) && soS A f n
/-- the desk's standing and the reference's words for a land in a way -/
def CVd (w : Wd) (s : Nat) (cn vo : Nat → Bool) (l : Nat) (A : Wd) : Prop := RB (w.1 s 1) cn ∧ RB (w.1 s 10) vo ∧ w.1 s 5 = bI (decide (A.1 2 (13 * l + 3) = 2))
def MV' (w : Wd) (cn vo : Nat → Bool) (l : Nat) : Prop := RB (w.1 46 l) cn ∧ RB (w.1 47 l) vo
section
variable {w A : Wd}
theorem zm_void (hT : tol w = A) (hI : INV A) {l p who : Nat} {cn vo : Nat → Bool} (hM : MV' w cn vo l) (hl : l < nLa A) (hp : p < nPa A) (hw : who < nPe A) : f_X12_isVoid (nI p) (nI who) (nI l) w = some (bI (vdS A l vo p who), w) := by
  have hN := hI.1
  have hL := hN.1.2
  have h4 := hN.2.2.2.1.2
  have h8 := hN.2.1.2
  obtain ⟨r1, r2⟩ := zm_rule hT hN hl (c := 3) (by omega)
  have hb : X12_isVoid_b31 (nI p) (nI who) (nI l) w = some (bI (decide (nI who = A.1 0 19) && vo p), w) := by
    unfold X12_isVoid_b31
    rw [tol_0 hT 19 rfl]
    by_cases c : nI who = A.1 0 19
    · rw [if_pos c, z_inb (by omega) (by omega), if_pos rfl, nI_clamp (by omega), if_bt1 (by omega), hM.2 p (by omega), decide_eq_true c, Bool.true_and]
      cases vo p <;> rfl
    · rw [if_neg c, decide_eq_false c, Bool.false_and]; rfl
  unfold f_X12_isVoid vdS
  rw [k3, r1, r2, if_pos rfl]
  by_cases c : A.1 2 (13 * l + 3) = 2
  · rw [if_pos c, z_inb (by omega) (by omega), if_pos rfl, nI_clamp (by omega), tol_p hT 22 p (by omega) hp, if_bt1 (by omega), decide_eq_true c, Bool.true_and]
    by_cases c2 : bt (A.1 22 p) who = true
    · rw [if_pos c2, c2, Bool.true_or]; rfl
    · rw [if_neg c2, hb]
      rw [Bool.not_eq_true] at c2
      rw [c2, Bool.false_or]
  · rw [if_neg c, hb, decide_eq_false c, Bool.false_and, Bool.false_or]
theorem zm_so (hT : tol w = A) (hI : INV A) (hPe : PEI A) {p g f : Nat} (hp : p < nPa A) (hg : g < nGi A p) (hf : w.1 0 89 = nI f) : f_X12_isSo (nI (8 * p + g)) w = some (bI (soS A f (8 * p + g)), w) := by
  have hN := hI.1
  have h4 := hN.2.2.2.1.2
  have h8 := hN.2.1.2
  have hgi : nGi A p < 9 := ((hI.2.2.1 p hp).1.1.e (by omega)).2
  obtain ⟨-, -, ha, hm⟩ := (hI.2.2.1 p hp).2.2.2.2.1 g hg
  have hn : 8 * p + g < 8 * nPa A := by omega
  generalize 8 * p + g = n at hn ha hm ⊢
  unfold f_X12_isSo soS
  rw [z_inb (by omega) (by omega), if_pos rfl, nI_clamp (by omega), tol_g hT 35 n (by omega) hn, lt_s']
  by_cases c : A.1 35 n = -1
  · rw [if_pos c, decide_eq_true c, Bool.true_or]; rfl
  have hm := hm.resolve_left c
  have fin : ∀ b : Bool, X12_isSo_b47 (nI n) (bI b) w = some (bI (b == decide (¬ A.1 37 n = 0)), w) := by
    intro b
    unfold X12_isSo_b47
    rw [z_inb (by omega) (by omega), if_pos rfl, nI_clamp (by omega), tol_g hT 37 n (by omega) hn]
    rcases hm with h | h <;> rw [h] <;> cases b <;> rfl
  rw [if_neg c, decide_eq_false c, Bool.false_or]
  rcases ha with h | h | ⟨q, hq, h⟩
  · exact absurd h c
  · obtain ⟨q, hq, h⟩ := h
    rw [h, show (10 : Int32) = nI 10 from rfl, if_pos (nI_lt (b := 10) (by omega) (by omega)), z_inb (by omega) (by omega), if_pos rfl, nI_clamp (by omega), tol_a hT 7 q (by omega), if_pos (show q < 10 by omega), ← fin]
    congr 1
    unfold ddS
    rcases (hPe.1 q hq).1 with e | e <;> rw [e] <;> decide
  · rw [h, show (10 : Int32) = nI 10 from rfl, if_neg (nI_nlt (b := 10) (by omega) (by omega)), nI_clamp (by omega), if_neg (show ¬ 10 + q < 10 by omega), hf, pk_sub (by omega), if_bt1 (by omega), ← fin]
    cases bt (nI f) (10 + q - 10) <;> rfl
theorem zm_holds (hT : tol w = A) (hI : INV A) (hPe : PEI A) {l p g f : Nat} {cn vo : Nat → Bool} (hM : MV' w cn vo l) (hl : l < nLa A) (hp : p < nPa A) (hg : g < nGi A p) (hf : w.1 0 89 = nI f) : f_X12_holds (nI p) (nI (8 * p + g)) (nI l) w = some (bI (cn p && hdS A l vo f p (8 * p + g)), w) := by
  have hN := hI.1
  have hL := hN.1.2
  have h4 := hN.2.2.2.1.2
  have h8 := hN.2.1.2
  have hgi : nGi A p < 9 := ((hI.2.2.1 p hp).1.1.e (by omega)).2
  obtain ⟨ht, -, -, -⟩ := (hI.2.2.1 p hp).2.2.2.2.1 g hg
  have ht : A.1 34 (8 * p + g) = nI (toS A (8 * p + g)) ∧ toS A (8 * p + g) < nPe A := ht.e (by omega)
  unfold f_X12_holds hdS
  rw [z_inb (by omega) (by omega), if_pos rfl, nI_clamp (n := l) (by omega), if_bt1 (by omega), hM.1 p (by omega)]
  by_cases c : cn p = true
  · rw [if_pos c, c, Bool.true_and, z_inb (by omega) (by omega), if_pos rfl, nI_clamp (n := 8 * p + g) (by omega), tol_g hT 34 _ (by omega) (by omega), ht.1, z_inb (by omega) (by omega), if_pos rfl, nI_clamp (by omega), tol_a hT 7 _ (by omega)]
    by_cases c2 : A.1 7 (toS A (8 * p + g)) = 0
    · rw [if_pos c2, if_pos rfl, zm_void hT hI hM hl hp ht.2, cl_s, if_b0, zm_so hT hI hPe hp hg hf, cl_s, if_b0]
      have hd : ddS A (toS A (8 * p + g)) = false := decide_eq_false (fun q => q c2)
      rw [hd, Bool.not_false, Bool.true_and]
      cases vdS A l vo p (toS A (8 * p + g)) <;> cases soS A f (8 * p + g) <;> rfl
    · have hd : ddS A (toS A (8 * p + g)) = true := decide_eq_true c2
      rw [if_neg c2, hd, Bool.not_true, Bool.false_and, Bool.false_and]; rfl
  · rw [if_neg c]
    rw [Bool.not_eq_true] at c
    rw [c, Bool.false_and]; rfl
theorem zc_void (hL : TLD w A) (hI : INV A) (hPe : PEI A) {s l p : Nat} {cn vo : Nat → Bool} (hM : CVd w s cn vo l A) (hp : p < nPa A) : OK (f_X8_voidOf s (nI p) w) (fun q => q.2 = w ∧ ∀ who, who < nPe A → bt q.1 who = vdS A l vo p who) := by
  have hN := hI.1
  have h4 := hN.2.2.2.1.2
  have h8 := hN.2.1.2
  obtain ⟨⟨-, -, f2, -⟩, -⟩ := hL.2.2.2.1 p hp
  have fin : ∀ t0 : Int32, (∀ who, who < nPe A → bt t0 who = (decide (A.1 2 (13 * l + 3) = 2) && bt (A.1 22 p) who)) → OK (X8_voidOf_b23 s (nI p) t0 w) (fun q => q.2 = w ∧ ∀ who, who < nPe A → bt q.1 who = vdS A l vo p who) := by
    intro t0 ht
    unfold X8_voidOf_b23 vdS
    rw [if_bt (by omega), hM.2.1 p (by omega), hL.1.2.2.2.2.1.1]
    by_cases c : vo p = false
    · refine OK.t c (OK.s ⟨rfl, fun who hw => ?_⟩)
      rw [c, Bool.and_false, Bool.or_false]; exact ht who hw
    · rw [Bool.not_eq_false] at c
      refine OK.f (by rw [c]; decide) ?_
      rcases hPe.2.1 with h | ⟨q, hq, h⟩
      · refine OK.t (by rw [h]; decide) (OK.s ⟨rfl, fun who hw => ?_⟩)
        rw [h, decide_eq_false (nI_n1 (by omega)), Bool.false_and, Bool.or_false]; exact ht who hw
      · rw [h]
        refine OK.f (nI_pos (by omega)) (OK.l (OK.s ⟨rfl, fun who hw => ?_⟩))
        dsimp only
        rw [b_or, z_one (by omega) (by omega), ht who hw, c, Bool.and_true]
        congr 1
        exact decide_eq_decide.mpr (nI_eq (by omega) (by omega)).symm
  unfold f_X8_voidOf
  rw [hM.2.2, if_b0]
  by_cases c : A.1 2 (13 * l + 3) = 2
  · refine OK.f (by rw [decide_eq_true c]; decide) (OK.t (z_inb (by omega) (by omega)) ?_)
    rw [nI_clamp (by omega), f2]
    exact fin _ (fun who _ => by rw [decide_eq_true c, Bool.true_and])
  · refine OK.t (decide_eq_false c) (fin _ (fun who _ => ?_))
    rw [decide_eq_false c, Bool.false_and, b_0]
theorem zc_so (hL : TLD w A) (hI : INV A) {p g f : Nat} (hp : p < nPa A) (hg : g < nGi A p) : f_X6_isIfSo (57 + 6 * p) (nI g) (w.1 31 10) (nI f) w = some (bI (soS A f (8 * p + g)), w) := by
  have hN := hI.1
  have h4 := hN.2.2.2.1.2
  have h8 := hN.2.1.2
  have hgi : nGi A p < 9 := ((hI.2.2.1 p hp).1.1.e (by omega)).2
  obtain ⟨-, -, ha, hm⟩ := (hI.2.2.1 p hp).2.2.2.2.1 g hg
  obtain ⟨-, -, -, hgs⟩ := hL.2.2.2.1 p hp
  obtain ⟨-, -, -, i1, i2, i3⟩ := hgs g hg
  unfold f_X6_isIfSo soS
  rw [z_inb (by omega) (by omega), if_pos rfl, nI_clamp (by omega), lt_s', if_pos rfl, lt_s']
  by_cases c : A.1 35 (8 * p + g) = -1
  · rw [i1 c, decide_eq_true c, Bool.true_or]; rfl
  rw [decide_eq_false c, Bool.false_or]
  rcases ha with h | h | ⟨q, hq, h⟩
  · exact absurd h c
  · obtain ⟨q, hq, h⟩ := h
    obtain ⟨e5, e4⟩ := i2 q (by omega) h
    have hd : bt (w.1 31 10) q = ddS A q := (hL.1.2.2.1 q hq).2.2
    rw [h, nI_clamp (by omega), if_pos (show q < 10 by omega), e5, e4]
    by_cases m : A.1 37 (8 * p + g) = 0
    · rw [if_pos m, if_neg (by decide), if_pos (by rfl), if_bt (by omega), hd, decide_eq_false (fun x => x m)]
      cases ddS A q <;> rfl
    · rw [if_neg m, if_pos (by rfl), if_bt (by omega), hd, decide_eq_true m]
      cases ddS A q <;> rfl
  · obtain ⟨e5, e4⟩ := i3 q hq h
    rw [h, nI_clamp (by omega), if_neg (show ¬ 10 + q < 10 by omega), e5, e4, show 10 + q - 10 = q by omega]
    by_cases m : A.1 37 (8 * p + g) = 0
    · rw [if_pos m, if_neg (by decide), if_neg (by decide), if_neg (by decide), if_pos (by rfl), if_bt (by omega), decide_eq_false (fun x => x m)]
      cases bt (nI f) q <;> rfl
    · rw [if_neg m, if_neg (by decide), if_neg (by decide), if_pos (by rfl), if_bt (by omega), decide_eq_true m]
      cases bt (nI f) q <;> rfl
theorem zc_holds (hL : TLD w A) (hI : INV A) {l p g f : Nat} {vo : Nat → Bool} (hp : p < nPa A) (hg : g < nGi A p) (hf : w.1 8 12 = nI f) {x : Int32} (hx : ∀ who, who < nPe A → bt x who = vdS A l vo p who) : f_X7_isHolding (57 + 6 * p) (nI g) x w = some (bI (hdS A l vo f p (8 * p + g)), w) := by
  have hN := hI.1
  have h4 := hN.2.2.2.1.2
  have h8 := hN.2.1.2
  have hgi : nGi A p < 9 := ((hI.2.2.1 p hp).1.1.e (by omega)).2
  obtain ⟨ht, -, -, -⟩ := (hI.2.2.1 p hp).2.2.2.2.1 g hg
  have ht : A.1 34 (8 * p + g) = nI (toS A (8 * p + g)) ∧ toS A (8 * p + g) < nPe A := ht.e (by omega)
  obtain ⟨-, -, -, hgs⟩ := hL.2.2.2.1 p hp
  obtain ⟨-, -, e3, -⟩ := hgs g hg
  have hd : bt (w.1 31 10) (toS A (8 * p + g)) = ddS A (toS A (8 * p + g)) := (hL.1.2.2.1 _ ht.2).2.2
  unfold f_X7_isHolding hdS
  rw [lt_s', z_inb (by omega) (by omega), if_pos rfl, nI_clamp (by omega), e3, ht.1, if_bt (by omega), b_or, hx _ ht.2, hd, hf, zc_so hL hI hp hg, cl_s, if_b0]
  cases vdS A l vo p (toS A (8 * p + g)) <;> cases ddS A (toS A (8 * p + g)) <;> cases soS A f (8 * p + g) <;> rfl
end
