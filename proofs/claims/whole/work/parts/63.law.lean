/-! whose law holds -/
theorem ei_0_0 : (nI 0 = (0 : Int32)) = True := by decide
theorem ei_0_1 : (nI 0 = (1 : Int32)) = False := by decide
theorem ei_0_2 : (nI 0 = (2 : Int32)) = False := by decide
theorem ei_0_3 : (nI 0 = (3 : Int32)) = False := by decide
theorem ei_0_4 : (nI 0 = (4 : Int32)) = False := by decide
theorem ei_1_0 : (nI 1 = (0 : Int32)) = False := by decide
theorem ei_1_1 : (nI 1 = (1 : Int32)) = True := by decide
theorem ei_1_2 : (nI 1 = (2 : Int32)) = False := by decide
theorem ei_1_3 : (nI 1 = (3 : Int32)) = False := by decide
theorem ei_1_4 : (nI 1 = (4 : Int32)) = False := by decide
theorem ei_2_0 : (nI 2 = (0 : Int32)) = False := by decide
theorem ei_2_1 : (nI 2 = (1 : Int32)) = False := by decide
theorem ei_2_2 : (nI 2 = (2 : Int32)) = True := by decide
theorem ei_2_3 : (nI 2 = (3 : Int32)) = False := by decide
theorem ei_2_4 : (nI 2 = (4 : Int32)) = False := by decide
theorem ei_3_0 : (nI 3 = (0 : Int32)) = False := by decide
theorem ei_3_1 : (nI 3 = (1 : Int32)) = False := by decide
theorem ei_3_2 : (nI 3 = (2 : Int32)) = False := by decide
theorem ei_3_3 : (nI 3 = (3 : Int32)) = True := by decide
theorem ei_3_4 : (nI 3 = (4 : Int32)) = False := by decide
theorem ei_4_0 : (nI 4 = (0 : Int32)) = False := by decide
theorem ei_4_1 : (nI 4 = (1 : Int32)) = False := by decide
theorem ei_4_2 : (nI 4 = (2 : Int32)) = False := by decide
theorem ei_4_3 : (nI 4 = (3 : Int32)) = False := by decide
theorem ei_4_4 : (nI 4 = (4 : Int32)) = True := by decide
def NN (x : Int32) (n : Nat) : Prop := ∃ i, i < n ∧ x = nI i
theorem NN.e {x : Int32} {n : Nat} (h : NN x n) (hn : n < 2 ^ 31) : x = nI x.toNatClampNeg ∧ x.toNatClampNeg < n := by
  obtain ⟨i, hi, rfl⟩ := h
  rw [nI_clamp (by omega)]; exact ⟨rfl, hi⟩
theorem wI_wI (w : Wd) (o k : Nat) (u v : Int32) : wI (wI w o k u) o k v = wI w o k v := by
  refine Prod.ext (funext fun a => funext fun b => ?_) rfl
  rw [wI_g, wI_g, wI_g]; split <;> rfl
theorem wI_s (w : Wd) (o k : Nat) (v : Int32) : (wI w o k v).1 o k = v := by rw [wI_g, if_pos ⟨rfl, rfl⟩]
theorem tol_w0 (w : Wd) (k : Nat) (v : Int32) (hk : TK k = false) : tol (wI w 0 k v) = tol w := by
  refine tol_of (fun j hj => ?_) (fun o j ho => ?_) (fun o j ho => rfl)
  · rw [wI_g, if_neg (fun h => by rw [h.2, hk] at hj; cases hj)]
  · rw [wI_g, if_neg (by omega)]
def LWI (A : Wd) : Prop := (0 < nLa A → NN (A.1 0 16) (nLa A) ∧ NN (A.1 0 17) (nLa A) ∧ NN (A.1 0 18) (nLa A)) ∧ (∀ l, l < nLa A → NN (A.1 2 (13 * l + 11)) 4 ∧ NN (A.1 2 (13 * l + 12)) 4 ∧ ¬ A.1 2 (13 * l + 12) = 1) ∧ (∀ t, t < nTh A → A.1 6 t = -1 ∨ NN (A.1 6 t) (nLa A))
def rwL (st : Int32) : Nat := if st = -1 then 12 else 11
def nxL (A : Wd) (st : Int32) (l : Nat) : Nat := if A.1 2 (13 * l + rwL st) = 0 then l else if A.1 2 (13 * l + rwL st) = 1 then st.toNatClampNeg else if A.1 2 (13 * l + rwL st) = 2 then (A.1 0 17).toNatClampNeg else (A.1 0 18).toNatClampNeg
def lawF (A : Wd) (st : Int32) : Nat → Nat → Int32 → Nat × Bool
  | 0, l, _ => (l, false)
  | f + 1, l, s => if nxL A st l = l then (l, false) else if bt (s ||| 1 <<< (nI l &&& 31)) (nxL A st l) = true then (nxL A st l, true) else lawF A st f (nxL A st l) (s ||| 1 <<< (nI l &&& 31))
def lawS (A : Wd) (st : Int32) : Nat × Bool := lawF A st 4 (A.1 0 16).toNatClampNeg 0
def stO (A : Wd) (x : Int32) : Int32 := if x = -1 then -1 else A.1 6 x.toNatClampNeg
def lwX (A : Wd) (x : Int32) : Nat := (lawS A (stO A x)).1
def rgX (A : Wd) (x : Int32) : Bool := (lawS A (stO A x)).2
section
variable {wc wm A : Wd}
theorem nxL_lt (hW : LWI A) {st : Int32} (hst : st = -1 ∨ NN st (nLa A)) (hN : NUM A) {l : Nat} (hl : l < nLa A) : nxL A st l < nLa A := by
  have h4 := hN.1.2
  obtain ⟨-, q2, q3⟩ := hW.1 (by omega)
  unfold nxL
  split
  · exact hl
  · split
    · rename_i h1 h2
      rcases hst with rfl | h
      · exact absurd h2 (hW.2.1 l hl).2.2
      · exact (h.e (by omega)).2
    · split
      · exact (q2.e (by omega)).2
      · exact (q3.e (by omega)).2
theorem lawF_lt (hW : LWI A) {st : Int32} (hst : st = -1 ∨ NN st (nLa A)) (hN : NUM A) : ∀ (f l : Nat) (s : Int32), l < nLa A → (lawF A st f l s).1 < nLa A := by
  intro f
  induction f with
  | zero => intro l s hl; exact hl
  | succ f ih =>
    intro l s hl
    unfold lawF
    split
    · exact hl
    · split
      · exact nxL_lt hW hst hN hl
      · exact ih _ _ (nxL_lt hW hst hN hl)
theorem stO_ok (hW : LWI A) (hN : NUM A) {x : Int32} (hx : x = -1 ∨ NN x (nTh A)) : stO A x = -1 ∨ NN (stO A x) (nLa A) := by
  unfold stO
  rcases hx with rfl | ⟨t, ht, rfl⟩
  · exact Or.inl (if_pos (by rfl))
  · have h8 := hN.2.2.1.2
    rw [if_neg (fun h => by have := congrArg Int32.toInt h; rw [nI_toInt (by omega)] at this; have e : (-1 : Int32).toInt = -1 := rfl; omega), nI_clamp (by omega)]
    exact hW.2.2 t ht
theorem lwX_lt (hW : LWI A) (hN : NUM A) (hl : 0 < nLa A) {x : Int32} (hx : x = -1 ∨ NN x (nTh A)) : lwX A x < nLa A :=
  lawF_lt hW (stO_ok hW hN hx) hN _ _ _ ((hW.1 hl).1.e (by have := hN.1.2; omega)).2
theorem zc_ruleOf (hE : EST wc A) (hN : NUM A) {l c : Nat} (hl : l < nLa A) (hc : c < 13) : f_X0_ruleOf (nI l) (nI c) wc = some (A.1 2 (13 * l + c), wc) := by
  have h4 := hN.1.2
  unfold f_X0_ruleOf
  rw [k13, pk_mul, nI_add, z_inb (by omega) (by omega), nI_clamp (by omega), Nat.mul_comm l 13, hE.2.1 _ (by omega)]; rfl
theorem zc_named (hE : EST wc A) (hN : NUM A) (hW : LWI A) {st : Int32} (hst : st = -1 ∨ NN st (nLa A)) {l : Nat} (hl : l < nLa A) : f_X0_landNamedBy (nI l) st wc = some (nI (nxL A st l), wc) := by
  have h4 := hN.1.2
  obtain ⟨-, hh, hb⟩ := hE.2.2.2.2.2.2.1 (by omega)
  obtain ⟨-, q2, q3⟩ := hW.1 (by omega)
  have q2 := (q2.e (by omega)).1
  have q3 := (q3.e (by omega)).1
  unfold f_X0_landNamedBy nxL X0_landNamedBy_b14
  by_cases hs : st = -1
  · subst hs
    have hw : rwL (-1) = 12 := rfl
    rw [hw, if_pos (by rfl), show (12 : Int32) = nI 12 from rfl, zc_ruleOf hE hN hl (by omega), cl_s]
    have hne := (hW.2.1 l hl).2.2
    obtain ⟨i, hi, e⟩ := (hW.2.1 l hl).2.1
    rw [hh, hb]
    rcases (show i = 0 ∨ i = 1 ∨ i = 2 ∨ i = 3 by omega) with rfl | rfl | rfl | rfl
    · simp only [e, ei_0_0, ei_0_1, ei_0_2, ei_0_3, ei_0_4, ei_1_0, ei_1_1, ei_1_2, ei_1_3, ei_1_4, ei_2_0, ei_2_1, ei_2_2, ei_2_3, ei_2_4, ei_3_0, ei_3_1, ei_3_2, ei_3_3, ei_3_4, ei_4_0, ei_4_1, ei_4_2, ei_4_3, ei_4_4, if_true, if_false]
    · exact absurd e hne
    · simp only [e, ei_0_0, ei_0_1, ei_0_2, ei_0_3, ei_0_4, ei_1_0, ei_1_1, ei_1_2, ei_1_3, ei_1_4, ei_2_0, ei_2_1, ei_2_2, ei_2_3, ei_2_4, ei_3_0, ei_3_1, ei_3_2, ei_3_3, ei_3_4, ei_4_0, ei_4_1, ei_4_2, ei_4_3, ei_4_4, if_true, if_false]; rw [← q2]
    · simp only [e, ei_0_0, ei_0_1, ei_0_2, ei_0_3, ei_0_4, ei_1_0, ei_1_1, ei_1_2, ei_1_3, ei_1_4, ei_2_0, ei_2_1, ei_2_2, ei_2_3, ei_2_4, ei_3_0, ei_3_1, ei_3_2, ei_3_3, ei_3_4, ei_4_0, ei_4_1, ei_4_2, ei_4_3, ei_4_4, if_true, if_false]; rw [← q3]
  · have hst2 := (hst.resolve_left hs).e (by omega)
    have hw : rwL st = 11 := if_neg hs
    rw [hw, if_neg hs, show (11 : Int32) = nI 11 from rfl, zc_ruleOf hE hN hl (by omega), cl_s]
    obtain ⟨i, hi, e⟩ := (hW.2.1 l hl).1
    rw [hh, hb]
    rcases (show i = 0 ∨ i = 1 ∨ i = 2 ∨ i = 3 by omega) with rfl | rfl | rfl | rfl
    · simp only [e, ei_0_0, ei_0_1, ei_0_2, ei_0_3, ei_0_4, ei_1_0, ei_1_1, ei_1_2, ei_1_3, ei_1_4, ei_2_0, ei_2_1, ei_2_2, ei_2_3, ei_2_4, ei_3_0, ei_3_1, ei_3_2, ei_3_3, ei_3_4, ei_4_0, ei_4_1, ei_4_2, ei_4_3, ei_4_4, if_true, if_false]
    · simp only [e, ei_0_0, ei_0_1, ei_0_2, ei_0_3, ei_0_4, ei_1_0, ei_1_1, ei_1_2, ei_1_3, ei_1_4, ei_2_0, ei_2_1, ei_2_2, ei_2_3, ei_2_4, ei_3_0, ei_3_1, ei_3_2, ei_3_3, ei_3_4, ei_4_0, ei_4_1, ei_4_2, ei_4_3, ei_4_4, if_true, if_false, hs]; rw [← hst2.1]
    · simp only [e, ei_0_0, ei_0_1, ei_0_2, ei_0_3, ei_0_4, ei_1_0, ei_1_1, ei_1_2, ei_1_3, ei_1_4, ei_2_0, ei_2_1, ei_2_2, ei_2_3, ei_2_4, ei_3_0, ei_3_1, ei_3_2, ei_3_3, ei_3_4, ei_4_0, ei_4_1, ei_4_2, ei_4_3, ei_4_4, if_true, if_false]; rw [← q2]
    · simp only [e, ei_0_0, ei_0_1, ei_0_2, ei_0_3, ei_0_4, ei_1_0, ei_1_1, ei_1_2, ei_1_3, ei_1_4, ei_2_0, ei_2_1, ei_2_2, ei_2_3, ei_2_4, ei_3_0, ei_3_1, ei_3_2, ei_3_3, ei_3_4, ei_4_0, ei_4_1, ei_4_2, ei_4_3, ei_4_4, if_true, if_false]; rw [← q3]
theorem zc_lawF (hE : EST wc A) (hN : NUM A) (hW : LWI A) {st : Int32} (hst : st = -1 ∨ NN st (nLa A)) : ∀ (j f l : Nat) (s : Int32), l < nLa A → j ≤ 4 → j < f → lp f (fun _ _ _ _ _ => none) (fun k27 => X0_lawAndRing_b27 k27) st (nI l) s (nI (4 - j)) wc = some (nI (2 * (lawF A st j l s).1 + if (lawF A st j l s).2 then 1 else 0), wc) := by
  have h4 := hN.1.2
  intro j
  induction j with
  | zero =>
    intro f l s hl _ hf
    obtain ⟨f, rfl⟩ : ∃ g, f = g + 1 := ⟨f - 1, by omega⟩
    show X0_lawAndRing_b27 _ st (nI l) s (nI 4) wc = _
    rw [X0_lawAndRing_b27, k4, if_pos (nI_le (Nat.le_refl 4) (by omega)), show (2 : Int32) = nI 2 from rfl, pk_mul, Nat.mul_comm]; rfl
  | succ j ih =>
    intro f l s hl hj hf
    obtain ⟨f, rfl⟩ : ∃ g, f = g + 1 := ⟨f - 1, by omega⟩
    show X0_lawAndRing_b27 (lp f _ _) st (nI l) s (nI (4 - (j + 1))) wc = _
    rw [X0_lawAndRing_b27, k4]
    unfold lawF
    have hx := nxL_lt hW hst hN hl
    rw [if_neg (nI_ge (a := 4 - (j + 1)) (b := 4) (by omega) (by omega)), lt_s', zc_named hE hN hW hst hl, cl_s, if_nE (by omega) (by omega)]
    by_cases h1 : nxL A st l = l
    · rw [if_pos h1, if_pos h1, show (2 : Int32) = nI 2 from rfl, pk_mul, Nat.mul_comm]; rfl
    · rw [if_neg h1, if_neg h1, z_bit (by omega)]
      by_cases h2 : bt (s ||| 1 <<< (nI l &&& 31)) (nxL A st l) = true
      · rw [h2, if_neg (by decide), if_pos (by rfl), show (2 : Int32) = nI 2 from rfl, pk_mul, Nat.mul_comm, nI_1]; rfl
      · rw [Bool.not_eq_true] at h2
        rw [h2, if_pos (by rfl), if_neg (by decide), nI_1, show 4 - (j + 1) + 1 = 4 - j by omega]
        exact ih f _ _ hx (by omega) (by omega)
theorem zc_law (hE : EST wc A) (hN : NUM A) (hW : LWI A) (hl : 0 < nLa A) {x : Int32} (hx : x = -1 ∨ NN x (nTh A)) : f_X0_lawAndRing x wc = some (nI (2 * lwX A x + if rgX A x then 1 else 0), wc) := by
  have h4 := hN.1.2
  have h8 := hN.2.2.1.2
  have hst := stO_ok hW hN hx
  have hb : X0_lawAndRing_b15 (stO A x) wc = some (nI (2 * lwX A x + if rgX A x then 1 else 0), wc) := by
    unfold X0_lawAndRing_b15
    rw [lt_s', (hE.2.2.2.2.2.2.1 hl).1, ((hW.1 hl).1.e (by omega)).1]
    refine (zc_lawF hE hN hW hst 4 fu _ _ ?_ (by omega) (by rw [fu_eq]; omega)).trans ?_
    · exact ((hW.1 hl).1.e (by omega)).2
    · rfl
  unfold f_X0_lawAndRing
  rcases hx with rfl | ⟨t, ht, rfl⟩
  · rw [if_pos (by rfl)]; exact hb
  · have hne : ¬ nI t = -1 := fun h => by have := congrArg Int32.toInt h; rw [nI_toInt (by omega)] at this; have e : (-1 : Int32).toInt = -1 := rfl; omega
    rw [if_neg hne, z_inb (by omega) (by omega), nI_clamp (by omega), (hE.2.2.2.1 t ht).2, if_pos (by rfl)]
    unfold stO at hb
    rw [if_neg hne, nI_clamp (by omega)] at hb
    exact hb
theorem zm_lawF (hT : tol wm = A) (hN : NUM A) (hW : LWI A) {st : Int32} (hst : st = -1 ∨ NN st (nLa A)) : ∀ (j f l : Nat) (s : Int32), l < nLa A → bt s l = false → 4 ≤ fb_ct (bt s) 4 + j → j ≤ f → lp f (fun _ _ _ _ => none) (fun k12 => X12_lawOf_b12 k12) st (nI l) s wm = some (nI (lawF A st j l s).1, if (lawF A st j l s).2 then wI wm 0 79 1 else wm) := by
  have h4 := hN.1.2
  intro j
  induction j with
  | zero =>
    intro f l s hl hb hc hf
    exfalso
    have h : fb_ct (bt s) 4 = 4 := by have := fb_ct_le (bt s) 4; omega
    have := (fb_ct_all.mp h) l (by omega)
    rw [hb] at this; cases this
  | succ j ih =>
    intro f l s hl hb hc hf
    obtain ⟨f, rfl⟩ : ∃ g, f = g + 1 := ⟨f - 1, by omega⟩
    show X12_lawOf_b12 (lp f _ _) st (nI l) s wm = _
    have hx := nxL_lt hW hst hN hl
    obtain ⟨-, q2, q3⟩ := hW.1 (by omega)
    have q2 := (q2.e (by omega)).1
    have q3 := (q3.e (by omega)).1
    have hfin : X12_lawOf_b78 (lp f (fun _ _ _ _ => none) (fun k12 => X12_lawOf_b12 k12)) st (nI l) (s ||| 1 <<< (nI l &&& 31)) (nI (nxL A st l)) wm = some (nI (lawF A st (j + 1) l s).1, if (lawF A st (j + 1) l s).2 then wI wm 0 79 1 else wm) := by
      rw [X12_lawOf_b78]
      unfold lawF
      rw [if_nE (by omega) (by omega)]
      by_cases h1 : nxL A st l = l
      · rw [if_pos h1, if_pos h1]; rfl
      · rw [if_neg h1, if_neg h1, z_bit (by omega)]
        by_cases h2 : bt (s ||| 1 <<< (nI l &&& 31)) (nxL A st l) = true
        · rw [h2, if_pos (by rfl), if_pos (by rfl)]; rfl
        · rw [Bool.not_eq_true] at h2
          rw [h2, if_neg (by decide), if_neg (by decide)]
          refine ih f _ _ hx h2 ?_ (by omega)
          have hu := fb_ct_upd (bt s) true (i := l) (n := 4) (by omega)
          rw [hb] at hu
          have hc2 : fb_ct (bt (s ||| 1 <<< (nI l &&& 31))) 4 = fb_ct (fun k => if k = l then true else bt s k) 4 := fb_ct_cong (fun k hk => by
            rw [b_or, z_one (by omega) (by omega)]
            by_cases e : k = l
            · rw [if_pos e, decide_eq_true e, Bool.or_true]
            · rw [if_neg e, decide_eq_false e, Bool.or_false])
          simp only [if_true, Bool.false_eq_true, if_false] at hu
          omega
    have hr : ∀ c, c < 13 → inb (nI (13 * l) + nI c) 52 = true ∧ wm.1 2 (nI (13 * l) + nI c).toNatClampNeg = A.1 2 (13 * l + c) := by
      intro c hc
      rw [nI_add, z_inb (by omega) (by omega), nI_clamp (by omega), tol_a hT 2 _ (by omega)]; exact ⟨rfl, rfl⟩
    rw [X12_lawOf_b12]
    unfold nxL at hfin
    rw [lt_s', k13, pk_mul]
    by_cases hs : st = -1
    · subst hs
      have hw : rwL (-1) = 12 := rfl
      rw [hw] at hfin
      have hne := (hW.2.1 l hl).2.2
      obtain ⟨i, hi, e⟩ := (hW.2.1 l hl).2.1
      rw [if_pos (by rfl), X12_lawOf_b38, show (12 : Int32) = nI 12 from rfl, (hr 12 (by omega)).1, (hr 12 (by omega)).2, if_pos (by rfl), lt_s', tol_0 hT 17 rfl, tol_0 hT 18 rfl]
      rcases (show i = 0 ∨ i = 1 ∨ i = 2 ∨ i = 3 by omega) with rfl | rfl | rfl | rfl
      · simp only [e, ei_0_0, ei_0_1, ei_0_2, ei_0_3, ei_0_4, ei_1_0, ei_1_1, ei_1_2, ei_1_3, ei_1_4, ei_2_0, ei_2_1, ei_2_2, ei_2_3, ei_2_4, ei_3_0, ei_3_1, ei_3_2, ei_3_3, ei_3_4, ei_4_0, ei_4_1, ei_4_2, ei_4_3, ei_4_4, if_true, if_false] at hfin ⊢; exact hfin
      · exact absurd e hne
      · simp only [e, ei_0_0, ei_0_1, ei_0_2, ei_0_3, ei_0_4, ei_1_0, ei_1_1, ei_1_2, ei_1_3, ei_1_4, ei_2_0, ei_2_1, ei_2_2, ei_2_3, ei_2_4, ei_3_0, ei_3_1, ei_3_2, ei_3_3, ei_3_4, ei_4_0, ei_4_1, ei_4_2, ei_4_3, ei_4_4, if_true, if_false] at hfin ⊢; rw [← q2] at hfin; exact hfin
      · simp only [e, ei_0_0, ei_0_1, ei_0_2, ei_0_3, ei_0_4, ei_1_0, ei_1_1, ei_1_2, ei_1_3, ei_1_4, ei_2_0, ei_2_1, ei_2_2, ei_2_3, ei_2_4, ei_3_0, ei_3_1, ei_3_2, ei_3_3, ei_3_4, ei_4_0, ei_4_1, ei_4_2, ei_4_3, ei_4_4, if_true, if_false] at hfin ⊢; rw [← q3] at hfin; exact hfin
    · have hst2 := (hst.resolve_left hs).e (by omega)
      have hw : rwL st = 11 := if_neg hs
      rw [hw] at hfin
      obtain ⟨i, hi, e⟩ := (hW.2.1 l hl).1
      rw [if_neg hs, X12_lawOf_b38, show (11 : Int32) = nI 11 from rfl, (hr 11 (by omega)).1, (hr 11 (by omega)).2, if_pos (by rfl), lt_s', tol_0 hT 17 rfl, tol_0 hT 18 rfl]
      rcases (show i = 0 ∨ i = 1 ∨ i = 2 ∨ i = 3 by omega) with rfl | rfl | rfl | rfl
      · simp only [e, ei_0_0, ei_0_1, ei_0_2, ei_0_3, ei_0_4, ei_1_0, ei_1_1, ei_1_2, ei_1_3, ei_1_4, ei_2_0, ei_2_1, ei_2_2, ei_2_3, ei_2_4, ei_3_0, ei_3_1, ei_3_2, ei_3_3, ei_3_4, ei_4_0, ei_4_1, ei_4_2, ei_4_3, ei_4_4, if_true, if_false] at hfin ⊢; exact hfin
      · simp only [e, ei_0_0, ei_0_1, ei_0_2, ei_0_3, ei_0_4, ei_1_0, ei_1_1, ei_1_2, ei_1_3, ei_1_4, ei_2_0, ei_2_1, ei_2_2, ei_2_3, ei_2_4, ei_3_0, ei_3_1, ei_3_2, ei_3_3, ei_3_4, ei_4_0, ei_4_1, ei_4_2, ei_4_3, ei_4_4, if_true, if_false] at hfin ⊢; rw [← hst2.1] at hfin; exact hfin
      · simp only [e, ei_0_0, ei_0_1, ei_0_2, ei_0_3, ei_0_4, ei_1_0, ei_1_1, ei_1_2, ei_1_3, ei_1_4, ei_2_0, ei_2_1, ei_2_2, ei_2_3, ei_2_4, ei_3_0, ei_3_1, ei_3_2, ei_3_3, ei_3_4, ei_4_0, ei_4_1, ei_4_2, ei_4_3, ei_4_4, if_true, if_false] at hfin ⊢; rw [← q2] at hfin; exact hfin
      · simp only [e, ei_0_0, ei_0_1, ei_0_2, ei_0_3, ei_0_4, ei_1_0, ei_1_1, ei_1_2, ei_1_3, ei_1_4, ei_2_0, ei_2_1, ei_2_2, ei_2_3, ei_2_4, ei_3_0, ei_3_1, ei_3_2, ei_3_3, ei_3_4, ei_4_0, ei_4_1, ei_4_2, ei_4_3, ei_4_4, if_true, if_false] at hfin ⊢; rw [← q3] at hfin; exact hfin
theorem zm_lawOf (hT : tol wm = A) (hN : NUM A) (hW : LWI A) (hl : 0 < nLa A) {st : Int32} (hst : st = -1 ∨ NN st (nLa A)) : f_X12_lawOf st wm = some (nI (lawS A st).1, wI wm 0 79 (bI (lawS A st).2)) := by
  have h4 := hN.1.2
  have hc := (hW.1 hl).1.e (by omega)
  unfold f_X12_lawOf
  rw [lt_s', lt_s', tol_0 hT 16 rfl, hc.1]
  refine (zm_lawF (A := A) ((tol_w0 wm 79 0 rfl).trans hT) hN hW hst 4 fu _ 0 ?_ (b_0 _) (by omega) (by rw [fu_eq]; omega)).trans ?_
  · exact hc.2
  · show some (nI (lawS A st).1, if (lawS A st).2 then wI (wI wm 0 79 0) 0 79 1 else wI wm 0 79 0) = _
    rw [wI_wI]
    cases (lawS A st).2 <;> rfl
theorem zm_lawFor (hT : tol wm = A) (hN : NUM A) (hW : LWI A) (hl : 0 < nLa A) {x : Int32} (hx : x = -1 ∨ NN x (nTh A)) : f_X12_lawFor x wm = some (nI (lwX A x), wI wm 0 79 (bI (rgX A x))) := by
  have h8 := hN.2.2.1.2
  have hst := stO_ok hW hN hx
  have hb : X12_lawFor_b16 (stO A x) wm = some (nI (lwX A x), wI wm 0 79 (bI (rgX A x))) := by
    unfold X12_lawFor_b16
    rw [zm_lawOf hT hN hW hl hst]; rfl
  unfold f_X12_lawFor
  rcases hx with rfl | ⟨t, ht, rfl⟩
  · rw [if_pos (by rfl)]; exact hb
  · have hne : ¬ nI t = -1 := fun h => by have := congrArg Int32.toInt h; rw [nI_toInt (by omega)] at this; have e : (-1 : Int32).toInt = -1 := rfl; omega
    rw [if_neg hne, z_inb (by omega) (by omega), nI_clamp (by omega), tol_a hT 6 _ (by omega), if_pos (by rfl)]
    unfold stO at hb
    rw [if_neg hne, nI_clamp (by omega)] at hb
    exact hb
theorem z_half {n : Nat} (hn : n ≤ 4) (b : Bool) : nI (2 * n + if b then 1 else 0) >>> ((1 : Int32) &&& 31) = nI n ∧ nI (2 * n + if b then 1 else 0) &&& 1 = bI b := by
  have h : ∀ n, n ≤ 4 → ∀ b : Bool, nI (2 * n + if b then 1 else 0) >>> ((1 : Int32) &&& 31) = nI n ∧ nI (2 * n + if b then 1 else 0) &&& 1 = bI b := by decide +kernel
  exact h n hn b
theorem zc_law2 (hE : EST wc A) (hN : NUM A) (hW : LWI A) (hl : 0 < nLa A) {x : Int32} (hx : x = -1 ∨ NN x (nTh A)) : ∃ r, f_X0_lawAndRing x wc = some (r, wc) ∧ r >>> ((1 : Int32) &&& 31) = nI (lwX A x) ∧ r &&& 1 = bI (rgX A x) :=
  ⟨_, zc_law hE hN hW hl hx, z_half (by have := lwX_lt hW hN hl hx; have := hN.1.2; omega) _⟩
theorem q_law (hE : EST wc A) (hN : NUM A) (hW : LWI A) (hT : tol wm = A) (x : Int32) : ∃ r v, f_X11_law x wc = some (r, wc) ∧ (f_X12_law x wm = some (r, wm) ∨ f_X12_law x wm = some (r, wI wm 0 79 v)) := by
  have h4 := hN.1.2
  have hb : ∀ x, (x = -1 ∨ NN x (nTh A)) → ∃ r v, X11_law_b16 x wc = some (r, wc) ∧ (X12_law_b18 x wm = some (r, wm) ∨ X12_law_b18 x wm = some (r, wI wm 0 79 v)) := by
    intro x hx
    unfold X11_law_b16 X12_law_b18
    rw [hE.1.1, tol_0 hT 10 rfl, hN.1.1]
    by_cases h0 : nLa A = 0
    · rw [h0, if_pos (by rfl), if_pos (by rfl)]; exact ⟨_, 0, rfl, Or.inl rfl⟩
    · rw [if_neg (nI_ne0 (by omega) (by omega)), if_neg (nI_ne0 (by omega) (by omega))]
      obtain ⟨r, e, e1, -⟩ := zc_law2 hE hN hW (by omega) hx
      rw [e, zm_lawFor hT hN hW (by omega) hx, cl_s, cl_s, e1]
      exact ⟨_, _, rfl, Or.inr rfl⟩
  unfold f_X11_law f_X12_law
  by_cases h1 : x = -1
  · rw [if_pos h1, if_pos h1]; exact hb x (Or.inl h1)
  · rw [if_neg h1, if_neg h1, zc_isThing, zm_isThing hT, hE.1.2.2, hN.2.2.1.1, cl_s, cl_s, if_b0, if_b0]
    by_cases h2 : rng x (nI (nTh A)) = false
    · rw [if_pos h2, if_pos h2]; exact ⟨_, 0, rfl, Or.inl rfl⟩
    · rw [if_neg h2, if_neg h2]
      rw [Bool.not_eq_false] at h2
      exact hb x (Or.inr (rng_ex (by have := hN.2.2.1.2; omega) h2))
theorem q_ring (hE : EST wc A) (hN : NUM A) (hW : LWI A) (hT : tol wm = A) (x : Int32) : ∃ r v, f_X11_ring x wc = some (r, wc) ∧ (f_X12_ring x wm = some (r, wm) ∨ f_X12_ring x wm = some (r, wI wm 0 79 v)) := by
  have h4 := hN.1.2
  have hb : ∀ x, (x = -1 ∨ NN x (nTh A)) → ∃ r v, X11_ring_b16 x wc = some (r, wc) ∧ (X12_ring_b16 x wm = some (r, wm) ∨ X12_ring_b16 x wm = some (r, wI wm 0 79 v)) := by
    intro x hx
    unfold X11_ring_b16 X12_ring_b16
    rw [hE.1.1, tol_0 hT 10 rfl, hN.1.1]
    by_cases h0 : nLa A = 0
    · rw [h0, if_pos (by rfl), if_pos (by rfl)]; exact ⟨_, 0, rfl, Or.inl rfl⟩
    · rw [if_neg (nI_ne0 (by omega) (by omega)), if_neg (nI_ne0 (by omega) (by omega))]
      obtain ⟨r, e, -, e1⟩ := zc_law2 hE hN hW (by omega) hx
      rw [e, zm_lawFor hT hN hW (by omega) hx, cl_s, cl_s, e1, wI_s]
      refine ⟨bI (rgX A x), bI (rgX A x), rfl, Or.inr ?_⟩
      cases rgX A x <;> rfl
  unfold f_X11_ring f_X12_ring
  by_cases h1 : x = -1
  · rw [if_pos h1, if_pos h1]; exact hb x (Or.inl h1)
  · rw [if_neg h1, if_neg h1, zc_isThing, zm_isThing hT, hE.1.2.2, hN.2.2.1.1, cl_s, cl_s, if_b0, if_b0]
    by_cases h2 : rng x (nI (nTh A)) = false
    · rw [if_pos h2, if_pos h2]; exact ⟨_, 0, rfl, Or.inl rfl⟩
    · rw [if_neg h2, if_neg h2]
      rw [Bool.not_eq_false] at h2
      exact hb x (Or.inr (rng_ex (by have := hN.2.2.1.2; omega) h2))
end
