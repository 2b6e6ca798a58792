/-! papers: heirs, gainers, what is good -/
theorem nI_n1 {n : Nat} (h : n < 2 ^ 31) : ¬ nI n = -1 := fun e => by
  have := congrArg Int32.toInt e
  rw [nI_toInt h] at this
  have q : (-1 : Int32).toInt = -1 := rfl
  omega
def nGi (A : Wd) (p : Nat) : Nat := (A.1 23 p).toNatClampNeg
def nHe (A : Wd) (p : Nat) : Nat := (A.1 24 p).toNatClampNeg
def hrF (A : Wd) (p : Nat) : Nat → Int32
  | 0 => 0
  | i + 1 => hrF A p i ||| 1 <<< (A.1 36 (4 * p + i) &&& 31)
def hrS (A : Wd) (p : Nat) : Int32 := hrF A p (nHe A p)
def gnF (A : Wd) (p : Nat) : Nat → Int32
  | 0 => hrS A p
  | i + 1 => gnF A p i ||| 1 <<< (A.1 34 (8 * p + i) &&& 31)
def gnS (A : Wd) (p : Nat) : Int32 := gnF A p (nGi A p)
def PAPg (A : Wd) (p g : Nat) : Prop := NN (A.1 34 (8 * p + g)) (nPe A) ∧ ((A.1 32 (8 * p + g) = -1 ∧ ∃ v, 1 ≤ v ∧ v ≤ 99999 ∧ A.1 33 (8 * p + g) = nI v) ∨ (NN (A.1 32 (8 * p + g)) (nTh A) ∧ A.1 33 (8 * p + g) = 0)) ∧ (A.1 35 (8 * p + g) = -1 ∨ NN (A.1 35 (8 * p + g)) (nPe A) ∨ ∃ f, f < 3 ∧ A.1 35 (8 * p + g) = nI (10 + f)) ∧ (A.1 35 (8 * p + g) = -1 ∨ A.1 37 (8 * p + g) = 0 ∨ A.1 37 (8 * p + g) = 1)
def PAPI (A : Wd) : Prop := ∀ p, p < nPa A → (NN (A.1 23 p) 9 ∧ NN (A.1 24 p) 5 ∧ NN (A.1 20 p) 10000 ∧ NN (A.1 21 p) 10000) ∧ (∀ i, nPe A ≤ i → i < 32 → bt (A.1 22 p) i = false) ∧ (∀ i, p ≤ i → i < 32 → bt (A.1 25 p) i = false ∧ bt (A.1 26 p) i = false) ∧ (A.1 27 p = -1 ∨ NN (A.1 27 p) p) ∧ (∀ g, g < nGi A p → PAPg A p g) ∧ (∀ h, h < nHe A p → NN (A.1 36 (4 * p + h)) (nPe A)) ∧ (∀ o, 28 ≤ o → o ≤ 31 → A.1 o p = 0 ∨ A.1 o p = 1)
def PIF (w A : Wd) (c p g : Nat) : Prop := (A.1 35 (8 * p + g) = -1 → w.1 (c + 4) g = 0) ∧ (∀ q, q < 8 → A.1 35 (8 * p + g) = nI q → w.1 (c + 5) g = nI q ∧ w.1 (c + 4) g = (if A.1 37 (8 * p + g) = 0 then 2 else 1)) ∧ (∀ f, f < 3 → A.1 35 (8 * p + g) = nI (10 + f) → w.1 (c + 5) g = nI f ∧ w.1 (c + 4) g = (if A.1 37 (8 * p + g) = 0 then 4 else 3))
def PAP1 (w A : Wd) (c p : Nat) : Prop := (w.1 c 0 = A.1 20 p ∧ w.1 c 1 = A.1 21 p ∧ w.1 c 2 = A.1 22 p ∧ w.1 c 3 = hrS A p ∧ w.1 c 4 = A.1 31 p ∧ w.1 c 5 = A.1 25 p ∧ w.1 c 6 = A.1 26 p ∧ w.1 c 7 = A.1 27 p ∧ w.1 c 8 = A.1 23 p) ∧ ((w.1 c 14 &&& 1 = 0 ↔ A.1 28 p = 0) ∧ (w.1 c 14 &&& 2 = 0 ↔ A.1 29 p = 0) ∧ (w.1 c 14 &&& 4 = 0 ↔ A.1 30 p = 0)) ∧ w.1 c 16 = gnS A p ∧ (∀ g, g < nGi A p → w.1 (c + 1) g = A.1 32 (8 * p + g) ∧ w.1 (c + 2) g = A.1 33 (8 * p + g) ∧ w.1 (c + 3) g = A.1 34 (8 * p + g) ∧ PIF w A c p g)
def PAP (w A : Wd) : Prop := ∀ p, p < nPa A → PAP1 w A (57 + 6 * p) p
/-! how many bits -/
def bcV (x0 : Int32) : Int32 :=
  lt (x0 - (((x0.toUInt32 >>> (Int32.toUInt32 1 &&& Int32.toUInt32 31)).toInt32) &&& 1431655765)) fun v1 =>
  lt ((v1 &&& 858993459) + (((v1.toUInt32 >>> (Int32.toUInt32 2 &&& Int32.toUInt32 31)).toInt32) &&& 858993459)) fun v2 =>
  lt ((v2 + ((v2.toUInt32 >>> (Int32.toUInt32 4 &&& Int32.toUInt32 31)).toInt32)) &&& 252645135) fun v3 =>
  lt (v3 + ((v3.toUInt32 >>> (Int32.toUInt32 8 &&& Int32.toUInt32 31)).toInt32)) fun v4 =>
  lt (v4 + ((v4.toUInt32 >>> (Int32.toUInt32 16 &&& Int32.toUInt32 31)).toInt32)) fun v5 => v5 &&& 63
theorem bcV_all : ∀ k, k < 256 → bcV (nI k) = nI (fb_ct (bt (nI k)) 8) := by decide +kernel
theorem z_small {x : Int32} (h : ∀ i, 8 ≤ i → i < 32 → bt x i = false) : ∃ k, k < 256 ∧ x = nI k := by
  have e : x &&& 255 = x := b_ext (fun i hi => by
    rw [b_and, b_255]
    by_cases c : i < 8
    · rw [decide_eq_true c, Bool.and_true]
    · rw [decide_eq_false c, Bool.and_false, h i (by omega) hi])
  obtain ⟨j, hj, ej⟩ := pk_andE x (m := 255) 8 (by decide)
  exact ⟨j, hj, e.symm.trans ej⟩
theorem zc_bc {x : Int32} (h : ∀ i, 8 ≤ i → i < 32 → bt x i = false) (w : Wd) : f_J6_bitCount_0f7a4 x w = some (nI (fb_ct (bt x) 8), w) := by
  obtain ⟨k, hk, rfl⟩ := z_small h
  have : f_J6_bitCount_0f7a4 (nI k) w = some (bcV (nI k), w) := rfl
  rw [this, bcV_all k hk]
theorem fb_cut {p : Nat → Bool} {m n : Nat} (h : m ≤ n) (h0 : ∀ i, m ≤ i → i < n → p i = false) : fb_ct p n = fb_ct p m := by
  obtain ⟨d, rfl⟩ : ∃ d, n = m + d := ⟨n - m, by omega⟩
  rw [fb_ct_split, fb_ct_zero.mpr (fun k hk => h0 (m + k) (by omega) (by omega)), Nat.add_zero]
/-! good papers -/
def witS (A : Wd) (p l : Nat) : Int32 := A.1 22 p &&& ((if A.1 2 (13 * l + 3) = 1 then gnS A p else 0) ^^^ -1)
def gdX (A : Wd) (sg hd pc : Bool) (more : Int32) (p l : Nat) : Bool := sg && (!pc || decide (¬ A.1 2 (13 * l + 2) = 0)) && ((hd && decide (¬ A.1 2 (13 * l + 1) = 0)) || decide (¬ more + nI (fb_ct (bt (witS A p l)) (nPe A)) < A.1 2 (13 * l + 0)))
def gdS (A : Wd) (p l : Nat) : Bool := gdX A (decide (¬ A.1 30 p = 0)) (decide (¬ A.1 28 p = 0)) (decide (¬ A.1 29 p = 0)) (if nI p = A.1 0 80 then A.1 0 81 else 0) p l
theorem witS_hi {A : Wd} (hI : PAPI A) {p l : Nat} (hp : p < nPa A) {i : Nat} (h : nPe A ≤ i) (hi : i < 32) : bt (witS A p l) i = false := by
  unfold witS; rw [b_and, (hI p hp).2.1 i h hi, Bool.false_and]
section
variable {wc wm A : Wd}
theorem zm_heirs (hT : tol wm = A) (hN : NUM A) (hI : PAPI A) {p : Nat} (hp : p < nPa A) : f_X12_heirsOf (nI p) wm = some (hrS A p, wm) := by
  have h4 := hN.2.2.2.1.2
  have hh : A.1 24 p = nI (nHe A p) ∧ nHe A p < 5 := (hI p hp).1.2.1.e (by omega)
  unfold f_X12_heirsOf
  refine up4 (fun i => (nI p, hrF A p i, nI i, wm)) (fun _ => some (hrS A p, wm)) (nHe A p) ?_ ?_ fu 0 (by omega) (by have : nHe A p < 5 := hh.2; rw [fu_eq]; omega)
  · intro i k hi hk
    have h5 : nHe A p < 5 := hh.2
    dsimp only at hk ⊢
    unfold X12_heirsOf_b4
    rw [z_inb (by omega) (by omega), if_pos (by rfl), nI_clamp (by omega), tol_p hT 24 p (by omega) hp, hh.1]
    rw [if_neg (nI_ge hi (by omega)), k4, pk_mul, nI_add, z_inb (by omega) (by omega), if_pos (by rfl), nI_clamp (by omega), tol_h hT _ (by omega), lt_s', nI_1]
    exact hk
  · intro k
    have h5 : nHe A p < 5 := hh.2
    dsimp only
    unfold X12_heirsOf_b4
    rw [z_inb (by omega) (by omega), if_pos (by rfl), nI_clamp (by omega), tol_p hT 24 p (by omega) hp, hh.1, if_pos (nI_le (Nat.le_refl _) (by omega))]; rfl
theorem zm_gainers (hT : tol wm = A) (hN : NUM A) (hI : PAPI A) {p : Nat} (hp : p < nPa A) : f_X12_gainers (nI p) wm = some (gnS A p, wm) := by
  have h4 := hN.2.2.2.1.2
  have hh : A.1 23 p = nI (nGi A p) ∧ nGi A p < 9 := (hI p hp).1.1.e (by omega)
  unfold f_X12_gainers
  rw [zm_heirs hT hN hI hp, cl_s]
  refine up4 (fun i => (nI p, gnF A p i, nI i, wm)) (fun _ => some (gnS A p, wm)) (nGi A p) ?_ ?_ fu 0 (by omega) (by have : nGi A p < 9 := hh.2; rw [fu_eq]; omega)
  · intro i k hi hk
    have h5 : nGi A p < 9 := hh.2
    dsimp only at hk ⊢
    unfold X12_gainers_b8
    rw [z_inb (by omega) (by omega), if_pos (by rfl), nI_clamp (by omega), tol_p hT 23 p (by omega) hp, hh.1]
    rw [if_neg (nI_ge hi (by omega)), k8, pk_mul, nI_add, z_inb (by omega) (by omega), if_pos (by rfl), nI_clamp (by omega), tol_g hT 34 _ (by omega) (by omega), lt_s', nI_1]
    exact hk
  · intro k
    have h5 : nGi A p < 9 := hh.2
    dsimp only
    unfold X12_gainers_b8
    rw [z_inb (by omega) (by omega), if_pos (by rfl), nI_clamp (by omega), tol_p hT 23 p (by omega) hp, hh.1, if_pos (nI_le (Nat.le_refl _) (by omega))]; rfl
theorem zm_rule (hT : tol wm = A) (hN : NUM A) {l c : Nat} (hl : l < nLa A) (hc : c < 13) : inb (13 * nI l + nI c) 52 = true ∧ wm.1 2 (13 * nI l + nI c).toNatClampNeg = A.1 2 (13 * l + c) := by
  have h4 := hN.1.2
  rw [k13, pk_mul, nI_add, z_inb (by omega) (by omega), nI_clamp (by omega), tol_a hT 2 _ (by omega)]; exact ⟨rfl, rfl⟩
theorem zm_has (hT : tol wm = A) (hN : NUM A) {l c : Nat} (hl : l < nLa A) (hc : c < 13) : f_X12_has (nI l) (nI c) wm = some (bI (decide (¬ A.1 2 (13 * l + c) = 0)), wm) := by
  obtain ⟨h1, h2⟩ := zm_rule hT hN hl hc
  unfold f_X12_has
  rw [h1, h2, if_pos (by rfl)]
  by_cases h : A.1 2 (13 * l + c) = 0
  · rw [if_pos h, decide_eq_false (fun q => q h)]; rfl
  · rw [if_neg h, decide_eq_true h]; rfl
theorem zm_good (hT : tol wm = A) (hN : NUM A) (hI : PAPI A) {p l : Nat} (hp : p < nPa A) (hl : l < nLa A) : f_X12_isGood (nI p) (nI l) wm = some (bI (gdS A p l), wm) := by
  have h4 := hN.2.2.2.1.2
  have h8 := hN.2.1.2
  have hL := hN.1.2
  have hin : inb (nI p) 4 = true := z_inb (by omega) (by omega)
  have hcl : (nI p).toNatClampNeg = p := nI_clamp (by omega)
  have loop : ∀ set more : Int32, X12_isGood_b104_L (nI l) set more 0 wm = some (bI (decide (¬ more + nI (fb_ct (bt set) (nPe A)) < A.1 2 (13 * l + 0))), wm) := by
    intro set more
    have e0 : more = more + nI (fb_ct (bt set) 0) := by
      show more = more + nI 0
      rw [nI_0, Int32.add_zero]
    conv => lhs; rw [e0]
    refine up5 (fun i => (nI l, set, more + nI (fb_ct (bt set) i), nI i, wm)) (fun _ => some (bI (decide (¬ more + nI (fb_ct (bt set) (nPe A)) < A.1 2 (13 * l + 0))), wm)) (nPe A) ?_ ?_ fu 0 (by omega) (by rw [fu_eq]; omega)
    · intro i k hi hk
      dsimp only at hk ⊢
      unfold X12_isGood_b104
      rw [tol_0 hT 11 rfl, hN.2.1.1, if_neg (nI_ge hi (by omega)), z_bit (by omega), lt_s', nI_1, Int32.add_assoc]
      have e : nI (fb_ct (bt set) i) + bI (bt set i) = nI (fb_ct (bt set) (i + 1)) := by
        rw [fb_ct_succ]
        cases bt set i
        · rw [bI_f, Int32.add_zero]; rfl
        · rw [bI_t, nI_1]; rfl
      rw [e]; exact hk
    · intro k
      dsimp only
      unfold X12_isGood_b104
      obtain ⟨h1, h2⟩ := zm_rule hT hN hl (c := 0) (by omega)
      rw [tol_0 hT 11 rfl, hN.2.1.1, if_pos (nI_le (Nat.le_refl _) (by omega)), show (0 : Int32) = nI 0 from rfl, h1, h2, if_pos (by rfl)]
      by_cases h : more + nI (fb_ct (bt set) (nPe A)) < A.1 2 (13 * l + 0)
      · rw [if_pos h, decide_eq_false (fun q => q h)]; rfl
      · rw [if_neg h, decide_eq_true h]; rfl
  have h79 : ∀ t0, X12_isGood_b79 (nI p) (nI l) t0 (A.1 22 p) wm = some (bI (decide (¬ (if nI p = A.1 0 80 then A.1 0 81 else 0) + nI (fb_ct (bt (A.1 22 p &&& (t0 ^^^ -1))) (nPe A)) < A.1 2 (13 * l + 0))), wm) := by
    intro t0
    unfold X12_isGood_b79
    rw [lt_s', tol_0 hT 80 rfl]
    by_cases h : nI p = A.1 0 80
    · rw [if_pos h, if_pos h, lt_s', tol_81 hT (fun q => nI_n1 (n := p) (by have := hN.2.2.2.1.2; omega) (h.trans q))]; exact loop _ _
    · rw [if_neg h, if_neg h]; exact loop _ _
  have h49 : X12_isGood_b49 (nI p) (nI l) wm = some (bI (decide (¬ (if nI p = A.1 0 80 then A.1 0 81 else 0) + nI (fb_ct (bt (witS A p l)) (nPe A)) < A.1 2 (13 * l + 0))), wm) := by
    unfold X12_isGood_b49 witS
    obtain ⟨h1, h2⟩ := zm_rule hT hN hl (c := 3) (by omega)
    rw [hin, if_pos (by rfl), k3, h1, h2, if_pos (by rfl), hcl, tol_p hT 22 p (by omega) hp]
    by_cases h : A.1 2 (13 * l + 3) = 1
    · rw [if_pos h, if_pos h, zm_gainers hT hN hI hp, cl_s]; exact h79 _
    · rw [if_neg h, if_neg h]; exact h79 _
  have h29 : X12_isGood_b29 (nI p) (nI l) wm = some (bI ((decide (¬ A.1 28 p = 0) && decide (¬ A.1 2 (13 * l + 1) = 0)) || decide (¬ (if nI p = A.1 0 80 then A.1 0 81 else 0) + nI (fb_ct (bt (witS A p l)) (nPe A)) < A.1 2 (13 * l + 0))), wm) := by
    unfold X12_isGood_b29
    rw [hin, if_pos (by rfl), hcl, tol_p hT 28 p (by omega) hp]
    by_cases h : A.1 28 p = 0
    · rw [if_pos h, decide_eq_false (fun q => q h), Bool.false_and, Bool.false_or]; exact h49
    · rw [if_neg h, decide_eq_true h, Bool.true_and, show (1 : Int32) = nI 1 from rfl, zm_has hT hN hl (by omega), cl_s, if_b0]
      by_cases h2 : A.1 2 (13 * l + 1) = 0
      · rw [decide_eq_false (fun q => q h2), if_pos (by rfl), Bool.false_or]; exact h49
      · rw [decide_eq_true h2, if_neg (by decide), Bool.true_or]; rfl
  unfold f_X12_isGood gdS gdX
  rw [hin, if_pos (by rfl), hcl, tol_p hT 30 p (by omega) hp]
  by_cases h : A.1 30 p = 0
  · rw [if_pos h, decide_eq_false (fun q => q h), Bool.false_and, Bool.false_and]; rfl
  · rw [if_neg h, decide_eq_true h, Bool.true_and, if_pos (by rfl), tol_p hT 29 p (by omega) hp]
    by_cases h2 : A.1 29 p = 0
    · rw [if_pos h2, decide_eq_false (fun q => q h2), Bool.not_false, Bool.true_or, Bool.true_and]; exact h29
    · rw [if_neg h2, decide_eq_true h2, Bool.not_true, Bool.false_or, show (2 : Int32) = nI 2 from rfl, zm_has hT hN hl (by omega), cl_s, if_b0]
      by_cases h3 : A.1 2 (13 * l + 2) = 0
      · rw [decide_eq_false (fun q => q h3), if_pos (by rfl), Bool.false_and]; rfl
      · rw [decide_eq_true h3, if_neg (by decide), Bool.true_and]; exact h29
theorem zc_marked (o : Nat) (m : Int32) (w : Wd) : f_X6_isMarked o m w = some (bI (decide (¬ w.1 o 14 &&& m = 0)), w) := by
  unfold f_X6_isMarked
  by_cases h : w.1 o 14 &&& m = 0
  · rw [if_pos h, decide_eq_false (fun q => q h)]; rfl
  · rw [if_neg h, decide_eq_true h]; rfl
theorem zc_good (hE : EST wc A) (hP : PAP wc A) (hN : NUM A) (hI : PAPI A) {p l : Nat} (hp : p < nPa A) (hl : l < nLa A) (ch : Int32) : f_X6_isGoodBy (57 + 6 * p) (nI l) ch wc = some (bI (gdX A (decide (¬ A.1 30 p = 0) || decide (¬ ch &&& 1 = 0)) (decide (¬ A.1 28 p = 0) || decide (¬ ch &&& 2 = 0)) (decide (¬ A.1 29 p = 0) && decide (ch &&& 4 = 0)) (if ch &&& 8 = 0 then 0 else 1) p l), wc) := by
  have h8 := hN.2.1.2
  obtain ⟨⟨-, -, e2, -⟩, ⟨m1, m2, m4⟩, eg, -⟩ := hP p hp
  have hbits : ∀ s : Int32, s = witS A p l → ∀ i, 8 ≤ i → i < 32 → bt s i = false := fun s e i h hi => e ▸ witS_hi hI hp (by omega) hi
  have h155 : ∀ y : Int32, X6_isGoodBy_b155 (nI l) y wc = some (bI (decide (¬ y < A.1 2 (13 * l + 0))), wc) := by
    intro y
    unfold X6_isGoodBy_b155
    rw [show (0 : Int32) = nI 0 from rfl, zc_ruleOf hE hN hl (by omega), cl_s]
    by_cases h : y < A.1 2 (13 * l + 0)
    · rw [if_pos h, decide_eq_false (fun q => q h)]; rfl
    · rw [if_neg h, decide_eq_true h]; rfl
  have h140 : ∀ s : Int32, s = witS A p l → X6_isGoodBy_b140 (nI l) ch s wc = some (bI (decide (¬ (if ch &&& 8 = 0 then 0 else 1) + nI (fb_ct (bt (witS A p l)) (nPe A)) < A.1 2 (13 * l + 0))), wc) := by
    intro s e
    unfold X6_isGoodBy_b140
    have hcut : fb_ct (bt (witS A p l)) 8 = fb_ct (bt (witS A p l)) (nPe A) := fb_cut h8 (fun i h hi => witS_hi hI hp h (by omega))
    rw [zc_bc (hbits s e), cl_s, e, hcut]
    by_cases h : ch &&& 8 = 0
    · rw [if_pos h, if_pos h, h155, Int32.zero_add]
    · rw [if_neg h, if_neg h, h155, Int32.add_comm]
  have h100 : X6_isGoodBy_b100 (57 + 6 * p) (nI l) ch wc = some (bI (decide (¬ (if ch &&& 8 = 0 then 0 else 1) + nI (fb_ct (bt (witS A p l)) (nPe A)) < A.1 2 (13 * l + 0))), wc) := by
    unfold X6_isGoodBy_b100 X6_isGoodBy_b115
    rw [k3, zc_ruleOf hE hN hl (by omega), cl_s]
    by_cases h : A.1 2 (13 * l + 3) = 1
    · rw [if_pos h, if_neg (by decide), e2, eg]
      exact h140 _ (by unfold witS; rw [if_pos h])
    · rw [if_neg h, if_pos (by rfl), e2]
      refine h140 _ ?_
      unfold witS
      rw [if_neg h]
      apply b_ext
      intro i hi
      rw [b_and, z_not hi, b_0, Bool.not_false, Bool.and_true]
  have h84 : ∀ hd : Bool, X6_isGoodBy_b84 (57 + 6 * p) (nI l) ch (bI hd) wc = some (bI ((hd && decide (¬ A.1 2 (13 * l + 1) = 0)) || decide (¬ (if ch &&& 8 = 0 then 0 else 1) + nI (fb_ct (bt (witS A p l)) (nPe A)) < A.1 2 (13 * l + 0))), wc) := by
    intro hd
    unfold X6_isGoodBy_b84
    rw [if_b0]
    cases hd
    · rw [if_pos (by rfl), Bool.false_and, Bool.false_or]; exact h100
    · rw [if_neg (by decide), show (1 : Int32) = nI 1 from rfl, zc_ruleOf hE hN hl (by omega), cl_s, Bool.true_and]
      by_cases h2 : A.1 2 (13 * l + 1) = 0
      · rw [if_pos h2, decide_eq_false (fun q => q h2), Bool.false_or]; exact h100
      · rw [if_neg h2, decide_eq_true h2, Bool.true_or]; rfl
  have h61 : ∀ sg hd pc : Bool, X6_isGoodBy_b61 (57 + 6 * p) (nI l) ch (bI sg) (bI hd) (bI pc) wc = some (bI (gdX A sg hd pc (if ch &&& 8 = 0 then 0 else 1) p l), wc) := by
    intro sg hd pc
    unfold X6_isGoodBy_b61 gdX
    rw [if_b0, if_b0]
    cases sg
    · rw [if_pos (by rfl), Bool.false_and, Bool.false_and]; rfl
    · rw [if_neg (by decide), Bool.true_and]
      cases pc
      · rw [if_pos (by rfl), Bool.not_false, Bool.true_or, Bool.true_and]; exact h84 hd
      · rw [if_neg (by decide), show (2 : Int32) = nI 2 from rfl, zc_ruleOf hE hN hl (by omega), cl_s, Bool.not_true, Bool.false_or]
        by_cases h3 : A.1 2 (13 * l + 2) = 0
        · rw [if_pos h3, decide_eq_false (fun q => q h3), Bool.false_and]; rfl
        · rw [if_neg h3, decide_eq_true h3, Bool.true_and]; exact h84 hd
  have f0 : (0 : Int32) = bI false := rfl
  have f1 : (1 : Int32) = bI true := rfl
  have h40 : ∀ sg hd : Bool, X6_isGoodBy_b40 (57 + 6 * p) (nI l) ch (bI sg) (bI hd) wc = some (bI (gdX A sg hd (decide (¬ A.1 29 p = 0) && decide (ch &&& 4 = 0)) (if ch &&& 8 = 0 then 0 else 1) p l), wc) := by
    intro sg hd
    unfold X6_isGoodBy_b40
    rw [zc_marked, cl_s, if_b0]
    by_cases h : A.1 29 p = 0
    · rw [decide_eq_false (fun q => q (m2.mpr h)), if_pos (by rfl), decide_eq_false (fun q => q h), Bool.false_and]
      exact h61 sg hd false
    · rw [decide_eq_true (mt m2.mp h), if_neg (by decide), decide_eq_true h, Bool.true_and]
      by_cases h4 : ch &&& 4 = 0
      · rw [if_pos h4, decide_eq_true h4]; exact h61 sg hd true
      · rw [if_neg h4, decide_eq_false h4]; exact h61 sg hd false
  have h19 : ∀ sg : Bool, X6_isGoodBy_b19 (57 + 6 * p) (nI l) ch (bI sg) wc = some (bI (gdX A sg (decide (¬ A.1 28 p = 0) || decide (¬ ch &&& 2 = 0)) (decide (¬ A.1 29 p = 0) && decide (ch &&& 4 = 0)) (if ch &&& 8 = 0 then 0 else 1) p l), wc) := by
    intro sg
    unfold X6_isGoodBy_b19
    rw [zc_marked, cl_s, if_b0]
    by_cases h : A.1 28 p = 0
    · rw [decide_eq_false (fun q => q (m1.mpr h)), if_pos (by rfl), decide_eq_false (fun q => q h), Bool.false_or]
      by_cases h4 : ch &&& 2 = 0
      · rw [if_pos h4, decide_eq_false (fun q => q h4)]; exact h40 sg false
      · rw [if_neg h4, decide_eq_true h4]; exact h40 sg true
    · rw [decide_eq_true (mt m1.mp h), if_neg (by decide), decide_eq_true h, Bool.true_or]
      exact h40 sg true
  unfold f_X6_isGoodBy
  rw [zc_marked, cl_s, if_b0]
  by_cases h : A.1 30 p = 0
  · rw [decide_eq_false (fun q => q (m4.mpr h)), if_pos (by rfl), decide_eq_false (fun q => q h), Bool.false_or]
    by_cases h4 : ch &&& 1 = 0
    · rw [if_pos h4, decide_eq_false (fun q => q h4)]; exact h19 false
    · rw [if_neg h4, decide_eq_true h4]; exact h19 true
  · rw [decide_eq_true (mt m4.mp h), if_neg (by decide), decide_eq_true h, Bool.true_or]
    exact h19 true
/-- nothing is being mended -/
def NCH (A : Wd) : Prop := A.1 0 80 = -1
theorem gd0 (hC : NCH A) (hN : NUM A) {p : Nat} (hp : p < nPa A) (l : Nat) : gdX A (decide (¬ A.1 30 p = 0) || decide (¬ (0 : Int32) &&& 1 = 0)) (decide (¬ A.1 28 p = 0) || decide (¬ (0 : Int32) &&& 2 = 0)) (decide (¬ A.1 29 p = 0) && decide ((0 : Int32) &&& 4 = 0)) (if (0 : Int32) &&& 8 = 0 then 0 else 1) p l = gdS A p l := by
  have h4 := hN.2.2.2.1.2
  unfold gdS
  rw [hC, if_neg (nI_n1 (by omega)), show decide (¬ (0 : Int32) &&& 1 = 0) = false by decide, show decide (¬ (0 : Int32) &&& 2 = 0) = false by decide, show decide ((0 : Int32) &&& 4 = 0) = true by decide, Bool.or_false, Bool.or_false, Bool.and_true, if_pos (by decide)]
theorem q_good (hE : EST wc A) (hP : PAP wc A) (hC : CNT wc A) (hN : NUM A) (hI : PAPI A) (hX : NCH A) (hT : tol wm = A) (a b : Int32) : ∃ r, f_X11_good a b wc = some (r, wc) ∧ f_X12_good a b wm = some (r, wm) := by
  have h4 := hN.2.2.2.1.2
  have hL := hN.1.2
  unfold f_X11_good f_X12_good
  rw [zc_isPaper, zm_isPaper hT, hC.1, hN.2.2.2.1.1, cl_s, cl_s, if_b0, if_b0]
  by_cases h1 : rng a (nI (nPa A)) = false
  · rw [if_pos h1, if_pos h1]; exact ⟨_, rfl, rfl⟩
  rw [if_neg h1, if_neg h1, zc_isLand, zm_isLand hT, hE.1.1, hN.1.1, cl_s, cl_s, if_b0, if_b0]
  by_cases h2 : rng b (nI (nLa A)) = false
  · rw [if_pos h2, if_pos h2]; exact ⟨_, rfl, rfl⟩
  rw [if_neg h2, if_neg h2]
  rw [Bool.not_eq_false] at h1 h2
  obtain ⟨p, hp, rfl⟩ := rng_ex (by omega) h1
  obtain ⟨l, hl, rfl⟩ := rng_ex (by omega) h2
  rw [z_inb (by omega) (by omega), if_pos (by rfl), nI_clamp (by omega), zc_good hE hP hN hI hp hl, gd0 hX hN hp, zm_good hT hN hI hp hl, cl_s, cl_s]
  cases gdS A p l
  · exact ⟨_, rfl, rfl⟩
  · exact ⟨_, rfl, rfl⟩
theorem q_look (hP : PAP wc A) (hC : CNT wc A) (hN : NUM A) (hI : PAPI A) (hT : tol wm = A) (a b : Int32) : ∃ r, f_X11_look a b wc = some (r, wc) ∧ f_X12_look a b wm = some (r, wm) := by
  have h4 := hN.2.2.2.1.2
  unfold f_X11_look f_X12_look
  rw [zc_isPaper, zm_isPaper hT, hC.1, hN.2.2.2.1.1, cl_s, cl_s, if_b0, if_b0]
  by_cases h1 : rng a (nI (nPa A)) = false
  · rw [if_pos h1, if_pos h1]; exact ⟨_, rfl, rfl⟩
  rw [if_neg h1, if_neg h1, m_in, cl_s, if_b0]
  rw [Bool.not_eq_false] at h1
  obtain ⟨p, hp, rfl⟩ := rng_ex (by omega) h1
  have z0 : (0 : Int64).toInt = 0 := rfl
  have z11 : (11 : Int64).toInt = 11 := rfl
  obtain ⟨⟨f0, f1, f2, f3, f4, f5, f6, f7, f8⟩, ⟨m1, m2, m4⟩, -, -⟩ := hP p hp
  have hbb : ∀ o, 28 ≤ o → o ≤ 31 → wm.1 o p = A.1 o p := fun o h h' => tol_p hT o p (by omega) hp
  have hmk : ∀ (m : Int32) (o : Nat), (wc.1 (57 + 6 * p) 14 &&& m = 0 ↔ A.1 o p = 0) → (if bI (decide (¬ wc.1 (57 + 6 * p) 14 &&& m = 0)) = 0 then some ((0 : Int32), wc) else some (1, wc)) = if A.1 o p = 0 then some (0, wc) else some (1, wc) := by
    intro m o h
    rw [if_b0]
    by_cases c : A.1 o p = 0
    · rw [if_pos c, if_pos (decide_eq_false (fun q => q (h.mpr c)))]
    · rw [if_neg c, if_neg (fun q => c (h.mp (Classical.not_not.mp (of_decide_eq_false q))))]
  rw [z_inb (by omega) (by omega), if_pos (by rfl), nI_clamp (by omega), z0, z11]
  simp only [zc_marked, cl_s, hmk 1 28 m1, hmk 2 29 m2, hmk 4 30 m4, f0, f1, f2, f3, f4, f5, f6, f7, f8, zm_heirs hT hN hI hp, tol_p hT 20 p (by omega) hp, tol_p hT 21 p (by omega) hp, tol_p hT 22 p (by omega) hp, tol_p hT 23 p (by omega) hp, tol_p hT 25 p (by omega) hp, tol_p hT 26 p (by omega) hp, tol_p hT 27 p (by omega) hp, tol_p hT 28 p (by omega) hp, tol_p hT 29 p (by omega) hp, tol_p hT 30 p (by omega) hp, tol_p hT 31 p (by omega) hp]
  by_cases hb : 0 ≤ b.toInt ∧ b.toInt ≤ 11
  · rw [decide_eq_true hb]
    obtain ⟨i, hi, rfl⟩ := z_ex (n := 12) hb.1 (by omega)
    rcases (show i = 0 ∨ i = 1 ∨ i = 2 ∨ i = 3 ∨ i = 4 ∨ i = 5 ∨ i = 6 ∨ i = 7 ∨ i = 8 ∨ i = 9 ∨ i = 10 ∨ i = 11 by omega) with rfl | rfl | rfl | rfl | rfl | rfl | rfl | rfl | rfl | rfl | rfl | rfl
    · exact ⟨_, rfl, rfl⟩
    · exact ⟨_, rfl, rfl⟩
    · by_cases c : A.1 28 p = 0
      · exact ⟨0, if_pos c, if_pos c⟩
      · exact ⟨1, if_neg c, if_neg c⟩
    · by_cases c : A.1 29 p = 0
      · exact ⟨0, if_pos c, if_pos c⟩
      · exact ⟨1, if_neg c, if_neg c⟩
    · by_cases c : A.1 30 p = 0
      · exact ⟨0, if_pos c, if_pos c⟩
      · exact ⟨1, if_neg c, if_neg c⟩
    · exact ⟨_, rfl, rfl⟩
    · exact ⟨_, rfl, rfl⟩
    · exact ⟨_, rfl, rfl⟩
    · by_cases c : A.1 31 p = 0
      · exact ⟨0, if_pos c, if_pos c⟩
      · exact ⟨1, if_neg c, if_neg c⟩
    · exact ⟨_, rfl, rfl⟩
    · exact ⟨_, rfl, rfl⟩
    · exact ⟨_, rfl, rfl⟩
  · rw [decide_eq_false hb]
    have hn : ∀ v : Int32, 0 ≤ v.toInt → v.toInt ≤ 11 → ¬ b = v := fun v h h' e => hb (e ▸ ⟨h, h'⟩)
    rw [if_neg (hn 0 (by decide) (by decide)), if_neg (hn 1 (by decide) (by decide)), if_neg (hn 2 (by decide) (by decide)), if_neg (hn 3 (by decide) (by decide)), if_neg (hn 4 (by decide) (by decide)), if_neg (hn 5 (by decide) (by decide)), if_neg (hn 6 (by decide) (by decide)), if_neg (hn 7 (by decide) (by decide)), if_neg (hn 8 (by decide) (by decide)), if_neg (hn 9 (by decide) (by decide)), if_neg (hn 10 (by decide) (by decide)), if_neg (hn 11 (by decide) (by decide))]
    exact ⟨_, rfl, rfl⟩
end
