/-! the if of a gift -/
-- PTC PTM P14 P69 PRD PRR
section
variable {w m : Wd} {c p : Nat}
def PIc (c g a k : Nat) : Prop := PTC a k ∨ ((a = c + 4 ∨ a = c + 5) ∧ k = g)
def PIr (G a k : Nat) : Prop := PTM a k ∨ ((a = 35 ∨ a = 37) ∧ k = G)
def IFR (c p g : Nat) (w m : Wd) (x : Option Wd) (y : Option (Int32 × Wd)) : Prop := ∃ w' m', x = some w' ∧ FXL (PIc c g) PTl w w' ∧ FX (PIr (8 * p + g)) m m' ∧ ((y = some (1, m') ∧ GR w' m' ∧ PTG m ≤ PTG m' ∧ PIF w' m' c p g ∧ (m'.1 35 (8 * p + g) = -1 ∨ NN (m'.1 35 (8 * p + g)) (nPe m) ∨ ∃ f, f < 3 ∧ m'.1 35 (8 * p + g) = nI (10 + f)) ∧ (m'.1 35 (8 * p + g) = -1 ∨ m'.1 37 (8 * p + g) = 0 ∨ m'.1 37 (8 * p + g) = 1)) ∨ (y = some (0, m') ∧ FT w' m'))
theorem IFR.tr {g : Nat} {w0 m0 : Wd} {x : Option Wd} {y : Option (Int32 × Wd)} (hF : FXL (PIc c g) PTl w0 w) (hM : FX (PIr (8 * p + g)) m0 m) (hp : PTG m0 ≤ PTG m) (h : IFR c p g w m x y) : IFR c p g w0 m0 x y := by
  have e11 : nPe m = nPe m0 := by unfold nPe; rw [hM.2 0 11 (by simp only [PIc, PIr, PTC, PTM, P14, P69, PRD, PRR, and_true, true_and, or_true, true_or, and_self] <;> omega)]
  obtain ⟨w', m', e1, hF1, hM1, hr⟩ := h
  refine ⟨w', m', e1, hF.tr hF1, hM.tr hM1, ?_⟩
  rcases hr with ⟨e2, hG, hg, hP, h35, h37⟩ | ⟨e2, hf⟩
  · rw [e11] at h35
    exact Or.inl ⟨e2, hG, by omega, hP, h35, h37⟩
  · exact Or.inr ⟨e2, hf⟩
/-- the end of an if by a fact -/
theorem q_ifF {g : Nat} (h : GR w m) (hc : 57 ≤ c) (h8 : w.1 c 8 = nI g) (hg : g < 8) (hp4 : p < 4) {f : Nat} (hf : f < 3) (h35 : m.1 35 (8 * p + g) = nI (10 + f)) (h5 : w.1 (c + 5) g = nI f) : IFR c p g w m (cl (f_X10_passes 39 w) fun r19 w18 =>
  if r19 = 0 then
  (if inb (w.1 c 8) 8 = true then
  (lt (wI w18 (c + 4) (Int32.toNatClampNeg (w.1 c 8)) 3) fun w20 =>
  some w20)
  else none)
  else
  if inb (w.1 c 8) 8 = true then
  (lt (wI w18 (c + 4) (Int32.toNatClampNeg (w.1 c 8)) 4) fun w21 =>
  some w21)
  else none) (cl (f_X12_is 39 m) fun r25 w24 =>
  if r25 = 0 then
  (X12_readIf_b81 1 (nI (8 * p + g)) w24)
  else
  X12_readIf_b81 0 (nI (8 * p + g)) w24) := by
  have pif : ∀ (w' m' : Wd) (b : Bool), m'.1 35 (8 * p + g) = nI (10 + f) → w'.1 (c + 5) g = nI f → m'.1 37 (8 * p + g) = bI b → w'.1 (c + 4) g = (if b = true then 3 else 4) → PIF w' m' c p g := by
    intro w' m' b k35 k5 k37 k4
    refine ⟨fun q => ?_, fun q hq e => ?_, fun q hq e => ?_⟩
    · rw [k35] at q; exact absurd q (nI_n1 (by omega))
    · rw [k35, nI_eq (by omega) (by omega)] at e; omega
    · rw [k35, nI_eq (by omega) (by omega)] at e
      refine ⟨by rw [k5, show q = f by omega], ?_⟩
      rw [k4, k37]
      cases b <;> decide
  unfold X12_readIf_b81
  rw [zm_isT h (by omega), cl_s, if_b0, h8]
  rcases zc_passT h (show 39 < 47 by omega) with ⟨hn, u1⟩ | ⟨hy, w2, u1, u2⟩
  · rw [u1, cl_s, if_pos (show (0 : Int32) = 0 from rfl), if_pos (z_inb hg (by omega)), nI_clamp (n := g) (by omega), lt_s', decide_eq_false hn, if_pos (show false = false from rfl), if_pos (z_inb (show 8 * p + g < 32 by omega) (by omega)), nI_clamp (n := 8 * p + g) (by omega), lt_s', show vp_nar .boolean 1 = 1 from rfl]
    have hG1 : GR w (wI m 37 (8 * p + g) 1) := h.r (by omega)
    rw [zm_isT hG1 (by omega), cl_s, if_b0, TW_r (by omega), decide_eq_false hn, if_pos (show false = false from rfl)]
    refine ⟨_, _, rfl, FXL.w _ _ (by simp only [PIc, PIr, PTC, PTM, P14, P69, PRD, PRR, and_true, true_and, or_true, true_or, and_self] <;> omega), FX.w _ _ (by simp only [PIc, PIr, PTC, PTM, P14, P69, PRD, PRR, and_true, true_and, or_true, true_or, and_self] <;> omega), Or.inl ⟨rfl, hG1.c (by omega) (by omega), by rw [PTG_r (by omega)]; omega, pif _ _ true ?_ ?_ ?_ ?_, ?_, ?_⟩⟩
    · rw [wI_g, if_neg (by omega)]; exact h35
    · rw [wI_g, if_neg (by omega)]; exact h5
    · rw [wI_s]; rfl
    · rw [wI_s]; rfl
    · rw [wI_g, if_neg (by omega)]; exact Or.inr (Or.inr ⟨f, hf, h35⟩)
    · rw [wI_s]; exact Or.inr (Or.inr rfl)
  · have hG1 : GR w (wI m 37 (8 * p + g) 0) := h.r (by omega)
    obtain ⟨w3, m2, x1, x2, hG2, hp2, -, hF2, hM2⟩ := q_step hG1
    rw [u1] at x1
    cases x1
    rw [PTG_r (by omega)] at hp2
    rw [u2, cl_s, if_neg (show ¬ (1 : Int32) = 0 by decide), if_pos (z_inb hg (by omega)), nI_clamp (n := g) (by omega), lt_s', decide_eq_true hy, if_neg (show ¬ true = false by decide), if_pos (z_inb (show 8 * p + g < 32 by omega) (by omega)), nI_clamp (n := 8 * p + g) (by omega), lt_s', show vp_nar .boolean 0 = 0 from rfl, zm_isT hG1 (by omega), cl_s, if_b0, TW_r (by omega), decide_eq_true hy, if_neg (show ¬ true = false by decide), x2, cv_s]
    refine ⟨_, _, rfl, (hF2.mo (fun a k q => Or.inl q) (fun a k q => q)).tr (FXL.w _ _ (by simp only [PIc, PIr, PTC, PTM, P14, P69, PRD, PRR, and_true, true_and, or_true, true_or, and_self] <;> omega)), (FX.w _ _ (by simp only [PIc, PIr, PTC, PTM, P14, P69, PRD, PRR, and_true, true_and, or_true, true_or, and_self] <;> omega)).tr (hM2.mo (fun a k q => Or.inl q)), Or.inl ⟨rfl, hG2.c (by omega) (by omega), hp2, pif _ _ false ?_ ?_ ?_ ?_, ?_, ?_⟩⟩
    · rw [hM2.2 _ _ (by simp only [PIc, PIr, PTC, PTM, P14, P69, PRD, PRR, and_true, true_and, or_true, true_or, and_self] <;> omega), wI_g, if_neg (by omega)]; exact h35
    · rw [wI_g, if_neg (by omega), hF2.1 _ _ (by simp only [PIc, PIr, PTC, PTM, P14, P69, PRD, PRR, and_true, true_and, or_true, true_or, and_self] <;> omega)]; exact h5
    · rw [hM2.2 _ _ (by simp only [PIc, PIr, PTC, PTM, P14, P69, PRD, PRR, and_true, true_and, or_true, true_or, and_self] <;> omega), wI_s]; rfl
    · rw [wI_s]; rfl
    · rw [hM2.2 _ _ (by simp only [PIc, PIr, PTC, PTM, P14, P69, PRD, PRR, and_true, true_and, or_true, true_or, and_self] <;> omega), wI_g, if_neg (by omega)]; exact Or.inr (Or.inr ⟨f, hf, h35⟩)
    · rw [hM2.2 37 _ (by simp only [PIc, PIr, PTC, PTM, P14, P69, PRD, PRR, and_true, true_and, or_true, true_or, and_self] <;> omega), wI_s]; exact Or.inr (Or.inl rfl)
/-- the end of an if by a person -/
theorem q_ifP {g : Nat} (h : GR w m) (hc : 57 ≤ c) (h8 : w.1 c 8 = nI g) (hg : g < 8) (hp4 : p < 4) {f : Nat} (hf : f < nPe m) (hP8 : nPe m ≤ 8) (h35 : m.1 35 (8 * p + g) = nI f) (h5 : w.1 (c + 5) g = nI f) : IFR c p g w m (cl (f_X10_passes 26 w) fun r11 w10 =>
  if r11 = 0 then
  (cv (f_X10_need 40 w10) fun w12 =>
  if inb (w12.1 c 8) 8 = true then
  (lt (wI w12 (c + 4) (Int32.toNatClampNeg (w12.1 c 8)) 2) fun w13 =>
  some w13)
  else none)
  else
  if inb (w10.1 c 8) 8 = true then
  (lt (wI w10 (c + 4) (Int32.toNatClampNeg (w10.1 c 8)) 1) fun w14 =>
  some w14)
  else none) (cl (f_X12_is 26 m) fun r11 w10 =>
  if r11 = 0 then
  (cl (f_X12_is 40 w10) fun r17 w16 =>
  if r17 = 0 then
  (cl (f_X12_bad 1 w16) fun r19 w18 =>
  if isB r19 = true then some (r19, w18) else none)
  else
  X12_readIf_b150 (nI (8 * p + g)) w16)
  else
  X12_readIf_b150 (nI (8 * p + g)) w10) := by
  have pif : ∀ (w' m' : Wd) (b : Bool), m'.1 35 (8 * p + g) = nI f → w'.1 (c + 5) g = nI f → m'.1 37 (8 * p + g) = bI b → w'.1 (c + 4) g = (if b = true then 1 else 2) → PIF w' m' c p g := by
    intro w' m' b k35 k5 k37 k4
    refine ⟨fun q => ?_, fun q hq e => ?_, fun q hq e => ?_⟩
    · rw [k35] at q; exact absurd q (nI_n1 (by omega))
    · rw [k35, nI_eq (by omega) (by omega)] at e
      refine ⟨by rw [k5, show q = f by omega], ?_⟩
      rw [k4, k37]
      cases b <;> decide
    · rw [k35, nI_eq (by omega) (by omega)] at e; omega
  unfold X12_readIf_b150
  rw [zm_isT h (by omega), cl_s, if_b0]
  rcases zc_passT h (show 26 < 47 by omega) with ⟨hn, u1⟩ | ⟨hy, w2, u1, u2⟩
  · rw [u1, cl_s, if_pos (show (0 : Int32) = 0 from rfl), decide_eq_false hn, if_pos (show false = false from rfl), zm_isT h (by omega), cl_s, if_b0]
    unfold f_X10_need
    rw [zc_isT h (by omega), cl_s, if_b0]
    by_cases a : TW m = some (sByt.getD 40 [])
    · have hG1 : GR w (wI m 37 (8 * p + g) 0) := h.r (by omega)
      obtain ⟨w3, m2, x1, x2, hG2, hp2, -, hF2, hM2⟩ := q_step hG1
      rw [PTG_r (by omega)] at hp2
      rw [decide_eq_true a, if_neg (show ¬ true = false by decide), if_neg (show ¬ true = false by decide), x1, cv_s, cv_s, hF2.1 c 8 (by simp only [PIc, PIr, PTC, PTM, P14, P69, PRD, PRR, and_true, true_and, or_true, true_or, and_self] <;> omega), h8, if_pos (z_inb hg (by omega)), nI_clamp (n := g) (by omega), lt_s', zm_isT h (by omega), cl_s, decide_eq_false hn, if_pos (z_inb (show 8 * p + g < 32 by omega) (by omega)), nI_clamp (n := 8 * p + g) (by omega), lt_s', nar_b, bI_f, x2, cv_s]
      refine ⟨_, _, rfl, (hF2.mo (fun a k q => Or.inl q) (fun a k q => q)).tr (FXL.w _ _ (by simp only [PIc, PIr, PTC, PTM, P14, P69, PRD, PRR, and_true, true_and, or_true, true_or, and_self] <;> omega)), (FX.w _ _ (by simp only [PIc, PIr, PTC, PTM, P14, P69, PRD, PRR, and_true, true_and, or_true, true_or, and_self] <;> omega)).tr (hM2.mo (fun a k q => Or.inl q)), Or.inl ⟨rfl, hG2.c (by omega) (by omega), hp2, pif _ _ false ?_ ?_ ?_ ?_, ?_, ?_⟩⟩
      · rw [hM2.2 _ _ (by simp only [PIc, PIr, PTC, PTM, P14, P69, PRD, PRR, and_true, true_and, or_true, true_or, and_self] <;> omega), wI_g, if_neg (by omega)]; exact h35
      · rw [wI_g, if_neg (by omega), hF2.1 _ _ (by simp only [PIc, PIr, PTC, PTM, P14, P69, PRD, PRR, and_true, true_and, or_true, true_or, and_self] <;> omega)]; exact h5
      · rw [hM2.2 _ _ (by simp only [PIc, PIr, PTC, PTM, P14, P69, PRD, PRR, and_true, true_and, or_true, true_or, and_self] <;> omega), wI_s]; rfl
      · rw [wI_s]; rfl
      · rw [hM2.2 _ _ (by simp only [PIc, PIr, PTC, PTM, P14, P69, PRD, PRR, and_true, true_and, or_true, true_or, and_self] <;> omega), wI_g, if_neg (by omega)]; exact Or.inr (Or.inl ⟨f, hf, h35⟩)
      · rw [hM2.2 37 _ (by simp only [PIc, PIr, PTC, PTM, P14, P69, PRD, PRR, and_true, true_and, or_true, true_or, and_self] <;> omega), wI_s]; exact Or.inr (Or.inl rfl)
    · obtain ⟨w5, m5, a5, b5, f5, F5, M5⟩ := q_fail h (k := 1) (by decide)
      rw [decide_eq_false a, if_pos (show false = false from rfl), if_pos (show false = false from rfl), a5, cv_s, cv_s, F5.1 c 8 (by simp only [PIc, PIr, PTC, PTM, P14, P69, PRD, PRR, and_true, true_and, or_true, true_or, and_self] <;> omega), h8, if_pos (z_inb hg (by omega)), nI_clamp (n := g) (by omega), lt_s', b5, cl_s, if_pos (show isB 0 = true from rfl)]
      exact ⟨_, m5, rfl, (F5.mo (fun a k q => Or.inl q) (fun a k q => q)).tr (FXL.w _ _ (by simp only [PIc, PIr, PTC, PTM, P14, P69, PRD, PRR, and_true, true_and, or_true, true_or, and_self] <;> omega)), M5.mo (fun a k q => Or.inl q), Or.inr ⟨rfl, f5.c (by omega)⟩⟩
  · have hG1 : GR w (wI m 37 (8 * p + g) 1) := h.r (by omega)
    obtain ⟨w3, m2, x1, x2, hG2, hp2, -, hF2, hM2⟩ := q_step hG1
    rw [u1] at x1
    cases x1
    rw [PTG_r (by omega)] at hp2
    rw [u2, cl_s, if_neg (show ¬ (1 : Int32) = 0 by decide), hF2.1 c 8 (by simp only [PIc, PIr, PTC, PTM, P14, P69, PRD, PRR, and_true, true_and, or_true, true_or, and_self] <;> omega), h8, if_pos (z_inb hg (by omega)), nI_clamp (n := g) (by omega), lt_s', decide_eq_true hy, if_neg (show ¬ true = false by decide), zm_isT h (by omega), cl_s, decide_eq_true hy, if_pos (z_inb (show 8 * p + g < 32 by omega) (by omega)), nI_clamp (n := 8 * p + g) (by omega), lt_s', nar_b, bI_t, x2, cv_s]
    refine ⟨_, _, rfl, (hF2.mo (fun a k q => Or.inl q) (fun a k q => q)).tr (FXL.w _ _ (by simp only [PIc, PIr, PTC, PTM, P14, P69, PRD, PRR, and_true, true_and, or_true, true_or, and_self] <;> omega)), (FX.w _ _ (by simp only [PIc, PIr, PTC, PTM, P14, P69, PRD, PRR, and_true, true_and, or_true, true_or, and_self] <;> omega)).tr (hM2.mo (fun a k q => Or.inl q)), Or.inl ⟨rfl, hG2.c (by omega) (by omega), hp2, pif _ _ true ?_ ?_ ?_ ?_, ?_, ?_⟩⟩
    · rw [hM2.2 _ _ (by simp only [PIc, PIr, PTC, PTM, P14, P69, PRD, PRR, and_true, true_and, or_true, true_or, and_self] <;> omega), wI_g, if_neg (by omega)]; exact h35
    · rw [wI_g, if_neg (by omega), hF2.1 _ _ (by simp only [PIc, PIr, PTC, PTM, P14, P69, PRD, PRR, and_true, true_and, or_true, true_or, and_self] <;> omega)]; exact h5
    · rw [hM2.2 _ _ (by simp only [PIc, PIr, PTC, PTM, P14, P69, PRD, PRR, and_true, true_and, or_true, true_or, and_self] <;> omega), wI_s]; rfl
    · rw [wI_s]; rfl
    · rw [hM2.2 _ _ (by simp only [PIc, PIr, PTC, PTM, P14, P69, PRD, PRR, and_true, true_and, or_true, true_or, and_self] <;> omega), wI_g, if_neg (by omega)]; exact Or.inr (Or.inl ⟨f, hf, h35⟩)
    · rw [hM2.2 37 _ (by simp only [PIc, PIr, PTC, PTM, P14, P69, PRD, PRR, and_true, true_and, or_true, true_or, and_self] <;> omega), wI_s]; exact Or.inr (Or.inr rfl)
theorem q_if {g : Nat} (h : GR w m) (hc : 57 ≤ c) (hX : CTX w m p) (h8 : w.1 c 8 = nI g) (hg : g < 8) : IFR c p g w m (f_X6_readIf c w) (f_X12_readIf (nI (8 * p + g)) m) := by
  have hp4 := hX.2.1
  have i8 := z_inb hg (show 8 < 2 ^ 31 by omega)
  have i32 := z_inb (show 8 * p + g < 32 by omega) (show 32 < 2 ^ 31 by omega)
  unfold f_X6_readIf f_X12_readIf
  rw [h8, if_pos i8, nI_clamp (n := g) (by omega), lt_s', wI_g, if_neg (show ¬ (c = c + 4 ∧ 8 = g) by omega), h8, if_pos i8, nI_clamp (n := g) (by omega), lt_s', if_pos i32, nI_clamp (n := 8 * p + g) (by omega), lt_s']
  have hG1 : GR (wI (wI w (c + 4) g 0) (c + 5) g (-1)) (wI m 35 (8 * p + g) (-1)) := ((h.c (by omega) (by omega)).c (by omega) (by omega)).r (by omega)
  have hF1 : FXL (PIc c g) PTl w (wI (wI w (c + 4) g 0) (c + 5) g (-1)) := (FXL.w _ _ (by simp only [PIc, PIr, PTC, PTM, P14, P69, PRD, PRR, and_true, true_and, or_true, true_or, and_self] <;> omega)).tr (FXL.w _ _ (by simp only [PIc, PIr, PTC, PTM, P14, P69, PRD, PRR, and_true, true_and, or_true, true_or, and_self] <;> omega))
  have hM1 : FX (PIr (8 * p + g)) m (wI m 35 (8 * p + g) (-1)) := FX.w _ _ (by simp only [PIc, PIr, PTC, PTM, P14, P69, PRD, PRR, and_true, true_and, or_true, true_or, and_self] <;> omega)
  have k4 : (wI (wI w (c + 4) g 0) (c + 5) g (-1)).1 (c + 4) g = 0 := by rw [wI_g, if_neg (by omega), wI_s]
  have k8 : (wI (wI w (c + 4) g 0) (c + 5) g (-1)).1 c 8 = nI g := by rw [wI_g, if_neg (by omega), wI_g, if_neg (by omega)]; exact h8
  have k35 : (wI m 35 (8 * p + g) (-1)).1 35 (8 * p + g) = -1 := wI_s _ _ _ _
  have k37 : (wI m 35 (8 * p + g) (-1)).1 37 (8 * p + g) = m.1 37 (8 * p + g) := by rw [wI_g, if_neg (by omega)]
  have hp1 : PTG (wI m 35 (8 * p + g) (-1)) = PTG m := PTG_r (by omega)
  have hFD1 : FXL (PRD c) PTl w (wI (wI w (c + 4) g 0) (c + 5) g (-1)) := (FXL.w _ _ (by simp only [PIc, PIr, PTC, PTM, P14, P69, PRD, PRR, and_true, true_and, or_true, true_or, and_self] <;> omega)).tr (FXL.w _ _ (by simp only [PIc, PIr, PTC, PTM, P14, P69, PRD, PRR, and_true, true_and, or_true, true_or, and_self] <;> omega))
  have hMD1 : FX (PRR p) m (wI m 35 (8 * p + g) (-1)) := FX.w _ _ (by simp only [PIc, PIr, PTC, PTM, P14, P69, PRD, PRR, and_true, true_and, or_true, true_or, and_self] <;> omega)
  have hX1 := hX.fr hc hFD1 hMD1
  generalize wI (wI w (c + 4) g 0) (c + 5) g (-1) = w1 at hG1 hF1 k4 k8 hX1 hFD1 ⊢
  generalize wI m 35 (8 * p + g) (-1) = m1 at hG1 hM1 k35 k37 hp1 hX1 hMD1 ⊢
  rw [zm_isT hG1 (by omega), cl_s, if_b0]
  rcases zc_passT hG1 (show 37 < 47 by omega) with ⟨hn, u1⟩ | ⟨hy, w2, u1, u2⟩
  · rw [u1, cl_s, if_pos (show (0 : Int32) = 0 from rfl), decide_eq_false hn, if_pos (show false = false from rfl)]
    refine ⟨w1, m1, rfl, hF1, hM1, Or.inl ⟨rfl, hG1, by omega, ⟨fun _ => k4, fun q hq e => ?_, fun q hq e => ?_⟩, Or.inl k35, Or.inl k35⟩⟩
    · rw [k35] at e; exact absurd e.symm (nI_n1 (by omega))
    · rw [k35] at e; exact absurd e.symm (nI_n1 (by omega))
  · obtain ⟨w3, m2, x1, x2, hG2, hp2, -, hF2, hM2⟩ := q_step hG1
    rw [u1] at x1
    cases x1
    rw [u2, cl_s, if_neg (show ¬ (1 : Int32) = 0 by decide), decide_eq_true hy, if_neg (show ¬ true = false by decide), x2, cv_s, zm_isT hG2 (by omega), cl_s, if_b0]
    have j8 : w2.1 c 8 = nI g := (hF2.1 _ _ (by simp only [PIc, PIr, PTC, PTM, P14, P69, PRD, PRR, and_true, true_and, or_true, true_or, and_self] <;> omega)).trans k8
    have hX2 := hX1.fr hc (PTC_D hF2) (PTM_R (p := p) hM2)
    have hFI2 : FXL (PIc c g) PTl w w2 := hF1.tr (hF2.mo (fun a k q => Or.inl q) (fun a k q => q))
    have hMI2 : FX (PIr (8 * p + g)) m m2 := hM1.tr (hM2.mo (fun a k q => Or.inl q))
    rcases zc_passT hG2 (show 38 < 47 by omega) with ⟨hn2, v1⟩ | ⟨hy2, w4, v1, v2⟩
    · rw [v1, cl_s, if_pos (show (0 : Int32) = 0 from rfl), decide_eq_false hn2, if_pos (show false = false from rfl), hX2.2.2.1, j8]
      obtain ⟨r, w5, m5, y1, hF5, hM5, hr⟩ := q_known hG2 hX2.2.2.2.2.2.2.1
      rw [y1, cl_s]
      have hFI5 : FXL (PIc c g) PTl w (wI w5 (c + 5) g r) := (hFI2.tr (hF5.mo (fun a k q => Or.inl q) (fun a k q => q))).tr (FXL.w _ _ (by simp only [PIc, PIr, PTC, PTM, P14, P69, PRD, PRR, and_true, true_and, or_true, true_or, and_self] <;> omega))
      have l8 : (wI w5 (c + 5) g r).1 c 8 = nI g := by rw [wI_g, if_neg (by omega), hF5.1 _ _ (by simp only [PIc, PIr, PTC, PTM, P14, P69, PRD, PRR, and_true, true_and, or_true, true_or, and_self] <;> omega)]; exact j8
      rw [if_pos i8, nI_clamp (n := g) (by omega), lt_s']
      rcases hr with ⟨y2, hG5, hp5, g7, f, hf, rfl⟩ | ⟨y2, hf5, rfl⟩
      · rw [y2, cl_s, if_neg (show ¬ (1 : Int32) = 0 by decide), if_pos i32, lt_s', g7]
        have hMI5 : FX (PIr (8 * p + g)) m (wI m5 35 (8 * p + g) (nI f)) := (hMI2.tr (hM5.mo (fun a k q => Or.inl q))).tr (FX.w _ _ (by simp only [PIc, PIr, PTC, PTM, P14, P69, PRD, PRR, and_true, true_and, or_true, true_or, and_self] <;> omega))
        have ePe : nPe (wI m5 35 (8 * p + g) (nI f)) = nPe m2 := by unfold nPe; rw [wI_g, if_neg (by omega), hM5.2 0 11 (by simp only [PIc, PIr, PTC, PTM, P14, P69, PRD, PRR, and_true, true_and, or_true, true_or, and_self] <;> omega)]
        refine IFR.tr hFI5 hMI5 (by rw [PTG_r (by omega)]; omega) (q_ifP (f := f) ((hG5.c (by omega) (by omega)).r (by omega)) hc l8 hg hp4 (by rw [ePe]; exact hf) (by rw [ePe]; exact hX2.2.2.2.1) (wI_s _ _ _ _) (wI_s _ _ _ _))
      · have hfl := (hf5.c (a := c + 5) (k := g) (v := -1) (by omega)).1
        rw [y2, cl_s, if_pos (show (0 : Int32) = 0 from rfl), zf_passes hfl, cl_s, if_pos (show (0 : Int32) = 0 from rfl), zf_need hfl, cv_s, l8, if_pos i8, nI_clamp (n := g) (by omega), lt_s']
        exact ⟨_, m5, rfl, hFI5.tr (FXL.w _ _ (by simp only [PIc, PIr, PTC, PTM, P14, P69, PRD, PRR, and_true, true_and, or_true, true_or, and_self] <;> omega)), hMI2.tr (hM5.mo (fun a k q => Or.inl q)), Or.inr ⟨rfl, (hf5.c (by omega)).c (by omega)⟩⟩
    · obtain ⟨w3', m4, x3, x4, hG4, hp4', -, hF4, hM4⟩ := q_step hG2
      rw [v1] at x3
      cases x3
      have j84 : w4.1 c 8 = nI g := (hF4.1 _ _ (by simp only [PIc, PIr, PTC, PTM, P14, P69, PRD, PRR, and_true, true_and, or_true, true_or, and_self] <;> omega)).trans j8
      rw [v2, cl_s, if_neg (show ¬ (1 : Int32) = 0 by decide), decide_eq_true hy2, if_neg (show ¬ true = false by decide), x4, cv_s, j84]
      obtain ⟨r, w5, m5, y1, hF5, hM5, hr⟩ := q_num hG4 0 2
      rw [y1, cl_s]
      have hFI5 : FXL (PIc c g) PTl w (wI w5 (c + 5) g r) := ((hFI2.tr (hF4.mo (fun a k q => Or.inl q) (fun a k q => q))).tr (hF5.mo (fun a k q => Or.inl q) (fun a k q => q))).tr (FXL.w _ _ (by simp only [PIc, PIr, PTC, PTM, P14, P69, PRD, PRR, and_true, true_and, or_true, true_or, and_self] <;> omega))
      have l8 : (wI w5 (c + 5) g r).1 c 8 = nI g := by rw [wI_g, if_neg (by omega), hF5.1 _ _ (by simp only [PIc, PIr, PTC, PTM, P14, P69, PRD, PRR, and_true, true_and, or_true, true_or, and_self] <;> omega)]; exact j84
      have hMI4 : FX (PIr (8 * p + g)) m m5 := (hMI2.tr (hM4.mo (fun a k q => Or.inl q))).tr (hM5.mo (fun a k q => Or.inl q))
      rw [if_pos i8, nI_clamp (n := g) (by omega), lt_s']
      rcases hr with ⟨y2, hG5, hp5, g7, hv⟩ | ⟨y2, hf5, hv⟩
      · obtain ⟨f, hf, rfl⟩ : ∃ f, f < 3 ∧ r = nI f := by
          have i0 : (0 : Int32).toInt = 0 := rfl
          have i2 : (2 : Int32).toInt = 2 := rfl
          exact ⟨r.toInt.toNat, by omega, by apply Int32.toInt_inj.mp; rw [nI_toInt (by omega)]; omega⟩
        rw [y2, cl_s, if_neg (show ¬ (1 : Int32) = 0 by decide), if_pos i32, lt_s', g7, show (10 : Int32) = nI 10 from rfl, nI_add]
        have hMI5 : FX (PIr (8 * p + g)) m (wI m5 35 (8 * p + g) (nI (10 + f))) := hMI4.tr (FX.w _ _ (by simp only [PIc, PIr, PTC, PTM, P14, P69, PRD, PRR, and_true, true_and, or_true, true_or, and_self] <;> omega))
        refine IFR.tr hFI5 hMI5 (by rw [PTG_r (by omega)]; omega) (q_ifF (f := f) ((hG5.c (by omega) (by omega)).r (by omega)) hc l8 hg hp4 hf (wI_s _ _ _ _) (wI_s _ _ _ _))
      · have hfl := (hf5.c (a := c + 5) (k := g) (v := r) (by omega)).1
        rw [y2, cl_s, if_pos (show (0 : Int32) = 0 from rfl), zf_passes hfl, cl_s, if_pos (show (0 : Int32) = 0 from rfl), l8, if_pos i8, nI_clamp (n := g) (by omega), lt_s']
        exact ⟨_, m5, rfl, hFI5.tr (FXL.w _ _ (by simp only [PIc, PIr, PTC, PTM, P14, P69, PRD, PRR, and_true, true_and, or_true, true_or, and_self] <;> omega)), hMI4, Or.inr ⟨rfl, (hf5.c (by omega)).c (by omega)⟩⟩
end
