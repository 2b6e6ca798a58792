/-! clauses of an estate -/
-- PTC PTM PED PEM
section
variable {w m : Wd}
theorem q_e0 (h : GR w m) (hD : DR w m) (hk : ¬ m.1 0 5 = 0) (hb : TW m = some (sByt.getD 0 [])) : ∃ y, (∀ k, X12_readEstate_b55 k m = cl y fun r u => X12_readEstate_b114 k r u) ∧ ECL w m (f_X0_readClause w) y := by
  unfold f_X0_readClause
  rw [zcY h (show 0 < 47 by omega) hb, cl_s, i10]
  refine ⟨f_X12_readLand m, fun k => ?_, ?_⟩
  · rw [X12_readEstate_b55, if_neg hk, zmY h (show 0 < 47 by omega) hb, cl_s, i10]
  · exact q_land h hD
theorem q_e21 (h : GR w m) (hD : DR w m) (hk : ¬ m.1 0 5 = 0) (hb : TW m = some (sByt.getD 21 [])) : ∃ y, (∀ k, X12_readEstate_b55 k m = cl y fun r u => X12_readEstate_b114 k r u) ∧ ECL w m (f_X0_readClause w) y := by
  unfold f_X0_readClause
  rw [zcN h (show 0 < 47 by omega) (by rw [hb]; decide), cl_s, i01, zcY h (show 21 < 47 by omega) hb, cl_s, i10]
  have ho : f_X12_readSmall m = X12_readSmall_b66 (nI 0) m := by
    unfold f_X12_readSmall
    rw [zmY h (show 21 < 47 by omega) hb, cl_s, i10]; rfl
  refine ⟨X12_readSmall_b66 (nI 0) m, fun k => ?_, ?_⟩
  · rw [X12_readEstate_b55, if_neg hk, zmN h (show 0 < 47 by omega) (by rw [hb]; decide), cl_s, i01, zmN h (show 22 < 47 by omega) (by rw [hb]; decide), cl_s, i01, zmN h (show 27 < 47 by omega) (by rw [hb]; decide), cl_s, i01, ho]
  · exact q_seat h hD (j := 0) (by omega)
theorem q_e19 (h : GR w m) (hD : DR w m) (hk : ¬ m.1 0 5 = 0) (hb : TW m = some (sByt.getD 19 [])) : ∃ y, (∀ k, X12_readEstate_b55 k m = cl y fun r u => X12_readEstate_b114 k r u) ∧ ECL w m (f_X0_readClause w) y := by
  unfold f_X0_readClause
  rw [zcN h (show 0 < 47 by omega) (by rw [hb]; decide), cl_s, i01, zcN h (show 21 < 47 by omega) (by rw [hb]; decide), cl_s, i01, zcY h (show 19 < 47 by omega) hb, cl_s, i10]
  have ho : f_X12_readSmall m = X12_readSmall_b66 (nI 1) m := by
    unfold f_X12_readSmall
    rw [zmN h (show 21 < 47 by omega) (by rw [hb]; decide), cl_s, i01, zmY h (show 19 < 47 by omega) hb, cl_s, i10]; rfl
  refine ⟨X12_readSmall_b66 (nI 1) m, fun k => ?_, ?_⟩
  · rw [X12_readEstate_b55, if_neg hk, zmN h (show 0 < 47 by omega) (by rw [hb]; decide), cl_s, i01, zmN h (show 22 < 47 by omega) (by rw [hb]; decide), cl_s, i01, zmN h (show 27 < 47 by omega) (by rw [hb]; decide), cl_s, i01, ho]
  · exact q_seat h hD (j := 1) (by omega)
theorem q_e20 (h : GR w m) (hD : DR w m) (hk : ¬ m.1 0 5 = 0) (hb : TW m = some (sByt.getD 20 [])) : ∃ y, (∀ k, X12_readEstate_b55 k m = cl y fun r u => X12_readEstate_b114 k r u) ∧ ECL w m (f_X0_readClause w) y := by
  unfold f_X0_readClause
  rw [zcN h (show 0 < 47 by omega) (by rw [hb]; decide), cl_s, i01, zcN h (show 21 < 47 by omega) (by rw [hb]; decide), cl_s, i01, zcN h (show 19 < 47 by omega) (by rw [hb]; decide), cl_s, i01, zcY h (show 20 < 47 by omega) hb, cl_s, i10]
  have ho : f_X12_readSmall m = X12_readSmall_b66 (nI 2) m := by
    unfold f_X12_readSmall
    rw [zmN h (show 21 < 47 by omega) (by rw [hb]; decide), cl_s, i01, zmN h (show 19 < 47 by omega) (by rw [hb]; decide), cl_s, i01, zmY h (show 20 < 47 by omega) hb, cl_s, i10]; rfl
  refine ⟨X12_readSmall_b66 (nI 2) m, fun k => ?_, ?_⟩
  · rw [X12_readEstate_b55, if_neg hk, zmN h (show 0 < 47 by omega) (by rw [hb]; decide), cl_s, i01, zmN h (show 22 < 47 by omega) (by rw [hb]; decide), cl_s, i01, zmN h (show 27 < 47 by omega) (by rw [hb]; decide), cl_s, i01, ho]
  · exact q_seat h hD (j := 2) (by omega)
theorem q_e22 (h : GR w m) (hD : DR w m) (hk : ¬ m.1 0 5 = 0) (hb : TW m = some (sByt.getD 22 [])) : ∃ y, (∀ k, X12_readEstate_b55 k m = cl y fun r u => X12_readEstate_b114 k r u) ∧ ECL w m (f_X0_readClause w) y := by
  unfold f_X0_readClause
  rw [zcN h (show 0 < 47 by omega) (by rw [hb]; decide), cl_s, i01, zcN h (show 21 < 47 by omega) (by rw [hb]; decide), cl_s, i01, zcN h (show 19 < 47 by omega) (by rw [hb]; decide), cl_s, i01, zcN h (show 20 < 47 by omega) (by rw [hb]; decide), cl_s, i01, zcY h (show 22 < 47 by omega) hb, cl_s, i10]
  refine ⟨f_X12_readPerson m, fun k => ?_, ?_⟩
  · rw [X12_readEstate_b55, if_neg hk, zmN h (show 0 < 47 by omega) (by rw [hb]; decide), cl_s, i01, zmY h (show 22 < 47 by omega) hb, cl_s, i10]
  · exact q_person h hD
theorem q_e27 (h : GR w m) (hD : DR w m) (hk : ¬ m.1 0 5 = 0) (hb : TW m = some (sByt.getD 27 [])) : ∃ y, (∀ k, X12_readEstate_b55 k m = cl y fun r u => X12_readEstate_b114 k r u) ∧ ECL w m (f_X0_readClause w) y := by
  unfold f_X0_readClause
  rw [zcN h (show 0 < 47 by omega) (by rw [hb]; decide), cl_s, i01, zcN h (show 21 < 47 by omega) (by rw [hb]; decide), cl_s, i01, zcN h (show 19 < 47 by omega) (by rw [hb]; decide), cl_s, i01, zcN h (show 20 < 47 by omega) (by rw [hb]; decide), cl_s, i01, zcN h (show 22 < 47 by omega) (by rw [hb]; decide), cl_s, i01, zcY h (show 27 < 47 by omega) hb, cl_s, i10]
  refine ⟨f_X12_readThing m, fun k => ?_, ?_⟩
  · rw [X12_readEstate_b55, if_neg hk, zmN h (show 0 < 47 by omega) (by rw [hb]; decide), cl_s, i01, zmN h (show 22 < 47 by omega) (by rw [hb]; decide), cl_s, i01, zmY h (show 27 < 47 by omega) hb, cl_s, i10]
  · exact q_thing h hD
theorem q_e29 (h : GR w m) (hD : DR w m) (hk : ¬ m.1 0 5 = 0) (hb : TW m = some (sByt.getD 29 [])) : ∃ y, (∀ k, X12_readEstate_b55 k m = cl y fun r u => X12_readEstate_b114 k r u) ∧ ECL w m (f_X0_readClause w) y := by
  unfold f_X0_readClause
  rw [zcN h (show 0 < 47 by omega) (by rw [hb]; decide), cl_s, i01, zcN h (show 21 < 47 by omega) (by rw [hb]; decide), cl_s, i01, zcN h (show 19 < 47 by omega) (by rw [hb]; decide), cl_s, i01, zcN h (show 20 < 47 by omega) (by rw [hb]; decide), cl_s, i01, zcN h (show 22 < 47 by omega) (by rw [hb]; decide), cl_s, i01, zcN h (show 27 < 47 by omega) (by rw [hb]; decide), cl_s, i01, zcY h (show 29 < 47 by omega) hb, cl_s, i10]
  have ho : f_X12_readSmall m = X12_readSmall_b66 (nI 3) m := by
    unfold f_X12_readSmall
    rw [zmN h (show 21 < 47 by omega) (by rw [hb]; decide), cl_s, i01, zmN h (show 19 < 47 by omega) (by rw [hb]; decide), cl_s, i01, zmN h (show 20 < 47 by omega) (by rw [hb]; decide), cl_s, i01, zmY h (show 29 < 47 by omega) hb, cl_s, i10]; rfl
  refine ⟨X12_readSmall_b66 (nI 3) m, fun k => ?_, ?_⟩
  · rw [X12_readEstate_b55, if_neg hk, zmN h (show 0 < 47 by omega) (by rw [hb]; decide), cl_s, i01, zmN h (show 22 < 47 by omega) (by rw [hb]; decide), cl_s, i01, zmN h (show 27 < 47 by omega) (by rw [hb]; decide), cl_s, i01, ho]
  · exact q_amount h hD (i := 0) (by omega)
theorem q_e30 (h : GR w m) (hD : DR w m) (hk : ¬ m.1 0 5 = 0) (hb : TW m = some (sByt.getD 30 [])) : ∃ y, (∀ k, X12_readEstate_b55 k m = cl y fun r u => X12_readEstate_b114 k r u) ∧ ECL w m (f_X0_readClause w) y := by
  unfold f_X0_readClause
  rw [zcN h (show 0 < 47 by omega) (by rw [hb]; decide), cl_s, i01, zcN h (show 21 < 47 by omega) (by rw [hb]; decide), cl_s, i01, zcN h (show 19 < 47 by omega) (by rw [hb]; decide), cl_s, i01, zcN h (show 20 < 47 by omega) (by rw [hb]; decide), cl_s, i01, zcN h (show 22 < 47 by omega) (by rw [hb]; decide), cl_s, i01, zcN h (show 27 < 47 by omega) (by rw [hb]; decide), cl_s, i01, zcN h (show 29 < 47 by omega) (by rw [hb]; decide), cl_s, i01, zcY h (show 30 < 47 by omega) hb, cl_s, i10]
  have ho : f_X12_readSmall m = X12_readSmall_b66 (nI 4) m := by
    unfold f_X12_readSmall
    rw [zmN h (show 21 < 47 by omega) (by rw [hb]; decide), cl_s, i01, zmN h (show 19 < 47 by omega) (by rw [hb]; decide), cl_s, i01, zmN h (show 20 < 47 by omega) (by rw [hb]; decide), cl_s, i01, zmN h (show 29 < 47 by omega) (by rw [hb]; decide), cl_s, i01, zmY h (show 30 < 47 by omega) hb, cl_s, i10]; rfl
  refine ⟨X12_readSmall_b66 (nI 4) m, fun k => ?_, ?_⟩
  · rw [X12_readEstate_b55, if_neg hk, zmN h (show 0 < 47 by omega) (by rw [hb]; decide), cl_s, i01, zmN h (show 22 < 47 by omega) (by rw [hb]; decide), cl_s, i01, zmN h (show 27 < 47 by omega) (by rw [hb]; decide), cl_s, i01, ho]
  · exact q_amount h hD (i := 1) (by omega)
theorem q_en (h : GR w m) (hk : ¬ m.1 0 5 = 0) (n0 : ¬ TW m = some (sByt.getD 0 [])) (n21 : ¬ TW m = some (sByt.getD 21 [])) (n19 : ¬ TW m = some (sByt.getD 19 [])) (n20 : ¬ TW m = some (sByt.getD 20 [])) (n22 : ¬ TW m = some (sByt.getD 22 [])) (n27 : ¬ TW m = some (sByt.getD 27 [])) (n29 : ¬ TW m = some (sByt.getD 29 [])) (n30 : ¬ TW m = some (sByt.getD 30 [])) : ∃ y, (∀ k, X12_readEstate_b55 k m = cl y fun r u => X12_readEstate_b114 k r u) ∧ ECL w m (f_X0_readClause w) y := by
  unfold f_X0_readClause
  rw [zcN h (show 0 < 47 by omega) n0, cl_s, i01, zcN h (show 21 < 47 by omega) n21, cl_s, i01, zcN h (show 19 < 47 by omega) n19, cl_s, i01, zcN h (show 20 < 47 by omega) n20, cl_s, i01, zcN h (show 22 < 47 by omega) n22, cl_s, i01, zcN h (show 27 < 47 by omega) n27, cl_s, i01, zcN h (show 29 < 47 by omega) n29, cl_s, i01, zcN h (show 30 < 47 by omega) n30, cl_s, i01]
  obtain ⟨w5, m5, x5, b5, f5, F5, M5⟩ := q_fail h (k := 1) (by decide)
  have ho : f_X12_readSmall m = some (0, m5) := by
    unfold f_X12_readSmall X12_readSmall_b66
    rw [zmN h (show 21 < 47 by omega) n21, cl_s, i01, zmN h (show 19 < 47 by omega) n19, cl_s, i01, zmN h (show 20 < 47 by omega) n20, cl_s, i01, zmN h (show 29 < 47 by omega) n29, cl_s, i01, zmN h (show 30 < 47 by omega) n30, cl_s, i01, if_pos (show (-1 : Int32) = -1 from rfl), b5, cl_s, if_pos (show isB 0 = true from rfl)]
  refine ⟨some (0, m5), fun k => ?_, ?_⟩
  · rw [X12_readEstate_b55, if_neg hk, zmN h (show 0 < 47 by omega) n0, cl_s, i01, zmN h (show 22 < 47 by omega) n22, cl_s, i01, zmN h (show 27 < 47 by omega) n27, cl_s, i01, ho]
  · rw [x5, cv_s]
    exact ⟨w5, m5, rfl, PTC_E F5, PTM_E M5, Or.inr (Or.inl ⟨rfl, f5⟩)⟩
theorem q_ecl (h : GR w m) (hD : DR w m) (hk : ¬ m.1 0 5 = 0) : ∃ y, (∀ k, X12_readEstate_b55 k m = cl y fun r u => X12_readEstate_b114 k r u) ∧ ECL w m (f_X0_readClause w) y := by
  by_cases n0 : TW m = some (sByt.getD 0 [])
  · exact q_e0 h hD hk n0
  by_cases n21 : TW m = some (sByt.getD 21 [])
  · exact q_e21 h hD hk n21
  by_cases n19 : TW m = some (sByt.getD 19 [])
  · exact q_e19 h hD hk n19
  by_cases n20 : TW m = some (sByt.getD 20 [])
  · exact q_e20 h hD hk n20
  by_cases n22 : TW m = some (sByt.getD 22 [])
  · exact q_e22 h hD hk n22
  by_cases n27 : TW m = some (sByt.getD 27 [])
  · exact q_e27 h hD hk n27
  by_cases n29 : TW m = some (sByt.getD 29 [])
  · exact q_e29 h hD hk n29
  by_cases n30 : TW m = some (sByt.getD 30 [])
  · exact q_e30 h hD hk n30
  exact q_en h hk n0 n21 n19 n20 n22 n27 n29 n30
/-- the text -/
def ETX (w m : Wd) (x y : Option (Int32 × Wd)) (K : Wd → Option (Int32 × Wd)) : Prop := ∃ w' m', FXL PED QED w w' ∧ FXL PEM QEM m m' ∧ ((x = K w' ∧ y = some (1, m') ∧ GR w' m' ∧ DR w' m') ∨ (x = some (0, w') ∧ y = some (0, m') ∧ FT w' m'))
theorem ETX.tr {w0 m0 : Wd} {x y : Option (Int32 × Wd)} {K : Wd → Option (Int32 × Wd)} (hF : FXL PED QED w0 w) (hM : FXL PEM QEM m0 m) (h : ETX w m x y K) : ETX w0 m0 x y K := by
  obtain ⟨w', m', hF1, hM1, hr⟩ := h
  exact ⟨w', m', hF.tr hF1, hM.tr hM1, hr⟩
theorem fl_etext (h : FLT w) (f : Nat) (y : Int32) : lp (f + 1) (fun _ _ => none) (fun k10 => X0_readText_b10 k10) y w = some (0, w) := by
  show X0_readText_b10 (lp f (fun _ _ => none) (fun k10 => X0_readText_b10 k10)) y w = _
  have e : X0_readText_b49 w = some (0, w) := by
    unfold X0_readText_b49
    rw [zf_failed h, cl_s, i10]
  rw [X0_readText_b10, e, zf_goesOn h, cl_s, i01, e]
  by_cases q : 900 ≤ y
  · rw [if_pos q]
  · rw [if_neg q]
theorem DR.cl (h : DR w m) : DR (wI w 44 17 (w.1 44 17 + 1)) (wI m 0 35 (m.1 0 35 + 1)) := by
  obtain ⟨d1, d2, d3, d4, d5, d6, d7, d8⟩ := h
  have ow : ∀ a k, ¬ (a = 44 ∧ k = 17) → (wI w 44 17 (w.1 44 17 + 1)).1 a k = w.1 a k := fun a k q => by rw [wI_g, if_neg q]
  have om : ∀ a k, ¬ (a = 0 ∧ k = 35) → (wI m 0 35 (m.1 0 35 + 1)).1 a k = m.1 a k := fun a k q => by rw [wI_g, if_neg q]
  have eL : rL (wI m 0 35 (m.1 0 35 + 1)) = rL m := by unfold rL; rw [om 0 26 (by omega)]
  have eP : rP (wI m 0 35 (m.1 0 35 + 1)) = rP m := by unfold rP; rw [om 0 27 (by omega)]
  have eT : rT (wI m 0 35 (m.1 0 35 + 1)) = rT m := by unfold rT; rw [om 0 28 (by omega)]
  refine ⟨?_, ?_, ?_, ?_, fun j hj => ?_, fun j hj => ?_, ?_, ?_⟩
  · unfold dN
    rw [eL, eP, eT, om 0 26 (by omega), om 0 27 (by omega), om 0 28 (by omega), ow 45 1 (by omega), ow 47 1 (by omega), ow 49 1 (by omega), wI_2, wI_2]
    exact d1
  · unfold dR
    rw [eL]
    simp only [fun k => ow 51 k (by omega), fun k => om 14 k (by omega)]
    exact d2
  · unfold dP dPk
    rw [eP, ow 44 10 (by omega), ow 44 9 (by omega)]
    simp only [fun k => ow 52 k (by omega), fun k => ow 53 k (by omega), fun k => ow 56 k (by omega), fun k => om 15 k (by omega), fun k => om 16 k (by omega), fun k => om 19 k (by omega)]
    exact d3
  · unfold dT dTk
    rw [eT, eL]
    simp only [fun k => ow 54 k (by omega), fun k => ow 55 k (by omega), fun k => om 17 k (by omega), fun k => om 18 k (by omega)]
    exact d4
  · unfold dSk
    rw [eL, ow 44 18 (by omega), ow 44 (12 + j) (by omega), om 0 36 (by omega), om 0 (31 + j) (by omega)]
    exact d5 j hj
  · rw [ow 44 18 (by omega), ow 44 (15 + j) (by omega), om 0 36 (by omega), om 0 (29 + j) (by omega)]
    exact d6 j hj
  · unfold dW
    rw [eP, ow 44 11 (by omega), om 0 34 (by omega)]; exact d7
  · unfold dC
    rw [wI_s, wI_s, d8]
theorem q_etext : ∀ (d f g i : Nat) (w m : Wd), (m.1 0 5 = 0 ∨ 901 - PTG m ≤ d) → d + 3 ≤ f → d + 2 ≤ g → GR w m → DR w m → (m.1 0 5 = 0 ∨ i + 1 ≤ PTG m) → i < 2 ^ 31 - 1 → ETX w m (lp f (fun _ _ => none) (fun k10 => X0_readText_b10 k10) (nI i) w) (lp g (fun _ => none) (fun k55 => X12_readEstate_b55 k55) m) (fun u => cv (f_X0_fillUntoldLands u) fun w5 => cv (f_X0_findStems w5) fun w6 => some (1, w6)) := by
  intro d
  induction d with
  | zero =>
    intro f g i w m hd hf hg h hP hi hi31
    have k0 : m.1 0 5 = 0 := by
      rcases hd with q | q
      · exact q
      · by_cases c0 : m.1 0 5 = 0
        · exact c0
        · have := (h.pg c0).2; omega
    obtain ⟨f, rfl⟩ : ∃ f', f = f' + 1 := ⟨f - 1, by omega⟩
    obtain ⟨g, rfl⟩ : ∃ g', g = g' + 1 := ⟨g - 1, by omega⟩
    show ETX w m (X0_readText_b10 (lp f (fun _ _ => none) (fun k10 => X0_readText_b10 k10)) (nI i) w) (X12_readEstate_b55 (lp g (fun _ => none) (fun k55 => X12_readEstate_b55 k55)) m) _
    have e49 : X0_readText_b49 w = (cv (f_X0_fillUntoldLands w) fun w5 => cv (f_X0_findStems w5) fun w6 => some (1, w6)) := by
      unfold X0_readText_b49 f_X10_hasFailed
      rw [if_pos h.f0, cl_s, i01]
    have eg : f_X10_goesOn w = some (0, w) := by
      unfold f_X10_goesOn
      rw [if_pos h.f0, if_pos (h.kd.trans k0)]
    rw [X0_readText_b10, X12_readEstate_b55, if_pos k0, e49, eg, cl_s, i01, e49]
    refine ⟨w, m, FXL.rf _ _ _, FXL.rf _ _ _, Or.inl ⟨?_, rfl, h, hP⟩⟩
    by_cases q : 900 ≤ nI i
    · rw [if_pos q]
    · rw [if_neg q]
  | succ d ih =>
    intro f g i w m hd hf hg h hP hi hi31
    by_cases k0 : m.1 0 5 = 0
    · exact ih f g i w m (Or.inl k0) (by omega) (by omega) h hP (Or.inl k0) hi31
    · obtain ⟨f, rfl⟩ : ∃ f', f = f' + 1 := ⟨f - 1, by omega⟩
      obtain ⟨f, rfl⟩ : ∃ f', f = f' + 1 := ⟨f - 1, by omega⟩
      obtain ⟨g, rfl⟩ : ∃ g', g = g' + 1 := ⟨g - 1, by omega⟩
      have hi' := hi.resolve_left k0
      have hd' := hd.resolve_left k0
      have hpg := h.pg k0
      show ETX w m (X0_readText_b10 (lp (f + 1) (fun _ _ => none) (fun k10 => X0_readText_b10 k10)) (nI i) w) (X12_readEstate_b55 (lp g (fun _ => none) (fun k55 => X12_readEstate_b55 k55)) m) _
      have eg : f_X10_goesOn w = some (1, w) := by
        unfold f_X10_goesOn
        rw [if_pos h.f0, if_neg (by rw [h.kd]; exact k0)]
      obtain ⟨y, hy, w1, m1, e1, hF1, hM1, hr⟩ := q_ecl h hP k0
      rw [X0_readText_b10, hy, if_neg (show ¬ (900 : Int32) ≤ nI i from nI_ge (a := i) (b := 900) (by omega) (by omega)), eg, cl_s, i10, e1, cv_s]
      rcases hr with ⟨e2, hG1, hp1, hP1⟩ | ⟨e2, hf1⟩ | ⟨e2, k3, hf1, e4, e5⟩
      · rw [e2, cl_s]
        unfold X12_readEstate_b114 f_X10_needMark
        rw [i10, hG1.kd]
        by_cases k3 : m1.1 0 5 = 3
        · obtain ⟨w2, m2, s1, s2, hG2, hp2, hp3, hF2, hM2⟩ := q_step hG1
          rw [if_pos k3, if_pos k3, s1, cv_s, cv_s, lt_s', s2, cv_s, lt_s', nI_1]
          have hP2 := (hP1.fr hF2 hM2).cl
          refine ETX.tr ((hF1.tr (PTC_E hF2)).tr (FXL.w _ _ (by simp only [PED, PEM, PTC, PTM, and_true, true_and, or_true, true_or, and_self] <;> omega))) ((hM1.tr (PTM_E hM2)).tr (FXL.w _ _ (by simp only [PED, PEM, PTC, PTM, and_true, true_and, or_true, true_or, and_self] <;> omega))) (ih (f + 1) g (i + 1) _ _ ?_ (by omega) (by omega) ((hG2.c (by omega) (by omega)).r (by omega)) hP2 ?_ (by omega))
          · rw [wI_g, if_neg (by omega), PTG_r (by omega)]
            rcases hp3 with q | q
            · exact Or.inl q
            · exact Or.inr (by omega)
          · rw [wI_g, if_neg (by omega), PTG_r (by omega)]
            rcases hp3 with q | q
            · exact Or.inl q
            · exact Or.inr (by omega)
        · obtain ⟨w5, m5, x5, b5, f5, F5, M5⟩ := q_fail hG1 (k := 1) (by decide)
          rw [if_neg k3, if_neg k3, x5, cv_s, cv_s, lt_s', b5, cl_s, if_pos (show isB 0 = true from rfl), fl_etext (f5.c (by omega)).1]
          exact ⟨_, m5, (hF1.tr (PTC_E F5)).tr (FXL.w _ _ (by simp only [PED, PEM, PTC, PTM, and_true, true_and, or_true, true_or, and_self] <;> omega)), hM1.tr (PTM_E M5), Or.inr ⟨rfl, rfl, f5.c (by omega)⟩⟩
      · rw [e2, cl_s]
        unfold X12_readEstate_b114
        rw [i01, zf_mark hf1.1, cv_s, lt_s', fl_etext (hf1.c (by omega)).1]
        exact ⟨_, m1, hF1.tr (FXL.w _ _ (by simp only [PED, PEM, PTC, PTM, and_true, true_and, or_true, true_or, and_self] <;> omega)), hM1, Or.inr ⟨rfl, rfl, hf1.c (by omega)⟩⟩
      · rw [e2, cl_s]
        unfold X12_readEstate_b114 f_X12_bad
        rw [i10, if_neg k3, lt_s', wI_g, if_neg (show ¬ (0 = 0 ∧ 3 = 8) by omega), zf_mark hf1, cv_s, lt_s', lt_s', cl_s, if_pos (show isB 0 = true from rfl), fl_etext (hf1.i (by omega))]
        refine ⟨_, _, hF1.tr (FXL.w _ _ (by simp only [PED, PEM, PTC, PTM, and_true, true_and, or_true, true_or, and_self] <;> omega)), (hM1.tr (FXL.w _ _ (by simp only [PED, PEM, PTC, PTM, and_true, true_and, or_true, true_or, and_self] <;> omega))).tr (FXL.w _ _ (by simp only [PED, PEM, PTC, PTM, and_true, true_and, or_true, true_or, and_self] <;> omega)), Or.inr ⟨rfl, rfl, hf1.i (by omega), ?_, ?_⟩⟩
        · rw [wI_g, if_neg (by omega), e4, wI_g, if_neg (by omega), wI_s]
        · rw [wI_g, if_neg (by omega), e5, wI_s]
end
