/-! a person -/
-- PTC PTM PED PEM PQw PQm
def PQw (P a k : Nat) : Prop := PTC a k ∨ (a = 44 ∧ (k = 10 ∨ k = 11)) ∨ (a = 47 ∧ k = 1) ∨ ((a = 52 ∨ a = 53 ∨ a = 56) ∧ k = P)
def PQl (P a k : Nat) : Prop := PTl a k ∨ (a = 48 ∧ k = P)
def PQm (P a k : Nat) : Prop := PTM a k ∨ (a = 0 ∧ (k = 27 ∨ k = 34)) ∨ ((a = 15 ∨ a = 16 ∨ a = 19) ∧ k = P)
def PQn (P a k : Nat) : Prop := a = 12 ∧ k = P
section
variable {w m : Wd}
/-- a person is told -/
theorem q_pdone {w' m' : Wd} {P j : Nat} {c0 : Int64} {b : Bool} (hD : DR w m) (hP : P = rP m) (hP8 : P < 8) (hj : j < 4) (hF : FXL (PQw P) (PQl P) w w') (hM : FXL (PQm P) (PQn P) m m') (n48 : w'.2 48 P = c0) (n12 : m'.2 12 P = c0) (n47 : w'.1 47 1 = nI (P + 1)) (n27 : m'.1 0 27 = nI (P + 1)) (r52 : w'.1 52 P = nI j) (r15 : m'.1 15 P = nI j) (r53 : w'.1 53 P = m'.1 16 P) (r56 : w'.1 56 P = 0) (p16 : m'.1 16 P = -1 ∨ NN (m'.1 16 P) P) (c16 : j = 1 → m'.1 16 P = -1) (w11 : w'.1 44 11 = m'.1 0 34) (w34 : m'.1 0 34 = -1 ∨ NN (m'.1 0 34) (P + 1)) (d19 : m'.1 19 P = bI b) (d10 : w'.1 44 10 = if b = true then w.1 44 10 ||| (1 <<< (nI P &&& 31)) else w.1 44 10) : DR w' m' := by
  obtain ⟨d1, d2, d3, d4, d5, d6, d7, d8⟩ := hD
  have eL : rL m' = rL m := by unfold rL; rw [hM.1 0 26 (by simp only [PQw, PQm, PED, PEM, PTC, PTM, and_true, true_and, or_true, true_or, and_self] <;> omega)]
  have eP : rP m' = P + 1 := by unfold rP; rw [n27, nI_clamp (by omega)]
  have eT : rT m' = rT m := by unfold rT; rw [hM.1 0 28 (by simp only [PQw, PQm, PED, PEM, PTC, PTM, and_true, true_and, or_true, true_or, and_self] <;> omega)]
  have om : ∀ a k, (a = 0 ∧ 26 ≤ k ∧ k ≤ 36 ∧ ¬ k = 27 ∧ ¬ k = 34) ∨ (14 ≤ a ∧ a ≤ 19 ∧ ¬ ((a = 15 ∨ a = 16 ∨ a = 19) ∧ k = P)) → m'.1 a k = m.1 a k := fun a k q => hM.1 a k (by simp only [PQw, PQm, PED, PEM, PTC, PTM, and_true, true_and, or_true, true_or, and_self] <;> omega)
  have ow : ∀ a k, 44 ≤ a → a ≤ 56 → ¬ (a = 44 ∧ (k = 10 ∨ k = 11)) → ¬ (a = 47 ∧ k = 1) → ¬ ((a = 52 ∨ a = 53 ∨ a = 56) ∧ k = P) → w'.1 a k = w.1 a k := fun a k h1 h2 h3 h4 h5 => hF.1 a k (by simp only [PQw, PQm, PED, PEM, PTC, PTM, and_true, true_and, or_true, true_or, and_self] <;> omega)
  have hb10 : ∀ k, k < 32 → bt (w'.1 44 10) k = (bt (w.1 44 10) k || (b && decide (k = P))) := fun k hk => by
    rw [d10]
    cases b
    · rw [if_neg (by decide), Bool.false_and, Bool.or_false]
    · rw [if_pos rfl, b_or, z_one (by omega) hk, Bool.true_and]
  have d3P : ∀ k, k < P → dPk w m k := fun k hk => d3.1 k (by rw [← hP]; exact hk)
  have d3b : ∀ k, P ≤ k → k < 32 → bt (w.1 44 10) k = false := fun k hk hk2 => d3.2.1 k (by rw [← hP]; exact hk) hk2
  refine ⟨?_, ?_, ⟨fun k hk => ?_, fun k hk hk2 => ?_, ?_⟩, fun k hk => ?_, fun i hi => ?_, fun i hi => ?_, ?_, ?_⟩
  · unfold dN
    rw [eL, eP, eT, om 0 26 (by omega), n27, om 0 28 (by omega), ow 45 1 (by omega) (by omega) (by omega) (by omega) (by omega), ow 49 1 (by omega) (by omega) (by omega) (by omega) (by omega)]
    refine ⟨⟨d1.1.1, d1.1.2.1, d1.1.2.2.1, fun k hk => ?_⟩, ⟨rfl, by omega, n47, fun k hk => ?_⟩, d1.2.2.1, d1.2.2.2.1, d1.2.2.2.2.1, fun k hk => ?_⟩
    · rw [hF.2 46 k (by unfold PQl PTl; omega), hM.2 11 k (by unfold PQn; omega)]; exact d1.1.2.2.2 k hk
    · by_cases q : k = P
      · rw [q, n48, n12]
      · rw [hF.2 48 k (by unfold PQl PTl; omega), hM.2 12 k (by unfold PQn; omega)]; exact d1.2.1.2.2.2 k (by omega)
    · rw [hF.2 50 k (by unfold PQl PTl; omega), hM.2 13 k (by unfold PQn; omega)]; exact d1.2.2.2.2.2 k hk
  · unfold dR
    rw [eL]
    simp only [fun k => ow 51 k (by omega) (by omega) (by omega) (by omega) (by omega), fun k => om 14 k (by omega)]
    exact d2
  · rw [eP] at hk
    unfold dPk
    by_cases q : k = P
    · subst q
      rw [r52, r15, r53, d19, hb10 k (by omega), d3b k (Nat.le_refl _) (by omega), Bool.false_or, decide_eq_true rfl, Bool.and_true, nb_d]
      refine ⟨⟨rfl, rfl, rfl, r56⟩, ?_, ⟨j, hj, rfl⟩, p16, fun e => c16 ?_⟩
      · cases b
        · exact Or.inl rfl
        · exact Or.inr rfl
      · rw [show (1 : Int32) = nI 1 from rfl, nI_eq (by omega) (by omega)] at e; exact e
    · rw [hb10 k (by omega), decide_eq_false q, Bool.and_false, Bool.or_false, ow 52 k (by omega) (by omega) (by omega) (by omega) (by omega), ow 53 k (by omega) (by omega) (by omega) (by omega) (by omega), ow 56 k (by omega) (by omega) (by omega) (by omega) (by omega), om 15 k (by omega), om 16 k (by omega), om 19 k (by omega)]
      exact d3P k (by omega)
  · rw [eP] at hk
    rw [hb10 k hk2, d3b k (by omega) hk2, decide_eq_false (show ¬ k = P by omega), Bool.and_false]; rfl
  · rw [ow 44 9 (by omega) (by omega) (by omega) (by omega) (by omega)]; exact d3.2.2
  · rw [eT] at hk
    unfold dTk
    rw [eL, ow 54 k (by omega) (by omega) (by omega) (by omega) (by omega), ow 55 k (by omega) (by omega) (by omega) (by omega) (by omega), om 17 k (by omega), om 18 k (by omega)]
    exact d4 k hk
  · unfold dSk
    rw [eL, ow 44 18 (by omega) (by omega) (by omega) (by omega) (by omega), ow 44 (12 + i) (by omega) (by omega) (by omega) (by omega) (by omega), om 0 36 (by omega), om 0 (31 + i) (by omega)]
    exact d5 i hi
  · rw [ow 44 18 (by omega) (by omega) (by omega) (by omega) (by omega), ow 44 (15 + i) (by omega) (by omega) (by omega) (by omega) (by omega), om 0 36 (by omega), om 0 (29 + i) (by omega)]
    exact d6 i hi
  · unfold dW
    rw [eP]; exact ⟨w11, w34⟩
  · unfold dC
    rw [ow 44 17 (by omega) (by omega) (by omega) (by omega) (by omega), om 0 35 (by omega)]; exact d8
/-- the end of a person's clause -/
theorem q_ptail {w0 m0 : Wd} {P j : Nat} {c0 : Int64} (hD : DR w0 m0) (hP : P = rP m0) (hP8 : P < 8) (hj : j < 4) (h : GR w m) (hp : PTG m0 ≤ PTG m) (hF : FXL (PQw P) (PQl P) w0 w) (hM : FXL (PQm P) (PQn P) m0 m) (n12 : m.2 12 P = c0) (n47 : w.1 47 1 = nI P) (n27 : m.1 0 27 = nI P) (r53 : w.1 53 P = m.1 16 P) (r56 : w.1 56 P = 0) (p16 : m.1 16 P = -1 ∨ NN (m.1 16 P) P) (c16 : j = 1 → m.1 16 P = -1) (w11 : w.1 44 11 = m.1 0 34) (w34 : m.1 0 34 = -1 ∨ NN (m.1 0 34) (P + 1)) (d10 : w.1 44 10 = w0.1 44 10) : ECL w0 m0 (lt (wI w 52 P (nI j)) fun w11 => cl (f_X10_passes 26 w11) fun r13 w12 => if r13 = 0 then (X0_readPerson_b84 c0 w12) else lt (wI w12 44 10 ((w12.1 44 10) ||| (1 <<< (nI P &&& 31)))) fun w15 => X0_readPerson_b84 c0 w15) (X12_readPerson_b180 (nI j) m) := by
  have i8 := z_inb hP8 (show 8 < 2 ^ 31 by omega)
  have toE : ∀ {u : Wd}, FXL (PQw P) (PQl P) w0 u → FXL PED QED w0 u := fun q => q.mo (fun a k q => by simp only [PQw, PQm, PED, PEM, PTC, PTM] at q ⊢; omega) (fun a k q => by simp only [PTl, QED, QEM, PQl, PQn] at q ⊢; omega)
  have toM : ∀ {u : Wd}, FXL (PQm P) (PQn P) m0 u → FXL PEM QEM m0 u := fun q => q.mo (fun a k q => by simp only [PQw, PQm, PED, PEM, PTC, PTM] at q ⊢; omega) (fun a k q => by simp only [PTl, QED, QEM, PQl, PQn] at q ⊢; omega)
  unfold X12_readPerson_b180
  rw [lt_s', n27, if_pos i8, nI_clamp (n := P) (by omega), lt_s']
  have hG1 : GR (wI w 52 P (nI j)) (wI m 15 P (nI j)) := (h.c (by omega) (by omega)).r (by omega)
  have e27 : (wI m 15 P (nI j)).1 0 27 = nI P := by rw [wI_g, if_neg (by omega)]; exact n27
  rw [zm_isT hG1 (by omega), cl_s, e27, if_pos i8, nI_clamp (n := P) (by omega), lt_s', nar_b]
  have e47 : ∀ u : Wd, u.1 47 1 = nI P → X0_readPerson_b84 c0 u = some (wI (wG u 48 P c0) 47 1 (nI (P + 1))) := fun u hu => by
    unfold X0_readPerson_b84
    rw [zc_add hu hP8 (by omega), cv_s]
  rcases zc_passT hG1 (show 26 < 47 by omega) with ⟨hn, x1⟩ | ⟨hy, w2, x1, x2⟩
  · rw [x1, cl_s, i01, decide_eq_false hn]
    have hG2 : GR (wI w 52 P (nI j)) (wI (wI m 15 P (nI j)) 19 P (bI false)) := hG1.r (by omega)
    rw [zm_isT hG2 (by omega), cl_s, if_b0, TW_r (by omega), decide_eq_false hn, if_pos (show false = false from rfl)]
    unfold X12_readPerson_b218
    rw [show (wI (wI m 15 P (nI j)) 19 P (bI false)).1 0 27 = nI P by rw [wI_g, if_neg (by omega)]; exact e27, nI_1, lt_s', e47 _ (by rw [wI_g, if_neg (by omega)]; exact n47)]
    have hF2 : FXL (PQw P) (PQl P) w0 (wI (wG (wI w 52 P (nI j)) 48 P c0) 47 1 (nI (P + 1))) := ((hF.tr (FXL.w _ _ (by simp only [PQw, PQm, PED, PEM, PTC, PTM, and_true, true_and, or_true, true_or, and_self] <;> omega))).tr (FXL.g _ _ (by simp only [PQl, PTl, and_true, true_and, or_true, true_or, and_self] <;> omega))).tr (FXL.w _ _ (by simp only [PQw, PQm, PED, PEM, PTC, PTM, and_true, true_and, or_true, true_or, and_self] <;> omega))
    have hM2 : FXL (PQm P) (PQn P) m0 (wI (wI (wI m 15 P (nI j)) 19 P (bI false)) 0 27 (nI (P + 1))) := ((hM.tr (FXL.w _ _ (by simp only [PQw, PQm, PED, PEM, PTC, PTM, and_true, true_and, or_true, true_or, and_self] <;> omega))).tr (FXL.w _ _ (by simp only [PQw, PQm, PED, PEM, PTC, PTM, and_true, true_and, or_true, true_or, and_self] <;> omega))).tr (FXL.w _ _ (by simp only [PQw, PQm, PED, PEM, PTC, PTM, and_true, true_and, or_true, true_or, and_self] <;> omega))
    have m16 : (wI (wI (wI m 15 P (nI j)) 19 P (bI false)) 0 27 (nI (P + 1))).1 16 P = m.1 16 P := by rw [wI_g, if_neg (by omega), wI_g, if_neg (by omega), wI_g, if_neg (by omega)]
    have m34 : (wI (wI (wI m 15 P (nI j)) 19 P (bI false)) 0 27 (nI (P + 1))).1 0 34 = m.1 0 34 := by rw [wI_g, if_neg (by omega), wI_g, if_neg (by omega), wI_g, if_neg (by omega)]
    have wI1 : ∀ a k, ¬ (a = 47 ∧ k = 1) → ¬ (a = 52 ∧ k = P) → (wI (wG (wI w 52 P (nI j)) 48 P c0) 47 1 (nI (P + 1))).1 a k = w.1 a k := fun a k q1 q2 => by rw [wI_g, if_neg q1, wG_1, wI_g, if_neg q2]
    refine ⟨_, _, rfl, toE hF2, toM hM2, Or.inl ⟨rfl, ((hG2.lg (by omega)).c (by omega) (by omega)).r (by omega), by rw [PTG_r (by omega), PTG_r (by omega), PTG_r (by omega)]; exact hp, q_pdone (c0 := c0) (b := false) hD hP hP8 hj hF2 hM2 ?_ ?_ (wI_s _ _ _ _) (wI_s _ _ _ _) ?_ ?_ ?_ ?_ ?_ ?_ ?_ ?_ ?_ ?_⟩⟩
    · rw [wI_2, wG_g, if_pos ⟨rfl, rfl⟩]
    · exact n12
    · rw [wI_g, if_neg (by omega), wG_1, wI_s]
    · rw [wI_g, if_neg (by omega), wI_g, if_neg (by omega), wI_s]
    · rw [m16, wI1 53 P (by omega) (by omega)]; exact r53
    · rw [wI1 56 P (by omega) (by omega)]; exact r56
    · rw [m16]; exact p16
    · rw [m16]; exact c16
    · rw [m34, wI1 44 11 (by omega) (by omega)]; exact w11
    · rw [m34]; exact w34
    · rw [wI_g, if_neg (by omega), wI_s]
    · rw [if_neg (by decide), wI1 44 10 (by omega) (by omega)]; exact d10
  · have hG2 : GR (wI w 52 P (nI j)) (wI (wI m 15 P (nI j)) 19 P (bI true)) := hG1.r (by omega)
    obtain ⟨w3, m3, s1, s2, hG3, hp3, -, hF3, hM3⟩ := q_step hG2
    rw [x1] at s1
    cases s1
    rw [PTG_r (by omega), PTG_r (by omega)] at hp3
    rw [x2, cl_s, i10, decide_eq_true hy, zm_isT hG2 (by omega), cl_s, if_b0, TW_r (by omega), decide_eq_true hy, if_neg (show ¬ true = false by decide), s2, cv_s, lt_s']
    unfold X12_readPerson_b218
    rw [show m3.1 0 27 = nI P by rw [hM3.2 _ _ (by simp only [PQw, PQm, PED, PEM, PTC, PTM, and_true, true_and, or_true, true_or, and_self] <;> omega), wI_g, if_neg (by omega)]; exact e27, nI_1, lt_s', e47 _ (by rw [wI_g, if_neg (by omega), hF3.1 _ _ (by simp only [PQw, PQm, PED, PEM, PTC, PTM, and_true, true_and, or_true, true_or, and_self] <;> omega), wI_g, if_neg (by omega)]; exact n47)]
    have e10 : w2.1 44 10 = w0.1 44 10 := by rw [hF3.1 _ _ (by simp only [PQw, PQm, PED, PEM, PTC, PTM, and_true, true_and, or_true, true_or, and_self] <;> omega), wI_g, if_neg (by omega)]; exact d10
    have hF2 : FXL (PQw P) (PQl P) w0 (wI (wG (wI w2 44 10 (w2.1 44 10 ||| (1 <<< (nI P &&& 31)))) 48 P c0) 47 1 (nI (P + 1))) := ((((hF.tr (FXL.w _ _ (by simp only [PQw, PQm, PED, PEM, PTC, PTM, and_true, true_and, or_true, true_or, and_self] <;> omega))).tr (hF3.mo (fun a k q => Or.inl q) (fun a k q => Or.inl q))).tr (FXL.w _ _ (by simp only [PQw, PQm, PED, PEM, PTC, PTM, and_true, true_and, or_true, true_or, and_self] <;> omega))).tr (FXL.g _ _ (by simp only [PQl, PTl, and_true, true_and, or_true, true_or, and_self] <;> omega))).tr (FXL.w _ _ (by simp only [PQw, PQm, PED, PEM, PTC, PTM, and_true, true_and, or_true, true_or, and_self] <;> omega))
    have hM2 : FXL (PQm P) (PQn P) m0 (wI m3 0 27 (nI (P + 1))) := (((hM.tr (FXL.w _ _ (by simp only [PQw, PQm, PED, PEM, PTC, PTM, and_true, true_and, or_true, true_or, and_self] <;> omega))).tr (FXL.w _ _ (by simp only [PQw, PQm, PED, PEM, PTC, PTM, and_true, true_and, or_true, true_or, and_self] <;> omega))).tr (FX.xl (hM3.mo (fun a k q => Or.inl q)))).tr (FXL.w _ _ (by simp only [PQw, PQm, PED, PEM, PTC, PTM, and_true, true_and, or_true, true_or, and_self] <;> omega))
    have m16 : (wI m3 0 27 (nI (P + 1))).1 16 P = m.1 16 P := by rw [wI_g, if_neg (by omega), hM3.2 _ _ (by simp only [PQw, PQm, PED, PEM, PTC, PTM, and_true, true_and, or_true, true_or, and_self] <;> omega), wI_g, if_neg (by omega), wI_g, if_neg (by omega)]
    have m34 : (wI m3 0 27 (nI (P + 1))).1 0 34 = m.1 0 34 := by rw [wI_g, if_neg (by omega), hM3.2 _ _ (by simp only [PQw, PQm, PED, PEM, PTC, PTM, and_true, true_and, or_true, true_or, and_self] <;> omega), wI_g, if_neg (by omega), wI_g, if_neg (by omega)]
    have wI1 : ∀ a k, ¬ a = 1 → ¬ (a = 47 ∧ k = 1) → ¬ (a = 44 ∧ k = 10) → ¬ (a = 52 ∧ k = P) → (wI (wG (wI w2 44 10 (w2.1 44 10 ||| (1 <<< (nI P &&& 31)))) 48 P c0) 47 1 (nI (P + 1))).1 a k = w.1 a k := fun a k q0 q1 q3 q2 => by rw [wI_g, if_neg q1, wG_1, wI_g, if_neg q3, hF3.1 a k (by unfold PTC; omega), wI_g, if_neg q2]
    refine ⟨_, _, rfl, toE hF2, toM hM2, Or.inl ⟨rfl, (((hG3.c (by omega) (by omega)).lg (by omega)).c (by omega) (by omega)).r (by omega), by rw [PTG_r (by omega)]; omega, q_pdone (c0 := c0) (b := true) hD hP hP8 hj hF2 hM2 ?_ ?_ (wI_s _ _ _ _) (wI_s _ _ _ _) ?_ ?_ ?_ ?_ ?_ ?_ ?_ ?_ ?_ ?_⟩⟩
    · rw [wI_2, wG_g, if_pos ⟨rfl, rfl⟩]
    · rw [wI_2, hM3.1]; exact n12
    · rw [wI_g, if_neg (by omega), wG_1, wI_g, if_neg (by omega), hF3.1 _ _ (by simp only [PQw, PQm, PED, PEM, PTC, PTM, and_true, true_and, or_true, true_or, and_self] <;> omega), wI_s]
    · rw [wI_g, if_neg (by omega), hM3.2 _ _ (by simp only [PQw, PQm, PED, PEM, PTC, PTM, and_true, true_and, or_true, true_or, and_self] <;> omega), wI_g, if_neg (by omega), wI_s]
    · rw [m16, wI1 53 P (by omega) (by omega) (by omega) (by omega)]; exact r53
    · rw [wI1 56 P (by omega) (by omega) (by omega) (by omega)]; exact r56
    · rw [m16]; exact p16
    · rw [m16]; exact c16
    · rw [m34, wI1 44 11 (by omega) (by omega) (by omega) (by omega)]; exact w11
    · rw [m34]; exact w34
    · rw [wI_g, if_neg (by omega), hM3.2 _ _ (by simp only [PQw, PQm, PED, PEM, PTC, PTM, and_true, true_and, or_true, true_or, and_self] <;> omega), wI_s]
    · rw [if_pos rfl, wI_g, if_neg (by omega), wG_1, wI_s, e10]
/-- behind a fault -/
theorem fl_ptail {P : Nat} {x : Int32} {c0 : Int64} (hf : FLT w) (n47 : w.1 47 1 = nI P) (hP8 : P < 8) : ∃ w', (lt (wI w 52 P x) fun w11 => cl (f_X10_passes 26 w11) fun r13 w12 => if r13 = 0 then (X0_readPerson_b84 c0 w12) else lt (wI w12 44 10 ((w12.1 44 10) ||| (1 <<< (nI P &&& 31)))) fun w15 => X0_readPerson_b84 c0 w15) = some w' ∧ FXL (PQw P) (PQl P) w w' ∧ ∀ k, w'.1 1 k = w.1 1 k := by
  have hf1 : FLT (wI w 52 P x) := hf.i (by omega)
  have n1 : (wI w 52 P x).1 47 1 = nI P := by rw [wI_g, if_neg (by omega)]; exact n47
  unfold X0_readPerson_b84
  rw [lt_s', zf_passes hf1, cl_s, i01, zc_add n1 hP8 (by omega), cv_s]
  exact ⟨_, rfl, ((FXL.w _ _ (by simp only [PQw, PQm, PED, PEM, PTC, PTM, and_true, true_and, or_true, true_or, and_self] <;> omega)).tr (FXL.g _ _ (by simp only [PQl, PTl, and_true, true_and, or_true, true_or, and_self] <;> omega))).tr (FXL.w _ _ (by simp only [PQw, PQm, PED, PEM, PTC, PTM, and_true, true_and, or_true, true_or, and_self] <;> omega)), fun k => by rw [wI_g, if_neg (by omega), wG_1, wI_g, if_neg (by omega)]⟩
end
