/-! a person, whole -/
-- PTC PTM PED PEM PQw PQm
section
variable {w m : Wd}
theorem q_person (h : GR w m) (hD : DR w m) : ECL w m (cv (f_X0_readPerson w) fun w25 => some w25) (f_X12_readPerson m) := by
  have hD0 := hD
  obtain ⟨d1, d2, d3, d4, d5, d6, d7, d8⟩ := hD
  obtain ⟨t1, t2, t3, t4⟩ := d1.2.1
  have hNp : NMS w m 47 12 (rP m) 8 := ⟨t3.trans t1, t2, by omega, t4⟩
  obtain ⟨P, hP⟩ : ∃ P, P = rP m := ⟨_, rfl⟩
  rw [← hP] at hNp
  rw [← hP] at t1 t2 t4
  have toE : ∀ {u : Wd}, FXL (PQw P) (PQl P) w u → FXL PED QED w u := fun q => q.mo (fun a k q => by simp only [PQw, PQm, PED, PEM, PTC, PTM] at q ⊢; omega) (fun a k q => by simp only [PTl, QED, QEM, PQl, PQn] at q ⊢; omega)
  have toM : ∀ {u : Wd}, FXL (PQm P) (PQn P) m u → FXL PEM QEM m u := fun q => q.mo (fun a k q => by simp only [PQw, PQm, PED, PEM, PTC, PTM] at q ⊢; omega) (fun a k q => by simp only [PTl, QED, QEM, PQl, PQn] at q ⊢; omega)
  unfold f_X0_readPerson f_X12_readPerson
  rw [show (8 : Int32) = nI 8 from rfl]
  rcases q_name h (by omega) hNp t1 (by omega) (fun w2 => cl (f_X12_is 10 w2) fun r5 w4 =>
  if r5 = 0 then
  (cl (f_X12_is 23 w4) fun r7 w6 =>
  if r7 = 0 then
  (cl (f_X12_is 24 w6) fun r9 w8 =>
  if r9 = 0 then
  (cl (f_X12_is 25 w8) fun r11 w10 =>
  if r11 = 0 then
  (X12_readPerson_b89 ((-1)) w10)
  else
  X12_readPerson_b89 3 w10)
  else
  X12_readPerson_b89 2 w8)
  else
  X12_readPerson_b89 1 w6)
  else
  X12_readPerson_b89 0 w4) with ⟨w1, w2, m2, e1, e2, e3, hf, hF, hM⟩ | ⟨hPn, w1, m1, e1, e2, hG1, hp1, hF1, hM1, hk⟩
  · rw [e1, cv_s, e2, cl_s, i01, cv_s, e3]
    exact ⟨w2, m2, rfl, PTC_E hF, PTM_E hM, Or.inr (Or.inl ⟨rfl, hf⟩)⟩
  · rw [e1, cv_s, e2, cl_s, i10]
    have s1 : w1.1 47 1 = nI P := by rw [hF1.1 _ _ (by simp only [PQw, PQm, PED, PEM, PTC, PTM, and_true, true_and, or_true, true_or, and_self] <;> omega)]; exact hNp.1
    obtain ⟨c0, hc0⟩ : ∃ c0, c0 = w1.2 1 3 := ⟨_, rfl⟩
    rw [← hc0] at hk ⊢
    obtain ⟨w2, m2, s3, s4, hG2, hp2, -, hF2, hM2⟩ := q_step (hG1.rg (a := 12) (k := P) (v := c0))
    rw [PTG_rg] at hp2
    have i8 := z_inb hPn (show 8 < 2 ^ 31 by omega)
    rw [hk m2 s4, s1, lt_s', lt_s', s3, cv_s, if_pos i8, nI_clamp (n := P) (by omega), lt_s', if_pos i8, lt_s']
    have hFa : FXL (PQw P) (PQl P) w (wI (wI w2 56 P 0) 53 P (-1)) := (((hF1.mo (fun a k q => Or.inl q) (fun a k q => Or.inl q)).tr (hF2.mo (fun a k q => Or.inl q) (fun a k q => Or.inl q))).tr (FXL.w _ _ (by simp only [PQw, PQm, PED, PEM, PTC, PTM, and_true, true_and, or_true, true_or, and_self] <;> omega))).tr (FXL.w _ _ (by simp only [PQw, PQm, PED, PEM, PTC, PTM, and_true, true_and, or_true, true_or, and_self] <;> omega))
    have hMa : FXL (PQm P) (PQn P) m m2 := ((FX.xl (hM1.mo (fun a k q => Or.inl q))).tr (FXL.g _ _ ⟨rfl, rfl⟩)).tr (FX.xl (hM2.mo (fun a k q => Or.inl q)))
    have hGa : GR (wI (wI w2 56 P 0) 53 P (-1)) m2 := (hG2.c (by omega) (by omega)).c (by omega) (by omega)
    have a53 : (wI (wI w2 56 P 0) 53 P (-1)).1 53 P = -1 := wI_s _ _ _ _
    have a56 : (wI (wI w2 56 P 0) 53 P (-1)).1 56 P = 0 := by rw [wI_g, if_neg (by omega), wI_s]
    have ao : ∀ k, (wI (wI w2 56 P 0) 53 P (-1)).1 44 k = w.1 44 k := fun k => by rw [wI_g, if_neg (by omega), wI_g, if_neg (by omega), hF2.1 _ _ (by simp only [PQw, PQm, PED, PEM, PTC, PTM, and_true, true_and, or_true, true_or, and_self] <;> omega), hF1.1 _ _ (by simp only [PQw, PQm, PED, PEM, PTC, PTM, and_true, true_and, or_true, true_or, and_self] <;> omega)]
    have a47 : (wI (wI w2 56 P 0) 53 P (-1)).1 47 1 = nI P := by rw [wI_g, if_neg (by omega), wI_g, if_neg (by omega), hF2.1 _ _ (by simp only [PQw, PQm, PED, PEM, PTC, PTM, and_true, true_and, or_true, true_or, and_self] <;> omega)]; exact s1
    have al : ∀ k, (wI (wI w2 56 P 0) 53 P (-1)).2 48 k = w.2 48 k := fun k => by rw [wI_2, wI_2, hF2.2 _ _ (by unfold PTl; omega), hF1.2 _ _ (by unfold PTl; omega)]
    have m27 : m2.1 0 27 = nI P := by rw [hM2.2 _ _ (by simp only [PQw, PQm, PED, PEM, PTC, PTM, and_true, true_and, or_true, true_or, and_self] <;> omega), wG_1, hM1.2 _ _ (by simp only [PQw, PQm, PED, PEM, PTC, PTM, and_true, true_and, or_true, true_or, and_self] <;> omega)]; exact t1
    have m34 : m2.1 0 34 = m.1 0 34 := by rw [hM2.2 _ _ (by simp only [PQw, PQm, PED, PEM, PTC, PTM, and_true, true_and, or_true, true_or, and_self] <;> omega), wG_1, hM1.2 _ _ (by simp only [PQw, PQm, PED, PEM, PTC, PTM, and_true, true_and, or_true, true_or, and_self] <;> omega)]
    have m12 : m2.2 12 P = c0 := by rw [hM2.1, wG_g, if_pos ⟨rfl, rfl⟩]
    have ml : ∀ k, k < P → m2.2 12 k = m.2 12 k := fun k hk => by rw [hMa.2 12 k (by unfold PQn; omega)]
    generalize wI (wI w2 56 P 0) 53 P (-1) = wa at hFa hGa a53 a56 ao a47 al ⊢
    have w11a : wa.1 44 11 = m2.1 0 34 := by rw [ao, m34]; exact d7.1
    -- the role
    have flr : ∀ u : Wd, FLT u → u.1 47 1 = nI P → FXL (PQw P) (PQl P) w u → ∀ m', FT u m' → FXL (PQm P) (PQn P) m m' → ∀ (x : Int32), ECL w m (cv (lt (wI u 52 P x) fun w11 => cl (f_X10_passes 26 w11) fun r13 w12 => if r13 = 0 then (X0_readPerson_b84 c0 w12) else lt (wI w12 44 10 ((w12.1 44 10) ||| (1 <<< (nI P &&& 31)))) fun w15 => X0_readPerson_b84 c0 w15) fun w25 => some w25) (some (0, m')) := by
      intro u hu hu47 hFu m' hft hMu x
      obtain ⟨w', x1, x2, x3⟩ := fl_ptail (x := x) (c0 := c0) hu hu47 hPn
      rw [x1, cv_s]
      exact ⟨w', m', rfl, toE (hFu.tr x2), toM hMu, Or.inr (Or.inl ⟨rfl, hft.e x3⟩)⟩
    -- a role that stands
    have good : ∀ (j : Nat) (u m' : Wd), j < 4 → GR u m' → PTG m ≤ PTG m' → FXL (PQw P) (PQl P) w u → FXL (PQm P) (PQn P) m m' → m'.2 12 P = c0 → u.1 47 1 = nI P → m'.1 0 27 = nI P → u.1 53 P = m'.1 16 P → u.1 56 P = 0 → (m'.1 16 P = -1 ∨ NN (m'.1 16 P) P) → (j = 1 → m'.1 16 P = -1) → u.1 44 11 = m'.1 0 34 → (m'.1 0 34 = -1 ∨ NN (m'.1 0 34) (P + 1)) → u.1 44 10 = w.1 44 10 → ECL w m (cv (lt (wI u 52 P (nI j)) fun w11 => cl (f_X10_passes 26 w11) fun r13 w12 => if r13 = 0 then (X0_readPerson_b84 c0 w12) else lt (wI w12 44 10 ((w12.1 44 10) ||| (1 <<< (nI P &&& 31)))) fun w15 => X0_readPerson_b84 c0 w15) fun w25 => some w25) (X12_readPerson_b180 (nI j) m') := by
      intro j u m' hj g1 g2 g3 g4 g5 g6 g7 g8 g9 g10 g11 g12 g13 g14
      obtain ⟨w', m'', x1, x2, x3, x4⟩ := q_ptail (c0 := c0) hD0 hP hPn hj g1 g2 g3 g4 g5 g6 g7 g8 g9 g10 g11 g12 g13 g14
      rw [x1, cv_s]
      exact ⟨w', m'', rfl, x2, x3, x4⟩
    have d34 : m2.1 0 34 = -1 ∨ NN (m2.1 0 34) (P + 1) := by
      rw [m34]
      rcases d7.2 with q | ⟨i, hi, q⟩
      · exact Or.inl q
      · exact Or.inr ⟨i, by rw [← hP] at hi; omega, q⟩
    -- the step behind the role
    have stp : ∀ (u mm : Wd), GR u mm → ∃ u1 m1', f_X10_step u = some u1 ∧ f_X12_scan mm = some m1' ∧ GR u1 m1' ∧ PTG mm ≤ PTG m1' ∧ FXL PTC PTl u u1 ∧ FX PTM mm m1' := fun u mm hg => by
      obtain ⟨u1, m1', q1, q2, q3, q4, -, q5, q6⟩ := q_step hg
      exact ⟨u1, m1', q1, q2, q3, q4, q5, q6⟩
    unfold f_X0_readRole X0_readRole_b27
    by_cases n10 : TW m2 = some (sByt.getD 10 [])
    · -- wife
      rw [zmY hGa (by omega) n10, cl_s, i10, zcY hGa (by omega) n10, cl_s, i10, w11a]
      unfold X12_readPerson_b89
      rw [if_neg (show ¬ (0 : Int32) = -1 by decide), if_pos (show (0 : Int32) = 0 from rfl)]
      by_cases c34 : m2.1 0 34 = -1
      · rw [if_pos c34, if_pos c34, lt_s']
        have hGb : GR (wI wa 44 11 (nI P)) m2 := hGa.c (by omega) (by omega)
        obtain ⟨u1, m3, q1, q2, hG3, hp3, hF3, hM3⟩ := stp _ _ hGb
        rw [(q_chosen hGb (a := 10) (b := 23) (c := 24) (d := 25) (by omega) (by omega) (by omega) (by omega) q1).2.2.2 (by rw [n10]; decide) (by rw [n10]; decide) (by rw [n10]; decide) n10, cl_s, if_neg (show ¬ (0 : Int32) = 2 by decide), cl_s, if_pos i8]
        unfold X12_readPerson_b119 X12_readPerson_b168
        have e27 : m3.1 0 27 = nI P := by rw [hM3.2 _ _ (by simp only [PQw, PQm, PED, PEM, PTC, PTM, and_true, true_and, or_true, true_or, and_self] <;> omega)]; exact m27
        rw [q2, cv_s, e27, if_pos i8, nI_clamp (n := P) (by omega), lt_s', lt_s', if_neg (show ¬ (0 : Int32) = 2 by decide), if_pos (show (0 : Int32) = 0 from rfl), wI_g, if_neg (show ¬ (0 = 16 ∧ 27 = P) by omega), e27, lt_s']
        refine good 0 u1 _ (by omega) ((hG3.r (by omega)).r (by omega)) (by rw [PTG_r (by omega), PTG_r (by omega)]; omega) ((hFa.tr (FXL.w _ _ (by simp only [PQw, PQm, PED, PEM, PTC, PTM, and_true, true_and, or_true, true_or, and_self] <;> omega))).tr (hF3.mo (fun a k q => Or.inl q) (fun a k q => Or.inl q))) (((hMa.tr (FX.xl (hM3.mo (fun a k q => Or.inl q)))).tr (FXL.w _ _ (by simp only [PQw, PQm, PED, PEM, PTC, PTM, and_true, true_and, or_true, true_or, and_self] <;> omega))).tr (FXL.w _ _ (by simp only [PQw, PQm, PED, PEM, PTC, PTM, and_true, true_and, or_true, true_or, and_self] <;> omega))) (by rw [wI_2, wI_2, hM3.1]; exact m12) (by rw [hF3.1 _ _ (by simp only [PQw, PQm, PED, PEM, PTC, PTM, and_true, true_and, or_true, true_or, and_self] <;> omega), wI_g, if_neg (by omega)]; exact a47) (by rw [wI_g, if_neg (by omega), wI_g, if_neg (by omega)]; exact e27) ?_ (by rw [hF3.1 _ _ (by simp only [PQw, PQm, PED, PEM, PTC, PTM, and_true, true_and, or_true, true_or, and_self] <;> omega), wI_g, if_neg (by omega)]; exact a56) (Or.inl ?_) (fun q => by omega) ?_ (Or.inr ⟨P, by omega, wI_s _ _ _ _⟩) (by rw [hF3.1 _ _ (by simp only [PQw, PQm, PED, PEM, PTC, PTM, and_true, true_and, or_true, true_or, and_self] <;> omega), wI_g, if_neg (by omega)]; exact ao 10)
        · rw [hF3.1 _ _ (by simp only [PQw, PQm, PED, PEM, PTC, PTM, and_true, true_and, or_true, true_or, and_self] <;> omega), wI_g, if_neg (by omega), a53, wI_g, if_neg (by omega), wI_s]
        · rw [wI_g, if_neg (by omega), wI_s]
        · rw [hF3.1 _ _ (by simp only [PQw, PQm, PED, PEM, PTC, PTM, and_true, true_and, or_true, true_or, and_self] <;> omega), wI_s, wI_s]
      · obtain ⟨u1, m3, q1, q2, hft, hF3, hM3⟩ := q_fail hGa (k := 3) (by decide)
        have hfl : FLT (wI u1 44 11 (nI P)) := hft.1.i (by omega)
        rw [if_neg c34, if_neg c34, q1, cv_s, lt_s', zf_chosen hfl, cl_s, if_neg (show ¬ (0 : Int32) = 2 by decide), cl_s, if_pos i8, q2, cl_s, if_pos (show isB 0 = true from rfl)]
        exact flr _ hfl (by rw [wI_g, if_neg (by omega), hF3.1 _ _ (by simp only [PQw, PQm, PED, PEM, PTC, PTM, and_true, true_and, or_true, true_or, and_self] <;> omega)]; exact a47) ((hFa.tr (hF3.mo (fun a k q => Or.inl q) (fun a k q => Or.inl q))).tr (FXL.w _ _ (by simp only [PQw, PQm, PED, PEM, PTC, PTM, and_true, true_and, or_true, true_or, and_self] <;> omega))) m3 (hft.c (by omega)) (hMa.tr (FX.xl (hM3.mo (fun a k q => Or.inl q)))) 0
    · rw [zmN hGa (by omega) n10, cl_s, i01, zcN hGa (by omega) n10, cl_s, i01]
      obtain ⟨u1, m3, q1, q2, hG3, hp3, hF3, hM3⟩ := stp _ _ hGa
      have e27 : m3.1 0 27 = nI P := by rw [hM3.2 _ _ (by simp only [PQw, PQm, PED, PEM, PTC, PTM, and_true, true_and, or_true, true_or, and_self] <;> omega)]; exact m27
      have hFc : FXL (PQw P) (PQl P) w u1 := hFa.tr (hF3.mo (fun a k q => Or.inl q) (fun a k q => Or.inl q))
      have hMc : FXL (PQm P) (PQn P) m m3 := hMa.tr (FX.xl (hM3.mo (fun a k q => Or.inl q)))
      have ch := q_chosen hGa (a := 10) (b := 23) (c := 24) (d := 25) (by omega) (by omega) (by omega) (by omega) q1
      have plain : ∀ j : Nat, j < 4 → ¬ j = 0 → ¬ j = 2 → ECL w m (cv (lt (wI u1 52 P (nI j)) fun w11 => cl (f_X10_passes 26 w11) fun r13 w12 => if r13 = 0 then (X0_readPerson_b84 c0 w12) else lt (wI w12 44 10 ((w12.1 44 10) ||| (1 <<< (nI P &&& 31)))) fun w15 => X0_readPerson_b84 c0 w15) fun w25 => some w25) (X12_readPerson_b89 (nI j) m2) := by
        intro j hj j0 j2
        unfold X12_readPerson_b89 X12_readPerson_b119 X12_readPerson_b168
        have z0 : ¬ nI j = 0 := fun q => j0 ((nI_eq (b := 0) (by omega) (by omega)).mp q)
        have z2 : ¬ nI j = 2 := fun q => j2 ((nI_eq (b := 2) (by omega) (by omega)).mp q)
        rw [if_neg (nI_n1 (n := j) (by omega)), if_neg z0, q2, cv_s, e27, if_pos i8, nI_clamp (n := P) (by omega), lt_s', lt_s', if_neg z2, if_neg z0]
        refine good j u1 _ hj (hG3.r (by omega)) (by rw [PTG_r (by omega)]; omega) hFc (hMc.tr (FXL.w _ _ (by simp only [PQw, PQm, PED, PEM, PTC, PTM, and_true, true_and, or_true, true_or, and_self] <;> omega))) (by rw [wI_2, hM3.1]; exact m12) (by rw [hF3.1 _ _ (by simp only [PQw, PQm, PED, PEM, PTC, PTM, and_true, true_and, or_true, true_or, and_self] <;> omega)]; exact a47) (by rw [wI_g, if_neg (by omega)]; exact e27) (by rw [hF3.1 _ _ (by simp only [PQw, PQm, PED, PEM, PTC, PTM, and_true, true_and, or_true, true_or, and_self] <;> omega), a53, wI_s]) (by rw [hF3.1 _ _ (by simp only [PQw, PQm, PED, PEM, PTC, PTM, and_true, true_and, or_true, true_or, and_self] <;> omega)]; exact a56) (Or.inl (wI_s _ _ _ _)) (fun _ => wI_s _ _ _ _) (by rw [hF3.1 _ _ (by simp only [PQw, PQm, PED, PEM, PTC, PTM, and_true, true_and, or_true, true_or, and_self] <;> omega), wI_g, if_neg (by omega), hM3.2 _ _ (by simp only [PQw, PQm, PED, PEM, PTC, PTM, and_true, true_and, or_true, true_or, and_self] <;> omega)]; exact w11a) (by rw [wI_g, if_neg (by omega), hM3.2 _ _ (by simp only [PQw, PQm, PED, PEM, PTC, PTM, and_true, true_and, or_true, true_or, and_self] <;> omega)]; exact d34) (by rw [hF3.1 _ _ (by simp only [PQw, PQm, PED, PEM, PTC, PTM, and_true, true_and, or_true, true_or, and_self] <;> omega)]; exact ao 10)
      by_cases n23 : TW m2 = some (sByt.getD 23 [])
      · rw [zmY hGa (by omega) n23, cl_s, i10, ch.1 n23, cl_s, if_neg (show ¬ (1 : Int32) = 2 by decide), cl_s, if_pos i8]
        exact plain 1 (by omega) (by omega) (by omega)
      rw [zmN hGa (by omega) n23, cl_s, i01]
      by_cases n24 : TW m2 = some (sByt.getD 24 [])
      · -- kin
        rw [zmY hGa (by omega) n24, cl_s, i10, ch.2.1 n23 n24, cl_s, if_pos (show (2 : Int32) = 2 from rfl)]
        unfold X12_readPerson_b89 X12_readPerson_b119 X12_readPerson_b168
        have hGd : GR u1 (wI m3 16 P (-1)) := hG3.r (by omega)
        have f27 : (wI m3 16 P (-1)).1 0 27 = nI P := by rw [wI_g, if_neg (by omega)]; exact e27
        have hNk : NMS u1 (wI m3 16 P (-1)) 47 12 P 8 := ⟨by rw [hF3.1 _ _ (by simp only [PQw, PQm, PED, PEM, PTC, PTM, and_true, true_and, or_true, true_or, and_self] <;> omega)]; exact a47, by omega, by omega, fun k hk => by
          rw [hF3.2 _ _ (by unfold PTl; omega), al, wI_2, hM3.1, ml k hk]; exact t4 k hk⟩
        rw [if_neg (show ¬ (2 : Int32) = -1 by decide), if_neg (show ¬ (2 : Int32) = 0 by decide), q2, cv_s, e27, if_pos i8, nI_clamp (n := P) (by omega), lt_s', if_pos (show (2 : Int32) = 2 from rfl), f27]
        obtain ⟨r, w7, m7, b1, hF7, hM7, hr7⟩ := q_known hGd hNk
        rw [b1, cl_s, if_pos i8, lt_s', cl_s, if_pos i8]
        have hFe : FXL (PQw P) (PQl P) w (wI w7 53 P r) := (hFc.tr (hF7.mo (fun a k q => Or.inl q) (fun a k q => Or.inl q))).tr (FXL.w _ _ (by simp only [PQw, PQm, PED, PEM, PTC, PTM, and_true, true_and, or_true, true_or, and_self] <;> omega))
        have hMe : FXL (PQm P) (PQn P) m m7 := (hMc.tr (FXL.w _ _ (by simp only [PQw, PQm, PED, PEM, PTC, PTM, and_true, true_and, or_true, true_or, and_self] <;> omega))).tr (FX.xl (hM7.mo (fun a k q => Or.inl q)))
        have g47 : (wI w7 53 P r).1 47 1 = nI P := by rw [wI_g, if_neg (by omega), hF7.1 _ _ (by simp only [PQw, PQm, PED, PEM, PTC, PTM, and_true, true_and, or_true, true_or, and_self] <;> omega), hF3.1 _ _ (by simp only [PQw, PQm, PED, PEM, PTC, PTM, and_true, true_and, or_true, true_or, and_self] <;> omega)]; exact a47
        rcases hr7 with ⟨b2, hG7, hp7, g77, hv7⟩ | ⟨b2, hf7, hv7⟩
        · have h27 : m7.1 0 27 = nI P := by rw [hM7.2 _ _ (by simp only [PQw, PQm, PED, PEM, PTC, PTM, and_true, true_and, or_true, true_or, and_self] <;> omega)]; exact f27
          rw [PTG_r (by omega)] at hp7
          rw [b2, cl_s, i10, h27, if_pos i8, nI_clamp (n := P) (by omega), lt_s', lt_s', g77, if_neg (show ¬ (2 : Int32) = 0 by decide)]
          refine good 2 _ _ (by omega) ((hG7.c (by omega) (by omega)).r (by omega)) (by rw [PTG_r (by omega)]; omega) hFe (hMe.tr (FXL.w _ _ (by simp only [PQw, PQm, PED, PEM, PTC, PTM, and_true, true_and, or_true, true_or, and_self] <;> omega))) (by rw [wI_2, hM7.1, wI_2, hM3.1]; exact m12) g47 (by rw [wI_g, if_neg (by omega)]; exact h27) (by rw [wI_s, wI_s]) (by rw [wI_g, if_neg (by omega), hF7.1 _ _ (by simp only [PQw, PQm, PED, PEM, PTC, PTM, and_true, true_and, or_true, true_or, and_self] <;> omega), hF3.1 _ _ (by simp only [PQw, PQm, PED, PEM, PTC, PTM, and_true, true_and, or_true, true_or, and_self] <;> omega)]; exact a56) (by rw [wI_s]; exact Or.inr hv7) (fun q => by omega) (by rw [wI_g, if_neg (by omega), hF7.1 _ _ (by simp only [PQw, PQm, PED, PEM, PTC, PTM, and_true, true_and, or_true, true_or, and_self] <;> omega), hF3.1 _ _ (by simp only [PQw, PQm, PED, PEM, PTC, PTM, and_true, true_and, or_true, true_or, and_self] <;> omega), wI_g, if_neg (by omega), hM7.2 _ _ (by simp only [PQw, PQm, PED, PEM, PTC, PTM, and_true, true_and, or_true, true_or, and_self] <;> omega), wI_g, if_neg (by omega), hM3.2 _ _ (by simp only [PQw, PQm, PED, PEM, PTC, PTM, and_true, true_and, or_true, true_or, and_self] <;> omega)]; exact w11a) (by rw [wI_g, if_neg (by omega), hM7.2 _ _ (by simp only [PQw, PQm, PED, PEM, PTC, PTM, and_true, true_and, or_true, true_or, and_self] <;> omega), wI_g, if_neg (by omega), hM3.2 _ _ (by simp only [PQw, PQm, PED, PEM, PTC, PTM, and_true, true_and, or_true, true_or, and_self] <;> omega)]; exact d34) (by rw [wI_g, if_neg (by omega), hF7.1 _ _ (by simp only [PQw, PQm, PED, PEM, PTC, PTM, and_true, true_and, or_true, true_or, and_self] <;> omega), hF3.1 _ _ (by simp only [PQw, PQm, PED, PEM, PTC, PTM, and_true, true_and, or_true, true_or, and_self] <;> omega)]; exact ao 10)
        · rw [b2, cl_s, i01]
          exact flr _ (hf7.c (by omega)).1 g47 hFe m7 (hf7.c (by omega)) hMe 2
      rw [zmN hGa (by omega) n24, cl_s, i01]
      by_cases n25 : TW m2 = some (sByt.getD 25 [])
      · rw [zmY hGa (by omega) n25, cl_s, i10, ch.2.2.1 n23 n24 n25, cl_s, if_neg (show ¬ (3 : Int32) = 2 by decide), cl_s, if_pos i8]
        exact plain 3 (by omega) (by omega) (by omega)
      obtain ⟨u5, m5, x5, b5, hft, F5, M5⟩ := q_fail hGa (k := 1) (by decide)
      unfold X12_readPerson_b89
      rw [zmN hGa (by omega) n25, cl_s, i01, q_chosenN hGa (by omega) (by omega) (by omega) (by omega) x5 hft.1 n23 n24 n25 n10, cl_s, if_neg (show ¬ (0 : Int32) = 2 by decide), cl_s, if_pos i8, if_pos (show (-1 : Int32) = -1 from rfl), b5, cl_s, if_pos (show isB 0 = true from rfl)]
      exact flr _ hft.1 (by rw [F5.1 _ _ (by simp only [PQw, PQm, PED, PEM, PTC, PTM, and_true, true_and, or_true, true_or, and_self] <;> omega)]; exact a47) (hFa.tr (F5.mo (fun a k q => Or.inl q) (fun a k q => Or.inl q))) m5 hft (hMa.tr (FX.xl (M5.mo (fun a k q => Or.inl q)))) 0
end
