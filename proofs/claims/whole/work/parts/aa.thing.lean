/-! a thing -/
-- PTC PTM PED PEM
section
variable {w m : Wd}
theorem q_thing (h : GR w m) (hD : DR w m) : ECL w m (cv (f_X0_readThing w) fun w24 => some w24) (f_X12_readThing m) := by
  have hD0 := hD
  obtain ⟨d1, d2, d3, d4, d5, d6, d7, d8⟩ := hD
  obtain ⟨t1, t2, t3, t4⟩ := d1.2.2
  have hNt : NMS w m 49 13 (rT m) 8 := ⟨t3.trans t1, t2, by omega, t4⟩
  obtain ⟨T, hT⟩ : ∃ T, T = rT m := ⟨_, rfl⟩
  rw [← hT] at hNt
  rw [← hT] at t1 t2 t4
  unfold f_X0_readThing f_X12_readThing
  rw [show (8 : Int32) = nI 8 from rfl]
  rcases q_name h (by omega) hNt t1 (by omega) (fun w2 => cl (f_X12_number 1 9999 w2) fun r5 w4 =>
  if r5 = 0 then
  (some (0, w4))
  else
  if inb (w4.1 0 28) 8 = true then
  (lt (wI w4 17 (Int32.toNatClampNeg (w4.1 0 28)) (w4.1 0 7)) fun w6 =>
  if inb (w6.1 0 28) 8 = true then
  (lt (wI w6 18 (Int32.toNatClampNeg (w6.1 0 28)) ((-1))) fun w7 =>
  cl (f_X12_is 28 w7) fun r9 w8 =>
  if r9 = 0 then
  (X12_readThing_b113 w8)
  else
  cv (f_X12_scan w8) fun w11 =>
  cl (f_X12_known 11 4 (w11.1 0 26) w11) fun r13 w12 =>
  if r13 = 0 then
  (some (0, w12))
  else
  if inb (w12.1 0 28) 8 = true then
  (lt (wI w12 18 (Int32.toNatClampNeg (w12.1 0 28)) (w12.1 0 7)) fun w14 =>
  X12_readThing_b113 w14)
  else none)
  else none)
  else none) with ⟨w1, w2, m2, e1, e2, e3, hf, hF, hM⟩ | ⟨hTn, w1, m1, e1, e2, hG1, hp1, hF1, hM1, hk⟩
  · rw [e1, cv_s, e2, cl_s, i01, cv_s, e3]
    exact ⟨w2, m2, rfl, PTC_E hF, PTM_E hM, Or.inr (Or.inl ⟨rfl, hf⟩)⟩
  · rw [e1, cv_s, e2, cl_s, i10]
    have s1 : w1.1 49 1 = nI T := by rw [hF1.1 _ _ (by simp only [PED, PEM, PTC, PTM, and_true, true_and, or_true, true_or, and_self] <;> omega)]; exact hNt.1
    rw [s1, lt_s', zc_add s1 hTn (by omega), cv_s]
    obtain ⟨c0, hc0⟩ : ∃ c0, c0 = w1.2 1 3 := ⟨_, rfl⟩
    rw [← hc0] at hk ⊢
    -- behind the name
    obtain ⟨w3, m3, s3, s4, hG3, hp3, -, hF3, hM3⟩ := q_step (((hG1.lg (a := 50) (k := T) (v := c0) (by omega)).c (a := 49) (k := 1) (v := nI (T + 1)) (by omega) (by omega)).rg (a := 13) (k := T) (v := c0))
    rw [hk m3 s4, s3, cv_s]
    rw [PTG_rg] at hp3
    have i8 := z_inb hTn (show 8 < 2 ^ 31 by omega)
    have hFb : FXL (fun a k => PTC a k ∨ (a = 49 ∧ k = 1)) (fun a k => PTl a k ∨ (a = 50 ∧ k = T)) w w3 := ((hF1.mo (fun a k q => Or.inl q) (fun a k q => Or.inl q)).tr ((FXL.g _ _ (Or.inr ⟨rfl, rfl⟩)).tr (FXL.w _ _ (Or.inr ⟨rfl, rfl⟩)))).tr (hF3.mo (fun a k q => Or.inl q) (fun a k q => Or.inl q))
    have hMb : FXL PTM (fun a k => a = 13 ∧ k = T) m m3 := ((FX.xl hM1).tr (FXL.g _ _ ⟨rfl, rfl⟩)).tr (FX.xl hM3)
    have n50 : w3.2 50 T = c0 := by rw [hF3.2 50 T (by unfold PTl; omega), wI_2, wG_g, if_pos ⟨rfl, rfl⟩]
    have n13 : m3.2 13 T = c0 := by rw [hM3.1, wG_g, if_pos ⟨rfl, rfl⟩]
    have n49 : w3.1 49 1 = nI (T + 1) := by rw [hF3.1 _ _ (by simp only [PED, PEM, PTC, PTM, and_true, true_and, or_true, true_or, and_self] <;> omega), wI_s]
    have n28 : m3.1 0 28 = nI T := by rw [hMb.1 0 28 (by simp only [PED, PEM, PTC, PTM, and_true, true_and, or_true, true_or, and_self] <;> omega)]; exact t1
    -- what is known at the end
    have fin : ∀ (w' m' : Wd) (r place : Int32), GR w' m' → PTG m ≤ PTG m' → FXL (fun a k => PTC a k ∨ (a = 49 ∧ k = 1) ∨ (a = 54 ∧ k = T) ∨ (a = 55 ∧ k = T)) (fun a k => PTl a k ∨ (a = 50 ∧ k = T)) w w' → FXL (fun a k => PTM a k ∨ (a = 17 ∧ k = T) ∨ (a = 18 ∧ k = T)) (fun a k => a = 13 ∧ k = T) m m' → w'.2 50 T = c0 → m'.2 13 T = c0 → w'.1 49 1 = nI (T + 1) → (∃ v, 1 ≤ v ∧ v ≤ 9999 ∧ r = nI v) → w'.1 54 T = r → m'.1 17 T = r → w'.1 55 T = place → m'.1 18 T = place → (place = -1 ∨ NN place (rL m)) → ECL w m (some w') (X12_readThing_b113 m') := by
      intro w' m' r place hG' hp' hF' hM' a1 a2 a3 a4 a5 a6 a7 a8 a9
      have e28 : m'.1 0 28 = nI T := by rw [hM'.1 0 28 (by simp only [PED, PEM, PTC, PTM, and_true, true_and, or_true, true_or, and_self] <;> omega)]; exact t1
      unfold X12_readThing_b113
      rw [e28, nI_1, lt_s']
      have eL : rL (wI m' 0 28 (nI (T + 1))) = rL m := by unfold rL; rw [wI_g, if_neg (by omega), hM'.1 0 26 (by simp only [PED, PEM, PTC, PTM, and_true, true_and, or_true, true_or, and_self] <;> omega)]
      have eP : rP (wI m' 0 28 (nI (T + 1))) = rP m := by unfold rP; rw [wI_g, if_neg (by omega), hM'.1 0 27 (by simp only [PED, PEM, PTC, PTM, and_true, true_and, or_true, true_or, and_self] <;> omega)]
      have eT : rT (wI m' 0 28 (nI (T + 1))) = T + 1 := by unfold rT; rw [wI_s, nI_clamp (by omega)]
      have om : ∀ a k, ¬ (a = 0 ∧ k = 28) → (wI m' 0 28 (nI (T + 1))).1 a k = m'.1 a k := fun a k q => by rw [wI_g, if_neg q]
      have om2 : ∀ a k, (a = 0 ∧ 26 ≤ k ∧ k ≤ 36 ∧ ¬ k = 28) ∨ (14 ≤ a ∧ a ≤ 19 ∧ ¬ ((a = 17 ∨ a = 18) ∧ k = T)) → (wI m' 0 28 (nI (T + 1))).1 a k = m.1 a k := fun a k q => by rw [om a k (by omega), hM'.1 a k (by simp only [PED, PEM, PTC, PTM, and_true, true_and, or_true, true_or, and_self] <;> omega)]
      have ow : ∀ a k, 44 ≤ a → a ≤ 56 → ¬ (a = 49 ∧ k = 1) → ¬ ((a = 54 ∨ a = 55) ∧ k = T) → w'.1 a k = w.1 a k := fun a k h1 h2 h3 h4 => hF'.1 a k (by simp only [PED, PEM, PTC, PTM, and_true, true_and, or_true, true_or, and_self] <;> omega)
      refine ⟨w', _, rfl, hF'.mo (fun a k q => by simp only [PED, PEM, PTC, PTM] at q ⊢; omega) (fun a k q => by simp only [PTl, QED, QEM] at q ⊢; omega), (hM'.mo (fun a k q => by simp only [PED, PEM, PTC, PTM] at q ⊢; omega) (fun a k q => by simp only [PTl, QED, QEM] at q ⊢; omega)).tr (FXL.w _ _ (by simp only [PED, PEM, PTC, PTM, and_true, true_and, or_true, true_or, and_self] <;> omega)), Or.inl ⟨rfl, hG'.r (by omega), by rw [PTG_r (by omega)]; exact hp', ?_⟩⟩
      refine ⟨?_, ?_, ?_, fun k hk => ?_, fun j hj => ?_, fun j hj => ?_, ?_, ?_⟩
      · unfold dN
        rw [eL, eP, eT, om2 0 26 (by omega), om2 0 27 (by omega), wI_s, ow 45 1 (by omega) (by omega) (by omega) (by omega), ow 47 1 (by omega) (by omega) (by omega) (by omega)]
        refine ⟨⟨d1.1.1, d1.1.2.1, d1.1.2.2.1, fun k hk => ?_⟩, ⟨d1.2.1.1, d1.2.1.2.1, d1.2.1.2.2.1, fun k hk => ?_⟩, rfl, by omega, a3, fun k hk => ?_⟩
        · rw [hF'.2 46 k (by unfold PTl; omega), wI_2, hM'.2 11 k (by omega)]; exact d1.1.2.2.2 k hk
        · rw [hF'.2 48 k (by unfold PTl; omega), wI_2, hM'.2 12 k (by omega)]; exact d1.2.1.2.2.2 k hk
        · rw [wI_2]
          by_cases q : k = T
          · rw [q, a1, a2]
          · rw [hF'.2 50 k (by unfold PTl; omega), hM'.2 13 k (by omega)]; exact t4 k (by omega)
      · unfold dR
        rw [eL]
        simp only [fun k => ow 51 k (by omega) (by omega) (by omega) (by omega), fun k => om2 14 k (by omega)]
        exact d2
      · unfold dP dPk
        rw [eP]
        simp only [fun k => ow 52 k (by omega) (by omega) (by omega) (by omega), fun k => ow 53 k (by omega) (by omega) (by omega) (by omega), fun k => ow 44 k (by omega) (by omega) (by omega) (by omega), fun k => ow 56 k (by omega) (by omega) (by omega) (by omega), fun k => om2 15 k (by omega), fun k => om2 16 k (by omega), fun k => om2 19 k (by omega)]
        exact d3
      · rw [eT] at hk
        unfold dTk
        rw [eL]
        by_cases q : k = T
        · rw [q, om 17 T (by omega), om 18 T (by omega), a5, a6, a7, a8]
          exact ⟨⟨rfl, rfl⟩, a4, a9⟩
        · rw [ow 54 k (by omega) (by omega) (by omega) (by omega), ow 55 k (by omega) (by omega) (by omega) (by omega), om2 17 k (by omega), om2 18 k (by omega)]
          exact d4 k (by omega)
      · unfold dSk
        rw [eL, ow 44 18 (by omega) (by omega) (by omega) (by omega), ow 44 (12 + j) (by omega) (by omega) (by omega) (by omega), om2 0 36 (by omega), om2 0 (31 + j) (by omega)]
        exact d5 j hj
      · rw [ow 44 18 (by omega) (by omega) (by omega) (by omega), ow 44 (15 + j) (by omega) (by omega) (by omega) (by omega), om2 0 36 (by omega), om2 0 (29 + j) (by omega)]
        exact d6 j hj
      · unfold dW
        rw [eP, ow 44 11 (by omega) (by omega) (by omega) (by omega), om2 0 34 (by omega)]; exact d7
      · unfold dC
        rw [ow 44 17 (by omega) (by omega) (by omega) (by omega), om2 0 35 (by omega)]; exact d8
    obtain ⟨r, w4, m4, u1, hF4, hM4, hr⟩ := q_num hG3 1 9999
    rw [u1, cl_s, if_pos i8, nI_clamp (n := T) (by omega), lt_s']
    have hFc : FXL (fun a k => PTC a k ∨ (a = 49 ∧ k = 1) ∨ (a = 54 ∧ k = T) ∨ (a = 55 ∧ k = T)) (fun a k => PTl a k ∨ (a = 50 ∧ k = T)) w (wI w4 54 T r) := ((hFb.mo (fun a k q => by simp only [PED, PEM, PTC, PTM] at q ⊢; omega) (fun a k q => q)).tr (hF4.mo (fun a k q => Or.inl q) (fun a k q => Or.inl q))).tr (FXL.w _ _ (by simp only [PED, PEM, PTC, PTM, and_true, true_and, or_true, true_or, and_self] <;> omega))
    have toE : ∀ {u : Wd}, FXL (fun a k => PTC a k ∨ (a = 49 ∧ k = 1) ∨ (a = 54 ∧ k = T) ∨ (a = 55 ∧ k = T)) (fun a k => PTl a k ∨ (a = 50 ∧ k = T)) w u → FXL PED QED w u := fun q => q.mo (fun a k q => by simp only [PED, PEM, PTC, PTM] at q ⊢; omega) (fun a k q => by simp only [PTl, QED, QEM] at q ⊢; omega)
    have toM : ∀ {u : Wd}, FXL (fun a k => PTM a k ∨ (a = 17 ∧ k = T) ∨ (a = 18 ∧ k = T)) (fun a k => a = 13 ∧ k = T) m u → FXL PEM QEM m u := fun q => q.mo (fun a k q => by simp only [PED, PEM, PTC, PTM] at q ⊢; omega) (fun a k q => by simp only [PTl, QED, QEM] at q ⊢; omega)
    have hMc : FXL (fun a k => PTM a k ∨ (a = 17 ∧ k = T) ∨ (a = 18 ∧ k = T)) (fun a k => a = 13 ∧ k = T) m m4 := (hMb.mo (fun a k q => Or.inl q) (fun a k q => q)).tr (FX.xl (hM4.mo (fun a k q => Or.inl q)))
    have v50 : w4.2 50 T = c0 := by rw [hF4.2 50 T (by unfold PTl; omega)]; exact n50
    have v13 : m4.2 13 T = c0 := by rw [hM4.1]; exact n13
    have v49 : w4.1 49 1 = nI (T + 1) := by rw [hF4.1 _ _ (by simp only [PED, PEM, PTC, PTM, and_true, true_and, or_true, true_or, and_self] <;> omega)]; exact n49
    have v28 : m4.1 0 28 = nI T := by rw [hM4.2 _ _ (by simp only [PED, PEM, PTC, PTM, and_true, true_and, or_true, true_or, and_self] <;> omega)]; exact n28
    rcases hr with ⟨u2, hG4, hp4, g7, hv⟩ | ⟨u2, hf4, hv⟩
    · have i1 : (1 : Int32).toInt = 1 := rfl
      have i9 : (9999 : Int32).toInt = 9999 := rfl
      have rv : ∃ v, 1 ≤ v ∧ v ≤ 9999 ∧ r = nI v := ⟨r.toInt.toNat, by omega, by omega, by apply Int32.toInt_inj.mp; rw [nI_toInt (by omega)]; omega⟩
      rw [u2, cl_s, i10, v28, if_pos i8, nI_clamp (n := T) (by omega), lt_s', wI_g, if_neg (show ¬ (0 = 17 ∧ 28 = T) by omega), v28, if_pos i8, nI_clamp (n := T) (by omega), lt_s', g7]
      have hG5 : GR (wI w4 54 T r) (wI (wI m4 17 T r) 18 T (-1)) := ((hG4.c (by omega) (by omega)).r (by omega)).r (by omega)
      have hMd : FXL (fun a k => PTM a k ∨ (a = 17 ∧ k = T) ∨ (a = 18 ∧ k = T)) (fun a k => a = 13 ∧ k = T) m (wI (wI m4 17 T r) 18 T (-1)) := (hMc.tr (FXL.w _ _ (by simp only [PED, PEM, PTC, PTM, and_true, true_and, or_true, true_or, and_self] <;> omega))).tr (FXL.w _ _ (by simp only [PED, PEM, PTC, PTM, and_true, true_and, or_true, true_or, and_self] <;> omega))
      have y28 : (wI (wI m4 17 T r) 18 T (-1)).1 0 28 = nI T := by rw [wI_g, if_neg (by omega), wI_g, if_neg (by omega)]; exact v28
      have pg5 : PTG (wI (wI m4 17 T r) 18 T (-1)) = PTG m4 := by rw [PTG_r (by omega), PTG_r (by omega)]
      have y17 : (wI (wI m4 17 T r) 18 T (-1)).1 17 T = r := by rw [wI_g, if_neg (by omega), wI_s]
      have y18 : (wI (wI m4 17 T r) 18 T (-1)).1 18 T = -1 := wI_s _ _ _ _
      have y13 : (wI (wI m4 17 T r) 18 T (-1)).2 13 T = c0 := v13
      generalize wI (wI m4 17 T r) 18 T (-1) = m5 at hG5 hMd y28 pg5 y17 y18 y13 ⊢
      have z54 : (wI w4 54 T r).1 54 T = r := wI_s _ _ _ _
      have z49 : (wI w4 54 T r).1 49 1 = nI (T + 1) := by rw [wI_g, if_neg (by omega)]; exact v49
      have z50 : (wI w4 54 T r).2 50 T = c0 := v50
      generalize wI w4 54 T r = w5 at hG5 hFc z54 z49 z50 ⊢
      rw [zm_isT hG5 (by omega), cl_s, if_b0]
      rcases zc_passT hG5 (show 28 < 47 by omega) with ⟨hn, x1⟩ | ⟨hy, w6, x1, x2⟩
      · rw [x1, cl_s, i01, if_pos i8, lt_s', cv_s, decide_eq_false hn, if_pos (show false = false from rfl)]
        exact fin _ m5 r (-1) (hG5.c (by omega) (by omega)) (by omega) (hFc.tr (FXL.w _ _ (by simp only [PED, PEM, PTC, PTM, and_true, true_and, or_true, true_or, and_self] <;> omega))) hMd z50 y13 (by rw [wI_g, if_neg (by omega)]; exact z49) rv (by rw [wI_g, if_neg (by omega)]; exact z54) y17 (wI_s _ _ _ _) y18 (Or.inl rfl)
      · obtain ⟨w6', m6, k1, k2, hG6, hp6, -, hF6, hM6⟩ := q_step hG5
        rw [x1] at k1
        cases k1
        rw [x2, cl_s, i10, decide_eq_true hy, if_neg (show ¬ true = false by decide), k2, cv_s]
        have e26 : m6.1 0 26 = m.1 0 26 := by rw [hM6.2 _ _ (by simp only [PED, PEM, PTC, PTM, and_true, true_and, or_true, true_or, and_self] <;> omega), hMd.1 0 26 (by simp only [PED, PEM, PTC, PTM, and_true, true_and, or_true, true_or, and_self] <;> omega)]
        have eL6 : rL m6 = rL m := by unfold rL; rw [e26]
        have hNl : NMS w6 m6 45 11 (rL m6) 4 := by
          obtain ⟨a1, a2, a3, a4⟩ := d1.1
          refine ⟨?_, by rw [eL6]; exact a2, by omega, fun k hk => ?_⟩
          · rw [hF6.1 _ _ (by simp only [PED, PEM, PTC, PTM, and_true, true_and, or_true, true_or, and_self] <;> omega), hFc.1 45 1 (by simp only [PED, PEM, PTC, PTM, and_true, true_and, or_true, true_or, and_self] <;> omega), eL6]; exact a3.trans a1
          · rw [eL6] at hk
            rw [hF6.2 _ _ (by unfold PTl; omega), hFc.2 46 k (by unfold PTl; omega), hM6.1, hMd.2 11 k (by omega)]; exact a4 k hk
        have n26 : m6.1 0 26 = nI (rL m6) := by rw [e26, eL6]; exact d1.1.1
        rw [n26]
        obtain ⟨pl, w7, m7, b1, hF7, hM7, hr7⟩ := q_known hG6 hNl
        rw [b1, cl_s, if_pos i8, lt_s', cv_s]
        have hFe : FXL (fun a k => PTC a k ∨ (a = 49 ∧ k = 1) ∨ (a = 54 ∧ k = T) ∨ (a = 55 ∧ k = T)) (fun a k => PTl a k ∨ (a = 50 ∧ k = T)) w (wI w7 55 T pl) := ((hFc.tr (hF6.mo (fun a k q => Or.inl q) (fun a k q => Or.inl q))).tr (hF7.mo (fun a k q => Or.inl q) (fun a k q => Or.inl q))).tr (FXL.w _ _ (by simp only [PED, PEM, PTC, PTM, and_true, true_and, or_true, true_or, and_self] <;> omega))
        have hMe : FXL (fun a k => PTM a k ∨ (a = 17 ∧ k = T) ∨ (a = 18 ∧ k = T)) (fun a k => a = 13 ∧ k = T) m m7 := (hMd.tr (FX.xl (hM6.mo (fun a k q => Or.inl q)))).tr (FX.xl (hM7.mo (fun a k q => Or.inl q)))
        rcases hr7 with ⟨b2, hG7, hp7, g77, hv7⟩ | ⟨b2, hf7, hv7⟩
        · have e28 : m7.1 0 28 = nI T := by rw [hM7.2 _ _ (by simp only [PED, PEM, PTC, PTM, and_true, true_and, or_true, true_or, and_self] <;> omega), hM6.2 _ _ (by simp only [PED, PEM, PTC, PTM, and_true, true_and, or_true, true_or, and_self] <;> omega)]; exact y28
          rw [b2, cl_s, i10, e28, if_pos i8, nI_clamp (n := T) (by omega), lt_s', g77]
          exact fin _ _ r pl ((hG7.c (by omega) (by omega)).r (by omega)) (by rw [PTG_r (by omega)]; omega) hFe (hMe.tr (FXL.w _ _ (by simp only [PED, PEM, PTC, PTM, and_true, true_and, or_true, true_or, and_self] <;> omega))) (by rw [wI_2, hF7.2 _ _ (by unfold PTl; omega), hF6.2 _ _ (by unfold PTl; omega)]; exact z50) (by rw [wI_2, hM7.1, hM6.1]; exact y13) (by rw [wI_g, if_neg (by omega), hF7.1 _ _ (by simp only [PED, PEM, PTC, PTM, and_true, true_and, or_true, true_or, and_self] <;> omega), hF6.1 _ _ (by simp only [PED, PEM, PTC, PTM, and_true, true_and, or_true, true_or, and_self] <;> omega)]; exact z49) rv (by rw [wI_g, if_neg (by omega), hF7.1 _ _ (by simp only [PED, PEM, PTC, PTM, and_true, true_and, or_true, true_or, and_self] <;> omega), hF6.1 _ _ (by simp only [PED, PEM, PTC, PTM, and_true, true_and, or_true, true_or, and_self] <;> omega)]; exact z54) (by rw [wI_g, if_neg (by omega), hM7.2 _ _ (by simp only [PED, PEM, PTC, PTM, and_true, true_and, or_true, true_or, and_self] <;> omega), hM6.2 _ _ (by simp only [PED, PEM, PTC, PTM, and_true, true_and, or_true, true_or, and_self] <;> omega)]; exact y17) (wI_s _ _ _ _) (wI_s _ _ _ _) (Or.inr (by rw [← eL6]; exact hv7))
        · rw [b2, cl_s, i01]
          exact ⟨_, m7, rfl, toE hFe, toM hMe, Or.inr (Or.inl ⟨rfl, hf7.c (by omega)⟩)⟩
    · have hfl := (hf4.c (a := 54) (k := T) (v := r) (by omega)).1
      rw [u2, cl_s, i01, zf_passes hfl, cl_s, i01, if_pos i8, lt_s', cv_s]
      exact ⟨_, m4, rfl, toE (hFc.tr (FXL.w _ _ (by simp only [PED, PEM, PTC, PTM, and_true, true_and, or_true, true_or, and_self] <;> omega))), toM hMc, Or.inr (Or.inl ⟨rfl, (hf4.c (by omega)).c (by omega)⟩)⟩
end
