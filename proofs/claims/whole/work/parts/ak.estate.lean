/-! estate, whole -/
-- PTC PTM PED PEM PTk PTm PEC PEN
section
variable {wc wm A : Wd}
theorem q_estate (h : KRN wc wm A) (hcb : ∃ c, c < 999999 ∧ wc.1 3 6 = nI c) (cp : Nat) : ∃ r wc1 wm1 A1, f_X11_estate cp wc = some (r, wc1, cp) ∧ f_X12_estate wm = some (r, wm1) ∧ KRN wc1 wm1 A1 ∧ CHE wc wm A wc1 wm1 A1 := by
  obtain ⟨hL, hK, hI, hPe, hX, hT, hB, hTp, hFl⟩ := h
  have hN := hI.1
  obtain ⟨w1, c1, hw1, hF1⟩ := zc_clrE (w := wc)
  have tp1 : TPR w1 wm := ⟨by rw [show w1.1 2 = wc.1 2 from funext fun k => hF1.2 2 k (by omega)]; exact hTp.1, hTp.2.1, by rw [hF1.2 1 1 (by omega)]; exact hTp.2.2.1, hTp.2.2.2⟩
  obtain ⟨w2, m1, o1, o2, hG1, hpg, hF2, hM1, z1⟩ := q_open tp1
  obtain ⟨m2, r1, hG2, pg2, k5, hm2, hM2⟩ := zm_clrE hG1
  have hD2 : DR w2 m2 := DR.new (by
    have q : ∀ a k, 44 ≤ a → w2.1 a k = w1.1 a k := fun a k ha => hF2.1 a k (by simp only [PEC, PEN, PED, PEM, PTC, PTM, PTk, PTm, and_true, true_and, or_true, true_or, and_self] <;> omega)
    rw [q 45 1 (by omega), q 47 1 (by omega), q 49 1 (by omega), q 44 9 (by omega), q 44 10 (by omega), q 44 11 (by omega), q 44 12 (by omega), q 44 13 (by omega), q 44 14 (by omega), q 44 15 (by omega), q 44 16 (by omega), q 44 17 (by omega), q 44 18 (by omega)]
    exact hw1) hm2
  obtain ⟨w3, m3, hF3, hM3, hr⟩ := q_etext 901 fu fu 0 w2 m2 (Or.inr (by omega)) (by rw [fu_eq]; omega) (by rw [fu_eq]; omega) hG2 hD2 (by rw [k5, pg2]; exact hpg) (by omega)
  have hFb : FXL PED QED wc w3 := ((FX.xl (hF1.mo (fun a k q => by simp only [PEC, PEN, PED, PEM, PTC, PTM, PTk, PTm] at q ⊢; omega))).tr (PTC_E hF2)).tr hF3
  have mb : ∀ a k, ¬ (a = 0 ∧ (k < 10 ∨ (26 ≤ k ∧ k ≤ 36))) → ¬ (14 ≤ a ∧ a ≤ 19) → m3.1 a k = wm.1 a k := fun a k q1 q2 => by rw [hM3.1 a k (by simp only [PEC, PEN, PED, PEM, PTC, PTM, PTk, PTm, and_true, true_and, or_true, true_or, and_self] <;> omega), hM2.2 a k (by omega), hM1.2 a k (by simp only [PEC, PEN, PED, PEM, PTC, PTM, PTk, PTm, and_true, true_and, or_true, true_or, and_self] <;> omega)]
  have ml : ∀ a k, ¬ (11 ≤ a ∧ a ≤ 13) → m3.2 a k = wm.2 a k := fun a k q => by rw [hM3.2 a k (by unfold QEM; exact q), hM2.1, hM1.1]
  have z3 : m3.1 0 1 = 0 := by rw [hM3.1 0 1 (by simp only [PEC, PEN, PED, PEM, PTC, PTM, PTk, PTm, and_true, true_and, or_true, true_or, and_self] <;> omega), hM2.2 0 1 (by omega)]; exact z1
  have hT3 : tol m3 = A := by
    rw [← hT]
    refine tol_of (fun k hk => ?_) (fun o k q => mb o k (by omega) (by omega)) (fun o k q => ml o k (by omega))
    refine mb 0 k ?_ (by omega)
    unfold TK at hk
    simp only [Bool.or_eq_true, Bool.and_eq_true, decide_eq_true_eq, beq_iff_eq] at hk
    omega
  have tpr : ∀ j, bRg (m3.1 1 j) := fun j => by rw [mb 1 j (by omega) (by omega)]; exact hTp.2.1 j
  have kf : ∀ u : Wd, f_X11_keepFault u = some (wI (wI (wI u 0 7 (u.1 1 4)) 0 8 (u.1 1 5)) 1 1 0) := fun u => by
    unfold f_X11_keepFault f_X10_empty
    rw [lt_s', lt_s', wI_g, if_neg (show ¬ (1 = 0 ∧ 5 = 7) by omega), lt_s', cv_s]
  rw [zm_setE]
  unfold f_X11_estate f_X0_readText
  rw [c1, cv_s, o1, cv_s, o2, cv_s, r1]
  rcases hr with ⟨x1, x2, hG3, hD3⟩ | ⟨x1, x2, hf3⟩
  · -- well read
    have y1 : X0_readText_b10_L 0 w2 = (cv (f_X0_fillUntoldLands w3) fun w5 => cv (f_X0_findStems w5) fun w6 => some (1, w6)) := x1
    have y2 : X12_readEstate_b55_L m2 = some (1, m3) := x2
    obtain ⟨u1, f1, hFu, fL0, fL1⟩ := zc_fillU hD3
    have hD3' := hD3
    obtain ⟨d1, d2, d3, d4, d5, d6, d7, d8⟩ := hD3
    obtain ⟨⟨l1, l2, l3, l4⟩, ⟨p1, p2, p3, p4⟩, ⟨t1, t2, t3, t4⟩⟩ := d1
    have nPE : nPe (eW m3) = rP m3 := rfl
    have uo : ∀ a k, ¬ (a = 44 ∧ 12 ≤ k ∧ k ≤ 14) → u1.1 a k = w3.1 a k := fun a k q => hFu.2 a k q
    obtain ⟨u2, f2, s1, s2, hFs⟩ := zc_stems (w := u1) (A := eW m3) (P := rP m3) nPE p2 (by rw [uo 47 1 (by omega)]; exact p3.trans p1) (fun k hk => by
      obtain ⟨⟨a1, a2, a3, a4⟩, a5, a6, a7, a8⟩ := d3.1 k hk
      refine ⟨⟨?_, ?_, ?_, ?_⟩, a7, a8⟩
      · rw [uo 52 k (by omega)]; exact a1
      · rw [uo 53 k (by omega)]; exact a2
      · rw [uo 44 10 (by omega)]; exact a3
      · rw [uo 56 k (by omega)]; exact a4) (by rw [uo 44 9 (by omega)]; exact d3.2.2)
    rw [y1, f1, cv_s, f2, cv_s, cl_s, kf, cv_s, i10, y2, cl_s, i10]
    -- the desk's world
    have v2 : ∀ a k, ¬ (a = 44 ∧ (k = 9 ∨ (12 ≤ k ∧ k ≤ 14))) → ¬ a = 56 → u2.1 a k = w3.1 a k := fun a k q1 q2 => by rw [hFs.2 a k (by unfold PFs; omega), uo a k (by omega)]
    have v2l : u2.2 = w3.2 := hFs.1.trans hFu.1
    have g4 : ∀ a k, ¬ a = 0 → ¬ a = 1 → (wI (wI (wI u2 0 7 (u2.1 1 4)) 0 8 (u2.1 1 5)) 1 1 0).1 a k = u2.1 a k := fun a k q1 q2 => by rw [wI_g, if_neg (by omega), wI_g, if_neg (by omega), wI_g, if_neg (by omega)]
    have g07 : (wI (wI (wI u2 0 7 (u2.1 1 4)) 0 8 (u2.1 1 5)) 1 1 0).1 0 7 = w3.1 1 4 := by rw [wI_g, if_neg (by omega), wI_g, if_neg (by omega), wI_s, v2 1 4 (by omega) (by omega)]
    have g08 : (wI (wI (wI u2 0 7 (u2.1 1 4)) 0 8 (u2.1 1 5)) 1 1 0).1 0 8 = w3.1 1 5 := by rw [wI_g, if_neg (by omega), wI_s, v2 1 5 (by omega) (by omega)]
    have g0 : ∀ k, ¬ k = 7 → ¬ k = 8 → (wI (wI (wI u2 0 7 (u2.1 1 4)) 0 8 (u2.1 1 5)) 1 1 0).1 0 k = u2.1 0 k := fun k q1 q2 => by rw [wI_g, if_neg (by omega), wI_g, if_neg (by omega), wI_g, if_neg (by omega)]
    have g11 : (wI (wI (wI u2 0 7 (u2.1 1 4)) 0 8 (u2.1 1 5)) 1 1 0).1 1 1 = 0 := wI_s _ _ _ _
    have g4l : (wI (wI (wI u2 0 7 (u2.1 1 4)) 0 8 (u2.1 1 5)) 1 1 0).2 = w3.2 := v2l
    generalize wI (wI (wI u2 0 7 (u2.1 1 4)) 0 8 (u2.1 1 5)) 1 1 0 = w4 at g4 g07 g08 g0 g11 g4l ⊢
    unfold f_X2_takeDraft
    simp only [lt_s']
    have k6 : ∀ a k, ¬ (a = 3 ∧ (k = 3 ∨ k = 4)) → (wI (wI (swW w4) 3 3 0) 3 4 0).1 a k = (swW w4).1 a k := fun a k q => by rw [wI_g, if_neg (by omega), wI_g, if_neg (by omega)]
    have k33 : (wI (wI (swW w4) 3 3 0) 3 4 0).1 3 3 = 0 := by rw [wI_g, if_neg (by omega), wI_s]
    have k34 : (wI (wI (swW w4) 3 3 0) 3 4 0).1 3 4 = 0 := wI_s _ _ _ _
    have k6l : (wI (wI (swW w4) 3 3 0) 3 4 0).2 = (swW w4).2 := rfl
    generalize wI (wI (swW w4) 3 3 0) 3 4 0 = w6 at k6 k33 k34 k6l ⊢
    have ee : ∀ a k, 31 ≤ a → a ≤ 43 → w6.1 a k = u2.1 (a + 13) k := fun a k q1 q2 => by rw [k6 a k (by omega), sw_e q1 q2, g4 _ _ (by omega) (by omega)]
    have eo : ∀ a k, ¬ a = 0 → ¬ a = 1 → ¬ (a = 3 ∧ (k = 3 ∨ k = 4)) → a < 31 ∨ 56 < a → w6.1 a k = wc.1 a k := fun a k q1 q2 q3 q4 => by rw [k6 a k q3, sw_o q4, g4 a k q1 q2, v2 a k (by omega) (by omega), hFb.1 a k (by simp only [PEC, PEN, PED, PEM, PTC, PTM, PTk, PTm, and_true, true_and, or_true, true_or, and_self] <;> omega)]
    have el : ∀ a k, 31 ≤ a → a ≤ 43 → w6.2 a k = w3.2 (a + 13) k := fun a k q1 q2 => by rw [k6l, sw_el q1 q2, g4l]
    -- the reference's world before it copies
    have ms : ∀ a k, ¬ (a = 0 ∧ 10 ≤ k ∧ k ≤ 19) → (wI (wI (wI (wI (wI (wI (wI (wI (wI (wI m3 0 10 (m3.1 0 26)) 0 11 (m3.1 0 27)) 0 12 (m3.1 0 28)) 0 14 (m3.1 0 29)) 0 15 (m3.1 0 30)) 0 16 (m3.1 0 31)) 0 17 (m3.1 0 32)) 0 18 (m3.1 0 33)) 0 19 (m3.1 0 34)) 0 13 (m3.1 0 35)).1 a k = m3.1 a k := fun a k q => by
      rw [wI_g, if_neg (by omega), wI_g, if_neg (by omega), wI_g, if_neg (by omega), wI_g, if_neg (by omega), wI_g, if_neg (by omega), wI_g, if_neg (by omega), wI_g, if_neg (by omega), wI_g, if_neg (by omega), wI_g, if_neg (by omega), wI_g, if_neg (by omega)]
    have mv : (wI (wI (wI (wI (wI (wI (wI (wI (wI (wI m3 0 10 (m3.1 0 26)) 0 11 (m3.1 0 27)) 0 12 (m3.1 0 28)) 0 14 (m3.1 0 29)) 0 15 (m3.1 0 30)) 0 16 (m3.1 0 31)) 0 17 (m3.1 0 32)) 0 18 (m3.1 0 33)) 0 19 (m3.1 0 34)) 0 13 (m3.1 0 35)).1 0 10 = m3.1 0 26 ∧ (wI (wI (wI (wI (wI (wI (wI (wI (wI (wI m3 0 10 (m3.1 0 26)) 0 11 (m3.1 0 27)) 0 12 (m3.1 0 28)) 0 14 (m3.1 0 29)) 0 15 (m3.1 0 30)) 0 16 (m3.1 0 31)) 0 17 (m3.1 0 32)) 0 18 (m3.1 0 33)) 0 19 (m3.1 0 34)) 0 13 (m3.1 0 35)).1 0 11 = m3.1 0 27 ∧ (wI (wI (wI (wI (wI (wI (wI (wI (wI (wI m3 0 10 (m3.1 0 26)) 0 11 (m3.1 0 27)) 0 12 (m3.1 0 28)) 0 14 (m3.1 0 29)) 0 15 (m3.1 0 30)) 0 16 (m3.1 0 31)) 0 17 (m3.1 0 32)) 0 18 (m3.1 0 33)) 0 19 (m3.1 0 34)) 0 13 (m3.1 0 35)).1 0 12 = m3.1 0 28 ∧ (wI (wI (wI (wI (wI (wI (wI (wI (wI (wI m3 0 10 (m3.1 0 26)) 0 11 (m3.1 0 27)) 0 12 (m3.1 0 28)) 0 14 (m3.1 0 29)) 0 15 (m3.1 0 30)) 0 16 (m3.1 0 31)) 0 17 (m3.1 0 32)) 0 18 (m3.1 0 33)) 0 19 (m3.1 0 34)) 0 13 (m3.1 0 35)).1 0 14 = m3.1 0 29 ∧ (wI (wI (wI (wI (wI (wI (wI (wI (wI (wI m3 0 10 (m3.1 0 26)) 0 11 (m3.1 0 27)) 0 12 (m3.1 0 28)) 0 14 (m3.1 0 29)) 0 15 (m3.1 0 30)) 0 16 (m3.1 0 31)) 0 17 (m3.1 0 32)) 0 18 (m3.1 0 33)) 0 19 (m3.1 0 34)) 0 13 (m3.1 0 35)).1 0 15 = m3.1 0 30 ∧ (wI (wI (wI (wI (wI (wI (wI (wI (wI (wI m3 0 10 (m3.1 0 26)) 0 11 (m3.1 0 27)) 0 12 (m3.1 0 28)) 0 14 (m3.1 0 29)) 0 15 (m3.1 0 30)) 0 16 (m3.1 0 31)) 0 17 (m3.1 0 32)) 0 18 (m3.1 0 33)) 0 19 (m3.1 0 34)) 0 13 (m3.1 0 35)).1 0 16 = m3.1 0 31 ∧ (wI (wI (wI (wI (wI (wI (wI (wI (wI (wI m3 0 10 (m3.1 0 26)) 0 11 (m3.1 0 27)) 0 12 (m3.1 0 28)) 0 14 (m3.1 0 29)) 0 15 (m3.1 0 30)) 0 16 (m3.1 0 31)) 0 17 (m3.1 0 32)) 0 18 (m3.1 0 33)) 0 19 (m3.1 0 34)) 0 13 (m3.1 0 35)).1 0 17 = m3.1 0 32 ∧ (wI (wI (wI (wI (wI (wI (wI (wI (wI (wI m3 0 10 (m3.1 0 26)) 0 11 (m3.1 0 27)) 0 12 (m3.1 0 28)) 0 14 (m3.1 0 29)) 0 15 (m3.1 0 30)) 0 16 (m3.1 0 31)) 0 17 (m3.1 0 32)) 0 18 (m3.1 0 33)) 0 19 (m3.1 0 34)) 0 13 (m3.1 0 35)).1 0 18 = m3.1 0 33 ∧ (wI (wI (wI (wI (wI (wI (wI (wI (wI (wI m3 0 10 (m3.1 0 26)) 0 11 (m3.1 0 27)) 0 12 (m3.1 0 28)) 0 14 (m3.1 0 29)) 0 15 (m3.1 0 30)) 0 16 (m3.1 0 31)) 0 17 (m3.1 0 32)) 0 18 (m3.1 0 33)) 0 19 (m3.1 0 34)) 0 13 (m3.1 0 35)).1 0 19 = m3.1 0 34 ∧ (wI (wI (wI (wI (wI (wI (wI (wI (wI (wI m3 0 10 (m3.1 0 26)) 0 11 (m3.1 0 27)) 0 12 (m3.1 0 28)) 0 14 (m3.1 0 29)) 0 15 (m3.1 0 30)) 0 16 (m3.1 0 31)) 0 17 (m3.1 0 32)) 0 18 (m3.1 0 33)) 0 19 (m3.1 0 34)) 0 13 (m3.1 0 35)).1 0 13 = m3.1 0 35 := by simp [wI_g]
    have msl : (wI (wI (wI (wI (wI (wI (wI (wI (wI (wI m3 0 10 (m3.1 0 26)) 0 11 (m3.1 0 27)) 0 12 (m3.1 0 28)) 0 14 (m3.1 0 29)) 0 15 (m3.1 0 30)) 0 16 (m3.1 0 31)) 0 17 (m3.1 0 32)) 0 18 (m3.1 0 33)) 0 19 (m3.1 0 34)) 0 13 (m3.1 0 35)).2 = m3.2 := rfl
    generalize wI (wI (wI (wI (wI (wI (wI (wI (wI (wI m3 0 10 (m3.1 0 26)) 0 11 (m3.1 0 27)) 0 12 (m3.1 0 28)) 0 14 (m3.1 0 29)) 0 15 (m3.1 0 30)) 0 16 (m3.1 0 31)) 0 17 (m3.1 0 32)) 0 18 (m3.1 0 33)) 0 19 (m3.1 0 34)) 0 13 (m3.1 0 35) = mS at ms mv msl ⊢
    obtain ⟨v10, v11, v12, v14, v15, v16, v17, v18, v19, v13⟩ := mv
    obtain ⟨n, hn, en⟩ := hcb
    have hfin : OK (X12_estate_b95_L 0 mS) (fun q => ∃ w7, f_X2_findOrders w6 = some w7 ∧ q.1 = w7.1 31 17 ∧ KRN (wI w7 22 0 0) q.2 (tol q.2) ∧ CHE wc wm A (wI w7 22 0 0) q.2 (tol q.2)) := by
      refine zm_copy (nL := rL m3) (nP := rP m3) (nT := rT m3) (v10.trans l1) (v11.trans p1) (v12.trans t1) l2 p2 t2 (fun k hk => by rw [ms 19 k (by omega)]; exact (d3.1 k hk).2.1) (fun u hu => ?_)
      obtain ⟨q1, q2, q3, q4, q5, q6⟩ := hu
      unfold FinE
      refine OK.l (OK.l (OK.l ?_))
      have b6 : ∀ a k, ¬ (a = 0 ∧ (k = 49 ∨ k = 50 ∨ k = 99)) → (wI (wI (wI u 0 49 0) 0 50 0) 0 99 0).1 a k = u.1 a k := fun a k q => by rw [wI_g, if_neg (by omega), wI_g, if_neg (by omega), wI_g, if_neg (by omega)]
      have b49 : (wI (wI (wI u 0 49 0) 0 50 0) 0 99 0).1 0 49 = 0 := by rw [wI_g, if_neg (by omega), wI_g, if_neg (by omega), wI_s]
      have b50 : (wI (wI (wI u 0 49 0) 0 50 0) 0 99 0).1 0 50 = 0 := by rw [wI_g, if_neg (by omega), wI_s]
      have b99 : (wI (wI (wI u 0 49 0) 0 50 0) 0 99 0).1 0 99 = 0 := wI_s _ _ _ _
      have b6l : (wI (wI (wI u 0 49 0) 0 50 0) 0 99 0).2 = u.2 := rfl
      generalize wI (wI (wI u 0 49 0) 0 50 0) 0 99 0 = m8 at b6 b49 b50 b99 b6l ⊢
      have B0 : ∀ k, TJ k = true → (tol m8).1 0 k = m8.1 0 k := fun k hk => (tol_0 rfl k hk).symm
      have Ba : ∀ a k, 2 ≤ a ∧ a ≤ 7 ∨ 38 ≤ a ∧ a ≤ 43 → (tol m8).1 a k = m8.1 a k := fun a k hk => (tol_a rfl a k hk).symm
      have Bl : ∀ a k, 8 ≤ a ∧ a ≤ 10 → (tol m8).2 a k = u.2 a k := fun a k hk => by rw [← tol_l rfl a k hk, b6l]
      have s0 : ∀ k, ¬ (k = 49 ∨ k = 50 ∨ k = 99) → m8.1 0 k = mS.1 0 k := fun k q => by rw [b6 0 k (by omega), q1 0 k (by omega)]
      have c10 : (tol m8).1 0 10 = nI (rL m3) := by rw [B0 10 rfl, s0 10 (by omega), v10]; exact l1
      have c11 : (tol m8).1 0 11 = nI (rP m3) := by rw [B0 11 rfl, s0 11 (by omega), v11]; exact p1
      have c12 : (tol m8).1 0 12 = nI (rT m3) := by rw [B0 12 rfl, s0 12 (by omega), v12]; exact t1
      have nL : nLa (tol m8) = rL m3 := by unfold nLa; rw [c10, nI_clamp (by omega)]
      have nP : nPe (tol m8) = rP m3 := by unfold nPe; rw [c11, nI_clamp (by omega)]
      have nT : nTh (tol m8) = rT m3 := by unfold nTh; rw [c12, nI_clamp (by omega)]
      have nPa0 : nPa (tol m8) = 0 := by unfold nPa; rw [B0 49 rfl, b49]; rfl
      have nEv0 : nEv (tol m8) = 0 := by unfold nEv; rw [B0 50 rfl, b50]; rfl
      have r2 : ∀ k, k < 13 * rL m3 → (tol m8).1 2 k = m3.1 14 k := fun k hk => by rw [Ba 2 k (by omega), b6 2 k (by omega), q3 k hk, ms 14 k (by omega)]
      have rp : ∀ k, k < rP m3 → (tol m8).1 3 k = m3.1 15 k ∧ (tol m8).1 4 k = m3.1 16 k ∧ (tol m8).1 7 k = m3.1 19 k ∧ (tol m8).2 9 k = m3.2 12 k := fun k hk => by
        obtain ⟨x1, x2, x3, x4⟩ := q5 k hk
        rw [Ba 3 k (by omega), Ba 4 k (by omega), Ba 7 k (by omega), Bl 9 k (by omega), b6 3 k (by omega), b6 4 k (by omega), b6 7 k (by omega), x1, x2, x3, x4, ms 15 k (by omega), ms 16 k (by omega), ms 19 k (by omega), msl]
        exact ⟨rfl, rfl, rfl, rfl⟩
      have rt : ∀ k, k < rT m3 → (tol m8).1 5 k = m3.1 17 k ∧ (tol m8).1 6 k = m3.1 18 k ∧ (tol m8).2 10 k = m3.2 13 k := fun k hk => by
        obtain ⟨x1, x2, x3⟩ := q6 k hk
        rw [Ba 5 k (by omega), Ba 6 k (by omega), Bl 10 k (by omega), b6 5 k (by omega), b6 6 k (by omega), x1, x2, x3, ms 17 k (by omega), ms 18 k (by omega), msl]
        exact ⟨rfl, rfl, rfl⟩
      have e80 : (tol m8).1 0 80 = -1 := by rw [B0 80 rfl, s0 80 (by omega), ms 0 80 (by omega), mb 0 80 (by omega) (by omega), tol_0 hT 80 rfl]; exact hX
      have hE : EST w6 (tol m8) := by
        unfold EST
        rw [nL, nP, nT, c10, c11, c12, ee 32 1 (by omega) (by omega), ee 34 1 (by omega) (by omega), ee 36 1 (by omega) (by omega), v2 45 1 (by omega) (by omega), v2 47 1 (by omega) (by omega), v2 49 1 (by omega) (by omega), ee 31 10 (by omega) (by omega), v2 44 10 (by omega) (by omega), ee 31 11 (by omega) (by omega), v2 44 11 (by omega) (by omega), ee 31 15 (by omega) (by omega), v2 44 15 (by omega) (by omega), ee 31 16 (by omega) (by omega), v2 44 16 (by omega) (by omega), ee 31 17 (by omega) (by omega), v2 44 17 (by omega) (by omega), ee 31 12 (by omega) (by omega), ee 31 13 (by omega) (by omega), ee 31 14 (by omega) (by omega)]
        refine ⟨⟨l3.trans l1, p3.trans p1, t3.trans t1⟩, fun k hk => ?_, fun k hk => ?_, fun k hk => ?_, ⟨?_, ?_, ?_, ?_⟩, fun h0 => ?_, fun h0 => ?_, d3.2.1, fun k hk => ?_, fun k hk => ?_, fun k hk => ?_⟩
        · rw [ee 38 k (by omega) (by omega), v2 51 k (by omega) (by omega), r2 k hk]; exact d2.1 k hk
        · obtain ⟨⟨a1, a2, a3, a4⟩, -⟩ := d3.1 k hk
          rw [ee 39 k (by omega) (by omega), ee 40 k (by omega) (by omega), v2 52 k (by omega) (by omega), v2 53 k (by omega) (by omega), (rp k hk).1, (rp k hk).2.1, (rp k hk).2.2.1]
          exact ⟨a1, a2, a3⟩
        · obtain ⟨⟨a1, a2⟩, -⟩ := d4 k hk
          rw [ee 41 k (by omega) (by omega), ee 42 k (by omega) (by omega), v2 54 k (by omega) (by omega), v2 55 k (by omega) (by omega), (rt k hk).1, (rt k hk).2.1]
          exact ⟨a1, a2⟩
        · rw [B0 19 rfl, s0 19 (by omega), v19]; exact d7.1
        · rw [B0 14 rfl, s0 14 (by omega), v14]; exact (d6 0 (by omega)).2.1
        · rw [B0 15 rfl, s0 15 (by omega), v15]; exact (d6 1 (by omega)).2.1
        · rw [B0 13 rfl, s0 13 (by omega), v13]; exact d8
        · have uu : ∀ j, j < 3 → u2.1 44 (12 + j) = -1 := fun j hj => by
            rw [hFs.2 44 (12 + j) (by unfold PFs; omega), fL0 h0]
            obtain ⟨b1, b2, b3⟩ := d5 j hj
            cases hb : bt (m3.1 0 36) j with
            | false => exact (b3 hb).1
            | true =>
              obtain ⟨i, hi, -⟩ := (b2 hb).2
              omega
          exact ⟨uu 0 (by omega), uu 1 (by omega), uu 2 (by omega)⟩
        · have uu : ∀ j, j < 3 → u2.1 44 (12 + j) = m3.1 0 (31 + j) := fun j hj => by rw [hFs.2 44 (12 + j) (by unfold PFs; omega)]; exact fL1 h0 j hj
          rw [B0 16 rfl, s0 16 (by omega), v16, B0 17 rfl, s0 17 (by omega), v17, B0 18 rfl, s0 18 (by omega), v18]
          exact ⟨uu 0 (by omega), uu 1 (by omega), uu 2 (by omega)⟩
        · rw [el 33 k (by omega) (by omega), Bl 8 k (by omega), q4 k hk, msl]; exact l4 k hk
        · rw [el 35 k (by omega) (by omega), (rp k hk).2.2.2]; exact p4 k hk
        · rw [el 37 k (by omega) (by omega), (rt k hk).2.2]; exact t4 k hk
      have hLW : LWI (tol m8) := by
        unfold LWI
        rw [nL, nT, B0 16 rfl, s0 16 (by omega), v16, B0 17 rfl, s0 17 (by omega), v17, B0 18 rfl, s0 18 (by omega), v18]
        have seat : 0 < rL m3 → ∀ j, j < 3 → NN (m3.1 0 (31 + j)) (rL m3) := fun h0 j hj => by
          obtain ⟨b1, b2, b3⟩ := d5 j hj
          cases hb : bt (m3.1 0 36) j with
          | false => rw [(b3 hb).2]; exact ⟨0, h0, rfl⟩
          | true => exact (b2 hb).2
        refine ⟨fun h0 => ⟨seat h0 0 (by omega), seat h0 1 (by omega), seat h0 2 (by omega)⟩, fun l hl => ?_, fun t ht => ?_⟩
        · obtain ⟨a1, a2, a3, a4⟩ := d2.2 l hl
          rw [r2 _ (by omega), r2 _ (by omega)]
          exact ⟨a1, a2⟩
        · rw [(rt t ht).2.1]; exact (d4 t ht).2.2
      have hPE : PEI (tol m8) := by
        unfold PEI
        rw [nL, nP, nT, B0 19 rfl, s0 19 (by omega), v19, B0 14 rfl, s0 14 (by omega), v14, B0 15 rfl, s0 15 (by omega), v15]
        refine ⟨fun k hk => ?_, d7.2, fun t ht => ?_, (d6 0 (by omega)).2.2, (d6 1 (by omega)).2.2, fun l hl => ?_⟩
        · obtain ⟨-, a5, a6, a7, a8⟩ := d3.1 k hk
          rw [(rp k hk).1, (rp k hk).2.1, (rp k hk).2.2.1]
          exact ⟨a5, a6, a7, a8⟩
        · rw [(rt t ht).1]; exact (d4 t ht).2.1
        · obtain ⟨a1, a2, a3, a4⟩ := d2.2 l hl
          rw [r2 _ (by omega), r2 _ (by omega)]
          exact ⟨a3, a4⟩
      have hss : ∀ x, ssS (eW m3) x = ssS (tol m8) x := fun x => ss_cg (nPE.trans nP.symm) (fun k hk => by
        rw [nP] at hk
        rw [(rp k hk).1, (rp k hk).2.1, (rp k hk).2.2.1]
        exact ⟨rfl, rfl, rfl⟩) x
      have hKN : KIN w6 (tol m8) := by
        refine ⟨?_, fun k hk => ?_⟩
        · rw [ee 31 9 (by omega) (by omega), ← hss]; exact s1
        · rw [nP] at hk
          rw [ee 43 k (by omega) (by omega), ← hss]; exact s2 k hk
      have m75 : m8.1 0 75 = A.1 0 75 := by rw [s0 75 (by omega), ms 0 75 (by omega), mb 0 75 (by omega) (by omega)]; exact tol_0 hT 75 rfl
      have hNB : NUM (tol m8) := by
        unfold NUM
        rw [nL, nP, nT, nPa0, nEv0, c10, c11, c12, B0 49 rfl, b49, B0 50 rfl, b50]
        unfold nOr
        rw [B0 75 rfl, m75]
        exact ⟨⟨rfl, l2⟩, ⟨rfl, p2⟩, ⟨rfl, t2⟩, ⟨rfl, by omega⟩, ⟨rfl, by omega⟩, by omega, hN.2.2.2.2.2.2⟩
      obtain ⟨w7, m9, g1, g2, gL, gI, ges, gtf, g36, g78, gFc, gFm⟩ := q_fin (w := w6) (m := m8) (B := tol m8) hE ⟨by rw [k33, B0 49 rfl, b49], by rw [k34, B0 50 rfl, b50]⟩ (fun k hk => by rw [nPa0] at hk; omega) (fun k hk => by rw [nEv0] at hk; omega) hNB hLW (fun k hk => by rw [nPa0] at hk; omega) (fun k hk => by rw [nEv0] at hk; omega) rfl
      rw [g2, cv_s]
      have w7o : ∀ a k, ¬ (a = 3 ∧ (k = 5 ∨ k = 6)) → ¬ a = 6 → ¬ a = 7 → w7.1 a k = w6.1 a k := fun a k x1 x2 x3 => gFc.2 a k (by unfold POc; omega)
      have m9o : ∀ a k, ¬ (a = 0 ∧ (k = 75 ∨ k = 78)) → ¬ a = 43 → ¬ a = 44 → m9.1 a k = m8.1 a k := fun a k x1 x2 x3 => gFm.2 a k (by unfold POw; omega)
      have wo : ∀ a k, ¬ (a = 22 ∧ k = 0) → (wI w7 22 0 0).1 a k = w7.1 a k := fun a k q => by rw [wI_g, if_neg q]
      have c36 : (wI w7 22 0 0).1 3 6 = wc.1 3 6 + 1 := by rw [wo 3 6 (by omega), g36, eo 3 6 (by omega) (by omega) (by omega) (by omega)]
      have m9b : ∀ k, ¬ (k = 75 ∨ k = 78 ∨ k = 49 ∨ k = 50 ∨ k = 99) → ¬ (10 ≤ k ∧ k ≤ 19) → m9.1 0 k = m3.1 0 k := fun k x1 x2 => by rw [m9o 0 k (by omega) (by omega) (by omega), s0 k (by omega), ms 0 k (by omega)]
      have m91 : ∀ k, m9.1 1 k = m3.1 1 k := fun k => by rw [m9o 1 k (by omega) (by omega) (by omega), b6 1 k (by omega), q1 1 k (by omega), ms 1 k (by omega)]
      have tb : (wI w7 22 0 0).1 2 = m9.1 1 := by
        rw [show (wI w7 22 0 0).1 2 = wc.1 2 from funext fun k => by rw [wo 2 k (by omega), w7o 2 k (by omega) (by omega) (by omega), eo 2 k (by omega) (by omega) (by omega) (by omega)], show m9.1 1 = wm.1 1 from funext fun k => by rw [m91, mb 1 k (by omega) (by omega)]]
        exact hTp.1
      have w11' : (wI w7 22 0 0).1 1 1 = 0 := by rw [wo 1 1 (by omega), w7o 1 1 (by omega) (by omega) (by omega), k6 1 1 (by omega), sw_o (by omega)]; exact g11
      have z9 : m9.1 0 1 = 0 := by rw [m9b 1 (by omega) (by omega)]; exact z3
      refine OK.s ⟨w7, g1, ?_, ⟨?_, ?_, gI, hPE.es ges, NCH.es ges e80, rfl, ?_, ⟨tb, fun j => by rw [m91]; exact tpr j, by rw [w11', z9], ⟨0, by omega, z9⟩⟩, ?_, ?_⟩, ⟨fun a k q => ?_, fun a k q => ?_⟩, ⟨fun a k q => ?_, fun a k q => ?_⟩, Or.inr ⟨c36, g78, wI_s _ _ _ _, ?_⟩⟩
      · show m9.1 0 13 = w7.1 31 17
        rw [m9o 0 13 (by omega) (by omega) (by omega), s0 13 (by omega), v13, w7o 31 17 (by omega) (by omega) (by omega), ee 31 17 (by omega) (by omega), v2 44 17 (by omega) (by omega)]
        exact d8.symm
      · exact gL.fr gI.1 ⟨rfl, fun a k q => wo a k (by omega)⟩
      · exact ((hKN.fg (w' := w7) (fun a k h1 h2 => w7o a k (by omega) (by omega) (by omega))).fg (w' := wI w7 22 0 0) (fun a k h1 h2 => wo a k (by omega))).es ges
      · obtain ⟨cc, hcc, e1, e2, e3⟩ := hB
        have ec : cc = n := by rw [e1, nI_eq (by omega) (by omega)] at en; exact en
        refine ⟨n + 1, by omega, by rw [c36, en, nI_1], ?_, ?_⟩
        · rw [wo 8 13 (by omega), w7o 8 13 (by omega) (by omega) (by omega), eo 8 13 (by omega) (by omega) (by omega) (by omega)]
          rcases e2 with q | ⟨d, hd, q⟩
          · exact Or.inl q
          · exact Or.inr ⟨d, by omega, q⟩
        · rw [wo 16 9 (by omega), w7o 16 9 (by omega) (by omega) (by omega), eo 16 9 (by omega) (by omega) (by omega) (by omega)]
          rcases e3 with q | ⟨d, hd, q⟩
          · exact Or.inl q
          · exact Or.inr ⟨d, by omega, q⟩
      · rw [wo 0 7 (by omega), w7o 0 7 (by omega) (by omega) (by omega), k6 0 7 (by omega), sw_o (by omega), g07, m9b 8 (by omega) (by omega), hG3.f0, hG3.2.2.1]
      · rw [wo 0 8 (by omega), w7o 0 8 (by omega) (by omega) (by omega), k6 0 8 (by omega), sw_o (by omega), g08, m9b 9 (by omega) (by omega), hG3.2.1, hG3.2.2.2]
      · by_cases q0 : a = 0
        · subst q0
          have hk : ¬ (k = 7 ∨ k = 8) := fun e => q (Or.inl ⟨rfl, e⟩)
          rw [wo 0 k (by omega), w7o 0 k (by omega) (by omega) (by omega), k6 0 k (by omega), sw_o (by omega), g0 k (by omega) (by omega), v2 0 k (by omega) (by omega), hFb.1 0 k (by simp only [PEC, PEN, PED, PEM, PTC, PTM, PTk, PTm, and_true, true_and, or_true, true_or, and_self] <;> omega)]
        · have q' : ¬ a = 1 ∧ ¬ a = 3 ∧ ¬ a = 6 ∧ ¬ a = 7 ∧ ¬ (a = 22 ∧ k = 0) ∧ ¬ (31 ≤ a ∧ a ≤ 56) := by simp only [PEC] at q; omega
          rw [wo a k (by omega), w7o a k (by omega) (by omega) (by omega), eo a k q0 (by omega) (by omega) (by omega)]
      · have q' : ¬ PTl a k ∧ ¬ (31 ≤ a ∧ a ≤ 56) := ⟨fun e => q (Or.inl e), fun e => q (Or.inr e)⟩
        have q2' := q'.1
        rw [wI_2, gFc.1, k6l, sw_ol (by omega), g4l, hFb.2 a k (by simp only [QED, PTl] at q2' ⊢; omega)]
      · have q' := q
        simp only [PEN] at q'
        rw [m9o a k (by omega) (by omega) (by omega), b6 a k (by omega), q1 a k (by omega), ms a k (by omega), mb a k (by omega) (by omega)]
      · have q' := q
        simp only [QEN] at q'
        rw [gFm.1, b6l, q2 a k (by omega), msl, ml a k (by omega)]
      · rw [m9o 0 99 (by omega) (by omega) (by omega)]; exact b99
    obtain ⟨q, eq, w7, g1, e1, kk, cc⟩ := hfin
    rw [g1, cv_s, cvm_s, eq]
    refine ⟨q.1, _, q.2, tol q.2, ?_, rfl, kk, cc⟩
    rw [e1, show (wI w7 22 0 0).1 31 17 = w7.1 31 17 by rw [wI_g, if_neg (by omega)]]
  · have y1 : X0_readText_b10_L 0 w2 = some (0, w3) := x1
    have y2 : X12_readEstate_b55_L m2 = some (0, m3) := x2
    rw [y1, cl_s, kf, cv_s, i01, y2, cl_s, i01]
    have ew : ∀ a k, ¬ a = 0 → ¬ a = 1 → ¬ (44 ≤ a ∧ a ≤ 56) → (wI (wI (wI w3 0 7 (w3.1 1 4)) 0 8 (w3.1 1 5)) 1 1 0).1 a k = wc.1 a k := fun a k q1 q2 q3 => by rw [wI_g, if_neg (by omega), wI_g, if_neg (by omega), wI_g, if_neg (by omega), hFb.1 a k (by simp only [PEC, PEN, PED, PEM, PTC, PTM, PTk, PTm, and_true, true_and, or_true, true_or, and_self] <;> omega)]
    have elg : ∀ a k, ¬ QED a k → (wI (wI (wI w3 0 7 (w3.1 1 4)) 0 8 (w3.1 1 5)) 1 1 0).2 a k = wc.2 a k := fun a k q => hFb.2 a k q
    refine ⟨-1, _, m3, A, rfl, rfl, ⟨hL.fg (fun k _ _ => ew 3 k (by omega) (by omega) (by omega)) (fun k => ew 6 k (by omega) (by omega) (by omega)) (fun a k _ _ => ew a k (by omega) (by omega) (by omega)) (fun a k _ _ => ew a k (by omega) (by omega) (by omega)) (fun a k _ _ => ew a k (by omega) (by omega) (by omega)) (fun a k q1 q2 => elg a k (by simp only [QED, PTl]; omega)), hK.fg (fun a k _ _ => ew a k (by omega) (by omega) (by omega)), hI, hPe, hX, hT3, hB.fr (ew 3 6 (by omega) (by omega) (by omega)) (Or.inl (ew 8 13 (by omega) (by omega) (by omega))) (Or.inl (ew 16 9 (by omega) (by omega) (by omega))), ⟨?_, tpr, ?_, ⟨0, by omega, z3⟩⟩, ?_, ?_⟩, ⟨fun a k q => ?_, fun a k q => ?_⟩, ⟨fun a k q => ?_, fun a k q => ?_⟩, Or.inl ⟨rfl, ew 3 6 (by omega) (by omega) (by omega), mb 0 78 (by omega) (by omega), ew 22 0 (by omega) (by omega) (by omega), mb 0 99 (by omega) (by omega)⟩⟩
    · rw [show (wI (wI (wI w3 0 7 (w3.1 1 4)) 0 8 (w3.1 1 5)) 1 1 0).1 2 = wc.1 2 from funext fun k => ew 2 k (by omega) (by omega) (by omega), show m3.1 1 = wm.1 1 from funext fun k => mb 1 k (by omega) (by omega)]; exact hTp.1
    · rw [wI_s, z3]
    · rw [wI_g, if_neg (by omega), wI_g, if_neg (by omega), wI_s]; exact hf3.2.1
    · rw [wI_g, if_neg (by omega), wI_s]; exact hf3.2.2
    · by_cases q0 : a = 0
      · subst q0
        have hk : ¬ (k = 7 ∨ k = 8) := fun e => q (Or.inl ⟨rfl, e⟩)
        rw [wI_g, if_neg (by omega), wI_g, if_neg (by omega), wI_g, if_neg (by omega), hFb.1 0 k (by simp only [PEC, PEN, PED, PEM, PTC, PTM, PTk, PTm, and_true, true_and, or_true, true_or, and_self] <;> omega)]
      · exact ew a k q0 (by simp only [PEC] at q; omega) (by simp only [PEC] at q; omega)
    · exact elg a k (by simp only [QED, QEC, PTl] at q ⊢; omega)
    · exact mb a k (by simp only [PEN] at q; omega) (by simp only [PEN] at q; omega)
    · exact ml a k (by simp only [QEN] at q; omega)
end
