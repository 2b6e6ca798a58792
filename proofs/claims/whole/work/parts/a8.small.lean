/-! small clauses of an estate -/
-- PTC PTM PED PEM
section
variable {w m : Wd}
theorem DR.nms (h : DR w m) : NMS w m 45 11 (rL m) 4 ∧ NMS w m 47 12 (rP m) 8 := by
  obtain ⟨⟨⟨a1, a2, a3, a4⟩, ⟨b1, b2, b3, b4⟩, -⟩, -⟩ := h
  exact ⟨⟨a3.trans a1, a2, by omega, a4⟩, ⟨b3.trans b1, b2, by omega, b4⟩⟩
theorem q_seat (h : GR w m) (hD : DR w m) {j : Nat} (hj : j < 3) : ECL w m (cl (f_X0_readSeat (nI (2 ^ j)) w) fun r w1 => lt (wI w1 44 (12 + j) r) fun w2 => some w2) (X12_readSmall_b66 (nI j) m) := by
  obtain ⟨d1, d2, d3, d4, d5, d6, d7, d8⟩ := hD
  have hb : bt (w.1 44 18) j = bt (m.1 0 36) j := (d5 j hj).1
  unfold f_X0_readSeat X12_readSmall_b66
  rw [if_neg (nI_n1 (n := j) (by omega)), if_bt1 (show j < 32 by omega)]
  rcases q_eonce h (show j < 5 by omega) hb with ⟨hj1, w', m', e1, e2, hf, hF, hM⟩ | ⟨hj0, w', m', e1, e2, hG, hp, e18, e36, hF, hM⟩
  · rw [if_pos hj1, e1, cv_s, zf_known hf.1, cl_s, cl_s, lt_s', e2, cl_s, if_pos (show isB 0 = true from rfl)]
    exact ⟨_, m', rfl, hF.tr (FXL.w _ _ (by simp only [PED, PEM, PTC, PTM, and_true, true_and, or_true, true_or, and_self] <;> omega)), PTM_E hM, Or.inr (Or.inl ⟨rfl, hf.c (by omega)⟩)⟩
  · rw [if_neg (by rw [hj0]; decide), e1, cv_s, lt_s', e2, cv_s, if_neg (show ¬ (3 : Int32) ≤ nI j from nI_ge (a := j) (b := 3) (by omega) (by omega))]
    have e26 : m'.1 0 26 = m.1 0 26 := hM.2 _ _ (by simp only [PED, PEM, PTC, PTM, and_true, true_and, or_true, true_or, and_self] <;> omega)
    have eL : rL m' = rL m := by unfold rL; rw [e26]
    have hNm : NMS w' m' 45 11 (rL m') 4 := by
      obtain ⟨a1, a2, a3, a4⟩ := d1.1
      refine ⟨?_, by rw [eL]; exact a2, by omega, fun k hk => ?_⟩
      · rw [hF.1 _ _ (by simp only [PED, PEM, PTC, PTM, and_true, true_and, or_true, true_or, and_self] <;> omega), eL]; exact a3.trans a1
      · rw [eL] at hk
        rw [hF.2 _ _ (by unfold PTl; omega), hM.1]; exact a4 k hk
    have n26 : m'.1 0 26 = nI (rL m') := by rw [e26, eL]; exact d1.1.1
    rw [n26]
    obtain ⟨r, w2, m2, u1, hF2, hM2, hr⟩ := q_known hG hNm
    rw [u1, cl_s, cl_s, lt_s']
    have hFa : FXL (fun a k => PTC a k ∨ (a = 44 ∧ (k = 18 ∨ k = 12 + j))) PTl w (wI w2 44 (12 + j) r) := ((hF.mo (fun a k q => by simp only [PED, PEM, PTC, PTM] at q ⊢; omega) (fun a k q => q)).tr (hF2.mo (fun a k q => Or.inl q) (fun a k q => q))).tr (FXL.w _ _ (by simp only [PED, PEM, PTC, PTM, and_true, true_and, or_true, true_or, and_self] <;> omega))
    have hMa : FX (fun a k => PTM a k ∨ (a = 0 ∧ (k = 36 ∨ k = 31 + j))) m m2 := (hM.mo (fun a k q => by simp only [PED, PEM, PTC, PTM] at q ⊢; omega)).tr (hM2.mo (fun a k q => Or.inl q))
    rcases hr with ⟨u2, hG2, hp2, g7, hv⟩ | ⟨u2, hf2, hv⟩
    · have k147 : X12_readSmall_b147 (nI j) m2 = some (1, wI m2 0 (31 + j) r) := by
        unfold X12_readSmall_b147 X12_readSmall_b159 X12_readSmall_b172 X12_readSmall_b185 X12_readSmall_b198
        rw [g7]
        rcases (show j = 0 ∨ j = 1 ∨ j = 2 by omega) with rfl | rfl | rfl <;> rfl
      rw [u2, cl_s, if_neg (show ¬ (1 : Int32) = 0 by decide), k147]
      have hMb : FX (fun a k => PTM a k ∨ (a = 0 ∧ (k = 36 ∨ k = 31 + j))) m (wI m2 0 (31 + j) r) := hMa.tr (FX.w _ _ (by simp only [PED, PEM, PTC, PTM, and_true, true_and, or_true, true_or, and_self] <;> omega))
      have s18 : (wI w2 44 (12 + j) r).1 44 18 = w.1 44 18 ||| nI (2 ^ j) := by rw [wI_g, if_neg (by omega), hF2.1 _ _ (by simp only [PED, PEM, PTC, PTM, and_true, true_and, or_true, true_or, and_self] <;> omega)]; exact e18
      have s36 : (wI m2 0 (31 + j) r).1 0 36 = m.1 0 36 ||| (1 <<< (nI j &&& 31)) := by rw [wI_g, if_neg (by omega), hM2.2 _ _ (by simp only [PED, PEM, PTC, PTM, and_true, true_and, or_true, true_or, and_self] <;> omega)]; exact e36
      obtain ⟨b1, b2⟩ := dS_or (w := w) (m := m) (x := 0) (y := 0) (show j < 5 by omega) s18 s36
      have eL2 : rL (wI m2 0 (31 + j) r) = rL m := by unfold rL; rw [hMb.2 0 26 (by simp only [PED, PEM, PTC, PTM, and_true, true_and, or_true, true_or, and_self] <;> omega)]
      have eP2 : rP (wI m2 0 (31 + j) r) = rP m := by unfold rP; rw [hMb.2 0 27 (by simp only [PED, PEM, PTC, PTM, and_true, true_and, or_true, true_or, and_self] <;> omega)]
      have eT2 : rT (wI m2 0 (31 + j) r) = rT m := by unfold rT; rw [hMb.2 0 28 (by simp only [PED, PEM, PTC, PTM, and_true, true_and, or_true, true_or, and_self] <;> omega)]
      have oth : DR (wI w2 44 (12 + j) r) (wI m2 0 (31 + j) r) := by
        refine ⟨?_, ?_, ?_, ?_, fun i hi => ?_, fun i hi => ?_, ?_, ?_⟩
        · unfold dN at d1 ⊢
          rw [eL2, eP2, eT2, hMb.2 0 26 (by simp only [PED, PEM, PTC, PTM, and_true, true_and, or_true, true_or, and_self] <;> omega), hMb.2 0 27 (by simp only [PED, PEM, PTC, PTM, and_true, true_and, or_true, true_or, and_self] <;> omega), hMb.2 0 28 (by simp only [PED, PEM, PTC, PTM, and_true, true_and, or_true, true_or, and_self] <;> omega), hFa.1 45 1 (by simp only [PED, PEM, PTC, PTM, and_true, true_and, or_true, true_or, and_self] <;> omega), hFa.1 47 1 (by simp only [PED, PEM, PTC, PTM, and_true, true_and, or_true, true_or, and_self] <;> omega), hFa.1 49 1 (by simp only [PED, PEM, PTC, PTM, and_true, true_and, or_true, true_or, and_self] <;> omega), hMb.1]
          simp only [fun k => hFa.2 46 k (by unfold PTl; omega), fun k => hFa.2 48 k (by unfold PTl; omega), fun k => hFa.2 50 k (by unfold PTl; omega)]
          exact d1
        · unfold dR at d2 ⊢
          rw [eL2]
          simp only [fun k => hFa.1 51 k (by simp only [PED, PEM, PTC, PTM, and_true, true_and, or_true, true_or, and_self] <;> omega), fun k => hMb.2 14 k (by simp only [PED, PEM, PTC, PTM, and_true, true_and, or_true, true_or, and_self] <;> omega)]
          exact d2
        · unfold dP dPk at d3 ⊢
          rw [eP2, hFa.1 44 10 (by simp only [PED, PEM, PTC, PTM, and_true, true_and, or_true, true_or, and_self] <;> omega), hFa.1 44 9 (by simp only [PED, PEM, PTC, PTM, and_true, true_and, or_true, true_or, and_self] <;> omega)]
          simp only [fun k => hFa.1 52 k (by simp only [PED, PEM, PTC, PTM, and_true, true_and, or_true, true_or, and_self] <;> omega), fun k => hFa.1 53 k (by simp only [PED, PEM, PTC, PTM, and_true, true_and, or_true, true_or, and_self] <;> omega), fun k => hFa.1 56 k (by simp only [PED, PEM, PTC, PTM, and_true, true_and, or_true, true_or, and_self] <;> omega), fun k => hMb.2 15 k (by simp only [PED, PEM, PTC, PTM, and_true, true_and, or_true, true_or, and_self] <;> omega), fun k => hMb.2 16 k (by simp only [PED, PEM, PTC, PTM, and_true, true_and, or_true, true_or, and_self] <;> omega), fun k => hMb.2 19 k (by simp only [PED, PEM, PTC, PTM, and_true, true_and, or_true, true_or, and_self] <;> omega)]
          exact d3
        · unfold dT dTk at d4 ⊢
          rw [eT2, eL2]
          simp only [fun k => hFa.1 54 k (by simp only [PED, PEM, PTC, PTM, and_true, true_and, or_true, true_or, and_self] <;> omega), fun k => hFa.1 55 k (by simp only [PED, PEM, PTC, PTM, and_true, true_and, or_true, true_or, and_self] <;> omega), fun k => hMb.2 17 k (by simp only [PED, PEM, PTC, PTM, and_true, true_and, or_true, true_or, and_self] <;> omega), fun k => hMb.2 18 k (by simp only [PED, PEM, PTC, PTM, and_true, true_and, or_true, true_or, and_self] <;> omega)]
          exact d4
        · unfold dSk
          rw [b1 i (by omega), b2 i (by omega), eL2]
          by_cases q : i = j
          · subst q
            rw [decide_eq_true rfl, Bool.or_true, Bool.or_true, wI_s, wI_s]
            refine ⟨rfl, fun _ => ⟨rfl, ?_⟩, fun q => by cases q⟩
            rw [← eL]; exact hv
          · rw [decide_eq_false q, Bool.or_false, Bool.or_false, hFa.1 44 (12 + i) (by simp only [PED, PEM, PTC, PTM, and_true, true_and, or_true, true_or, and_self] <;> omega), hMb.2 0 (31 + i) (by simp only [PED, PEM, PTC, PTM, and_true, true_and, or_true, true_or, and_self] <;> omega)]
            exact d5 i hi
        · rw [b1 (3 + i) (by omega), b2 (3 + i) (by omega), decide_eq_false (show ¬ 3 + i = j by omega), Bool.or_false, Bool.or_false, hFa.1 44 (15 + i) (by simp only [PED, PEM, PTC, PTM, and_true, true_and, or_true, true_or, and_self] <;> omega), hMb.2 0 (29 + i) (by simp only [PED, PEM, PTC, PTM, and_true, true_and, or_true, true_or, and_self] <;> omega)]
          exact d6 i hi
        · unfold dW at d7 ⊢
          rw [eP2, hFa.1 44 11 (by simp only [PED, PEM, PTC, PTM, and_true, true_and, or_true, true_or, and_self] <;> omega), hMb.2 0 34 (by simp only [PED, PEM, PTC, PTM, and_true, true_and, or_true, true_or, and_self] <;> omega)]; exact d7
        · unfold dC at d8 ⊢
          rw [hFa.1 44 17 (by simp only [PED, PEM, PTC, PTM, and_true, true_and, or_true, true_or, and_self] <;> omega), hMb.2 0 35 (by simp only [PED, PEM, PTC, PTM, and_true, true_and, or_true, true_or, and_self] <;> omega)]; exact d8
      exact ⟨_, _, rfl, hFa.mo (fun a k q => by simp only [PED, PEM, PTC, PTM] at q ⊢; omega) (fun a k q => Or.inl q), FX.xl (hMb.mo (fun a k q => by simp only [PED, PEM, PTC, PTM] at q ⊢; omega)), Or.inl ⟨rfl, (hG2.c (by omega) (by omega)).r (by omega), by rw [PTG_r (by omega)]; omega, oth⟩⟩
    · rw [u2, cl_s, if_pos (show (0 : Int32) = 0 from rfl)]
      exact ⟨_, m2, rfl, hFa.mo (fun a k q => by simp only [PED, PEM, PTC, PTM] at q ⊢; omega) (fun a k q => Or.inl q), FX.xl (hMa.mo (fun a k q => by simp only [PED, PEM, PTC, PTM] at q ⊢; omega)), Or.inr (Or.inl ⟨rfl, hf2.c (by omega)⟩)⟩
theorem q_amount (h : GR w m) (hD : DR w m) {i : Nat} (hi : i < 2) : ECL w m (cl (f_X0_readAmount (nI (2 ^ (3 + i))) w) fun r w1 => lt (wI w1 44 (15 + i) r) fun w2 => some w2) (X12_readSmall_b66 (nI (3 + i)) m) := by
  obtain ⟨d1, d2, d3, d4, d5, d6, d7, d8⟩ := hD
  have hb : bt (w.1 44 18) (3 + i) = bt (m.1 0 36) (3 + i) := (d6 i hi).1
  unfold f_X0_readAmount X12_readSmall_b66
  rw [if_neg (nI_n1 (n := 3 + i) (by omega)), if_bt1 (show 3 + i < 32 by omega)]
  rcases q_eonce h (show 3 + i < 5 by omega) hb with ⟨hj1, w', m', e1, e2, hf, hF, hM⟩ | ⟨hj0, w', m', e1, e2, hG, hp, e18, e36, hF, hM⟩
  · rw [if_pos hj1, e1, cv_s, zf_number hf.1, cl_s, cl_s, lt_s', e2, cl_s, if_pos (show isB 0 = true from rfl)]
    exact ⟨_, m', rfl, hF.tr (FXL.w _ _ (by simp only [PED, PEM, PTC, PTM, and_true, true_and, or_true, true_or, and_self] <;> omega)), PTM_E hM, Or.inr (Or.inl ⟨rfl, hf.c (by omega)⟩)⟩
  · rw [if_neg (by rw [hj0]; decide), e1, cv_s, lt_s', e2, cv_s, if_pos (show (3 : Int32) ≤ nI (3 + i) from nI_le (a := 3) (b := 3 + i) (by omega) (by omega))]
    obtain ⟨r, w2, m2, u1, hF2, hM2, hr⟩ := q_num hG 0 99999
    rw [u1, cl_s, cl_s, lt_s']
    have hFa : FXL (fun a k => PTC a k ∨ (a = 44 ∧ (k = 18 ∨ k = 15 + i))) PTl w (wI w2 44 (15 + i) r) := ((hF.mo (fun a k q => by simp only [PED, PEM, PTC, PTM] at q ⊢; omega) (fun a k q => q)).tr (hF2.mo (fun a k q => Or.inl q) (fun a k q => q))).tr (FXL.w _ _ (by simp only [PED, PEM, PTC, PTM, and_true, true_and, or_true, true_or, and_self] <;> omega))
    have hMa : FX (fun a k => PTM a k ∨ (a = 0 ∧ (k = 36 ∨ k = 29 + i))) m m2 := (hM.mo (fun a k q => by simp only [PED, PEM, PTC, PTM] at q ⊢; omega)).tr (hM2.mo (fun a k q => Or.inl q))
    rcases hr with ⟨u2, hG2, hp2, g7, hv⟩ | ⟨u2, hf2, hv⟩
    · have k147 : X12_readSmall_b147 (nI (3 + i)) m2 = some (1, wI m2 0 (29 + i) r) := by
        unfold X12_readSmall_b147 X12_readSmall_b159 X12_readSmall_b172 X12_readSmall_b185 X12_readSmall_b198
        rw [g7]
        rcases (show i = 0 ∨ i = 1 by omega) with rfl | rfl <;> rfl
      rw [u2, cl_s, if_neg (show ¬ (1 : Int32) = 0 by decide), k147]
      have i0 : (0 : Int32).toInt = 0 := rfl
      have i9 : (99999 : Int32).toInt = 99999 := rfl
      have nv : NN r 100000 := nn_i (by omega) (by omega)
      have hMb : FX (fun a k => PTM a k ∨ (a = 0 ∧ (k = 36 ∨ k = 29 + i))) m (wI m2 0 (29 + i) r) := hMa.tr (FX.w _ _ (by simp only [PED, PEM, PTC, PTM, and_true, true_and, or_true, true_or, and_self] <;> omega))
      have s18 : (wI w2 44 (15 + i) r).1 44 18 = w.1 44 18 ||| nI (2 ^ (3 + i)) := by rw [wI_g, if_neg (by omega), hF2.1 _ _ (by simp only [PED, PEM, PTC, PTM, and_true, true_and, or_true, true_or, and_self] <;> omega)]; exact e18
      have s36 : (wI m2 0 (29 + i) r).1 0 36 = m.1 0 36 ||| (1 <<< (nI (3 + i) &&& 31)) := by rw [wI_g, if_neg (by omega), hM2.2 _ _ (by simp only [PED, PEM, PTC, PTM, and_true, true_and, or_true, true_or, and_self] <;> omega)]; exact e36
      obtain ⟨b1, b2⟩ := dS_or (w := w) (m := m) (x := 0) (y := 0) (show 3 + i < 5 by omega) s18 s36
      have eL2 : rL (wI m2 0 (29 + i) r) = rL m := by unfold rL; rw [hMb.2 0 26 (by simp only [PED, PEM, PTC, PTM, and_true, true_and, or_true, true_or, and_self] <;> omega)]
      have eP2 : rP (wI m2 0 (29 + i) r) = rP m := by unfold rP; rw [hMb.2 0 27 (by simp only [PED, PEM, PTC, PTM, and_true, true_and, or_true, true_or, and_self] <;> omega)]
      have eT2 : rT (wI m2 0 (29 + i) r) = rT m := by unfold rT; rw [hMb.2 0 28 (by simp only [PED, PEM, PTC, PTM, and_true, true_and, or_true, true_or, and_self] <;> omega)]
      have oth : DR (wI w2 44 (15 + i) r) (wI m2 0 (29 + i) r) := by
        refine ⟨?_, ?_, ?_, ?_, fun j hj => ?_, fun j hj => ?_, ?_, ?_⟩
        · unfold dN at d1 ⊢
          rw [eL2, eP2, eT2, hMb.2 0 26 (by simp only [PED, PEM, PTC, PTM, and_true, true_and, or_true, true_or, and_self] <;> omega), hMb.2 0 27 (by simp only [PED, PEM, PTC, PTM, and_true, true_and, or_true, true_or, and_self] <;> omega), hMb.2 0 28 (by simp only [PED, PEM, PTC, PTM, and_true, true_and, or_true, true_or, and_self] <;> omega), hFa.1 45 1 (by simp only [PED, PEM, PTC, PTM, and_true, true_and, or_true, true_or, and_self] <;> omega), hFa.1 47 1 (by simp only [PED, PEM, PTC, PTM, and_true, true_and, or_true, true_or, and_self] <;> omega), hFa.1 49 1 (by simp only [PED, PEM, PTC, PTM, and_true, true_and, or_true, true_or, and_self] <;> omega), hMb.1]
          simp only [fun k => hFa.2 46 k (by unfold PTl; omega), fun k => hFa.2 48 k (by unfold PTl; omega), fun k => hFa.2 50 k (by unfold PTl; omega)]
          exact d1
        · unfold dR at d2 ⊢
          rw [eL2]
          simp only [fun k => hFa.1 51 k (by simp only [PED, PEM, PTC, PTM, and_true, true_and, or_true, true_or, and_self] <;> omega), fun k => hMb.2 14 k (by simp only [PED, PEM, PTC, PTM, and_true, true_and, or_true, true_or, and_self] <;> omega)]
          exact d2
        · unfold dP dPk at d3 ⊢
          rw [eP2, hFa.1 44 10 (by simp only [PED, PEM, PTC, PTM, and_true, true_and, or_true, true_or, and_self] <;> omega), hFa.1 44 9 (by simp only [PED, PEM, PTC, PTM, and_true, true_and, or_true, true_or, and_self] <;> omega)]
          simp only [fun k => hFa.1 52 k (by simp only [PED, PEM, PTC, PTM, and_true, true_and, or_true, true_or, and_self] <;> omega), fun k => hFa.1 53 k (by simp only [PED, PEM, PTC, PTM, and_true, true_and, or_true, true_or, and_self] <;> omega), fun k => hFa.1 56 k (by simp only [PED, PEM, PTC, PTM, and_true, true_and, or_true, true_or, and_self] <;> omega), fun k => hMb.2 15 k (by simp only [PED, PEM, PTC, PTM, and_true, true_and, or_true, true_or, and_self] <;> omega), fun k => hMb.2 16 k (by simp only [PED, PEM, PTC, PTM, and_true, true_and, or_true, true_or, and_self] <;> omega), fun k => hMb.2 19 k (by simp only [PED, PEM, PTC, PTM, and_true, true_and, or_true, true_or, and_self] <;> omega)]
          exact d3
        · unfold dT dTk at d4 ⊢
          rw [eT2, eL2]
          simp only [fun k => hFa.1 54 k (by simp only [PED, PEM, PTC, PTM, and_true, true_and, or_true, true_or, and_self] <;> omega), fun k => hFa.1 55 k (by simp only [PED, PEM, PTC, PTM, and_true, true_and, or_true, true_or, and_self] <;> omega), fun k => hMb.2 17 k (by simp only [PED, PEM, PTC, PTM, and_true, true_and, or_true, true_or, and_self] <;> omega), fun k => hMb.2 18 k (by simp only [PED, PEM, PTC, PTM, and_true, true_and, or_true, true_or, and_self] <;> omega)]
          exact d4
        · unfold dSk
          rw [b1 j (by omega), b2 j (by omega), eL2, decide_eq_false (show ¬ j = 3 + i by omega), Bool.or_false, Bool.or_false, hFa.1 44 (12 + j) (by simp only [PED, PEM, PTC, PTM, and_true, true_and, or_true, true_or, and_self] <;> omega), hMb.2 0 (31 + j) (by simp only [PED, PEM, PTC, PTM, and_true, true_and, or_true, true_or, and_self] <;> omega)]
          exact d5 j hj
        · rw [b1 (3 + j) (by omega), b2 (3 + j) (by omega)]
          by_cases q : j = i
          · subst q
            rw [decide_eq_true rfl, Bool.or_true, Bool.or_true, wI_s, wI_s]
            exact ⟨rfl, rfl, nv⟩
          · rw [decide_eq_false (show ¬ 3 + j = 3 + i by omega), Bool.or_false, Bool.or_false, hFa.1 44 (15 + j) (by simp only [PED, PEM, PTC, PTM, and_true, true_and, or_true, true_or, and_self] <;> omega), hMb.2 0 (29 + j) (by simp only [PED, PEM, PTC, PTM, and_true, true_and, or_true, true_or, and_self] <;> omega)]
            exact d6 j hj
        · unfold dW at d7 ⊢
          rw [eP2, hFa.1 44 11 (by simp only [PED, PEM, PTC, PTM, and_true, true_and, or_true, true_or, and_self] <;> omega), hMb.2 0 34 (by simp only [PED, PEM, PTC, PTM, and_true, true_and, or_true, true_or, and_self] <;> omega)]; exact d7
        · unfold dC at d8 ⊢
          rw [hFa.1 44 17 (by simp only [PED, PEM, PTC, PTM, and_true, true_and, or_true, true_or, and_self] <;> omega), hMb.2 0 35 (by simp only [PED, PEM, PTC, PTM, and_true, true_and, or_true, true_or, and_self] <;> omega)]; exact d8
      exact ⟨_, _, rfl, hFa.mo (fun a k q => by simp only [PED, PEM, PTC, PTM] at q ⊢; omega) (fun a k q => Or.inl q), FX.xl (hMb.mo (fun a k q => by simp only [PED, PEM, PTC, PTM] at q ⊢; omega)), Or.inl ⟨rfl, (hG2.c (by omega) (by omega)).r (by omega), by rw [PTG_r (by omega)]; omega, oth⟩⟩
    · rw [u2, cl_s, if_pos (show (0 : Int32) = 0 from rfl)]
      exact ⟨_, m2, rfl, hFa.mo (fun a k q => by simp only [PED, PEM, PTC, PTM] at q ⊢; omega) (fun a k q => Or.inl q), FX.xl (hMa.mo (fun a k q => by simp only [PED, PEM, PTC, PTM] at q ⊢; omega)), Or.inr (Or.inl ⟨rfl, hf2.c (by omega)⟩)⟩
end
