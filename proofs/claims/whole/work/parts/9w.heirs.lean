/-! witnesses and heirs -/
-- PTC PTM P14 P69 PRD PRR
section
variable {w m : Wd} {c p : Nat}
theorem zm_witN (hX : CTX w m p) (hb : gB w m c p) : f_X12_readWitness m = (if nI (fb_ct (bt (m.1 22 p)) 8) = 3 then
  (cl (f_X12_bad 4 m) fun r14 w13 =>
  if isB r14 = true then some (r14, w13) else none)
  else
  cv (f_X12_scan m) fun w2 =>
  if (w2.1 0 5) = 1 then
  (cl (f_X12_find 9 8 (w2.1 0 11) w2) fun r4 w3 =>
  if r4 = ((-1)) then
  (X12_readWitness_b103 (nI p) r4 w3)
  else
  if inb (nI p) 4 = true then
  (if (((w3.1 22 p) >>> (r4 &&& 31)) &&& 1) = 1 then
  (cl (f_X12_bad 3 w3) fun r10 w9 =>
  if isB r10 = true then some (r10, w9) else none)
  else
  X12_readWitness_b103 (nI p) r4 w3)
  else none)
  else
  cl (f_X12_bad 1 w2) fun r12 w11 =>
  if isB r12 = true then some (r12, w11) else none) := by
  obtain ⟨h49, hp4, h11, h8, -⟩ := hX
  have hct : fb_ct (bt (m.1 22 p)) 8 = fb_ct (bt (m.1 22 p)) (nPe m) := fb_cut h8 (fun i hi h => hb.2.1 i hi (by omega))
  unfold f_X12_readWitness
  rw [h49, lt_s', hct]
  refine (up4 (fun i => (nI p, nI (fb_ct (bt (m.1 22 p)) i), nI i, m)) (fun _ => _) (nPe m) ?_ ?_ fu 0 (by omega) (by rw [fu_eq]; omega))
  · intro i k hi hk
    dsimp only at hk ⊢
    rw [X12_readWitness_b9, h11, if_neg (nI_ge hi (by omega)), if_pos (z_inb hp4 (by omega)), nI_clamp (by omega), lt_s']
    rw [z_bit (show i < 32 by omega), nI_1]
    rw [fb_ct_succ] at hk
    refine Eq.trans (congrArg (fun z => k (nI p) z (nI (i + 1)) m) ?_) hk
    cases bt (m.1 22 p) i
    · rw [if_neg (by decide), bI_f, Int32.add_zero, Nat.add_zero]
    · rw [if_pos rfl, bI_t]; exact nI_1 _
  · intro k
    dsimp only
    rw [X12_readWitness_b9, h11, if_pos (nI_le (Nat.le_refl _) (by omega)), nI_clamp (n := p) (by omega)]
theorem q_wit (h : GR w m) (hP : PPR w m c p) (hc : 57 ≤ c) (hX : CTX w m p) : CLA c p w m (cv (f_X6_readWitness c w) fun w36 => some w36) (f_X12_readWitness m) := by
  have hp4 := hX.2.1
  obtain ⟨h1, h2, h3, h4, h5, h6, h7, h8, h9⟩ := hP
  rw [zm_witN hX h2]
  have hP8 := hX.2.2.2.1
  unfold f_X6_readWitness X6_readWitness_b16
  rw [h2.1, zc_bc (fun i h8 hi => h2.2.1 i (by omega) hi), cl_s]
  have hct := h2.2.2
  by_cases c3 : fb_ct (bt (m.1 22 p)) 8 = 3
  · rw [if_pos (show nI (fb_ct (bt (m.1 22 p)) 8) = 3 from congrArg nI c3), if_neg (show ¬ nI (fb_ct (bt (m.1 22 p)) 8) < 3 by rw [c3]; decide)]
    obtain ⟨w', m', e1, e2, hf, hF, hM⟩ := q_fail h (k := 4) (by decide)
    rw [e1, cv_s, zf_step hf.1, cv_s, zf_known hf.1, cl_s, zf_bit, cl_s, lt_s', cv_s, e2, cl_s, if_pos (show isB 0 = true from rfl)]
    exact ⟨_, m', rfl, (PTC_D hF).tr (FXL.w _ _ (by simp only [PTC, PTM, P14, P69, PRD, PRR, and_true, true_and, or_true, true_or, and_self] <;> omega)), PTM_R hM, Or.inr ⟨rfl, hf.c (by omega)⟩⟩
  · rw [if_neg (show ¬ nI (fb_ct (bt (m.1 22 p)) 8) = 3 from fun q => c3 ((nI_eq (b := 3) (by omega) (by omega)).mp q)), if_pos (show nI (fb_ct (bt (m.1 22 p)) 8) < 3 from nI_lt (b := 3) (by omega) (by omega))]
    obtain ⟨w', m', e1, e2, hG, hp, -, hF, hM⟩ := q_step h
    have hX' := hX.fr hc (PTC_D hF) (PTM_R (p := p) hM)
    have e22 : m'.1 22 p = m.1 22 p := hM.2 _ _ (by simp only [PTC, PTM, P14, P69, PRD, PRR, and_true, true_and, or_true, true_or, and_self] <;> omega)
    have ec2 : w'.1 c 2 = m'.1 22 p := (hF.1 _ _ (by simp only [PTC, PTM, P14, P69, PRD, PRR, and_true, true_and, or_true, true_or, and_self] <;> omega)).trans (h2.1.trans e22.symm)
    have ePe : nPe m' = nPe m := by unfold nPe; rw [hM.2 0 11 (by simp only [PTC, PTM, P14, P69, PRD, PRR, and_true, true_and, or_true, true_or, and_self] <;> omega)]
    rw [e1, cv_s, e2, cv_s, ec2]
    unfold f_X10_known
    rw [hG.kd]
    by_cases k1 : m'.1 0 5 = 1
    · rw [if_pos k1, if_pos k1, hX'.2.2.1]
      obtain ⟨r, u1, u2, hr⟩ := q_find hG k1 hX'.2.2.2.2.2.2.1
      rw [u1, cl_s, u2, cl_s]
      by_cases d : r = -1
      · subst d
        rw [if_pos rfl, if_pos rfl]
        unfold X12_readWitness_b103
        rw [if_pos rfl]
        obtain ⟨w2, m2, x1, x2, hf, hF2, hM2⟩ := q_fail hG (k := 5) (by decide)
        rw [x1, cv_s, cl_s, zf_bit, cl_s, lt_s', cv_s, x2, cl_s, if_pos (show isB 0 = true from rfl)]
        exact ⟨_, m2, rfl, ((PTC_D hF).tr (PTC_D hF2)).tr (FXL.w _ _ (by simp only [PTC, PTM, P14, P69, PRD, PRR, and_true, true_and, or_true, true_or, and_self] <;> omega)), (PTM_R hM).tr (PTM_R hM2), Or.inr ⟨rfl, hf.c (by omega)⟩⟩
      · obtain ⟨i, hi, rfl⟩ := hr.resolve_left d
        have hi8 : i < 8 := by omega
        rw [if_neg d, if_neg d, if_pos (z_inb hp4 (by omega)), if_bt (show i < 32 by omega), if_bt1 (show i < 32 by omega)]
        cases hb : bt (m'.1 22 p) i
        · rw [if_pos (show false = false from rfl), if_neg (show ¬ false = true by decide)]
          unfold X12_readWitness_b103
          rw [if_neg d, if_pos (z_inb hp4 (by omega)), if_pos (z_inb hp4 (by omega)), nI_clamp (n := p) (by omega), lt_s']
          obtain ⟨w2, m2, x1, x2, hG2, hp2, -, hF2, hM2⟩ := q_step (hG.r (a := 22) (k := p) (v := m'.1 22 p ||| (1 <<< (nI i &&& 31))) (by omega))
          rw [PTG_r (by omega)] at hp2
          rw [x1, cv_s, cl_s, zc_bit (by omega), cl_s, lt_s', cv_s, x2, cv_s]
          have hFa : FXL (fun a k => PTC a k ∨ (a = c ∧ k = 2)) PTl w (wI w2 c 2 (m'.1 22 p ||| (1 <<< (nI i &&& 31)))) := ((hF.mo (fun a k q => by simp only [PTC, PTM, P14, P69, PRD, PRR] at q ⊢; omega) (fun a k q => q)).tr (hF2.mo (fun a k q => Or.inl q) (fun a k q => q))).tr (FXL.w _ _ (by simp only [PTC, PTM, P14, P69, PRD, PRR, and_true, true_and, or_true, true_or, and_self] <;> omega))
          have hMa : FX (fun a k => PTM a k ∨ (k = p ∧ a = 22)) m m2 := ((hM.mo (fun a k q => by simp only [PTC, PTM, P14, P69, PRD, PRR] at q ⊢; omega)).tr (FX.w _ _ (by simp only [PTC, PTM, P14, P69, PRD, PRR, and_true, true_and, or_true, true_or, and_self] <;> omega))).tr (hM2.mo (fun a k q => Or.inl q))
          have e222 : m2.1 22 p = m'.1 22 p ||| (1 <<< (nI i &&& 31)) := by rw [hM2.2 _ _ (by simp only [PTC, PTM, P14, P69, PRD, PRR, and_true, true_and, or_true, true_or, and_self] <;> omega), wI_s]
          have gBn : gB (wI w2 c 2 (m'.1 22 p ||| (1 <<< (nI i &&& 31)))) m2 c p := by
            refine ⟨by rw [wI_s, e222], fun j hj hj32 => ?_, ?_⟩
            · have ePe2 : nPe m2 = nPe m := by unfold nPe; rw [hMa.2 0 11 (by simp only [PTC, PTM, P14, P69, PRD, PRR, and_true, true_and, or_true, true_or, and_self] <;> omega)]
              rw [e222, b_or, z_one (by omega) (by omega), e22, h2.2.1 j (by omega) hj32, decide_eq_false (show ¬ j = i by omega)]; rfl
            · rw [e222, ct_add hi8 hb, e22]; omega
          refine ⟨_, _, rfl, hFa.mo (fun a k q => by simp only [PTC, PTM, P14, P69, PRD, PRR] at q ⊢; omega) (fun a k q => q), hMa.mo (fun a k q => by simp only [PTC, PTM, P14, P69, PRD, PRR] at q ⊢; omega), Or.inl ⟨rfl, hG2.c (by omega) (by omega), by omega, h1.fr hFa hMa ?_ ?_ ?_ ?_, gBn, h3.fr hFa hMa ?_ ?_ ?_ (fun k => ?_), h4.fr hFa hMa ?_ ?_ ?_ ?_, h5.fr hFa hMa ?_ ?_, h6.fr hFa hMa ?_ ?_, h7.fr hFa hMa ?_ ?_ (fun a k _ _ => ?_) ?_ (fun a k _ => ?_) ?_ ?_, h8.fr hFa hMa ?_ ?_ ?_ ?_ ?_ ?_, h9.fr hFa hMa ?_ ?_ (fun k => ?_) ?_ (fun k => ?_)⟩⟩
          all_goals (simp only [PTC, PTM, P14, P69, PRD, PRR, and_true, true_and, or_true, true_or, and_self] <;> omega)
        · rw [if_neg (show ¬ true = false by decide), if_pos (show true = true from rfl)]
          obtain ⟨w2, m2, x1, x2, hf, hF2, hM2⟩ := q_fail hG (k := 3) (by decide)
          rw [x1, cv_s, cl_s, zf_bit, cl_s, lt_s', cv_s, x2, cl_s, if_pos (show isB 0 = true from rfl)]
          exact ⟨_, m2, rfl, ((PTC_D hF).tr (PTC_D hF2)).tr (FXL.w _ _ (by simp only [PTC, PTM, P14, P69, PRD, PRR, and_true, true_and, or_true, true_or, and_self] <;> omega)), (PTM_R hM).tr (PTM_R hM2), Or.inr ⟨rfl, hf.c (by omega)⟩⟩
    · rw [if_neg k1, if_neg k1]
      obtain ⟨w2, m2, x1, x2, hf, hF2, hM2⟩ := q_fail hG (k := 1) (by decide)
      rw [x1, cv_s, cl_s, zf_bit, cl_s, lt_s', cv_s, x2, cl_s, if_pos (show isB 0 = true from rfl)]
      exact ⟨_, m2, rfl, ((PTC_D hF).tr (PTC_D hF2)).tr (FXL.w _ _ (by simp only [PTC, PTM, P14, P69, PRD, PRR, and_true, true_and, or_true, true_or, and_self] <;> omega)), (PTM_R hM).tr (PTM_R hM2), Or.inr ⟨rfl, hf.c (by omega)⟩⟩
end
