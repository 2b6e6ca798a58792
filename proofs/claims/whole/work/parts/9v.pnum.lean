/-! papers by number, witnesses -/
-- PTC PTM P14 P69 PRD PRR
theorem ct_add {x : Int32} {i : Nat} (hi : i < 8) (h : bt x i = false) : fb_ct (bt (x ||| (1 <<< (nI i &&& 31)))) 8 = fb_ct (bt x) 8 + 1 := by
  have e : fb_ct (bt (x ||| (1 <<< (nI i &&& 31)))) 8 = fb_ct (fun k => if k = i then true else bt x k) 8 := fb_ct_cong (fun k hk => by
    rw [b_or, z_one (by omega) (by omega)]
    by_cases c : k = i
    · rw [if_pos c, decide_eq_true c, Bool.or_true]
    · rw [if_neg c, decide_eq_false c, Bool.or_false])
  have := fb_ct_upd (bt x) true (i := i) (n := 8) hi
  rw [h, if_neg (by decide), if_pos rfl, Nat.add_zero] at this
  rw [e]; exact this
theorem pm1 : ∀ p, p < 4 → (nI p - 1).toInt = (p : Int) - 1 := by decide
section
variable {w m : Wd} {c p : Nat}
theorem zc_32f {w' : Wd} {a v : Int32} (h : f_X10_number 0 (a - 1) w = some (v, w')) (hf : FLT w') : X10_paperNumber_b32 a w = some (-1, w') := by
  unfold X10_paperNumber_b32
  rw [h, cl_s, zf_failed hf, cl_s, if_neg (by decide)]
theorem zc_32t {w' : Wd} {a v : Int32} (h : f_X10_number 0 (a - 1) w = some (v, w')) (hf : w'.1 1 4 = 0) : X10_paperNumber_b32 a w = some (v, w') := by
  unfold X10_paperNumber_b32 f_X10_hasFailed
  rw [h, cl_s, if_pos hf, cl_s, if_pos rfl]
theorem q_pnum (h : GR w m) (hp : p < 4) : PRM w m (X10_paperNumber_b32 (nI p) w) (f_X12_number 0 (nI p - 1) m) (-1) (fun v => NN v p) := by
  obtain ⟨v, w', m', e1, hF, hM, hr⟩ := q_num h 0 (nI p - 1)
  rcases hr with ⟨e2, hG, hg, g7, hv⟩ | ⟨e2, hf, hv⟩
  · refine ⟨v, w', m', zc_32t e1 hG.f0, hF, hM, Or.inl ⟨e2, hG, hg, g7, ?_⟩⟩
    have i0 : (0 : Int32).toInt = 0 := rfl
    rw [pm1 p hp] at hv
    exact ⟨v.toInt.toNat, by omega, by apply Int32.toInt_inj.mp; rw [nI_toInt (by omega)]; omega⟩
  · exact ⟨-1, w', m', zc_32f e1 hf.1, hF, hM, Or.inr ⟨e2, hf, rfl⟩⟩
theorem q_pnot (h : GR w m) (hp : p < 4) (h49 : m.1 0 49 = nI p) (x : Int32) : PRM w m (f_X10_paperNumber (nI p) x w) (f_X12_paperNot x m) (-1) (fun v => NN v p ∧ ∀ i, v = nI i → i < 32 → bt x i = false) := by
  obtain ⟨v, w', m', e1, hF, hM, hr⟩ := q_pnum h hp
  unfold f_X10_paperNumber f_X12_paperNot
  rw [h.kd, h49]
  have i0 : (0 : Int32).toInt = 0 := rfl
  unfold f_X12_number at hr
  by_cases c : m.1 0 5 = 2
  · obtain ⟨k, hk, ek⟩ := h.vn c
    rw [if_pos c, h.vl c, ek]
    unfold f_X12_peek at hr ⊢
    rw [if_pos c, m_in, cl_s, if_b0, z_l, z_l, i0, pm1 p hp, ek, nI_toInt (by omega)] at hr ⊢
    by_cases d : k < p
    · rw [decide_eq_true (show (0 : Int) ≤ (k : Int) ∧ (k : Int) ≤ (p : Int) - 1 by omega), if_neg (show ¬ true = false by decide), lt_s', cl_s, if_neg (show ¬ (1 : Int32) = 0 by decide)] at hr ⊢
      rw [if_neg (nI_ge d (by omega)), if_bt (show k < 32 by omega), wI_s, if_bt1 (show k < 32 by omega)]
      cases hb : bt x k
      · rw [if_pos rfl, if_neg (by decide)]
        rcases hr with ⟨e2, hG, hg, g7, hv⟩ | ⟨e2, hf, hv⟩
        · refine ⟨v, w', m', e1, hF, hM, Or.inl ⟨e2, hG, hg, g7, hv, fun i hi hi32 => ?_⟩⟩
          have e7 : m'.1 0 7 = nI k := by
            obtain ⟨w2, m2, u1, u2, -, -, -, -, u3⟩ := q_step (h.w7 (nI k))
            rw [u2, cv_s] at e2
            have em := (Prod.mk.inj (Option.some.inj e2)).2
            rw [← em]
            obtain ⟨⟨n, f, e, k1, k2, k3, k4, k5, k6, k7, k8, k9, k10, k11, k12, k13, -⟩, g1, g2, g3⟩ := h.w7 (nI k)
            obtain ⟨v3, x1, -, -, -, -, x2⟩ := zm_tok k7 k1 k11 k3 (fun k _ => k5 k)
            rw [u2] at x1
            cases x1
            rw [x2.2 0 7 (by unfold PTm; omega), wI_s]
          have : nI k = nI i := e7.symm.trans (g7.trans hi)
          rw [nI_eq (by omega) (by omega)] at this
          rw [← this]; exact hb
        · exfalso
          obtain ⟨w2, m2, u1, u2, -⟩ := q_step (h.w7 (nI k))
          rw [u2, cv_s] at e2
          have := (Prod.mk.inj (Option.some.inj e2)).1
          exact absurd this (by decide)
      · rw [if_neg (by decide), if_pos rfl]
        obtain ⟨w2, m2, u1, u2, hf, hF2, hM2⟩ := q_fail (h.w7 (nI k)) (k := 3) (by decide)
        rw [u1, cv_s, zc_32f (zf_number hf.1 _ _) hf.1, u2, cl_s, if_pos (show isB 0 = true from rfl)]
        exact ⟨-1, w2, m2, rfl, hF2, (FX.w m _ (by simp only [PTC, PTM, PTm, P14, P69, PRD, PRR, and_true, true_and, or_true, true_or, and_self] <;> omega)).tr hM2, Or.inr ⟨rfl, hf, rfl⟩⟩
    · rw [decide_eq_false (show ¬ ((0 : Int) ≤ (k : Int) ∧ (k : Int) ≤ (p : Int) - 1) by omega), if_pos (show false = false from rfl)] at hr ⊢
      rw [if_pos (nI_le (by omega) (by omega))]
      obtain ⟨w2, m2, u1, u2, -⟩ := q_fail h (k := 2) (by decide)
      rw [u2, cl_s, if_pos (show isB 0 = true from rfl), cl_s, if_pos (show (0 : Int32) = 0 from rfl)] at hr ⊢
      rcases hr with ⟨e2, -⟩ | ⟨e2, hf, hv⟩
      · exact absurd (Prod.mk.inj (Option.some.inj e2)).1 (by decide)
      · exact ⟨v, w', m', e1, hF, hM, Or.inr ⟨e2, hf, hv⟩⟩
  · rw [if_neg c]
    unfold f_X12_peek at hr ⊢
    rw [if_neg c] at hr ⊢
    obtain ⟨w2, m2, u1, u2, -⟩ := q_fail h (k := 1) (by decide)
    rw [u2, cl_s, if_pos (show isB 0 = true from rfl), cl_s, if_pos (show (0 : Int32) = 0 from rfl)] at hr ⊢
    rcases hr with ⟨e2, -⟩ | ⟨e2, hf, hv⟩
    · exact absurd (Prod.mk.inj (Option.some.inj e2)).1 (by decide)
    · exact ⟨v, w', m', e1, hF, hM, Or.inr ⟨e2, hf, hv⟩⟩
/-- with -/
theorem q_with (h : GR w m) (hP : PPR w m c p) (hc : 57 ≤ c) (hX : CTX w m p) : CLA c p w m (cv (f_X6_passOnce c 32 w) fun w25 => cl (f_X10_paperNumber (nI p) 0 w25) fun r27 w26 => lt (wI w26 c 7 r27) fun w28 => some w28) (X12_readOnce_b88 (nI p) (nI 5) m) := by
  have hp4 := hX.2.1
  obtain ⟨h1, h2, h3, h4, h5, h6, h7, h8, h9⟩ := hP
  have hb : bt (w.1 c 14) 5 = bt (m.1 0 69) 5 := h8.1.2.2.2.2.2.2.2.2.2
  unfold X12_readOnce_b88
  rw [if_neg (show ¬ nI 5 = -1 by decide), if_bt1 (show 5 < 32 by omega), show (32 : Int32) = nI (2 ^ 5) from rfl]
  rcases q_once h hc (show 5 < 6 by omega) hb with ⟨hj, w', m', e1, e2, hf, hF, hM⟩ | ⟨hj, w', m', e1, e2, hG, hp, e14, e69, hF, hM⟩
  · rw [if_pos hj, e1, cv_s, e2, cl_s, if_pos (show isB 0 = true from rfl), zf_paperNumber hf.1, cl_s, lt_s']
    exact ⟨_, m', rfl, (hF.mo (fun a k q => by simp only [PTC, PTM, PTm, P14, P69, PRD, PRR] at q ⊢; omega) (fun a k q => q)).tr (FXL.w _ _ (by simp only [PTC, PTM, PTm, P14, P69, PRD, PRR, and_true, true_and, or_true, true_or, and_self] <;> omega)), PTM_R hM, Or.inr ⟨rfl, hf.c (by omega)⟩⟩
  · have k199 : X12_readOnce_b199 (nI p) (nI 5) m' = X12_readOnce_b235 (nI p) (nI 5) m' := rfl
    rw [if_neg (by rw [hj]; decide), e1, cv_s, lt_s', if_neg (show ¬ nI 5 = 4 by decide), e2, cv_s, if_neg (show ¬ nI 5 = 0 by decide), k199]
    unfold X12_readOnce_b235
    rw [if_pos (show nI 5 = 5 from rfl)]
    obtain ⟨v1, w2, m2, u1, hF2, hM2, hr⟩ := q_pnum hG hp4
    have hpn : f_X10_paperNumber (nI p) 0 w' = X10_paperNumber_b32 (nI p) w' := by
      unfold f_X10_paperNumber
      rw [hG.kd]
      by_cases c2 : m'.1 0 5 = 2
      · obtain ⟨k, hk, ek⟩ := hG.vn c2
        rw [if_pos c2, hG.vl c2, ek]
        by_cases d : p ≤ k
        · rw [if_pos (nI_le d (by omega))]
        · rw [if_neg (nI_ge (by omega) (by omega)), if_bt (show k < 32 by omega), b_0, if_pos rfl]
      · rw [if_neg c2]
    rw [hpn, u1, cl_s, lt_s']
    have hFa : FXL (fun a k => PTC a k ∨ (a = c ∧ (k = 14 ∨ k = 7))) PTl w (wI w2 c 7 v1) := ((hF.mo (fun a k q => by simp only [PTC, PTM, PTm, P14, P69, PRD, PRR] at q ⊢; omega) (fun a k q => q)).tr (hF2.mo (fun a k q => Or.inl q) (fun a k q => q))).tr (FXL.w _ _ (by simp only [PTC, PTM, PTm, P14, P69, PRD, PRR, and_true, true_and, or_true, true_or, and_self] <;> omega))
    have hMa : FX (fun a k => PTM a k ∨ (a = 0 ∧ k = 69) ∨ (k = p ∧ a = 27)) m m2 := (hM.mo (fun a k q => by simp only [PTC, PTM, PTm, P14, P69, PRD, PRR] at q ⊢; omega)).tr (hM2.mo (fun a k q => Or.inl q))
    rcases hr with ⟨u2, hG2, hp2, g7, hv⟩ | ⟨u2, hf, hv⟩
    · rw [u2, cl_s, if_neg (show ¬ (1 : Int32) = 0 by decide), if_pos (z_inb hp4 (by omega)), nI_clamp (n := p) (by omega), lt_s', g7]
      have hMb : FX (fun a k => PTM a k ∨ (a = 0 ∧ k = 69) ∨ (k = p ∧ a = 27)) m (wI m2 27 p v1) := hMa.tr (FX.w _ _ (by simp only [PTC, PTM, PTm, P14, P69, PRD, PRR, and_true, true_and, or_true, true_or, and_self] <;> omega))
      have gVn : gV (wI w2 c 7 v1) (wI m2 27 p v1) c p := ⟨by rw [wI_s, wI_s], by rw [wI_s]; exact Or.inr hv⟩
      have g14 : (wI w2 c 7 v1).1 c 14 = w.1 c 14 ||| nI (2 ^ 5) := by rw [wI_g, if_neg (by omega), hF2.1 _ _ (by simp only [PTC, PTM, PTm, P14, P69, PRD, PRR, and_true, true_and, or_true, true_or, and_self] <;> omega)]; exact e14
      have g69 : (wI m2 27 p v1).1 0 69 = m.1 0 69 ||| (1 <<< (nI 5 &&& 31)) := by rw [wI_g, if_neg (by omega), hM2.2 _ _ (by simp only [PTC, PTM, PTm, P14, P69, PRD, PRR, and_true, true_and, or_true, true_or, and_self] <;> omega)]; exact e69
      have gFn : gF (wI w2 c 7 v1) (wI m2 27 p v1) c p := gF_or (ib := 5) (jt := 5) h8 (by omega) g14 g69 (fun o ho1 ho2 => by rw [if_neg (by omega), hMb.2 _ _ (by simp only [PTC, PTM, PTm, P14, P69, PRD, PRR, and_true, true_and, or_true, true_or, and_self] <;> omega)]) (Or.inr (hMb.2 _ _ (by simp only [PTC, PTM, PTm, P14, P69, PRD, PRR, and_true, true_and, or_true, true_or, and_self] <;> omega)))
      refine ⟨_, _, rfl, hFa.mo (fun a k q => by simp only [PTC, PTM, PTm, P14, P69, PRD, PRR] at q ⊢; omega) (fun a k q => q), hMb.mo (fun a k q => by simp only [PTC, PTM, PTm, P14, P69, PRD, PRR] at q ⊢; omega), Or.inl ⟨rfl, (hG2.c (by omega) (by omega)).r (by omega), by rw [PTG_r (by omega)]; omega, h1.fr hFa hMb ?_ ?_ ?_ ?_, h2.fr hFa hMb ?_ ?_ ?_, h3.fr hFa hMb ?_ ?_ ?_ (fun k => ?_), h4.fr hFa hMb ?_ ?_ ?_ ?_, h5.fr hFa hMb ?_ ?_, gVn, h7.fr hFa hMb ?_ ?_ (fun a k _ _ => ?_) ?_ (fun a k _ => ?_) ?_ ?_, gFn, h9.fr hFa hMb ?_ ?_ (fun k => ?_) ?_ (fun k => ?_)⟩⟩
      all_goals (simp only [PTC, PTM, PTm, P14, P69, PRD, PRR, and_true, true_and, or_true, true_or, and_self] <;> omega)
    · rw [u2, cl_s, if_pos (show (0 : Int32) = 0 from rfl)]
      exact ⟨_, m2, rfl, hFa.mo (fun a k q => by simp only [PTC, PTM, PTm, P14, P69, PRD, PRR] at q ⊢; omega) (fun a k q => q), hMa.mo (fun a k q => by simp only [PTC, PTM, PTm, P14, P69, PRD, PRR] at q ⊢; omega), Or.inr ⟨rfl, hf.c (by omega)⟩⟩
/-- again -/
theorem q_again (h : GR w m) (hP : PPR w m c p) (hc : 57 ≤ c) (hX : CTX w m p) : CLA c p w m (cv (f_X10_step w) fun w20 => cl (f_X10_paperNumber (nI p) (w20.1 c 6) w20) fun r30 w29 => cl (f_X6_bit r30 w29) fun r32 w31 => lt (wI w31 c 6 ((w20.1 c 6) ||| r32)) fun w33 => some w33) (f_X12_readAgain m) := by
  have hp4 := hX.2.1
  obtain ⟨h1, h2, h3, h4, h5, h6, h7, h8, h9⟩ := hP
  unfold f_X12_readAgain
  obtain ⟨w', m', e1, e2, hG, hp, -, hF, hM⟩ := q_step h
  have h49 : m'.1 0 49 = nI p := (hM.2 _ _ (by simp only [PTC, PTM, PTm, P14, P69, PRD, PRR, and_true, true_and, or_true, true_or, and_self] <;> omega)).trans hX.1
  have e26 : m'.1 26 p = m.1 26 p := hM.2 _ _ (by simp only [PTC, PTM, PTm, P14, P69, PRD, PRR, and_true, true_and, or_true, true_or, and_self] <;> omega)
  have e6 : w'.1 c 6 = m'.1 26 p := (hF.1 _ _ (by simp only [PTC, PTM, PTm, P14, P69, PRD, PRR, and_true, true_and, or_true, true_or, and_self] <;> omega)).trans (h5.1.trans e26.symm)
  rw [e1, cv_s, e2, cv_s, h49, if_pos (z_inb hp4 (by omega)), nI_clamp (n := p) (by omega), e6]
  obtain ⟨v1, w2, m2, u1, hF2, hM2, hr⟩ := q_pnot hG hp4 h49 (m'.1 26 p)
  rw [u1, cl_s]
  have h492 : m2.1 0 49 = nI p := (hM2.2 _ _ (by simp only [PTC, PTM, PTm, P14, P69, PRD, PRR, and_true, true_and, or_true, true_or, and_self] <;> omega)).trans h49
  have e262 : m2.1 26 p = m'.1 26 p := hM2.2 _ _ (by simp only [PTC, PTM, PTm, P14, P69, PRD, PRR, and_true, true_and, or_true, true_or, and_self] <;> omega)
  rcases hr with ⟨u2, hG2, hp2, g7, ⟨i, hi, rfl⟩, hv⟩ | ⟨u2, hf, rfl⟩
  · rw [zc_bit (by omega), cl_s, lt_s', u2, cl_s, if_neg (show ¬ (1 : Int32) = 0 by decide), h492, if_pos (z_inb hp4 (by omega)), if_pos (z_inb hp4 (by omega)), nI_clamp (n := p) (by omega), lt_s', g7, e262]
    have hFa : FXL (fun a k => PTC a k ∨ (a = c ∧ k = 6)) PTl w (wI w2 c 6 (m'.1 26 p ||| (1 <<< (nI i &&& 31)))) := ((hF.mo (fun a k q => by simp only [PTC, PTM, PTm, P14, P69, PRD, PRR] at q ⊢; omega) (fun a k q => q)).tr (hF2.mo (fun a k q => Or.inl q) (fun a k q => q))).tr (FXL.w _ _ (by simp only [PTC, PTM, PTm, P14, P69, PRD, PRR, and_true, true_and, or_true, true_or, and_self] <;> omega))
    have hMa : FX (fun a k => PTM a k ∨ (k = p ∧ a = 26)) m (wI m2 26 p (m'.1 26 p ||| (1 <<< (nI i &&& 31)))) := ((hM.mo (fun a k q => by simp only [PTC, PTM, PTm, P14, P69, PRD, PRR] at q ⊢; omega)).tr (hM2.mo (fun a k q => Or.inl q))).tr (FX.w _ _ (by simp only [PTC, PTM, PTm, P14, P69, PRD, PRR, and_true, true_and, or_true, true_or, and_self] <;> omega))
    have gWn : gW (wI w2 c 6 (m'.1 26 p ||| (1 <<< (nI i &&& 31)))) (wI m2 26 p (m'.1 26 p ||| (1 <<< (nI i &&& 31)))) c p := ⟨by rw [wI_s, wI_s], fun j hj hj32 => by
      rw [wI_s, b_or, z_one (by omega) (by omega), e26, h5.2 j hj hj32, decide_eq_false (show ¬ j = i by omega)]; rfl⟩
    refine ⟨_, _, rfl, hFa.mo (fun a k q => by simp only [PTC, PTM, PTm, P14, P69, PRD, PRR] at q ⊢; omega) (fun a k q => q), hMa.mo (fun a k q => by simp only [PTC, PTM, PTm, P14, P69, PRD, PRR] at q ⊢; omega), Or.inl ⟨rfl, (hG2.c (by omega) (by omega)).r (by omega), by rw [PTG_r (by omega)]; omega, h1.fr hFa hMa ?_ ?_ ?_ ?_, h2.fr hFa hMa ?_ ?_ ?_, h3.fr hFa hMa ?_ ?_ ?_ (fun k => ?_), h4.fr hFa hMa ?_ ?_ ?_ ?_, gWn, h6.fr hFa hMa ?_ ?_, h7.fr hFa hMa ?_ ?_ (fun a k _ _ => ?_) ?_ (fun a k _ => ?_) ?_ ?_, h8.fr hFa hMa ?_ ?_ ?_ ?_ ?_ ?_, h9.fr hFa hMa ?_ ?_ (fun k => ?_) ?_ (fun k => ?_)⟩⟩
    all_goals (simp only [PTC, PTM, PTm, P14, P69, PRD, PRR, and_true, true_and, or_true, true_or, and_self] <;> omega)
  · rw [zf_bit, cl_s, lt_s', u2, cl_s, if_pos (show (0 : Int32) = 0 from rfl)]
    exact ⟨_, m2, rfl, ((hF.mo (fun a k q => by simp only [PTC, PTM, PTm, P14, P69, PRD, PRR] at q ⊢; omega) (fun a k q => q)).tr (PTC_D hF2)).tr (FXL.w _ _ (by simp only [PTC, PTM, PTm, P14, P69, PRD, PRR, and_true, true_and, or_true, true_or, and_self] <;> omega)), (PTM_R hM).tr (PTM_R hM2), Or.inr ⟨rfl, hf.c (by omega)⟩⟩
/-- undo -/
theorem q_undo (h : GR w m) (hP : PPR w m c p) (hc : 57 ≤ c) (hX : CTX w m p) : CLA c p w m (cv (f_X10_step w) fun w18 => cv (f_X6_readUndo c (nI p) w18) fun w34 => some w34) (f_X12_readUndo m) := by
  have hp4 := hX.2.1
  obtain ⟨h1, h2, h3, h4, h5, h6, h7, h8, h9⟩ := hP
  unfold f_X12_readUndo
  obtain ⟨w', m', e1, e2, hG, hp, -, hF, hM⟩ := q_step h
  rw [e1, cv_s, hX.1, lt_s', e2, cv_s, zm_isT hG (by omega), cl_s, if_b0]
  unfold f_X6_readUndo
  rcases zc_passT hG (show 44 < 47 by omega) with ⟨hn, u1⟩ | ⟨hy, w2, u1, u2⟩
  · rw [u1, cl_s, if_pos (show (0 : Int32) = 0 from rfl), lt_s', cv_s, decide_eq_false hn, if_pos (show false = false from rfl), if_pos (z_inb hp4 (by omega)), nI_clamp (n := p) (by omega), lt_s', show vp_nar .boolean 1 = 1 from rfl]
    have hFa : FXL (fun a k => PTC a k ∨ (a = c ∧ k = 4)) PTl w (wI w' c 4 1) := (hF.mo (fun a k q => by simp only [PTC, PTM, PTm, P14, P69, PRD, PRR] at q ⊢; omega) (fun a k q => q)).tr (FXL.w _ _ (by simp only [PTC, PTM, PTm, P14, P69, PRD, PRR, and_true, true_and, or_true, true_or, and_self] <;> omega))
    have hMa : FX (fun a k => PTM a k ∨ (k = p ∧ a = 31)) m (wI m' 31 p 1) := (hM.mo (fun a k q => by simp only [PTC, PTM, PTm, P14, P69, PRD, PRR] at q ⊢; omega)).tr (FX.w _ _ (by simp only [PTC, PTM, PTm, P14, P69, PRD, PRR, and_true, true_and, or_true, true_or, and_self] <;> omega))
    have gDn : gD (wI w' c 4 1) (wI m' 31 p 1) c p := by
      refine ⟨⟨by rw [wI_s, wI_s], by rw [wI_s]; exact Or.inr rfl⟩, ?_, fun i hi hi32 => ?_⟩
      · rw [hFa.1 _ _ (by simp only [PTC, PTM, PTm, P14, P69, PRD, PRR, and_true, true_and, or_true, true_or, and_self] <;> omega), hMa.2 _ _ (by simp only [PTC, PTM, PTm, P14, P69, PRD, PRR, and_true, true_and, or_true, true_or, and_self] <;> omega)]; exact h4.2.1
      · rw [hMa.2 _ _ (by simp only [PTC, PTM, PTm, P14, P69, PRD, PRR, and_true, true_and, or_true, true_or, and_self] <;> omega)]; exact h4.2.2 i hi hi32
    refine ⟨_, _, rfl, hFa.mo (fun a k q => by simp only [PTC, PTM, PTm, P14, P69, PRD, PRR] at q ⊢; omega) (fun a k q => q), hMa.mo (fun a k q => by simp only [PTC, PTM, PTm, P14, P69, PRD, PRR] at q ⊢; omega), Or.inl ⟨rfl, (hG.c (by omega) (by omega)).r (by omega), by rw [PTG_r (by omega)]; omega, h1.fr hFa hMa ?_ ?_ ?_ ?_, h2.fr hFa hMa ?_ ?_ ?_, h3.fr hFa hMa ?_ ?_ ?_ (fun k => ?_), gDn, h5.fr hFa hMa ?_ ?_, h6.fr hFa hMa ?_ ?_, h7.fr hFa hMa ?_ ?_ (fun a k _ _ => ?_) ?_ (fun a k _ => ?_) ?_ ?_, h8.fr hFa hMa ?_ ?_ ?_ ?_ ?_ ?_, h9.fr hFa hMa ?_ ?_ (fun k => ?_) ?_ (fun k => ?_)⟩⟩
    all_goals (simp only [PTC, PTM, PTm, P14, P69, PRD, PRR, and_true, true_and, or_true, true_or, and_self] <;> omega)
  · obtain ⟨w3, m2, x1, x2, hG2, hp2, -, hF2, hM2⟩ := q_step hG
    rw [u1] at x1
    cases x1
    rw [u2, cl_s, if_neg (show ¬ (1 : Int32) = 0 by decide), decide_eq_true hy, if_neg (show ¬ true = false by decide), x2, cv_s, if_pos (z_inb hp4 (by omega)), nI_clamp (n := p) (by omega)]
    have h49 : m2.1 0 49 = nI p := (hM2.2 _ _ (by simp only [PTC, PTM, PTm, P14, P69, PRD, PRR, and_true, true_and, or_true, true_or, and_self] <;> omega)).trans ((hM.2 _ _ (by simp only [PTC, PTM, PTm, P14, P69, PRD, PRR, and_true, true_and, or_true, true_or, and_self] <;> omega)).trans hX.1)
    have e25 : m2.1 25 p = m.1 25 p := (hM2.2 _ _ (by simp only [PTC, PTM, PTm, P14, P69, PRD, PRR, and_true, true_and, or_true, true_or, and_self] <;> omega)).trans (hM.2 _ _ (by simp only [PTC, PTM, PTm, P14, P69, PRD, PRR, and_true, true_and, or_true, true_or, and_self] <;> omega))
    have e5 : w2.1 c 5 = m2.1 25 p := (hF2.1 _ _ (by simp only [PTC, PTM, PTm, P14, P69, PRD, PRR, and_true, true_and, or_true, true_or, and_self] <;> omega)).trans ((hF.1 _ _ (by simp only [PTC, PTM, PTm, P14, P69, PRD, PRR, and_true, true_and, or_true, true_or, and_self] <;> omega)).trans (h4.2.1.trans e25.symm))
    rw [e5]
    obtain ⟨v1, w4, m4, y1, hF4, hM4, hr⟩ := q_pnot hG2 hp4 h49 (m2.1 25 p)
    rw [y1, cl_s]
    have e254 : m4.1 25 p = m2.1 25 p := hM4.2 _ _ (by simp only [PTC, PTM, PTm, P14, P69, PRD, PRR, and_true, true_and, or_true, true_or, and_self] <;> omega)
    have hF3 : FXL PTC PTl w w4 := (hF.tr hF2).tr hF4
    have hM3 : FX PTM m m4 := (hM.tr hM2).tr hM4
    rcases hr with ⟨y2, hG4, hp5, g7, ⟨i, hi, rfl⟩, hv⟩ | ⟨y2, hf, rfl⟩
    · rw [zc_bit (by omega), cl_s, lt_s', cv_s, y2, cl_s, if_neg (show ¬ (1 : Int32) = 0 by decide), if_pos (z_inb hp4 (by omega)), if_pos (z_inb hp4 (by omega)), lt_s', g7, e254]
      have hFa : FXL (fun a k => PTC a k ∨ (a = c ∧ k = 5)) PTl w (wI w4 c 5 (m2.1 25 p ||| (1 <<< (nI i &&& 31)))) := (hF3.mo (fun a k q => by simp only [PTC, PTM, PTm, P14, P69, PRD, PRR] at q ⊢; omega) (fun a k q => q)).tr (FXL.w _ _ (by simp only [PTC, PTM, PTm, P14, P69, PRD, PRR, and_true, true_and, or_true, true_or, and_self] <;> omega))
      have hMa : FX (fun a k => PTM a k ∨ (k = p ∧ a = 25)) m (wI m4 25 p (m2.1 25 p ||| (1 <<< (nI i &&& 31)))) := (hM3.mo (fun a k q => by simp only [PTC, PTM, PTm, P14, P69, PRD, PRR] at q ⊢; omega)).tr (FX.w _ _ (by simp only [PTC, PTM, PTm, P14, P69, PRD, PRR, and_true, true_and, or_true, true_or, and_self] <;> omega))
      have gDn : gD (wI w4 c 5 (m2.1 25 p ||| (1 <<< (nI i &&& 31)))) (wI m4 25 p (m2.1 25 p ||| (1 <<< (nI i &&& 31)))) c p := by
        refine ⟨⟨?_, ?_⟩, by rw [wI_s, wI_s], fun j hj hj32 => ?_⟩
        · rw [hFa.1 _ _ (by simp only [PTC, PTM, PTm, P14, P69, PRD, PRR, and_true, true_and, or_true, true_or, and_self] <;> omega), hMa.2 _ _ (by simp only [PTC, PTM, PTm, P14, P69, PRD, PRR, and_true, true_and, or_true, true_or, and_self] <;> omega)]; exact h4.1.1
        · rw [hMa.2 _ _ (by simp only [PTC, PTM, PTm, P14, P69, PRD, PRR, and_true, true_and, or_true, true_or, and_self] <;> omega)]; exact h4.1.2
        · rw [wI_s, b_or, z_one (by omega) (by omega), e25, h4.2.2 j hj hj32, decide_eq_false (show ¬ j = i by omega)]; rfl
      refine ⟨_, _, rfl, hFa.mo (fun a k q => by simp only [PTC, PTM, PTm, P14, P69, PRD, PRR] at q ⊢; omega) (fun a k q => q), hMa.mo (fun a k q => by simp only [PTC, PTM, PTm, P14, P69, PRD, PRR] at q ⊢; omega), Or.inl ⟨rfl, (hG4.c (by omega) (by omega)).r (by omega), by rw [PTG_r (by omega)]; omega, h1.fr hFa hMa ?_ ?_ ?_ ?_, h2.fr hFa hMa ?_ ?_ ?_, h3.fr hFa hMa ?_ ?_ ?_ (fun k => ?_), gDn, h5.fr hFa hMa ?_ ?_, h6.fr hFa hMa ?_ ?_, h7.fr hFa hMa ?_ ?_ (fun a k _ _ => ?_) ?_ (fun a k _ => ?_) ?_ ?_, h8.fr hFa hMa ?_ ?_ ?_ ?_ ?_ ?_, h9.fr hFa hMa ?_ ?_ (fun k => ?_) ?_ (fun k => ?_)⟩⟩
      all_goals (simp only [PTC, PTM, PTm, P14, P69, PRD, PRR, and_true, true_and, or_true, true_or, and_self] <;> omega)
    · rw [zf_bit, cl_s, lt_s', cv_s, y2, cl_s, if_pos (show (0 : Int32) = 0 from rfl)]
      exact ⟨_, m4, rfl, (hF3.mo (fun a k q => by simp only [PTC, PTM, PTm, P14, P69, PRD, PRR] at q ⊢; omega) (fun a k q => q)).tr (FXL.w _ _ (by simp only [PTC, PTM, PTm, P14, P69, PRD, PRR, and_true, true_and, or_true, true_or, and_self] <;> omega)), hM3.mo (fun a k q => by simp only [PTC, PTM, PTm, P14, P69, PRD, PRR] at q ⊢; omega), Or.inr ⟨rfl, hf.c (by omega)⟩⟩
end
