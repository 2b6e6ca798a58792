/-! clauses that may be told once -/
section
variable {w m : Wd} {c p : Nat}
-- PTC PTM P14 P69 PRD PRR
def P14 (c a k : Nat) : Prop := PTC a k ∨ (a = c ∧ k = 14)
def P69 (a k : Nat) : Prop := PTM a k ∨ (a = 0 ∧ k = 69)
theorem q_once (h : GR w m) (hc : 57 ≤ c) {ib jt : Nat} (hi : ib < 6) (hb : bt (w.1 c 14) ib = bt (m.1 0 69) jt) : (bt (m.1 0 69) jt = true ∧ ∃ w' m', f_X6_passOnce c (nI (2 ^ ib)) w = some w' ∧ f_X12_bad 3 m = some (0, m') ∧ FT w' m' ∧ FXL (P14 c) PTl w w' ∧ FX PTM m m') ∨ (bt (m.1 0 69) jt = false ∧ ∃ w' m', f_X6_passOnce c (nI (2 ^ ib)) w = some w' ∧ f_X12_scan (wI m 0 69 (m.1 0 69 ||| (1 <<< (nI jt &&& 31)))) = some m' ∧ GR w' m' ∧ PTG m ≤ PTG m' ∧ w'.1 c 14 = w.1 c 14 ||| nI (2 ^ ib) ∧ m'.1 0 69 = m.1 0 69 ||| (1 <<< (nI jt &&& 31)) ∧ FXL (P14 c) PTl w w' ∧ FX P69 m m') := by
  unfold f_X6_passOnce f_X6_isMarked X6_passOnce_b13
  cases hj : bt (m.1 0 69) jt
  · refine Or.inr ⟨rfl, ?_⟩
    rw [if_pos ((z_mk _ _ hi).mpr (hb.trans hj)), cl_s, if_pos rfl, lt_s']
    obtain ⟨w', m', e1, e2, hG, hp, -, hF, hM⟩ := q_step ((h.c (a := c) (k := 14) (v := w.1 c 14 ||| nI (2 ^ ib)) (by omega) (by omega)).r (a := 0) (k := 69) (v := m.1 0 69 ||| (1 <<< (nI jt &&& 31))) (by omega))
    rw [e1, cv_s]
    refine ⟨w', m', rfl, e2, hG, ?_, ?_, ?_, ?_, ?_⟩
    · rw [PTG_r (by omega)] at hp; exact hp
    · rw [hF.1 _ _ (by unfold PTC; omega), wI_s]
    · rw [hM.2 _ _ (by unfold PTM; omega), wI_s]
    · exact (FXL.w w _ (Or.inr ⟨rfl, rfl⟩)).tr (hF.mo (fun a k q => Or.inl q) (fun a k q => q))
    · exact (FX.w m _ (Or.inr ⟨rfl, rfl⟩)).tr (hM.mo (fun a k q => Or.inl q))
  · refine Or.inl ⟨rfl, ?_⟩
    rw [if_neg (fun q => by rw [z_mk _ _ hi, hb, hj] at q; cases q), cl_s, if_neg (by decide)]
    obtain ⟨w', m', e1, e2, hf, hF, hM⟩ := q_fail h (k := 3) (by decide)
    rw [e1, cv_s, lt_s', zf_step (hf.c (a := c) (k := 14) (by omega)).1, cv_s]
    exact ⟨_, m', rfl, e2, hf.c (by omega), (hF.mo (fun a k q => Or.inl q) (fun a k q => q)).tr (FXL.w _ _ (Or.inr ⟨rfl, rfl⟩)), hM⟩
theorem gF_or {w' m' : Wd} (h : gF w m c p) {ib jt : Nat} (hij : (ib = 0 ∧ jt = 1) ∨ (ib = 1 ∧ jt = 2) ∨ (ib = 2 ∧ jt = 3) ∨ (ib = 3 ∧ jt = 0) ∨ (ib = 4 ∧ jt = 4) ∨ (ib = 5 ∧ jt = 5)) (h1 : w'.1 c 14 = w.1 c 14 ||| nI (2 ^ ib)) (h2 : m'.1 0 69 = m.1 0 69 ||| (1 <<< (nI jt &&& 31))) (h3 : ∀ o, 28 ≤ o → o ≤ 30 → m'.1 o p = if o = 28 + ib then 1 else m.1 o p) (h4 : jt = 4 ∨ m'.1 24 p = m.1 24 p) : gF w' m' c p := by
  have hi : ib < 6 := by omega
  have hj : jt < 6 := by omega
  have b1 : ∀ j, j < 6 → bt (w'.1 c 14) j = (bt (w.1 c 14) j || decide (j = ib)) := fun j hj => by rw [h1, b_or, z_2i ib hi j hj]
  have b2 : ∀ j, j < 6 → bt (m'.1 0 69) j = (bt (m.1 0 69) j || decide (j = jt)) := fun j hj' => by rw [h2, b_or, z_one (by omega) (by omega)]
  obtain ⟨⟨⟨a0, a1, a2⟩, f0, f1, f2, t0, t1, t2, t3, t4, t5⟩, t6⟩ := h
  have ne1 : ¬ (1 : Int32) = 0 := by decide
  refine ⟨?_, fun q => ?_⟩
  rotate_left
  · rw [b2 4 (by omega), Bool.or_eq_false_iff] at q
    rcases h4 with e | e
    · rw [e] at q; exact absurd q.2 (by decide)
    · rw [e]; exact t6 q.1
  unfold gF0
  rw [b1 0 (by omega), b1 1 (by omega), b1 2 (by omega), b1 3 (by omega), b1 4 (by omega), b1 5 (by omega), b2 0 (by omega), b2 1 (by omega), b2 2 (by omega), b2 3 (by omega), b2 4 (by omega), b2 5 (by omega), h3 28 (by omega) (by omega), h3 29 (by omega) (by omega), h3 30 (by omega) (by omega)]
  rcases hij with ⟨rfl, rfl⟩ | ⟨rfl, rfl⟩ | ⟨rfl, rfl⟩ | ⟨rfl, rfl⟩ | ⟨rfl, rfl⟩ | ⟨rfl, rfl⟩ <;> simp [← t0, ← t1, ← t2, ← t3, ← t4, ← t5, a0, a1, a2, f0, f1, f2, ne1]
/-- the marks hand, pencil, signed -/
theorem q_mark (h : GR w m) (hP : PPR w m c p) (hc : 57 ≤ c) (hX : CTX w m p) {ib : Nat} (hi : ib < 3) : CLA c p w m (cv (f_X6_passOnce c (nI (2 ^ ib)) w) fun w37 => some w37) (X12_readOnce_b88 (nI p) (nI (ib + 1)) m) := by
  have hp4 := hX.2.1
  obtain ⟨h1, h2, h3, h4, h5, h6, h7, h8, h9⟩ := hP
  have hb : bt (w.1 c 14) ib = bt (m.1 0 69) (ib + 1) := by
    rcases (show ib = 0 ∨ ib = 1 ∨ ib = 2 by omega) with rfl | rfl | rfl
    · exact h8.1.2.2.2.2.1
    · exact h8.1.2.2.2.2.2.1
    · exact h8.1.2.2.2.2.2.2.1
  unfold X12_readOnce_b88
  rw [if_neg (nI_n1 (by omega)), if_bt1 (show ib + 1 < 32 by omega)]
  rcases q_once h hc (show ib < 6 by omega) hb with ⟨hj, w', m', e1, e2, hf, hF, hM⟩ | ⟨hj, w', m', e1, e2, hG, hp, e14, e69, hF, hM⟩
  · rw [if_pos hj, e1, cv_s, e2, cl_s, if_pos (show isB 0 = true from rfl)]
    exact ⟨w', m', rfl, hF.mo (fun a k q => by simp only [PTC, PTM, P14, P69, PRD, PRR] at q ⊢; omega) (fun a k q => q), PTM_R hM, Or.inr ⟨rfl, hf⟩⟩
  · rw [if_neg (by rw [hj]; decide), lt_s', e1, cv_s, if_neg (show ¬ nI (ib + 1) = 4 from fun q => by have := (nI_eq (a := ib + 1) (b := 4) (by omega) (by omega)).mp q; omega), e2, cv_s, if_neg (show ¬ nI (ib + 1) = 0 from fun q => by have := (nI_eq (a := ib + 1) (b := 0) (by omega) (by omega)).mp q; omega)]
    have key : X12_readOnce_b199 (nI p) (nI (ib + 1)) m' = some (1, wI m' (28 + ib) p 1) := by
      have hn : vp_nar .boolean 1 = 1 := rfl
      unfold X12_readOnce_b199 X12_readOnce_b211 X12_readOnce_b223 X12_readOnce_b235
      rw [z_inb hp4 (by omega), nI_clamp (by omega), hn]
      rcases (show ib = 0 ∨ ib = 1 ∨ ib = 2 by omega) with rfl | rfl | rfl <;> rfl
    rw [key]
    have hM' : FX (fun a k => PTM a k ∨ (a = 0 ∧ k = 69) ∨ (a = 28 + ib ∧ k = p)) m (wI m' (28 + ib) p 1) := (hM.mo (fun a k q => by simp only [PTC, PTM, P14, P69, PRD, PRR] at q ⊢; omega)).tr (FX.w _ _ (by simp only [PTC, PTM, P14, P69, PRD, PRR, and_true, true_and, or_true, true_or, and_self] <;> omega))
    have g69 : (wI m' (28 + ib) p 1).1 0 69 = m.1 0 69 ||| (1 <<< (nI (ib + 1) &&& 31)) := by rw [wI_g, if_neg (by omega)]; exact e69
    have gfl : ∀ o, 28 ≤ o → o ≤ 30 → (wI m' (28 + ib) p 1).1 o p = if o = 28 + ib then 1 else m.1 o p := fun o ho1 ho2 => by
      rw [wI_g]
      by_cases q : o = 28 + ib
      · rw [if_pos ⟨q, rfl⟩, if_pos q]
      · rw [if_neg (fun e => q e.1), if_neg q, hM.2 _ _ (by simp only [PTC, PTM, P14, P69, PRD, PRR, and_true, true_and, or_true, true_or, and_self] <;> omega)]
    have gFn : gF w' (wI m' (28 + ib) p 1) c p := gF_or (ib := ib) (jt := ib + 1) h8 (by omega) e14 g69 gfl (Or.inr (hM'.2 _ _ (by simp only [PTC, PTM, P14, P69, PRD, PRR, and_true, true_and, or_true, true_or, and_self] <;> omega)))
    refine ⟨w', _, rfl, hF.mo (fun a k q => by simp only [PTC, PTM, P14, P69, PRD, PRR] at q ⊢; omega) (fun a k q => q), hM'.mo (fun a k q => by simp only [PTC, PTM, P14, P69, PRD, PRR] at q ⊢; omega), Or.inl ⟨rfl, hG.r (by omega), by rw [PTG_r (by omega)]; exact hp, h1.fr hF hM' ?_ ?_ ?_ ?_, h2.fr hF hM' ?_ ?_ ?_, h3.fr hF hM' ?_ ?_ ?_ (fun k => ?_), h4.fr hF hM' ?_ ?_ ?_ ?_, h5.fr hF hM' ?_ ?_, h6.fr hF hM' ?_ ?_, h7.fr hF hM' ?_ ?_ (fun a k _ _ => ?_) ?_ (fun a k _ => ?_) ?_ ?_, gFn, h9.fr hF hM' ?_ ?_ (fun k => ?_) ?_ (fun k => ?_)⟩⟩
    all_goals (simp only [PTC, PTM, P14, P69, PRD, PRR, and_true, true_and, or_true, true_or, and_self] <;> omega)
/-- the days -/
theorem q_days (h : GR w m) (hP : PPR w m c p) (hc : 57 ≤ c) (hX : CTX w m p) : CLA c p w m (cv (f_X6_readDays c w) fun w40 => some w40) (X12_readOnce_b88 (nI p) (nI 0) m) := by
  have hp4 := hX.2.1
  obtain ⟨h1, h2, h3, h4, h5, h6, h7, h8, h9⟩ := hP
  have hb : bt (w.1 c 14) 3 = bt (m.1 0 69) 0 := h8.1.2.2.2.2.2.2.2.1
  unfold X12_readOnce_b88 f_X6_readDays
  rw [if_neg (show ¬ nI 0 = -1 by decide), if_bt1 (show 0 < 32 by omega), show (8 : Int32) = nI (2 ^ 3) from rfl]
  rcases q_once h hc (show 3 < 6 by omega) hb with ⟨hj, w', m', e1, e2, hf, hF, hM⟩ | ⟨hj, w', m', e1, e2, hG, hp, e14, e69, hF, hM⟩
  · rw [if_pos hj, e1, cv_s, e2, cl_s, if_pos (show isB 0 = true from rfl), zf_number hf.1, cl_s, lt_s', wI_s, zf_number (hf.c (a := c) (k := 0) (v := 0) (by omega)).1, cl_s, lt_s', cv_s]
    exact ⟨_, m', rfl, ((hF.mo (fun a k q => by simp only [PTC, PTM, P14, P69, PRD, PRR] at q ⊢; omega) (fun a k q => q)).tr (FXL.w _ _ (by simp only [PTC, PTM, P14, P69, PRD, PRR, and_true, true_and, or_true, true_or, and_self] <;> omega))).tr (FXL.w _ _ (by simp only [PTC, PTM, P14, P69, PRD, PRR, and_true, true_and, or_true, true_or, and_self] <;> omega)), PTM_R hM, Or.inr ⟨rfl, (hf.c (by omega)).c (by omega)⟩⟩
  · rw [if_neg (by rw [hj]; decide), e1, cv_s, lt_s', if_neg (show ¬ nI 0 = 4 by decide), e2, cv_s, if_pos (show nI 0 = 0 from rfl)]
    obtain ⟨v1, w2, m2, u1, hF2, hM2, hr⟩ := q_num hG 0 9999
    rw [u1, cl_s, lt_s', wI_s]
    rcases hr with ⟨u2, hG2, hp2, g7, hv⟩ | ⟨u2, hf, hv⟩
    · rw [u2, cl_s, if_neg (show ¬ (1 : Int32) = 0 by decide), if_pos (z_inb hp4 (by omega)), nI_clamp (n := p) (by omega), lt_s', wI_s, if_pos (z_inb hp4 (by omega)), g7]
      obtain ⟨v2, w3, m3, x1, hF3, hM3, hr3⟩ := q_num ((hG2.c (a := c) (k := 0) (v := v1) (by omega) (by omega)).r (a := 20) (k := p) (v := v1) (by omega)) v1 9999
      rw [x1, cl_s, lt_s', cv_s]
      have i0 : (0 : Int32).toInt = 0 := rfl
      have i9 : (9999 : Int32).toInt = 9999 := rfl
      have n1 : ∃ i, i < 10000 ∧ v1 = nI i := ⟨v1.toInt.toNat, by omega, by apply Int32.toInt_inj.mp; rw [nI_toInt (by omega)]; omega⟩
      have hFa : FXL (fun a k => PTC a k ∨ (a = c ∧ (k = 14 ∨ k = 0 ∨ k = 1))) PTl w (wI w3 c 1 v2) := ((((hF.mo (fun a k q => by simp only [PTC, PTM, P14, P69, PRD, PRR] at q ⊢; omega) (fun a k q => q)).tr (hF2.mo (fun a k q => Or.inl q) (fun a k q => q))).tr (FXL.w _ _ (by simp only [PTC, PTM, P14, P69, PRD, PRR, and_true, true_and, or_true, true_or, and_self] <;> omega))).tr (hF3.mo (fun a k q => Or.inl q) (fun a k q => q))).tr (FXL.w _ _ (by simp only [PTC, PTM, P14, P69, PRD, PRR, and_true, true_and, or_true, true_or, and_self] <;> omega))
      have hMa : FX (fun a k => PTM a k ∨ (a = 0 ∧ k = 69) ∨ (k = p ∧ (a = 20 ∨ a = 21))) m m3 := (((hM.mo (fun a k q => by simp only [PTC, PTM, P14, P69, PRD, PRR] at q ⊢; omega)).tr (hM2.mo (fun a k q => Or.inl q))).tr (FX.w _ _ (by simp only [PTC, PTM, P14, P69, PRD, PRR, and_true, true_and, or_true, true_or, and_self] <;> omega))).tr (hM3.mo (fun a k q => Or.inl q))
      rcases hr3 with ⟨x2, hG3, hp3, g73, hv3⟩ | ⟨x2, hf, hv3⟩
      · rw [x2, cl_s, if_neg (show ¬ (1 : Int32) = 0 by decide), if_pos (z_inb hp4 (by omega)), lt_s', g73]
        have k199 : X12_readOnce_b199 (nI p) (nI 0) (wI m3 21 p v2) = some (1, wI m3 21 p v2) := rfl
        rw [k199]
        have hMb : FX (fun a k => PTM a k ∨ (a = 0 ∧ k = 69) ∨ (k = p ∧ (a = 20 ∨ a = 21))) m (wI m3 21 p v2) := hMa.tr (FX.w _ _ (by simp only [PTC, PTM, P14, P69, PRD, PRR, and_true, true_and, or_true, true_or, and_self] <;> omega))
        have n2 : ∃ i, i < 10000 ∧ v2 = nI i := ⟨v2.toInt.toNat, by omega, by apply Int32.toInt_inj.mp; rw [nI_toInt (by omega)]; omega⟩
        rw [PTG_r (by omega)] at hp3
        have gAn : gA (wI w3 c 1 v2) (wI m3 21 p v2) c p := by
          refine ⟨?_, ?_, ?_, ?_⟩
          · rw [wI_g, if_neg (by omega), hF3.1 _ _ (by simp only [PTC, PTM, P14, P69, PRD, PRR, and_true, true_and, or_true, true_or, and_self] <;> omega), wI_s, wI_g, if_neg (by omega), hM3.2 _ _ (by simp only [PTC, PTM, P14, P69, PRD, PRR, and_true, true_and, or_true, true_or, and_self] <;> omega), wI_s]
          · rw [wI_s, wI_s]
          · rw [wI_g, if_neg (by omega), hM3.2 _ _ (by simp only [PTC, PTM, P14, P69, PRD, PRR, and_true, true_and, or_true, true_or, and_self] <;> omega), wI_s]; exact n1
          · rw [wI_s]; exact n2
        have g14 : (wI w3 c 1 v2).1 c 14 = w.1 c 14 ||| nI (2 ^ 3) := by rw [wI_g, if_neg (by omega), hF3.1 _ _ (by simp only [PTC, PTM, P14, P69, PRD, PRR, and_true, true_and, or_true, true_or, and_self] <;> omega), wI_g, if_neg (by omega), hF2.1 _ _ (by simp only [PTC, PTM, P14, P69, PRD, PRR, and_true, true_and, or_true, true_or, and_self] <;> omega)]; exact e14
        have g69 : (wI m3 21 p v2).1 0 69 = m.1 0 69 ||| (1 <<< (nI 0 &&& 31)) := by rw [wI_g, if_neg (by omega), hM3.2 _ _ (by simp only [PTC, PTM, P14, P69, PRD, PRR, and_true, true_and, or_true, true_or, and_self] <;> omega), wI_g, if_neg (by omega), hM2.2 _ _ (by simp only [PTC, PTM, P14, P69, PRD, PRR, and_true, true_and, or_true, true_or, and_self] <;> omega)]; exact e69
        have gFn : gF (wI w3 c 1 v2) (wI m3 21 p v2) c p := gF_or (ib := 3) (jt := 0) h8 (by omega) g14 g69 (fun o ho1 ho2 => by rw [if_neg (by omega), hMb.2 _ _ (by simp only [PTC, PTM, P14, P69, PRD, PRR, and_true, true_and, or_true, true_or, and_self] <;> omega)]) (Or.inr (hMb.2 _ _ (by simp only [PTC, PTM, P14, P69, PRD, PRR, and_true, true_and, or_true, true_or, and_self] <;> omega)))
        refine ⟨_, _, rfl, hFa.mo (fun a k q => by simp only [PTC, PTM, P14, P69, PRD, PRR] at q ⊢; omega) (fun a k q => q), hMb.mo (fun a k q => by simp only [PTC, PTM, P14, P69, PRD, PRR] at q ⊢; omega), Or.inl ⟨rfl, (hG3.c (by omega) (by omega)).r (by omega), by rw [PTG_r (by omega)]; omega, gAn, h2.fr hFa hMb ?_ ?_ ?_, h3.fr hFa hMb ?_ ?_ ?_ (fun k => ?_), h4.fr hFa hMb ?_ ?_ ?_ ?_, h5.fr hFa hMb ?_ ?_, h6.fr hFa hMb ?_ ?_, h7.fr hFa hMb ?_ ?_ (fun a k _ _ => ?_) ?_ (fun a k _ => ?_) ?_ ?_, gFn, h9.fr hFa hMb ?_ ?_ (fun k => ?_) ?_ (fun k => ?_)⟩⟩
        all_goals (simp only [PTC, PTM, P14, P69, PRD, PRR, and_true, true_and, or_true, true_or, and_self] <;> omega)
      · rw [x2, cl_s, if_pos (show (0 : Int32) = 0 from rfl)]
        exact ⟨_, m3, rfl, hFa.mo (fun a k q => by simp only [PTC, PTM, P14, P69, PRD, PRR] at q ⊢; omega) (fun a k q => q), hMa.mo (fun a k q => by simp only [PTC, PTM, P14, P69, PRD, PRR] at q ⊢; omega), Or.inr ⟨rfl, hf.c (by omega)⟩⟩
    · rw [u2, cl_s, if_pos (show (0 : Int32) = 0 from rfl), zf_number (hf.c (a := c) (k := 0) (v := v1) (by omega)).1, cl_s, lt_s', cv_s]
      exact ⟨_, m2, rfl, (((hF.mo (fun a k q => by simp only [PTC, PTM, P14, P69, PRD, PRR] at q ⊢; omega) (fun a k q => q)).tr (PTC_D hF2)).tr (FXL.w _ _ (by simp only [PTC, PTM, P14, P69, PRD, PRR, and_true, true_and, or_true, true_or, and_self] <;> omega))).tr (FXL.w _ _ (by simp only [PTC, PTM, P14, P69, PRD, PRR, and_true, true_and, or_true, true_or, and_self] <;> omega)), (hM.mo (fun a k q => by simp only [PTC, PTM, P14, P69, PRD, PRR] at q ⊢; omega)).tr (PTM_R hM2), Or.inr ⟨rfl, (hf.c (by omega)).c (by omega)⟩⟩
end
