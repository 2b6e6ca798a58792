/-! the text of a paper -/
-- PTC PTM PRD PRR PTk PTm
section
variable {w m : Wd} {c p : Nat}
def TXT (c p : Nat) (w m : Wd) (x y : Option (Int32 × Wd)) : Prop := ∃ r w' m', x = some (r, w') ∧ y = some (r, m') ∧ FXL (PRD c) PTl w w' ∧ FX (PRR p) m m' ∧ ((r = 1 ∧ GR w' m' ∧ PPR w' m' c p) ∨ (r = 0 ∧ FT w' m'))
theorem TXT.tr {w0 m0 : Wd} {x y : Option (Int32 × Wd)} (hF : FXL (PRD c) PTl w0 w) (hM : FX (PRR p) m0 m) (h : TXT c p w m x y) : TXT c p w0 m0 x y := by
  obtain ⟨r, w', m', e1, e2, hF1, hM1, hr⟩ := h
  exact ⟨r, w', m', e1, e2, hF.tr hF1, hM.tr hM1, hr⟩
theorem fl_text (h : FLT w) (f : Nat) (x y : Int32) : lp (f + 1) (fun _ _ _ _ => none) (fun k11 => X6_readText_b11 k11) c x y w = some (0, w) := by
  show X6_readText_b11 (lp f (fun _ _ _ _ => none) (fun k11 => X6_readText_b11 k11)) c x y w = _
  have e : X6_readText_b43 w = some (0, w) := by
    unfold X6_readText_b43
    rw [zf_failed h, cl_s, if_neg (by decide)]
  rw [X6_readText_b11, e, zf_goesOn h, cl_s, i01, e]
  by_cases q : 900 ≤ y
  · rw [if_pos q]
  · rw [if_neg q]
theorem q_text (hc : 57 ≤ c) : ∀ (d f g i : Nat) (w m : Wd), (m.1 0 5 = 0 ∨ 901 - PTG m ≤ d) → d + 3 ≤ f → d + 2 ≤ g → GR w m → PPR w m c p → CTX w m p → (m.1 0 5 = 0 ∨ i + 1 ≤ PTG m) → i < 2 ^ 31 - 1 → TXT c p w m (lp f (fun _ _ _ _ => none) (fun k11 => X6_readText_b11 k11) c (nI p) (nI i) w) (lp g (fun _ => none) (fun k96 => X12_readPaper_b96 k96) m) := by
  intro d
  induction d with
  | zero =>
    intro f g i w m hd hf hg h hP hX hi hi31
    have k0 : m.1 0 5 = 0 := by
      rcases hd with q | q
      · exact q
      · by_cases c0 : m.1 0 5 = 0
        · exact c0
        · have := (h.pg c0).2; omega
    obtain ⟨f, rfl⟩ : ∃ f', f = f' + 1 := ⟨f - 1, by omega⟩
    obtain ⟨g, rfl⟩ : ∃ g', g = g' + 1 := ⟨g - 1, by omega⟩
    show TXT c p w m (X6_readText_b11 (lp f (fun _ _ _ _ => none) (fun k11 => X6_readText_b11 k11)) c (nI p) (nI i) w) (X12_readPaper_b96 (lp g (fun _ => none) (fun k96 => X12_readPaper_b96 k96)) m)
    have e43 : X6_readText_b43 w = some (1, w) := by
      unfold X6_readText_b43 f_X10_hasFailed
      rw [if_pos h.f0, cl_s, i01]
    have eg : f_X10_goesOn w = some (0, w) := by
      unfold f_X10_goesOn
      rw [if_pos h.f0, if_pos (h.kd.trans k0)]
    rw [X6_readText_b11, X12_readPaper_b96, if_pos k0, e43, eg, cl_s, i01, e43]
    refine ⟨1, w, m, ?_, rfl, FXL.rf _ _ _, FX.rf _ _, Or.inl ⟨rfl, h, hP⟩⟩
    by_cases q : 900 ≤ nI i
    · rw [if_pos q]
    · rw [if_neg q]
  | succ d ih =>
    intro f g i w m hd hf hg h hP hX hi hi31
    by_cases k0 : m.1 0 5 = 0
    · exact ih f g i w m (Or.inl k0) (by omega) (by omega) h hP hX (Or.inl k0) hi31
    · obtain ⟨f, rfl⟩ : ∃ f', f = f' + 1 := ⟨f - 1, by omega⟩
      obtain ⟨f, rfl⟩ : ∃ f', f = f' + 1 := ⟨f - 1, by omega⟩
      obtain ⟨g, rfl⟩ : ∃ g', g = g' + 1 := ⟨g - 1, by omega⟩
      have hi' := hi.resolve_left k0
      have hd' := hd.resolve_left k0
      have hpg := h.pg k0
      show TXT c p w m (X6_readText_b11 (lp (f + 1) (fun _ _ _ _ => none) (fun k11 => X6_readText_b11 k11)) c (nI p) (nI i) w) (X12_readPaper_b96 (lp g (fun _ => none) (fun k96 => X12_readPaper_b96 k96)) m)
      have eg : f_X10_goesOn w = some (1, w) := by
        unfold f_X10_goesOn
        rw [if_pos h.f0, if_neg (by rw [h.kd]; exact k0)]
      obtain ⟨y, hy, w1, m1, e1, hF1, hM1, hr⟩ := q_clause h hP hc hX k0
      rw [X6_readText_b11, hy, if_neg (show ¬ (900 : Int32) ≤ nI i from nI_ge (a := i) (b := 900) (by omega) (by omega)), eg, cl_s, i10, e1, cv_s]
      rcases hr with ⟨e2, hG1, hp1, hP1⟩ | ⟨e2, hf1⟩
      · rw [e2, cl_s]
        unfold X12_readPaper_b194 f_X10_needMark
        rw [i10, hG1.kd]
        by_cases k3 : m1.1 0 5 = 3
        · obtain ⟨w2, m2, s1, s2, hG2, hp2, hp3, hF2, hM2⟩ := q_step hG1
          rw [if_pos k3, if_pos k3, s1, cv_s, cv_s, s2, cv_s, nI_1]
          refine TXT.tr (hF1.tr (PTC_D hF2)) (hM1.tr (PTM_R hM2)) (ih (f + 1) g (i + 1) w2 m2 ?_ (by omega) (by omega) hG2 (hP1.fr hc hF2 hM2) (hX.fr hc (hF1.tr (PTC_D hF2)) (hM1.tr (PTM_R hM2))) ?_ (by omega))
          · rcases hp3 with q | q
            · exact Or.inl q
            · exact Or.inr (by omega)
          · rcases hp3 with q | q
            · exact Or.inl q
            · exact Or.inr (by omega)
        · obtain ⟨w5, m5, x5, b5, f5, F5, M5⟩ := q_fail hG1 (k := 1) (by decide)
          rw [if_neg k3, if_neg k3, x5, cv_s, cv_s, b5, cl_s, if_pos (show isB 0 = true from rfl), fl_text f5.1]
          exact ⟨0, w5, m5, rfl, rfl, hF1.tr (PTC_D F5), hM1.tr (PTM_R M5), Or.inr ⟨rfl, f5⟩⟩
      · rw [e2, cl_s]
        unfold X12_readPaper_b194
        rw [i01, zf_mark hf1.1, cv_s, fl_text hf1.1]
        exact ⟨0, w1, m1, rfl, rfl, hF1, hM1, Or.inr ⟨rfl, hf1⟩⟩
/-! opening the tape -/
def TPR (w m : Wd) : Prop := w.1 2 = m.1 1 ∧ (∀ j, bRg (m.1 1 j)) ∧ w.1 1 1 = m.1 0 1 ∧ ∃ n, n ≤ 900 ∧ m.1 0 1 = nI n
theorem q_open (h : TPR w m) : ∃ w' m', f_X10_open w = some w' ∧ f_X12_open m = some m' ∧ GR w' m' ∧ (m'.1 0 5 = 0 ∨ 1 ≤ PTG m') ∧ FXL PTC PTl w w' ∧ FX (fun a k => PTM a k ∨ (a = 0 ∧ (k = 1 ∨ k = 2))) m m' ∧ m'.1 0 1 = 0 := by
  obtain ⟨h1, h2, h3, n, hn, h4⟩ := h
  unfold f_X10_open f_X12_open
  rw [lt_s', lt_s', lt_s', lt_s', lt_s', lt_s', lt_s', lt_s', h4]
  have hF0 : FXL PTC PTl w (wI (wI (wI w 1 4 0) 1 5 (-1)) 1 8 0) := ((FXL.w _ _ (by simp only [PTC, PTM, PTk, PTm, PRD, PRR, and_true, true_and, or_true, true_or, and_self] <;> omega)).tr (FXL.w _ _ (by simp only [PTC, PTM, PTk, PTm, PRD, PRR, and_true, true_and, or_true, true_or, and_self] <;> omega))).tr (FXL.w _ _ (by simp only [PTC, PTM, PTk, PTm, PRD, PRR, and_true, true_and, or_true, true_or, and_self] <;> omega))
  have hM0 : FX (fun a k => PTM a k ∨ (a = 0 ∧ (k = 1 ∨ k = 2))) m (wI (wI (wI (wI (wI m 0 2 (nI n)) 0 1 0) 0 4 0) 0 8 0) 0 9 (-1)) := ((((FX.w _ _ (by simp only [PTC, PTM, PTk, PTm, PRD, PRR, and_true, true_and, or_true, true_or, and_self] <;> omega)).tr (FX.w _ _ (by simp only [PTC, PTM, PTk, PTm, PRD, PRR, and_true, true_and, or_true, true_or, and_self] <;> omega))).tr (FX.w _ _ (by simp only [PTC, PTM, PTk, PTm, PRD, PRR, and_true, true_and, or_true, true_or, and_self] <;> omega))).tr (FX.w _ _ (by simp only [PTC, PTM, PTk, PTm, PRD, PRR, and_true, true_and, or_true, true_or, and_self] <;> omega))).tr (FX.w _ _ (by simp only [PTC, PTM, PTk, PTm, PRD, PRR, and_true, true_and, or_true, true_or, and_self] <;> omega))
  obtain ⟨w', m', e1, e2, hr, p1, p2, hF, hM⟩ := q_tok (w := wI (wI (wI w 1 4 0) 1 5 (-1)) 1 8 0) (wm := wI (wI (wI (wI (wI m 0 2 (nI n)) 0 1 0) 0 4 0) 0 8 0) 0 9 (-1)) (n := n) (s := 0) hn (Nat.zero_le _) (by
      rw [show (wI (wI (wI w 1 4 0) 1 5 (-1)) 1 8 0).1 2 = w.1 2 from funext fun k => hF0.1 _ _ (by simp only [PTC, PTM, PTk, PTm, PRD, PRR, and_true, true_and, or_true, true_or, and_self] <;> omega), show (wI (wI (wI (wI (wI m 0 2 (nI n)) 0 1 0) 0 4 0) 0 8 0) 0 9 (-1)).1 1 = m.1 1 from funext fun k => hM0.2 _ _ (by simp only [PTC, PTM, PTk, PTm, PRD, PRR, and_true, true_and, or_true, true_or, and_self] <;> omega)]
      exact h1) (fun j => by rw [hM0.2 _ _ (by simp only [PTC, PTM, PTk, PTm, PRD, PRR, and_true, true_and, or_true, true_or, and_self] <;> omega)]; exact h2 j) (by rw [hF0.1 _ _ (by simp only [PTC, PTM, PTk, PTm, PRD, PRR, and_true, true_and, or_true, true_or, and_self] <;> omega), h3]; exact h4) (by rw [wI_g, if_neg (by omega), wI_g, if_neg (by omega), wI_g, if_neg (by omega), wI_g, if_neg (by omega), wI_s]) (wI_s _ _ _ _) (by rw [wI_g, if_neg (by omega), wI_g, if_neg (by omega), wI_s]; rfl) (by rw [wI_g, if_neg (by omega), wI_g, if_neg (by omega), wI_s])
  rw [e1, cv_s, e2, cv_s]
  refine ⟨w', m', rfl, rfl, ⟨hr, ?_, ?_, ?_⟩, p2, hF0.tr (PTk_C hF), hM0.tr ((PTm_M hM).mo (fun a k q => Or.inl q)), ?_⟩
  · rw [hF.1 _ _ (by simp only [PTC, PTM, PTk, PTm, PRD, PRR, and_true, true_and, or_true, true_or, and_self] <;> omega), wI_g, if_neg (by omega), wI_s]
  · rw [hM.2 _ _ (by simp only [PTC, PTM, PTk, PTm, PRD, PRR, and_true, true_and, or_true, true_or, and_self] <;> omega), wI_g, if_neg (by omega), wI_s]
  · rw [hM.2 _ _ (by simp only [PTC, PTM, PTk, PTm, PRD, PRR, and_true, true_and, or_true, true_or, and_self] <;> omega), wI_s]
  · rw [hM.2 _ _ (by simp only [PTC, PTM, PTk, PTm, PRD, PRR, and_true, true_and, or_true, true_or, and_self] <;> omega), wI_g, if_neg (by omega), wI_g, if_neg (by omega), wI_g, if_neg (by omega), wI_s]
end
