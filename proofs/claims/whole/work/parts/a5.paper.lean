/-! paper, whole -/
-- PTC PTM PRD PRR PTk PTm PPC PPM PXR
def PXR (p a k : Nat) : Prop := (a = 0 ∧ (k < 10 ∨ k = 69)) ∨ (20 ≤ a ∧ a ≤ 31 ∧ k = p) ∨ ((32 ≤ a ∧ a ≤ 35 ∨ a = 37) ∧ 8 * p ≤ k ∧ k < 8 * p + 8) ∨ (a = 36 ∧ 4 * p ≤ k ∧ k < 4 * p + 4)
def PPC (a k : Nat) : Prop := (a = 0 ∧ (k = 7 ∨ k = 8)) ∨ a = 1 ∨ (a = 3 ∧ 3 ≤ k ∧ k ≤ 6) ∨ a = 6 ∨ a = 7 ∨ (57 ≤ a ∧ a ≤ 83)
def PPM (a k : Nat) : Prop := (a = 0 ∧ (k < 10 ∨ k = 49 ∨ k = 50 ∨ k = 69 ∨ k = 75 ∨ k = 78)) ∨ (20 ≤ a ∧ a ≤ 44)
theorem tol_rd {m m' : Wd} {p : Nat} (hp : nPa m = p) (h : FX (PXR p) m m') : tol m' = tol m := by
  have hn : nPa m' = nPa m := by unfold nPa; rw [h.2 0 49 (by simp only [PXR, PPC, PPM, PTC, PTM, PTk, PTm, PRD, PRR, and_true, true_and, or_true, true_or, and_self] <;> omega)]
  have tk : ∀ k, TK k = true → 10 ≤ k ∧ ¬ k = 69 := fun k hk => by
    unfold TK at hk
    simp only [Bool.or_eq_true, Bool.and_eq_true, decide_eq_true_eq, beq_iff_eq] at hk
    omega
  refine Prod.ext (funext fun a => funext fun k => ?_) ?_
  · unfold tol
    dsimp only
    rw [hn]
    by_cases c0 : a = 0
    · subst c0
      rw [if_pos rfl, if_pos rfl, h.2 0 80 (by simp only [PXR, PPC, PPM, PTC, PTM, PTk, PTm, PRD, PRR, and_true, true_and, or_true, true_or, and_self] <;> omega)]
      by_cases c1 : TK k = true
      · have := tk k c1
        rw [if_pos c1, if_pos c1, h.2 0 k (by simp only [PXR, PPC, PPM, PTC, PTM, PTk, PTm, PRD, PRR, and_true, true_and, or_true, true_or, and_self] <;> omega)]
      · rw [if_neg c1, if_neg c1]
    · rw [if_neg c0, if_neg c0]
      by_cases c1 : 2 ≤ a ∧ a ≤ 7 ∨ 38 ≤ a ∧ a ≤ 43
      · rw [if_pos c1, if_pos c1, h.2 a k (by simp only [PXR, PPC, PPM, PTC, PTM, PTk, PTm, PRD, PRR, and_true, true_and, or_true, true_or, and_self] <;> omega)]
      · rw [if_neg c1, if_neg c1]
        by_cases c2 : 20 ≤ a ∧ a ≤ 31
        · rw [if_pos c2, if_pos c2]
          by_cases c3 : k < nPa m
          · rw [if_pos c3, if_pos c3, h.2 a k (by simp only [PXR, PPC, PPM, PTC, PTM, PTk, PTm, PRD, PRR, and_true, true_and, or_true, true_or, and_self] <;> omega)]
          · rw [if_neg c3, if_neg c3]
        · rw [if_neg c2, if_neg c2]
          by_cases c4 : 32 ≤ a ∧ a ≤ 35 ∨ a = 37
          · rw [if_pos c4, if_pos c4]
            by_cases c3 : k < 8 * nPa m
            · rw [if_pos c3, if_pos c3, h.2 a k (by simp only [PXR, PPC, PPM, PTC, PTM, PTk, PTm, PRD, PRR, and_true, true_and, or_true, true_or, and_self] <;> omega)]
            · rw [if_neg c3, if_neg c3]
          · rw [if_neg c4, if_neg c4]
            by_cases c5 : a = 36
            · rw [if_pos c5, if_pos c5]
              by_cases c3 : k < 4 * nPa m
              · rw [if_pos c3, if_pos c3, h.2 a k (by simp only [PXR, PPC, PPM, PTC, PTM, PTk, PTm, PRD, PRR, and_true, true_and, or_true, true_or, and_self] <;> omega)]
              · rw [if_neg c3, if_neg c3]
            · rw [if_neg c5, if_neg c5]
  · unfold tol
    dsimp only
    rw [h.1]
def CHG (wc wm A wc1 wm1 A1 : Wd) : Prop := FXL PPC PTl wc wc1 ∧ FX PPM wm wm1 ∧ esA A1 = esA A ∧ ((A1 = A ∧ wc1.1 3 6 = wc.1 3 6 ∧ wm1.1 0 78 = wm.1 0 78) ∨ (wc1.1 3 6 = wc.1 3 6 + 1 ∧ wm1.1 0 78 = 0))
section
variable {wc wm A : Wd}
theorem q_empty (h : KRN wc wm A) : KRN (wI wc 1 1 0) (wI wm 0 1 0) A ∧ CHG wc wm A (wI wc 1 1 0) (wI wm 0 1 0) A := by
  obtain ⟨hL, hK, hI, hPe, hX, hT, hB, hTp, hFl⟩ := h
  have hF : FXL PPC PTl wc (wI wc 1 1 0) := FXL.w _ _ (by simp only [PXR, PPC, PPM, PTC, PTM, PTk, PTm, PRD, PRR, and_true, true_and, or_true, true_or, and_self] <;> omega)
  have hM : FX PPM wm (wI wm 0 1 0) := FX.w _ _ (by simp only [PXR, PPC, PPM, PTC, PTM, PTk, PTm, PRD, PRR, and_true, true_and, or_true, true_or, and_self] <;> omega)
  have ew : ∀ a k, ¬ a = 1 → (wI wc 1 1 0).1 a k = wc.1 a k := fun a k q => by rw [wI_g, if_neg (fun e => q e.1)]
  have em : ∀ a k, ¬ (a = 0 ∧ k = 1) → (wI wm 0 1 0).1 a k = wm.1 a k := fun a k q => by rw [wI_g, if_neg q]
  refine ⟨⟨hL.fr hI.1 ⟨rfl, fun a k q => ew a k (by omega)⟩, hK.fr ⟨rfl, fun a k q => ew a k (by omega)⟩, hI, hPe, hX, ?_, hB.fr (ew 3 6 (by omega)) (Or.inl (ew 8 13 (by omega))) (Or.inl (ew 16 9 (by omega))), ⟨?_, fun j => ?_, ?_, ?_⟩, ?_, ?_⟩, hF, hM, rfl, Or.inl ⟨rfl, ew 3 6 (by omega), em 0 78 (by omega)⟩⟩
  · rw [← hT]; exact tol_rd (p := nPa wm) rfl (FX.w _ _ (by simp only [PXR, PPC, PPM, PTC, PTM, PTk, PTm, PRD, PRR, and_true, true_and, or_true, true_or, and_self] <;> omega))
  · rw [show (wI wc 1 1 0).1 2 = wc.1 2 from funext fun k => ew 2 k (by omega), show (wI wm 0 1 0).1 1 = wm.1 1 from funext fun k => em 1 k (by omega)]; exact hTp.1
  · rw [em 1 j (by omega)]; exact hTp.2.1 j
  · rw [wI_s, wI_s]
  · exact ⟨0, by omega, wI_s _ _ _ _⟩
  · rw [ew 0 7 (by omega), em 0 8 (by omega)]; exact hFl.1
  · rw [ew 0 8 (by omega), em 0 9 (by omega)]; exact hFl.2
end
theorem zc_clr {w : Wd} {c : Nat} : ∃ w1, f_X6_clear c w = some w1 ∧ (w1.1 c 0 = 0 ∧ w1.1 c 1 = 9999 ∧ w1.1 c 2 = 0 ∧ w1.1 c 3 = 0 ∧ w1.1 c 4 = 0 ∧ w1.1 c 5 = 0 ∧ w1.1 c 6 = 0 ∧ w1.1 c 7 = -1 ∧ w1.1 c 8 = 0 ∧ w1.1 c 14 = 0 ∧ w1.1 c 15 = 0 ∧ w1.1 c 16 = 0) ∧ FX (fun a k => a = c) w w1 := by
  refine ⟨wI (wI (wI (wI (wI (wI (wI (wI (wI (wI (wI (wI w c 0 0) c 1 9999) c 2 0) c 3 0) c 4 0) c 5 0) c 6 0) c 7 (-1)) c 8 0) c 14 0) c 15 0) c 16 0, rfl, ?_, ⟨rfl, fun a k hn => ?_⟩⟩
  · simp [wI_g]
  · simp [wI_g, hn]
theorem zm_clr {w m : Wd} {p : Nat} (hG : GR w m) (h : m.1 0 49 = nI p) (hp : p < 4) : ∃ m2, f_X12_readPaper m = X12_readPaper_b96_L m2 ∧ GR w m2 ∧ PTG m2 = PTG m ∧ m2.1 0 5 = m.1 0 5 ∧ (m2.1 20 p = 0 ∧ m2.1 21 p = 9999 ∧ m2.1 22 p = 0 ∧ m2.1 23 p = 0 ∧ m2.1 24 p = 0 ∧ m2.1 25 p = 0 ∧ m2.1 26 p = 0 ∧ m2.1 27 p = -1 ∧ m2.1 28 p = 0 ∧ m2.1 29 p = 0 ∧ m2.1 30 p = 0 ∧ m2.1 31 p = 0 ∧ m2.1 0 69 = 0) ∧ FX (PRR p) m m2 := by
  refine ⟨_, zm_clear h hp, ?_, ?_, ?_, ?_, ?_⟩
  · exact ((((((((((((hG.r (by omega)).r (by omega)).r (by omega)).r (by omega)).r (by omega)).r (by omega)).r (by omega)).r (by omega)).r (by omega)).r (by omega)).r (by omega)).r (by omega)).r (by omega)
  · simp [PTG, wI_g]
  · simp [wI_g]
  · simp [wI_g]
  · exact ((((((((((((FX.w m _ (by simp only [PXR, PPC, PPM, PTC, PTM, PTk, PTm, PRD, PRR, and_true, true_and, or_true, true_or, and_self] <;> omega)).tr (FX.w _ _ (by simp only [PXR, PPC, PPM, PTC, PTM, PTk, PTm, PRD, PRR, and_true, true_and, or_true, true_or, and_self] <;> omega))).tr (FX.w _ _ (by simp only [PXR, PPC, PPM, PTC, PTM, PTk, PTm, PRD, PRR, and_true, true_and, or_true, true_or, and_self] <;> omega))).tr (FX.w _ _ (by simp only [PXR, PPC, PPM, PTC, PTM, PTk, PTm, PRD, PRR, and_true, true_and, or_true, true_or, and_self] <;> omega))).tr (FX.w _ _ (by simp only [PXR, PPC, PPM, PTC, PTM, PTk, PTm, PRD, PRR, and_true, true_and, or_true, true_or, and_self] <;> omega))).tr (FX.w _ _ (by simp only [PXR, PPC, PPM, PTC, PTM, PTk, PTm, PRD, PRR, and_true, true_and, or_true, true_or, and_self] <;> omega))).tr (FX.w _ _ (by simp only [PXR, PPC, PPM, PTC, PTM, PTk, PTm, PRD, PRR, and_true, true_and, or_true, true_or, and_self] <;> omega))).tr (FX.w _ _ (by simp only [PXR, PPC, PPM, PTC, PTM, PTk, PTm, PRD, PRR, and_true, true_and, or_true, true_or, and_self] <;> omega))).tr (FX.w _ _ (by simp only [PXR, PPC, PPM, PTC, PTM, PTk, PTm, PRD, PRR, and_true, true_and, or_true, true_or, and_self] <;> omega))).tr (FX.w _ _ (by simp only [PXR, PPC, PPM, PTC, PTM, PTk, PTm, PRD, PRR, and_true, true_and, or_true, true_or, and_self] <;> omega))).tr (FX.w _ _ (by simp only [PXR, PPC, PPM, PTC, PTM, PTk, PTm, PRD, PRR, and_true, true_and, or_true, true_or, and_self] <;> omega))).tr (FX.w _ _ (by simp only [PXR, PPC, PPM, PTC, PTM, PTk, PTm, PRD, PRR, and_true, true_and, or_true, true_or, and_self] <;> omega))).tr (FX.w _ _ (by simp only [PXR, PPC, PPM, PTC, PTM, PTk, PTm, PRD, PRR, and_true, true_and, or_true, true_or, and_self] <;> omega))
section
variable {wc wm A : Wd}
theorem q_paper (h : KRN wc wm A) (hcb : ∃ c, c < 999999 ∧ wc.1 3 6 = nI c) : ∃ r wc1 wm1 A1, f_X11_paper wc = some (r, wc1) ∧ f_X12_paper wm = some (r, wm1) ∧ KRN wc1 wm1 A1 ∧ CHG wc wm A wc1 wm1 A1 := by
  have h0 := h
  obtain ⟨hL, hK, hI, hPe, hX, hT, hB, hTp, hFl⟩ := h
  have hN := hI.1
  have h4 := hN.2.2.2.1.2
  have hE3 := hN.2.2.2.2.1.2
  have h6 : nPa A + nEv A ≤ 6 := hN.2.2.2.2.2.1
  have full : X11_paper_b23 wc = some (-3, wI wc 1 1 0) := rfl
  unfold f_X11_paper f_X12_paper
  rw [hL.2.1.1, tol_0 hT 49 rfl, tol_0 hT 50 rfl, hN.2.2.2.1.1, hN.2.2.2.2.1.1]
  by_cases p4 : nPa A = 4
  · rw [p4, if_pos (show (4 : Int32) ≤ nI 4 by decide), if_pos (show nI 4 = 4 from rfl), full, lt_s']
    obtain ⟨a, b⟩ := q_empty h0
    exact ⟨-3, _, _, A, rfl, rfl, a, b⟩
  rw [if_neg (show ¬ (4 : Int32) ≤ nI (nPa A) from nI_ge (a := nPa A) (b := 4) (by omega) (by omega)), zc_items hL.2.1 hN, cl_s, if_neg (show ¬ nI (nPa A) = 4 from fun q => p4 ((nI_eq (b := 4) (by omega) (by omega)).mp q)), nI_add]
  by_cases i6 : nPa A + nEv A = 6
  · rw [show nIt A = 6 from i6, if_neg (show ¬ nI 6 < 6 by decide), i6, if_pos (show nI 6 = 6 from rfl), full, lt_s']
    obtain ⟨a, b⟩ := q_empty h0
    exact ⟨-3, _, _, A, rfl, rfl, a, b⟩
  rw [if_pos (show nI (nIt A) < 6 from nI_lt (b := 6) (by unfold nIt; omega) (by omega)), if_neg (show ¬ nI (nPa A + nEv A) = 6 from fun q => i6 ((nI_eq (b := 6) (by omega) (by omega)).mp q)), hL.2.1.1, hN.2.2.2.1.1, lt_s', if_pos (z_inb (show nPa A < 4 by omega) (by omega)), nI_clamp (n := nPa A) (by omega)]
  obtain ⟨p, hp⟩ : ∃ p, p = nPa A := ⟨_, rfl⟩
  rw [← hp]
  have hp4 : p < 4 := by omega
  unfold f_X6_readText
  obtain ⟨w1, c1, hw1, hF1⟩ := zc_clr (w := wc) (c := 57 + 6 * p)
  have tp1 : TPR w1 wm := ⟨by rw [show w1.1 2 = wc.1 2 from funext fun k => hF1.2 2 k (by omega)]; exact hTp.1, hTp.2.1, by rw [hF1.2 1 1 (by omega)]; exact hTp.2.2.1, hTp.2.2.2⟩
  obtain ⟨w2, m1, o1, o2, hG1, hpg, hF2, hM1, z1⟩ := q_open tp1
  have e49 : m1.1 0 49 = nI p := by rw [hM1.2 0 49 (by simp only [PXR, PPC, PPM, PTC, PTM, PTk, PTm, PRD, PRR, and_true, true_and, or_true, true_or, and_self] <;> omega), tol_0 hT 49 rfl, hN.2.2.2.1.1, hp]
  obtain ⟨m2, r1, hG2, pg2, k5, hm2, hM2⟩ := zm_clr hG1 e49 hp4
  have hFa : FXL (PRD (57 + 6 * p)) PTl wc w2 := (FX.xl (hF1.mo (fun a k q => by simp only [PXR, PPC, PPM, PTC, PTM, PTk, PTm, PRD, PRR] at q ⊢; omega))).tr (PTC_D hF2)
  have hMa : FX (PXR p) wm m2 := (hM1.mo (fun a k q => by simp only [PXR, PPC, PPM, PTC, PTM, PTk, PTm, PRD, PRR] at q ⊢; omega)).tr (hM2.mo (fun a k q => by simp only [PXR, PPC, PPM, PTC, PTM, PTk, PTm, PRD, PRR] at q ⊢; omega))
  have hX2 : CTX w2 m2 p := by
    have e11 : m2.1 0 11 = A.1 0 11 := by rw [hMa.2 0 11 (by simp only [PXR, PPC, PPM, PTC, PTM, PTk, PTm, PRD, PRR, and_true, true_and, or_true, true_or, and_self] <;> omega)]; exact tol_0 hT 11 rfl
    have e12 : m2.1 0 12 = A.1 0 12 := by rw [hMa.2 0 12 (by simp only [PXR, PPC, PPM, PTC, PTM, PTk, PTm, PRD, PRR, and_true, true_and, or_true, true_or, and_self] <;> omega)]; exact tol_0 hT 12 rfl
    have eP : nPe m2 = nPe A := by unfold nPe; rw [e11]
    have eT : nTh m2 = nTh A := by unfold nTh; rw [e12]
    refine ⟨by rw [hM2.2 0 49 (by simp only [PXR, PPC, PPM, PTC, PTM, PTk, PTm, PRD, PRR, and_true, true_and, or_true, true_or, and_self] <;> omega)]; exact e49, hp4, by rw [e11, eP]; exact hN.2.1.1, by rw [eP]; exact hN.2.1.2, by rw [e12, eT]; exact hN.2.2.1.1, by rw [eT]; exact hN.2.2.1.2, ⟨?_, by rw [eP]; exact hN.2.1.2, by omega, fun k hk => ?_⟩, ⟨?_, by rw [eT]; exact hN.2.2.1.2, by omega, fun k hk => ?_⟩⟩
    · rw [hFa.1 34 1 (by simp only [PXR, PPC, PPM, PTC, PTM, PTk, PTm, PRD, PRR, and_true, true_and, or_true, true_or, and_self] <;> omega), hL.1.1.2.1, eP]; exact hN.2.1.1
    · rw [eP] at hk
      rw [hFa.2 35 k (by unfold PTl; omega), hMa.1, tol_l hT 9 k (by omega)]; exact hL.1.2.2.2.2.2.2.2.2.2.1 k hk
    · rw [hFa.1 36 1 (by simp only [PXR, PPC, PPM, PTC, PTM, PTk, PTm, PRD, PRR, and_true, true_and, or_true, true_or, and_self] <;> omega), hL.1.1.2.2, eT]; exact hN.2.2.1.1
    · rw [eT] at hk
      rw [hFa.2 37 k (by unfold PTl; omega), hMa.1, tol_l hT 10 k (by omega)]; exact hL.1.2.2.2.2.2.2.2.2.2.2 k hk
  have hc : 57 ≤ 57 + 6 * p := by omega
  have hP2 : PPR w2 m2 (57 + 6 * p) p := PPR.new hc (by
    have q : ∀ k, w2.1 (57 + 6 * p) k = w1.1 (57 + 6 * p) k := fun k => hF2.1 _ _ (by simp only [PXR, PPC, PPM, PTC, PTM, PTk, PTm, PRD, PRR, and_true, true_and, or_true, true_or, and_self] <;> omega)
    simp only [q]; exact hw1) hm2
  obtain ⟨r, w3, m3, x1, x2, hF3, hM3, hr⟩ := q_text (p := p) hc 901 fu fu 0 w2 m2 (Or.inr (by omega)) (by rw [fu_eq]; omega) (by rw [fu_eq]; omega) hG2 hP2 hX2 (by rw [k5, pg2]; exact hpg) (by omega)
  have y1 : X6_readText_b11_L (57 + 6 * p) (nI p) 0 w2 = some (r, w3) := x1
  have y2 : f_X12_readPaper m1 = some (r, m3) := by rw [r1]; exact x2
  have hFb : FXL (PRD (57 + 6 * p)) PTl wc w3 := hFa.tr hF3
  have hMb : FX (PXR p) wm m3 := hMa.tr (hM3.mo (fun a k q => by simp only [PXR, PPC, PPM, PTC, PTM, PTk, PTm, PRD, PRR] at q ⊢; omega))
  have z3 : m3.1 0 1 = 0 := by rw [hM3.2 0 1 (by simp only [PXR, PPC, PPM, PTC, PTM, PTk, PTm, PRD, PRR, and_true, true_and, or_true, true_or, and_self] <;> omega), hM2.2 0 1 (by simp only [PXR, PPC, PPM, PTC, PTM, PTk, PTm, PRD, PRR, and_true, true_and, or_true, true_or, and_self] <;> omega)]; exact z1
  rw [c1, cv_s, o1, cv_s, y1, cl_s, o2, cv_s, y2, cl_s]
  have kf : f_X11_keepFault w3 = some (wI (wI (wI w3 0 7 (w3.1 1 4)) 0 8 (w3.1 1 5)) 1 1 0) := by
    unfold f_X11_keepFault f_X10_empty
    rw [lt_s', lt_s', wI_g, if_neg (show ¬ (1 = 0 ∧ 5 = 7) by omega), lt_s', cv_s]
  rw [kf, cv_s]
  have hF4 : FXL PPC PTl wc (wI (wI (wI w3 0 7 (w3.1 1 4)) 0 8 (w3.1 1 5)) 1 1 0) := (((hFb.mo (fun a k q => by simp only [PXR, PPC, PPM, PTC, PTM, PTk, PTm, PRD, PRR] at q ⊢; omega) (fun a k q => q)).tr (FXL.w _ _ (by simp only [PXR, PPC, PPM, PTC, PTM, PTk, PTm, PRD, PRR, and_true, true_and, or_true, true_or, and_self] <;> omega))).tr (FXL.w _ _ (by simp only [PXR, PPC, PPM, PTC, PTM, PTk, PTm, PRD, PRR, and_true, true_and, or_true, true_or, and_self] <;> omega))).tr (FXL.w _ _ (by simp only [PXR, PPC, PPM, PTC, PTM, PTk, PTm, PRD, PRR, and_true, true_and, or_true, true_or, and_self] <;> omega))
  have f3 : ∀ a k, ¬ a = 0 → ¬ a = 1 → (wI (wI (wI w3 0 7 (w3.1 1 4)) 0 8 (w3.1 1 5)) 1 1 0).1 a k = w3.1 a k := fun a k q1 q2 => by rw [wI_g, if_neg (by omega), wI_g, if_neg (by omega), wI_g, if_neg (by omega)]
  have t11 : (wI (wI (wI w3 0 7 (w3.1 1 4)) 0 8 (w3.1 1 5)) 1 1 0).1 1 1 = 0 := wI_s _ _ _ _
  have t7 : (wI (wI (wI w3 0 7 (w3.1 1 4)) 0 8 (w3.1 1 5)) 1 1 0).1 0 7 = w3.1 1 4 := by rw [wI_g, if_neg (by omega), wI_g, if_neg (by omega), wI_s]
  have t8 : (wI (wI (wI w3 0 7 (w3.1 1 4)) 0 8 (w3.1 1 5)) 1 1 0).1 0 8 = w3.1 1 5 := by rw [wI_g, if_neg (by omega), wI_s]
  generalize wI (wI (wI w3 0 7 (w3.1 1 4)) 0 8 (w3.1 1 5)) 1 1 0 = w4 at hF4 f3 t11 t7 t8 ⊢
  have fb : ∀ a k, ¬ a = 0 → ¬ a = 1 → ¬ (57 + 6 * p ≤ a ∧ a ≤ 57 + 6 * p + 5) → w4.1 a k = wc.1 a k := fun a k q1 q2 q3 => by rw [f3 a k q1 q2, hFb.1 a k (by simp only [PXR, PPC, PPM, PTC, PTM, PTk, PTm, PRD, PRR, and_true, true_and, or_true, true_or, and_self] <;> omega)]
  have hL4 : TLD w4 A := hL.fg (fun k _ _ => fb 3 k (by omega) (by omega) (by omega)) (fun k => fb 6 k (by omega) (by omega) (by omega)) (fun a k h1 h2 => fb a k (by omega) (by omega) (by omega)) (fun a k h1 h2 => fb a k (by omega) (by omega) (by omega)) (fun a k h1 h2 => fb a k (by omega) (by omega) (by omega)) (fun a k h1 h2 => hF4.2 a k (by unfold PTl; omega))
  have hK4 : KIN w4 A := hK.fg (fun a k h1 h2 => fb a k (by omega) (by omega) (by omega))
  have tpb : w4.1 2 = m3.1 1 := by
    rw [show w4.1 2 = wc.1 2 from funext fun k => fb 2 k (by omega) (by omega) (by omega), show m3.1 1 = wm.1 1 from funext fun k => hMb.2 1 k (by simp only [PXR, PPC, PPM, PTC, PTM, PTk, PTm, PRD, PRR, and_true, true_and, or_true, true_or, and_self] <;> omega)]; exact hTp.1
  have tpr : ∀ j, bRg (m3.1 1 j) := fun j => by rw [hMb.2 1 j (by simp only [PXR, PPC, PPM, PTC, PTM, PTk, PTm, PRD, PRR, and_true, true_and, or_true, true_or, and_self] <;> omega)]; exact hTp.2.1 j
  have hT3 : tol m3 = A := by rw [← hT]; exact tol_rd (by rw [tol_pa hT, hp]) hMb
  rcases hr with ⟨rfl, hG3, hP3⟩ | ⟨rfl, hf3⟩
  · -- well read
    have e33 : w4.1 3 3 = nI p := by rw [fb 3 3 (by omega) (by omega) (by omega), hL.2.1.1, hN.2.2.2.1.1, hp]
    have e493 : m3.1 0 49 = nI p := by rw [hMb.2 0 49 (by simp only [PXR, PPC, PPM, PTC, PTM, PTk, PTm, PRD, PRR, and_true, true_and, or_true, true_or, and_self] <;> omega), tol_0 hT 49 rfl, hN.2.2.2.1.1, hp]
    unfold f_X2_takePaper
    rw [i10, i10, e33, if_neg (show ¬ (4 : Int32) ≤ nI p from nI_ge (a := p) (b := 4) (by omega) (by omega)), lt_s', lt_s', e493, nI_1]
    -- the worlds before the orders
    have e50 : m3.1 0 50 = A.1 0 50 := (tol_0 hT3 50 rfl)
    have a49 : (tol (wI m3 0 49 (nI (p + 1)))).1 0 49 = nI (p + 1) := by rw [← tol_0 rfl 49 rfl, wI_s]
    have npB : nPa (tol (wI m3 0 49 (nI (p + 1)))) = p + 1 := by
      show ((tol (wI m3 0 49 (nI (p + 1)))).1 0 49).toNatClampNeg = _
      rw [a49, nI_clamp (by omega)]
    have b0 : ∀ k, TJ k = true → ¬ k = 49 → (tol (wI m3 0 49 (nI (p + 1)))).1 0 k = A.1 0 k := fun k hk q => by
      rw [← tol_0 rfl k hk, wI_g, if_neg (by omega), tol_0 hT3 k hk]
    have ba : ∀ a k, 2 ≤ a ∧ a ≤ 7 ∨ 38 ≤ a ∧ a ≤ 43 → (tol (wI m3 0 49 (nI (p + 1)))).1 a k = A.1 a k := fun a k q => by
      rw [← tol_a rfl a k q, wI_g, if_neg (by omega), tol_a hT3 a k q]
    have bp : ∀ a k, 20 ≤ a → a ≤ 31 → k ≤ p → (tol (wI m3 0 49 (nI (p + 1)))).1 a k = m3.1 a k := fun a k h1 h2 h3 => by
      rw [← tol_p rfl a k ⟨h1, h2⟩ (by rw [npB]; omega), wI_g, if_neg (by omega)]
    have bg : ∀ a k, (32 ≤ a ∧ a ≤ 35) ∨ a = 37 → k < 8 * p + 8 → (tol (wI m3 0 49 (nI (p + 1)))).1 a k = m3.1 a k := fun a k h1 h3 => by
      rw [← tol_g rfl a k h1 (by rw [npB]; omega), wI_g, if_neg (by omega)]
    have bh : ∀ k, k < 4 * p + 4 → (tol (wI m3 0 49 (nI (p + 1)))).1 36 k = m3.1 36 k := fun k h3 => by
      rw [← tol_h rfl k (by rw [npB]; omega), wI_g, if_neg (by omega)]
    have bl : ∀ a k, 8 ≤ a ∧ a ≤ 10 → (tol (wI m3 0 49 (nI (p + 1)))).2 a k = A.2 a k := fun a k q => by
      rw [← tol_l rfl a k q, wI_2, tol_l hT3 a k q]
    have tB : tol (wI m3 0 49 (nI (p + 1))) = tol (wI m3 0 49 (nI (p + 1))) := rfl
    generalize hBd : tol (wI m3 0 49 (nI (p + 1))) = B at a49 npB b0 ba bp bg bh bl tB
    have hes : esA B = esA A := es_eq (fun a k q => by
        rcases q with ⟨rfl, q⟩ | q
        · refine b0 k ?_ (by omega)
          unfold TJ
          simp only [Bool.or_eq_true, Bool.and_eq_true, decide_eq_true_eq, beq_iff_eq]
          omega
        · exact ba a k (by omega)) (fun a k q => bl a k q)
    have pM : ∀ k, k < p → CI1 B A k := fun k hk => by
      refine ⟨fun a h1 h2 => ?_, fun a g h1 h2 => ?_, fun h hh => ?_⟩
      · rw [bp a k h1 h2 (by omega), tol_p hT3 a k ⟨h1, h2⟩ (by omega)]
      · rw [bg a _ h1 (by omega), tol_g hT3 a _ h1 (by omega)]
      · rw [bh _ (by omega), tol_h hT3 _ (by omega)]
    have pN : CI1 B m3 p := ⟨fun a h1 h2 => bp a p h1 h2 (Nat.le_refl _), fun a g h1 h2 => bg a _ h1 (by omega), fun h hh => bh _ (by omega)⟩
    have eP : nPe B = nPe A := by unfold nPe; rw [b0 11 rfl (by omega)]
    have eT : nTh B = nTh A := by unfold nTh; rw [b0 12 rfl (by omega)]
    have eE : nEv B = nEv A := by unfold nEv; rw [b0 50 rfl (by omega)]
    have eP3 : nPe B = nPe m3 := by rw [eP]; unfold nPe; rw [tol_0 hT3 11 rfl]
    have eT3 : nTh B = nTh m3 := by rw [eT]; unfold nTh; rw [tol_0 hT3 12 rfl]
    have f5 : ∀ a k, ¬ (a = 3 ∧ k = 3) → (wI w4 3 3 (nI (p + 1))).1 a k = w4.1 a k := fun a k q => by rw [wI_g, if_neg q]
    have s33 : (wI w4 3 3 (nI (p + 1))).1 3 3 = nI (p + 1) := wI_s _ _ _ _
    have l5 : (wI w4 3 3 (nI (p + 1))).2 = w4.2 := rfl
    generalize wI w4 3 3 (nI (p + 1)) = w5 at f5 s33 l5 ⊢
    have pi3 := hP3.pi1
    have nA := hN.2.2.2.1.2
    obtain ⟨w6, m6, g1, g2, gL, gI, ges, gtf, g36, g78, gFc, gFm⟩ := q_fin (w := w5) (m := wI m3 0 49 (nI (p + 1))) (B := B) ((hL4.1.fg (fun a k h1 h2 => f5 a k (by omega)) (fun a k _ _ => by rw [l5])).es hes) ⟨s33.trans a49.symm, by rw [f5 3 4 (by omega), b0 50 rfl (by omega)]; exact hL4.2.1.2⟩ (fun k hk => by
        rw [npB] at hk
        by_cases q : k = p
        · rw [q]
          exact hP3.pap.ci pN (fun a j h1 h2 => by rw [f5 a j (by omega), f3 a j (by omega) (by omega)]) (pi3.1.1.e (by omega)).2 (pi3.1.2.1.e (by omega)).2
        · have hk' : k < nPa A := by omega
          exact (hL4.2.2.2.1 k hk').ci (pM k (by omega)) (fun a j h1 h2 => f5 a j (by omega)) ((hI.2.2.1 k hk').1.1.e (by omega)).2 ((hI.2.2.1 k hk').1.2.1.e (by omega)).2) (fun e he => by
        rw [eE] at he
        rw [f5 _ _ (by omega), f5 _ _ (by omega), f5 _ _ (by omega), f5 _ _ (by omega), f5 _ _ (by omega), ba 38 e (by omega), ba 39 e (by omega), ba 40 e (by omega), ba 41 e (by omega), ba 42 e (by omega)]
        exact hL4.2.2.2.2 e he) (by
        unfold NUM
        rw [npB, eE, eP, eT, a49]
        unfold nLa nOr
        rw [b0 10 rfl (by omega), b0 11 rfl (by omega), b0 12 rfl (by omega), b0 50 rfl (by omega), b0 75 rfl (by omega)]
        exact ⟨hN.1, hN.2.1, hN.2.2.1, ⟨rfl, by omega⟩, hN.2.2.2.2.1, by omega, hN.2.2.2.2.2.2⟩) (hI.2.1.es hes) (fun k hk => by
        rw [npB] at hk
        by_cases q : k = p
        · rw [q]; exact pi3.ci pN eP3 eT3
        · exact PI1.ci (hI.2.2.1 k (by omega)) (pM k (by omega)) eP eT) (fun e he => by
        rw [eE] at he
        have q := hI.2.2.2.1 e he
        rw [npB, ba 38 e (by omega), ba 39 e (by omega), ba 40 e (by omega), ba 41 e (by omega), ba 42 e (by omega)]
        refine ⟨q.1, fun h1 h2 => ?_, q.2.2⟩
        obtain ⟨i, hi, ei⟩ := q.2.1 h1 h2
        exact ⟨i, by omega, ei⟩) hBd
    rw [g1, cv_s, cv_s, g2, cv_s]
    have gf : ∀ a k, ¬ (a = 3 ∧ (k = 3 ∨ k = 5 ∨ k = 6)) → ¬ a = 6 → ¬ a = 7 → w6.1 a k = w4.1 a k := fun a k q1 q2 q3 => by rw [gFc.2 a k (by unfold POc; omega), f5 a k (by omega)]
    have gm : ∀ a k, ¬ (a = 0 ∧ (k = 49 ∨ k = 75 ∨ k = 78)) → ¬ a = 43 → ¬ a = 44 → m6.1 a k = m3.1 a k := fun a k q1 q2 q3 => by rw [gFm.2 a k (by unfold POw; omega), wI_g, if_neg (by omega)]
    have gl : w6.2 = w4.2 := gFc.1.trans l5
    have em49 : m6.1 0 49 = nI (p + 1) := by rw [gFm.2 0 49 (by unfold POw; omega), wI_s]
    have em1 : m6.1 0 49 - 1 = nI p := by rw [em49, show (1 : Int32) = nI 1 from rfl, pk_sub (by omega)]; rfl
    rw [em1]
    have c36 : w6.1 3 6 = wc.1 3 6 + 1 := by rw [g36, f5 3 6 (by omega), fb 3 6 (by omega) (by omega) (by omega)]
    obtain ⟨n, hn, en⟩ := hcb
    have hes6 : esA (tol m6) = esA A := ges.trans hes
    refine ⟨nI p, w6, m6, tol m6, rfl, rfl, ⟨gL, (hK4.fg (fun a k h1 h2 => gf a k (by omega) (by omega) (by omega))).es hes6, gI, hPe.es hes6, hX.es hes6, rfl, ?_, ⟨?_, fun j => ?_, ?_, ?_⟩, ?_, ?_⟩, ⟨fun a k q => ?_, fun a k q => ?_⟩, ⟨?_, fun a k q => ?_⟩, hes6, Or.inr ⟨c36, g78⟩⟩
    · obtain ⟨cc, hcc, e1, e2, e3⟩ := hB
      have ec : cc = n := by rw [e1, nI_eq (by omega) (by omega)] at en; exact en
      refine ⟨n + 1, by omega, by rw [c36, en, nI_1], ?_, ?_⟩
      · rw [gf 8 13 (by omega) (by omega) (by omega), fb 8 13 (by omega) (by omega) (by omega)]
        rcases e2 with q | ⟨d, hd, q⟩
        · exact Or.inl q
        · exact Or.inr ⟨d, by omega, q⟩
      · rw [gf 16 9 (by omega) (by omega) (by omega), fb 16 9 (by omega) (by omega) (by omega)]
        rcases e3 with q | ⟨d, hd, q⟩
        · exact Or.inl q
        · exact Or.inr ⟨d, by omega, q⟩
    · rw [show w6.1 2 = w4.1 2 from funext fun k => gf 2 k (by omega) (by omega) (by omega), show m6.1 1 = m3.1 1 from funext fun k => gm 1 k (by omega) (by omega) (by omega)]; exact tpb
    · rw [gm 1 j (by omega) (by omega) (by omega)]; exact tpr j
    · rw [gf 1 1 (by omega) (by omega) (by omega), gm 0 1 (by omega) (by omega) (by omega), t11, z3]
    · exact ⟨0, by omega, (gm 0 1 (by omega) (by omega) (by omega)).trans z3⟩
    · rw [gf 0 7 (by omega) (by omega) (by omega), gm 0 8 (by omega) (by omega) (by omega), t7, hG3.f0, hG3.2.2.1]
    · rw [gf 0 8 (by omega) (by omega) (by omega), gm 0 9 (by omega) (by omega) (by omega), t8, hG3.2.1, hG3.2.2.2]
    · rw [gf a k (by simp only [PPC] at q; omega) (by simp only [PPC] at q; omega) (by simp only [PPC] at q; omega)]; exact hF4.1 a k q
    · rw [gl]; exact hF4.2 a k q
    · rw [gFm.1]; exact hMb.1
    · rw [gm a k (by simp only [PPM] at q; omega) (by simp only [PPM] at q; omega) (by simp only [PPM] at q; omega)]
      exact hMb.2 a k (by simp only [PPM, PXR] at q ⊢; omega)
  · -- a fault
    rw [i01, i01]
    refine ⟨-1, w4, m3, A, rfl, rfl, ⟨hL4, hK4, hI, hPe, hX, hT3, hB.fr (fb 3 6 (by omega) (by omega) (by omega)) (Or.inl (fb 8 13 (by omega) (by omega) (by omega))) (Or.inl (fb 16 9 (by omega) (by omega) (by omega))), ⟨tpb, tpr, by rw [t11, z3], ⟨0, by omega, z3⟩⟩, ?_, ?_⟩, hF4, hMb.mo (fun a k q => by simp only [PXR, PPC, PPM, PTC, PTM, PTk, PTm, PRD, PRR] at q ⊢; omega), rfl, Or.inl ⟨rfl, fb 3 6 (by omega) (by omega) (by omega), hMb.2 0 78 (by simp only [PXR, PPC, PPM, PTC, PTM, PTk, PTm, PRD, PRR, and_true, true_and, or_true, true_or, and_self] <;> omega)⟩⟩
    · rw [t7]; exact hf3.2.1
    · rw [t8]; exact hf3.2.2
end
