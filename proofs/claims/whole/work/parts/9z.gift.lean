/-! gifts -/
-- PTC PTM PRD PRR PIc PIr
def PGc (c g a k : Nat) : Prop := PTC a k ∨ (a = c ∧ (k = 8 ∨ k = 15 ∨ k = 16)) ∨ (c < a ∧ a ≤ c + 5 ∧ k = g)
def PGr (p G a k : Nat) : Prop := PTM a k ∨ (a = 23 ∧ k = p) ∨ ((32 ≤ a ∧ a ≤ 35 ∨ a = 37) ∧ k = G)
def gvM (f : Nat → Bool) : Nat → Nat → Bool
  | 0, _ => false
  | j + 1, i => f i || gvM f j (i + 1)
theorem gvM_s {f : Nat → Bool} {n i : Nat} (h : i < n) : gvM f (n - i) i = (f i || gvM f (n - (i + 1)) (i + 1)) := by
  rw [show n - i = (n - (i + 1)) + 1 by omega]; rfl
theorem gvM_any (f : Nat → Bool) : ∀ k i, anyF f (i + k) = (anyF f i || gvM f k i)
  | 0, i => (Bool.or_false _).symm
  | k + 1, i => by
    have e := gvM_any f k (i + 1)
    rw [show i + (k + 1) = i + 1 + k by omega, e]
    show ((anyF f i || f i) || gvM f k (i + 1)) = (anyF f i || (f i || gvM f k (i + 1)))
    rw [Bool.or_assoc]
section
variable {w m w0 m0 : Wd} {c p g : Nat}
theorem gift_done (hc : 57 ≤ c) (hp4 : p < 4) (hP : PPR w0 m0 c p) (hg : g = nGi m0 p) (hg8 : g < 8) (hF : FXL (PGc c g) PTl w0 w) (hM : FX (PGr p (8 * p + g)) m0 m) (h8 : w.1 c 8 = nI (g + 1)) (h23 : m.1 23 p = nI (g + 1)) (h1 : w.1 (c + 1) g = m.1 32 (8 * p + g)) (h2 : w.1 (c + 2) g = m.1 33 (8 * p + g)) (h3 : w.1 (c + 3) g = m.1 34 (8 * p + g)) (hi : PIF w m c p g) (hA : PAPg m p g) (h15 : RB (w.1 c 15) (fun t => anyF (fun k => decide (m0.1 32 (8 * p + k) = nI t)) g || decide (m.1 32 (8 * p + g) = nI t))) (h16 : w.1 c 16 = w0.1 c 16 ||| (1 <<< (m.1 34 (8 * p + g) &&& 31))) : PPR w m c p := by
  obtain ⟨k1, k2, k3, k4, k5, k6, k7, k8, k9⟩ := hP
  have en : nGi m p = g + 1 := by
    show (m.1 23 p).toNatClampNeg = _
    rw [h23, nI_clamp (by omega)]
  have ePe : nPe m = nPe m0 := by unfold nPe; rw [hM.2 0 11 (by simp only [PIc, PIr, PGc, PGr, PTC, PTM, PRD, PRR, and_true, true_and, or_true, true_or, and_self] <;> omega)]
  have eTh : nTh m = nTh m0 := by unfold nTh; rw [hM.2 0 12 (by simp only [PIc, PIr, PGc, PGr, PTC, PTM, PRD, PRR, and_true, true_and, or_true, true_or, and_self] <;> omega)]
  have ehr : hrS m p = hrS m0 p := hrS_cg (fun k => hM.2 36 k (by simp only [PIc, PIr, PGc, PGr, PTC, PTM, PRD, PRR, and_true, true_and, or_true, true_or, and_self] <;> omega)) (hM.2 24 p (by simp only [PIc, PIr, PGc, PGr, PTC, PTM, PRD, PRR, and_true, true_and, or_true, true_or, and_self] <;> omega))
  have gEn : gE w m c p := by
    obtain ⟨a1, a2, a3, a4, a5⟩ := k7
    refine ⟨by rw [h8, h23], ⟨g + 1, by omega, h23⟩, fun g' hg' => ?_, fun g' hg' => ?_, ?_⟩
    · rw [en] at hg'
      by_cases q : g' = g
      · rw [q]; exact ⟨h1, h2, h3, hi⟩
      · obtain ⟨b1, b2, b3, b4⟩ := a3 g' (by omega)
        refine ⟨?_, ?_, ?_, ?_⟩
        · rw [hF.1 _ _ (by simp only [PIc, PIr, PGc, PGr, PTC, PTM, PRD, PRR, and_true, true_and, or_true, true_or, and_self] <;> omega), hM.2 _ _ (by simp only [PIc, PIr, PGc, PGr, PTC, PTM, PRD, PRR, and_true, true_and, or_true, true_or, and_self] <;> omega)]; exact b1
        · rw [hF.1 _ _ (by simp only [PIc, PIr, PGc, PGr, PTC, PTM, PRD, PRR, and_true, true_and, or_true, true_or, and_self] <;> omega), hM.2 _ _ (by simp only [PIc, PIr, PGc, PGr, PTC, PTM, PRD, PRR, and_true, true_and, or_true, true_or, and_self] <;> omega)]; exact b2
        · rw [hF.1 _ _ (by simp only [PIc, PIr, PGc, PGr, PTC, PTM, PRD, PRR, and_true, true_and, or_true, true_or, and_self] <;> omega), hM.2 _ _ (by simp only [PIc, PIr, PGc, PGr, PTC, PTM, PRD, PRR, and_true, true_and, or_true, true_or, and_self] <;> omega)]; exact b3
        · unfold PIF
          rw [hF.1 (c + 4) g' (by simp only [PIc, PIr, PGc, PGr, PTC, PTM, PRD, PRR, and_true, true_and, or_true, true_or, and_self] <;> omega), hF.1 (c + 5) g' (by simp only [PIc, PIr, PGc, PGr, PTC, PTM, PRD, PRR, and_true, true_and, or_true, true_or, and_self] <;> omega), hM.2 35 _ (by simp only [PIc, PIr, PGc, PGr, PTC, PTM, PRD, PRR, and_true, true_and, or_true, true_or, and_self] <;> omega), hM.2 37 _ (by simp only [PIc, PIr, PGc, PGr, PTC, PTM, PRD, PRR, and_true, true_and, or_true, true_or, and_self] <;> omega)]; exact b4
    · rw [en] at hg'
      by_cases q : g' = g
      · rw [q]; exact hA
      · have b := a4 g' (by omega)
        unfold PAPg at b ⊢
        rw [ePe, eTh, hM.2 34 _ (by simp only [PIc, PIr, PGc, PGr, PTC, PTM, PRD, PRR, and_true, true_and, or_true, true_or, and_self] <;> omega), hM.2 32 _ (by simp only [PIc, PIr, PGc, PGr, PTC, PTM, PRD, PRR, and_true, true_and, or_true, true_or, and_self] <;> omega), hM.2 33 _ (by simp only [PIc, PIr, PGc, PGr, PTC, PTM, PRD, PRR, and_true, true_and, or_true, true_or, and_self] <;> omega), hM.2 35 _ (by simp only [PIc, PIr, PGc, PGr, PTC, PTM, PRD, PRR, and_true, true_and, or_true, true_or, and_self] <;> omega), hM.2 37 _ (by simp only [PIc, PIr, PGc, PGr, PTC, PTM, PRD, PRR, and_true, true_and, or_true, true_or, and_self] <;> omega)]; exact b
    · rw [en]
      refine h15.cg (fun t _ => ?_)
      show _ = (anyF (fun g => decide (m.1 32 (8 * p + g) = nI t)) g || decide (m.1 32 (8 * p + g) = nI t))
      congr 1
      exact anyF_cg _ (fun k hk => by rw [hM.2 32 _ (by simp only [PIc, PIr, PGc, PGr, PTC, PTM, PRD, PRR, and_true, true_and, or_true, true_or, and_self] <;> omega)])
  have gGn : gG w m c p := by
    unfold gG gnS
    rw [en, h16]
    show _ = gnF m p g ||| 1 <<< (m.1 34 (8 * p + g) &&& 31)
    rw [gn_cg (m := m0) ehr g (fun k hk => hM.2 34 _ (by simp only [PIc, PIr, PGc, PGr, PTC, PTM, PRD, PRR, and_true, true_and, or_true, true_or, and_self] <;> omega))]
    have : w0.1 c 16 = gnF m0 p (nGi m0 p) := k9
    rw [this, hg]
  refine ⟨k1.fr hF hM ?_ ?_ ?_ ?_, k2.fr hF hM ?_ ?_ ?_, k3.fr hF hM ?_ ?_ ?_ (fun k => ?_), k4.fr hF hM ?_ ?_ ?_ ?_, k5.fr hF hM ?_ ?_, k6.fr hF hM ?_ ?_, gEn, k8.fr hF hM ?_ ?_ ?_ ?_ ?_ ?_, gGn⟩
  all_goals (simp only [PIc, PIr, PGc, PGr, PTC, PTM, PRD, PRR, and_true, true_and, or_true, true_or, and_self] <;> omega)
theorem fl_if (h : FLT w) (h8 : w.1 c 8 = nI g) (hg : g < 8) (hc : 57 ≤ c) : f_X6_readIf c w = some (wI (wI w (c + 4) g 0) (c + 5) g (-1)) := by
  have hf : FLT (wI (wI w (c + 4) g 0) (c + 5) g (-1)) := by
    refine ⟨?_, ?_⟩
    · rw [wI_g, if_neg (by omega), wI_g, if_neg (by omega)]; exact h.1
    · rw [wI_g, if_neg (by omega), wI_g, if_neg (by omega)]; exact h.2
  unfold f_X6_readIf
  rw [h8, if_pos (z_inb hg (by omega)), nI_clamp (n := g) (by omega), lt_s', wI_g, if_neg (show ¬ (c = c + 4 ∧ 8 = g) by omega), h8, if_pos (z_inb hg (by omega)), nI_clamp (n := g) (by omega), lt_s', zf_passes hf, cl_s, if_pos (show (0 : Int32) = 0 from rfl)]
theorem FT.e {w' : Wd} (h : FT w m) (e : ∀ k, w'.1 1 k = w.1 1 k) : FT w' m := by
  obtain ⟨⟨h1, h2⟩, h3, h4⟩ := h
  exact ⟨⟨by rw [e]; exact h1, by rw [e]; exact h2⟩, by rw [e]; exact h3, by rw [e]; exact h4⟩
/-- behind a fault the rest of a gift changes nothing else -/
theorem fl_tail (h : FLT w) (h8 : w.1 c 8 = nI g) (hg : g < 8) (hc : 57 ≤ c) (x y : Int32) : ∃ w', (lt (wI w (c + 3) g x) fun w12 => if inb (w12.1 c 8) 8 = true then (cl (f_X6_bit (w12.1 (c + 3) (Int32.toNatClampNeg (w12.1 c 8))) w12) fun r14 w13 => lt (wI w13 c 16 ((w12.1 c 16) ||| r14)) fun w15 => cv (f_X6_readIf c w15) fun w16 => lt (wI w16 c 8 ((w16.1 c 8) + 1)) fun w17 => some w17) else none) = some w' ∧ FXL (PGc c g) PTl w w' ∧ ∀ k, w'.1 1 k = w.1 1 k := by
  have hb : ∃ z, f_X6_bit x (wI w (c + 3) g x) = some (z, wI w (c + 3) g x) := by
    unfold f_X6_bit
    by_cases q : 0 ≤ x
    · rw [if_pos q]; exact ⟨_, rfl⟩
    · rw [if_neg q]; exact ⟨_, rfl⟩
  obtain ⟨z, hz⟩ := hb
  have e8 : (wI w (c + 3) g x).1 c 8 = nI g := by rw [wI_g, if_neg (by omega)]; exact h8
  rw [lt_s', e8, if_pos (z_inb hg (by omega)), nI_clamp (n := g) (by omega), wI_s, hz, cl_s, lt_s']
  have hf : FLT (wI (wI w (c + 3) g x) c 16 ((wI w (c + 3) g x).1 c 16 ||| z)) := by
    refine ⟨?_, ?_⟩
    · rw [wI_g, if_neg (by omega), wI_g, if_neg (by omega)]; exact h.1
    · rw [wI_g, if_neg (by omega), wI_g, if_neg (by omega)]; exact h.2
  have e82 : (wI (wI w (c + 3) g x) c 16 ((wI w (c + 3) g x).1 c 16 ||| z)).1 c 8 = nI g := by rw [wI_g, if_neg (by omega)]; exact e8
  rw [fl_if hf e82 hg hc, cv_s, lt_s']
  refine ⟨_, rfl, ((((FXL.w _ _ (by simp only [PIc, PIr, PGc, PGr, PTC, PTM, PRD, PRR, and_true, true_and, or_true, true_or, and_self] <;> omega)).tr (FXL.w _ _ (by simp only [PIc, PIr, PGc, PGr, PTC, PTM, PRD, PRR, and_true, true_and, or_true, true_or, and_self] <;> omega))).tr (FXL.w _ _ (by simp only [PIc, PIr, PGc, PGr, PTC, PTM, PRD, PRR, and_true, true_and, or_true, true_or, and_self] <;> omega))).tr (FXL.w _ _ (by simp only [PIc, PIr, PGc, PGr, PTC, PTM, PRD, PRR, and_true, true_and, or_true, true_or, and_self] <;> omega))).tr (FXL.w _ _ (by simp only [PIc, PIr, PGc, PGr, PTC, PTM, PRD, PRR, and_true, true_and, or_true, true_or, and_self] <;> omega)), fun k => ?_⟩
  rw [wI_g, if_neg (by omega), wI_g, if_neg (by omega), wI_g, if_neg (by omega), wI_g, if_neg (by omega), wI_g, if_neg (by omega)]
theorem fl_111 (h : FLT w) (h8 : w.1 c 8 = nI g) (hg : g < 8) (hc : 57 ≤ c) : ∃ w', X6_readGift_b111 c w = some w' ∧ FXL (PGc c g) PTl w w' ∧ ∀ k, w'.1 1 k = w.1 1 k := by
  unfold X6_readGift_b111
  rw [zf_need h, cv_s, zf_known h, cl_s, h8, if_pos (z_inb hg (by omega)), nI_clamp (n := g) (by omega)]
  exact fl_tail h h8 hg hc (-1) 0
theorem q_to (hc : 57 ≤ c) (hP : PPR w0 m0 c p) (hg : g = nGi m0 p) (hg8 : g < 8) (hF : FXL (PGc c g) PTl w0 w) (hM : FX (PGr p (8 * p + g)) m0 m) (hp : PTG m0 ≤ PTG m) (h : GR w m) (hX : CTX w m p) (h8 : w.1 c 8 = nI g) (h23 : m.1 23 p = nI g) (h1 : w.1 (c + 1) g = m.1 32 (8 * p + g)) (h2 : w.1 (c + 2) g = m.1 33 (8 * p + g)) (hT : (m.1 32 (8 * p + g) = -1 ∧ ∃ v, 1 ≤ v ∧ v ≤ 99999 ∧ m.1 33 (8 * p + g) = nI v) ∨ (NN (m.1 32 (8 * p + g)) (nTh m) ∧ m.1 33 (8 * p + g) = 0)) (h15 : RB (w.1 c 15) (fun t => anyF (fun k => decide (m0.1 32 (8 * p + k) = nI t)) g || decide (m.1 32 (8 * p + g) = nI t))) (h16 : w.1 c 16 = w0.1 c 16) : CLA c p w0 m0 (X6_readGift_b111 c w) (X12_readGift_b175 (nI p) (nI (8 * p + g)) m) := by
  have hp4 := hX.2.1
  have toD : ∀ {u : Wd}, FXL (PGc c g) PTl w0 u → FXL (PRD c) PTl w0 u := fun k => k.mo (fun a k q => by simp only [PIc, PIr, PGc, PGr, PTC, PTM, PRD, PRR] at q ⊢; omega) (fun a k q => q)
  have toR : ∀ {u : Wd}, FX (PGr p (8 * p + g)) m0 u → FX (PRR p) m0 u := fun k => k.mo (fun a k q => by simp only [PIc, PIr, PGc, PGr, PTC, PTM, PRD, PRR] at q ⊢; omega)
  have i8 := z_inb hg8 (show 8 < 2 ^ 31 by omega)
  have i32 := z_inb (show 8 * p + g < 32 by omega) (show 32 < 2 ^ 31 by omega)
  unfold X12_readGift_b175
  obtain ⟨w1, m1, u1, hF1, hM1, hr⟩ := q_need h (show 36 < 47 by omega)
  have hFa : FXL (PGc c g) PTl w0 w1 := hF.tr (hF1.mo (fun a k q => Or.inl q) (fun a k q => q))
  have hMa : FX (PGr p (8 * p + g)) m0 m1 := hM.tr (hM1.mo (fun a k q => Or.inl q))
  have e8 : w1.1 c 8 = nI g := (hF1.1 _ _ (by simp only [PIc, PIr, PGc, PGr, PTC, PTM, PRD, PRR, and_true, true_and, or_true, true_or, and_self] <;> omega)).trans h8
  rcases hr with ⟨u2, hG1, hp1⟩ | ⟨u2, hf1⟩
  · rw [u2, cl_s, if_neg (show ¬ (1 : Int32) = 0 by decide)]
    have hX1 := hX.fr hc (PTC_D hF1) (PTM_R (p := p) hM1)
    obtain ⟨r, w2, m2, v1, hF2, hM2, hr2⟩ := q_known hG1 hX1.2.2.2.2.2.2.1
    unfold X6_readGift_b111
    rw [u1, cv_s, v1, cl_s, e8, if_pos i8, nI_clamp (n := g) (by omega), hX1.2.2.1]
    have hFb : FXL (PGc c g) PTl w0 w2 := hFa.tr (hF2.mo (fun a k q => Or.inl q) (fun a k q => q))
    have hMb : FX (PGr p (8 * p + g)) m0 m2 := hMa.tr (hM2.mo (fun a k q => Or.inl q))
    have e82 : w2.1 c 8 = nI g := (hF2.1 _ _ (by simp only [PIc, PIr, PGc, PGr, PTC, PTM, PRD, PRR, and_true, true_and, or_true, true_or, and_self] <;> omega)).trans e8
    rcases hr2 with ⟨v2, hG2, hp2, g7, i, hi, rfl⟩ | ⟨v2, hf2, rfl⟩
    · have hX2 := hX1.fr hc (PTC_D hF2) (PTM_R (p := p) hM2)
      rw [v2, cl_s, if_neg (show ¬ (1 : Int32) = 0 by decide), if_pos i32, nI_clamp (n := 8 * p + g) (by omega), lt_s', lt_s', g7, wI_g, if_neg (show ¬ (c = c + 3 ∧ 8 = g) by omega), e82, if_pos i8, nI_clamp (n := g) (by omega), wI_s, zc_bit (by have := hX1.2.2.2.1; omega), cl_s, lt_s', wI_g, if_neg (show ¬ (c = c + 3 ∧ 16 = g) by omega)]
      have hG3 : GR (wI (wI w2 (c + 3) g (nI i)) c 16 (w2.1 c 16 ||| (1 <<< (nI i &&& 31)))) (wI m2 34 (8 * p + g) (nI i)) := ((hG2.c (by omega) (by omega)).c (by omega) (by omega)).r (by omega)
      have hFc : FXL (PGc c g) PTl w0 (wI (wI w2 (c + 3) g (nI i)) c 16 (w2.1 c 16 ||| (1 <<< (nI i &&& 31)))) := (hFb.tr (FXL.w _ _ (by simp only [PIc, PIr, PGc, PGr, PTC, PTM, PRD, PRR, and_true, true_and, or_true, true_or, and_self] <;> omega))).tr (FXL.w _ _ (by simp only [PIc, PIr, PGc, PGr, PTC, PTM, PRD, PRR, and_true, true_and, or_true, true_or, and_self] <;> omega))
      have hMc : FX (PGr p (8 * p + g)) m0 (wI m2 34 (8 * p + g) (nI i)) := hMb.tr (FX.w _ _ (by simp only [PIc, PIr, PGc, PGr, PTC, PTM, PRD, PRR, and_true, true_and, or_true, true_or, and_self] <;> omega))
      have hX3 : CTX (wI (wI w2 (c + 3) g (nI i)) c 16 (w2.1 c 16 ||| (1 <<< (nI i &&& 31)))) (wI m2 34 (8 * p + g) (nI i)) p := hX2.fr hc ((FXL.w _ _ (by simp only [PIc, PIr, PGc, PGr, PTC, PTM, PRD, PRR, and_true, true_and, or_true, true_or, and_self] <;> omega)).tr (FXL.w _ _ (by simp only [PIc, PIr, PGc, PGr, PTC, PTM, PRD, PRR, and_true, true_and, or_true, true_or, and_self] <;> omega))) (FX.w _ _ (by simp only [PIc, PIr, PGc, PGr, PTC, PTM, PRD, PRR, and_true, true_and, or_true, true_or, and_self] <;> omega))
      have e83 : (wI (wI w2 (c + 3) g (nI i)) c 16 (w2.1 c 16 ||| (1 <<< (nI i &&& 31)))).1 c 8 = nI g := by rw [wI_g, if_neg (by omega), wI_g, if_neg (by omega)]; exact e82
      obtain ⟨w4, m4, x1, hF4, hM4, hr4⟩ := q_if (p := p) hG3 hc hX3 e83 hg8
      have hFd : FXL (PGc c g) PTl w0 w4 := hFc.tr (hF4.mo (fun a k q => by simp only [PIc, PIr, PGc, PGr, PTC, PTM, PRD, PRR] at q ⊢; omega) (fun a k q => q))
      have hMd : FX (PGr p (8 * p + g)) m0 m4 := hMc.tr (hM4.mo (fun a k q => by simp only [PIc, PIr, PGc, PGr, PTC, PTM, PRD, PRR] at q ⊢; omega))
      rw [x1, cv_s, lt_s']
      have hFe : FXL (PGc c g) PTl w0 (wI w4 c 8 (w4.1 c 8 + 1)) := hFd.tr (FXL.w _ _ (by simp only [PIc, PIr, PGc, PGr, PTC, PTM, PRD, PRR, and_true, true_and, or_true, true_or, and_self] <;> omega))
      rcases hr4 with ⟨x2, hG4, hp4', hpi, h35, h374⟩ | ⟨x2, hf4⟩
      · have e23 : m4.1 23 p = nI g := by rw [hM4.2 _ _ (by simp only [PIc, PIr, PGc, PGr, PTC, PTM, PRD, PRR, and_true, true_and, or_true, true_or, and_self] <;> omega), wI_g, if_neg (by omega), hM2.2 _ _ (by simp only [PIc, PIr, PGc, PGr, PTC, PTM, PRD, PRR, and_true, true_and, or_true, true_or, and_self] <;> omega), hM1.2 _ _ (by simp only [PIc, PIr, PGc, PGr, PTC, PTM, PRD, PRR, and_true, true_and, or_true, true_or, and_self] <;> omega)]; exact h23
        have e84 : w4.1 c 8 = nI g := (hF4.1 _ _ (by simp only [PIc, PIr, PGc, PGr, PTC, PTM, PRD, PRR, and_true, true_and, or_true, true_or, and_self] <;> omega)).trans e83
        rw [x2, cl_s, if_neg (show ¬ (1 : Int32) = 0 by decide), if_pos (z_inb hp4 (by omega)), if_pos (z_inb hp4 (by omega)), nI_clamp (n := p) (by omega), lt_s', e23, e84, nI_1]
        rw [e84, nI_1] at hFe
        have hMe : FX (PGr p (8 * p + g)) m0 (wI m4 23 p (nI (g + 1))) := hMd.tr (FX.w _ _ (by simp only [PIc, PIr, PGc, PGr, PTC, PTM, PRD, PRR, and_true, true_and, or_true, true_or, and_self] <;> omega))
        rw [PTG_r (by omega)] at hp4'
        have w32 : ∀ a, 32 ≤ a → a ≤ 33 → (wI m4 23 p (nI (g + 1))).1 a (8 * p + g) = m.1 a (8 * p + g) := fun a h1 h2 => by rw [wI_g, if_neg (by omega), hM4.2 _ _ (by simp only [PIc, PIr, PGc, PGr, PTC, PTM, PRD, PRR, and_true, true_and, or_true, true_or, and_self] <;> omega), wI_g, if_neg (by omega), hM2.2 _ _ (by simp only [PIc, PIr, PGc, PGr, PTC, PTM, PRD, PRR, and_true, true_and, or_true, true_or, and_self] <;> omega), hM1.2 _ _ (by simp only [PIc, PIr, PGc, PGr, PTC, PTM, PRD, PRR, and_true, true_and, or_true, true_or, and_self] <;> omega)]
        have wc1 : ∀ a, c + 1 ≤ a → a ≤ c + 2 → (wI w4 c 8 (nI (g + 1))).1 a g = w.1 a g := fun a h1 h2 => by rw [wI_g, if_neg (by omega), hF4.1 _ _ (by simp only [PIc, PIr, PGc, PGr, PTC, PTM, PRD, PRR, and_true, true_and, or_true, true_or, and_self] <;> omega), wI_g, if_neg (by omega), wI_g, if_neg (by omega), hF2.1 _ _ (by simp only [PIc, PIr, PGc, PGr, PTC, PTM, PRD, PRR, and_true, true_and, or_true, true_or, and_self] <;> omega), hF1.1 _ _ (by simp only [PIc, PIr, PGc, PGr, PTC, PTM, PRD, PRR, and_true, true_and, or_true, true_or, and_self] <;> omega)]
        have w34 : (wI m4 23 p (nI (g + 1))).1 34 (8 * p + g) = nI i := by rw [wI_g, if_neg (by omega), hM4.2 _ _ (by simp only [PIc, PIr, PGc, PGr, PTC, PTM, PRD, PRR, and_true, true_and, or_true, true_or, and_self] <;> omega), wI_s]
        have ePe : nPe (wI m4 23 p (nI (g + 1))) = nPe m1 := by
          unfold nPe; rw [wI_g, if_neg (by omega), hM4.2 0 11 (by simp only [PIc, PIr, PGc, PGr, PTC, PTM, PRD, PRR, and_true, true_and, or_true, true_or, and_self] <;> omega), wI_g, if_neg (by omega), hM2.2 0 11 (by simp only [PIc, PIr, PGc, PGr, PTC, PTM, PRD, PRR, and_true, true_and, or_true, true_or, and_self] <;> omega)]
        have ePe3 : nPe (wI m2 34 (8 * p + g) (nI i)) = nPe m1 := by
          unfold nPe; rw [wI_g, if_neg (by omega), hM2.2 0 11 (by simp only [PIc, PIr, PGc, PGr, PTC, PTM, PRD, PRR, and_true, true_and, or_true, true_or, and_self] <;> omega)]
        have eTh : nTh (wI m4 23 p (nI (g + 1))) = nTh m := by
          unfold nTh; rw [wI_g, if_neg (by omega), hM4.2 0 12 (by simp only [PIc, PIr, PGc, PGr, PTC, PTM, PRD, PRR, and_true, true_and, or_true, true_or, and_self] <;> omega), wI_g, if_neg (by omega), hM2.2 0 12 (by simp only [PIc, PIr, PGc, PGr, PTC, PTM, PRD, PRR, and_true, true_and, or_true, true_or, and_self] <;> omega), hM1.2 0 12 (by simp only [PIc, PIr, PGc, PGr, PTC, PTM, PRD, PRR, and_true, true_and, or_true, true_or, and_self] <;> omega)]
        have v35 : (wI m4 23 p (nI (g + 1))).1 35 (8 * p + g) = m4.1 35 (8 * p + g) := by rw [wI_g, if_neg (by omega)]
        have v37 : (wI m4 23 p (nI (g + 1))).1 37 (8 * p + g) = m4.1 37 (8 * p + g) := by rw [wI_g, if_neg (by omega)]
        refine ⟨_, _, rfl, toD hFe, toR hMe, Or.inl ⟨rfl, (hG4.c (by omega) (by omega)).r (by omega), by rw [PTG_r (by omega)]; omega, gift_done hc hp4 hP hg hg8 hFe hMe (wI_s _ _ _ _) (wI_s _ _ _ _) ?_ ?_ ?_ ?_ ⟨?_, ?_, ?_, ?_⟩ ?_ ?_⟩⟩
        · rw [w32 32 (by omega) (by omega), wc1 (c + 1) (by omega) (by omega)]; exact h1
        · rw [w32 33 (by omega) (by omega), wc1 (c + 2) (by omega) (by omega)]; exact h2
        · rw [w34, wI_g, if_neg (by omega), hF4.1 _ _ (by simp only [PIc, PIr, PGc, PGr, PTC, PTM, PRD, PRR, and_true, true_and, or_true, true_or, and_self] <;> omega), wI_g, if_neg (by omega), wI_s]
        · unfold PIF
          rw [v35, v37, wI_g, if_neg (by omega), wI_g, if_neg (by omega)]; exact hpi
        · rw [w34, ePe]; exact ⟨i, hi, rfl⟩
        · rw [w32 32 (by omega) (by omega), w32 33 (by omega) (by omega), eTh]; exact hT
        · rw [v35, ePe]; rw [ePe3] at h35; exact h35
        · rw [v35, v37]; exact h374
        · rw [w32 32 (by omega) (by omega), wI_g, if_neg (by omega), hF4.1 _ _ (by simp only [PIc, PIr, PGc, PGr, PTC, PTM, PRD, PRR, and_true, true_and, or_true, true_or, and_self] <;> omega), wI_g, if_neg (by omega), wI_g, if_neg (by omega), hF2.1 _ _ (by simp only [PIc, PIr, PGc, PGr, PTC, PTM, PRD, PRR, and_true, true_and, or_true, true_or, and_self] <;> omega), hF1.1 _ _ (by simp only [PIc, PIr, PGc, PGr, PTC, PTM, PRD, PRR, and_true, true_and, or_true, true_or, and_self] <;> omega)]; exact h15
        · rw [w34, wI_g, if_neg (by omega), hF4.1 _ _ (by simp only [PIc, PIr, PGc, PGr, PTC, PTM, PRD, PRR, and_true, true_and, or_true, true_or, and_self] <;> omega), wI_s, hF2.1 _ _ (by simp only [PIc, PIr, PGc, PGr, PTC, PTM, PRD, PRR, and_true, true_and, or_true, true_or, and_self] <;> omega), hF1.1 _ _ (by simp only [PIc, PIr, PGc, PGr, PTC, PTM, PRD, PRR, and_true, true_and, or_true, true_or, and_self] <;> omega), h16]
      · rw [x2, cl_s, if_pos (show (0 : Int32) = 0 from rfl)]
        exact ⟨_, m4, rfl, toD hFe, toR hMd, Or.inr ⟨rfl, hf4.c (by omega)⟩⟩
    · obtain ⟨w3, x1, x2, x3⟩ := fl_tail hf2.1 e82 hg8 hc (-1) 0
      rw [x1, v2, cl_s, if_pos (show (0 : Int32) = 0 from rfl)]
      exact ⟨w3, m2, rfl, toD (hFb.tr x2), toR hMb, Or.inr ⟨rfl, hf2.e x3⟩⟩
  · obtain ⟨w3, x1, x2, x3⟩ := fl_111 hf1.1 e8 hg8 hc
    have e1 : X6_readGift_b111 c w = X6_readGift_b111 c w1 := by
      unfold X6_readGift_b111
      rw [u1, zf_need hf1.1]
    rw [e1, x1, u2, cl_s, if_pos (show (0 : Int32) = 0 from rfl)]
    exact ⟨w3, m1, rfl, toD (hFa.tr x2), toR hMa, Or.inr ⟨rfl, hf1.e x3⟩⟩
end
