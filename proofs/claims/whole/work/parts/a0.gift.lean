/-! gifts, begun -/
-- PTC PTM PRD PRR PGc PGr
section
variable {w m : Wd} {c p : Nat}
theorem FLT.i (h : FLT w) {a k : Nat} {v : Int32} (ha : ¬ a = 1) : FLT (wI w a k v) := by
  refine ⟨?_, ?_⟩
  · rw [wI_g, if_neg (by omega)]; exact h.1
  · rw [wI_g, if_neg (by omega)]; exact h.2
theorem zm_giveL {g : Nat} (hp4 : p < 4) (hg : g < 8) (r : Int32) : X12_readGift_b115_L (nI p) (nI (8 * p + g)) r (nI (8 * p)) m = (if r = -1 then (cl (f_X12_bad 5 m) fun r20 w19 => if isB r20 = true then some (r20, w19) else none) else if anyF (fun k => decide (m.1 32 (8 * p + k) = r)) g = true then (cl (f_X12_bad 3 m) fun r22 w21 => if isB r22 = true then some (r22, w21) else none) else (cv (f_X12_scan (wI m 32 (8 * p + g) r)) fun w10 => X12_readGift_b175 (nI p) (nI (8 * p + g)) w10)) := by
  have ea : anyF (fun k => decide (m.1 32 (8 * p + k) = r)) g = gvM (fun k => decide (m.1 32 (8 * p + k) = r)) g 0 := by
    have := gvM_any (fun k => decide (m.1 32 (8 * p + k) = r)) g 0
    rw [Nat.zero_add] at this
    rw [this]; rfl
  rw [ea]
  refine (up5 (fun i => (nI p, nI (8 * p + g), r, nI (8 * p + i), m)) (fun i => if r = -1 then (cl (f_X12_bad 5 m) fun r20 w19 => if isB r20 = true then some (r20, w19) else none) else if gvM (fun k => decide (m.1 32 (8 * p + k) = r)) (g - i) i = true then (cl (f_X12_bad 3 m) fun r22 w21 => if isB r22 = true then some (r22, w21) else none) else (cv (f_X12_scan (wI m 32 (8 * p + g) r)) fun w10 => X12_readGift_b175 (nI p) (nI (8 * p + g)) w10)) g ?_ ?_ fu 0 (by omega) (by rw [fu_eq]; omega)).trans ?_
  · intro i k hi hk
    dsimp only at hk ⊢
    rw [X12_readGift_b115, if_neg (nI_ge (show 8 * p + i < 8 * p + g by omega) (by omega)), gvM_s hi]
    rw [show 8 * p + (i + 1) = 8 * p + i + 1 by omega, ← nI_1] at hk
    by_cases d : r = -1
    · rw [if_pos d, if_pos d] at *
      exact hk
    · rw [if_neg d] at hk
      rw [if_neg d, if_neg d, if_pos (z_inb (show 8 * p + i < 32 by omega) (by omega)), nI_clamp (by omega)]
      by_cases e : m.1 32 (8 * p + i) = r
      · rw [if_pos e, decide_eq_true e, Bool.true_or, if_pos rfl]
      · rw [if_neg e, decide_eq_false e, Bool.false_or]; exact hk
  · intro k
    dsimp only
    rw [X12_readGift_b115, if_pos (nI_le (Nat.le_refl _) (by omega)), Nat.sub_self]
    by_cases d : r = -1
    · rw [if_pos d, if_pos d]
    · rw [if_neg d, if_neg d, if_pos (z_inb (show 8 * p + g < 32 by omega) (by omega)), nI_clamp (by omega), if_neg (by show ¬ false = true; decide)]; rfl
  · rfl
/-- a gift; b: is it pay -/
theorem q_gift (h : GR w m) (hP : PPR w m c p) (hc : 57 ≤ c) (hX : CTX w m p) (b : Bool) (hb : TW m = some (sByt.getD (if b = true then 35 else 34) [])) : CLA c p w m (X6_readClause_b107 c w) (f_X12_readGift (bI b) m) := by
  have hp4 := hX.2.1
  have hP0 := hP
  obtain ⟨h1, h2, h3, h4, h5, h6, h7, h8, h9⟩ := hP
  obtain ⟨a1, a2, a3, a4, a5⟩ := h7
  have e23 : m.1 23 p = nI (nGi m p) ∧ nGi m p < 9 := a2.e (by omega)
  have e8 : w.1 c 8 = nI (nGi m p) := a1.trans e23.1
  obtain ⟨g, hg⟩ : ∃ g, g = nGi m p := ⟨_, rfl⟩
  rw [← hg] at e23 e8
  unfold X6_readClause_b107 f_X6_readGift f_X12_readGift
  rw [e8, hX.1]
  by_cases g8 : g = 8
  · rw [g8, if_neg (show ¬ nI 8 < 8 by decide), lt_s', if_pos (z_inb hp4 (by omega)), nI_clamp (n := p) (by omega), e23.1, g8, if_pos (show nI 8 = 8 from rfl)]
    obtain ⟨w5, m5, x5, b5, f5, F5, M5⟩ := q_fail h (k := 4) (by decide)
    rw [x5, cv_s, cv_s, b5, cl_s, if_pos (show isB 0 = true from rfl)]
    exact ⟨w5, m5, rfl, PTC_D F5, PTM_R M5, Or.inr ⟨rfl, f5⟩⟩
  · have hg8 : g < 8 := by omega
    have i8 := z_inb hg8 (show 8 < 2 ^ 31 by omega)
    have i32 := z_inb (show 8 * p + g < 32 by omega) (show 32 < 2 ^ 31 by omega)
    rw [if_pos (show nI g < 8 from nI_lt (b := 8) hg8 (by omega)), if_pos i8, nI_clamp (n := g) (by omega), lt_s', wI_g, if_neg (show ¬ (c = c + 1 ∧ 8 = g) by omega), e8, if_pos i8, nI_clamp (n := g) (by omega), lt_s', lt_s', if_pos (z_inb hp4 (by omega)), nI_clamp (n := p) (by omega), e23.1, if_neg (show ¬ nI g = 8 from fun q => g8 ((nI_eq (b := 8) (by omega) (by omega)).mp q)), if_pos (z_inb hp4 (by omega)), ix8, lt_s']
    have hFa : FXL (PGc c g) PTl w (wI (wI w (c + 1) g (-1)) (c + 2) g 0) := (FXL.w _ _ (by simp only [PGc, PGr, PTC, PTM, PRD, PRR, and_true, true_and, or_true, true_or, and_self] <;> omega)).tr (FXL.w _ _ (by simp only [PGc, PGr, PTC, PTM, PRD, PRR, and_true, true_and, or_true, true_or, and_self] <;> omega))
    have hGa : GR (wI (wI w (c + 1) g (-1)) (c + 2) g 0) m := (h.c (by omega) (by omega)).c (by omega) (by omega)
    have k1 : (wI (wI w (c + 1) g (-1)) (c + 2) g 0).1 (c + 1) g = -1 := by rw [wI_g, if_neg (by omega), wI_s]
    have k2 : (wI (wI w (c + 1) g (-1)) (c + 2) g 0).1 (c + 2) g = 0 := wI_s _ _ _ _
    have kk : ∀ k, (wI (wI w (c + 1) g (-1)) (c + 2) g 0).1 c k = w.1 c k := fun k => by rw [wI_g, if_neg (by omega), wI_g, if_neg (by omega)]
    have hXa := hX.fr (p := p) hc (hFa.mo (fun a k q => by simp only [PGc, PGr, PTC, PTM, PRD, PRR] at q ⊢; omega) (fun a k q => q)) (FX.rf _ _)
    generalize wI (wI w (c + 1) g (-1)) (c + 2) g 0 = wa at hFa hGa k1 k2 kk hXa ⊢
    -- the word itself
    obtain ⟨w1, m1, s1, s2, hG1, hp1, -, hF1, hM1⟩ := q_step hGa
    have hF1c : FXL (PGc c g) PTl w w1 := hFa.tr (hF1.mo (fun a k q => Or.inl q) (fun a k q => q))
    rw [s2, cv_s, if_pos i32, nI_clamp (n := 8 * p + g) (by omega), lt_s', if_pos i32, lt_s']
    have hG2 : GR w1 (wI (wI m1 32 (8 * p + g) (-1)) 33 (8 * p + g) 0) := (hG1.r (by omega)).r (by omega)
    have hM2 : FX (PGr p (8 * p + g)) m (wI (wI m1 32 (8 * p + g) (-1)) 33 (8 * p + g) 0) := ((hM1.mo (fun a k q => Or.inl q)).tr (FX.w _ _ (by simp only [PGc, PGr, PTC, PTM, PRD, PRR, and_true, true_and, or_true, true_or, and_self] <;> omega))).tr (FX.w _ _ (by simp only [PGc, PGr, PTC, PTM, PRD, PRR, and_true, true_and, or_true, true_or, and_self] <;> omega))
    have hp2 : PTG (wI (wI m1 32 (8 * p + g) (-1)) 33 (8 * p + g) 0) = PTG m1 := by rw [PTG_r (by omega), PTG_r (by omega)]
    have j32 : (wI (wI m1 32 (8 * p + g) (-1)) 33 (8 * p + g) 0).1 32 (8 * p + g) = -1 := by rw [wI_g, if_neg (by omega), wI_s]
    have j33 : (wI (wI m1 32 (8 * p + g) (-1)) 33 (8 * p + g) 0).1 33 (8 * p + g) = 0 := wI_s _ _ _ _
    have j23 : (wI (wI m1 32 (8 * p + g) (-1)) 33 (8 * p + g) 0).1 23 p = nI g := by rw [wI_g, if_neg (by omega), wI_g, if_neg (by omega), hM1.2 _ _ (by simp only [PGc, PGr, PTC, PTM, PRD, PRR, and_true, true_and, or_true, true_or, and_self] <;> omega)]; exact e23.1
    have j32o : ∀ k, k < g → (wI (wI m1 32 (8 * p + g) (-1)) 33 (8 * p + g) 0).1 32 (8 * p + k) = m.1 32 (8 * p + k) := fun k hk => by rw [wI_g, if_neg (by omega), wI_g, if_neg (by omega), hM1.2 _ _ (by simp only [PGc, PGr, PTC, PTM, PRD, PRR, and_true, true_and, or_true, true_or, and_self] <;> omega)]
    have hX2 := hX.fr (p := p) hc (hF1c.mo (fun a k q => by simp only [PGc, PGr, PTC, PTM, PRD, PRR] at q ⊢; omega) (fun a k q => q)) (hM2.mo (fun a k q => by simp only [PGc, PGr, PTC, PTM, PRD, PRR] at q ⊢; omega))
    generalize wI (wI m1 32 (8 * p + g) (-1)) 33 (8 * p + g) 0 = m2 at hG2 hM2 hp2 j32 j33 j23 j32o hX2 ⊢
    have n8 : w1.1 c 8 = nI g := (hF1.1 _ _ (by simp only [PGc, PGr, PTC, PTM, PRD, PRR, and_true, true_and, or_true, true_or, and_self] <;> omega)).trans ((kk 8).trans e8)
    have n1 : w1.1 (c + 1) g = -1 := (hF1.1 _ _ (by simp only [PGc, PGr, PTC, PTM, PRD, PRR, and_true, true_and, or_true, true_or, and_self] <;> omega)).trans k1
    have n2 : w1.1 (c + 2) g = 0 := (hF1.1 _ _ (by simp only [PGc, PGr, PTC, PTM, PRD, PRR, and_true, true_and, or_true, true_or, and_self] <;> omega)).trans k2
    have n15 : w1.1 c 15 = w.1 c 15 := (hF1.1 _ _ (by simp only [PGc, PGr, PTC, PTM, PRD, PRR, and_true, true_and, or_true, true_or, and_self] <;> omega)).trans (kk 15)
    have n16 : w1.1 c 16 = w.1 c 16 := (hF1.1 _ _ (by simp only [PGc, PGr, PTC, PTM, PRD, PRR, and_true, true_and, or_true, true_or, and_self] <;> omega)).trans (kk 16)
    have toD : ∀ {u : Wd}, FXL (PGc c g) PTl w u → FXL (PRD c) PTl w u := fun k => k.mo (fun a k q => by simp only [PGc, PGr, PTC, PTM, PRD, PRR] at q ⊢; omega) (fun a k q => q)
    have toR : ∀ {u : Wd}, FX (PGr p (8 * p + g)) m u → FX (PRR p) m u := fun k => k.mo (fun a k q => by simp only [PGc, PGr, PTC, PTM, PRD, PRR] at q ⊢; omega)
    have rb15 : RB (w.1 c 15) (fun t => anyF (fun k => decide (m.1 32 (8 * p + k) = nI t)) g) := by rw [hg]; exact a5
    cases b
    · -- give
      rw [show (if false = true then 35 else 34) = 34 from rfl] at hb
      rw [bI_f, if_pos (show (0 : Int32) = 0 from rfl)]
      rcases zc_passT hGa (show 34 < 47 by omega) with ⟨hn, -⟩ | ⟨-, w1', v1, v2⟩
      · exact absurd hb hn
      rw [s1] at v1
      cases v1
      rw [v2, cl_s, if_neg (show ¬ (1 : Int32) = 0 by decide), n8]
      have flx : ∀ u, FLT u → u.1 c 8 = nI g → ∃ w', (cv (if inb (nI g) 8 = true then (lt (wI u (c + 1) (Int32.toNatClampNeg (nI g)) (-1)) fun w20 => if inb (w20.1 c 8) 8 = true then (cl (f_X6_bit (w20.1 (c + 1) (Int32.toNatClampNeg (w20.1 c 8))) w20) fun r22 w21 => lt (wI w21 c 15 ((w20.1 c 15) ||| r22)) fun w23 => X6_readGift_b111 c w23) else none) else none) fun w13 => some w13) = some w' ∧ FXL (PGc c g) PTl u w' ∧ ∀ k, w'.1 1 k = u.1 1 k := by
        intro u hu hu8
        have e81 : (wI u (c + 1) g (-1)).1 c 8 = nI g := by rw [wI_g, if_neg (by omega)]; exact hu8
        rw [if_pos i8, nI_clamp (n := g) (by omega), lt_s', e81, if_pos i8, nI_clamp (n := g) (by omega), wI_s, zf_bit, cl_s, lt_s']
        obtain ⟨w', x1, x2, x3⟩ := fl_111 (w := wI (wI u (c + 1) g (-1)) c 15 ((wI u (c + 1) g (-1)).1 c 15 ||| 0)) (c := c) (g := g) ((hu.i (by omega)).i (by omega)) (by rw [wI_g, if_neg (by omega)]; exact e81) hg8 hc
        rw [x1, cv_s]
        exact ⟨w', rfl, ((FXL.w _ _ (by simp only [PGc, PGr, PTC, PTM, PRD, PRR, and_true, true_and, or_true, true_or, and_self] <;> omega)).tr (FXL.w _ _ (by simp only [PGc, PGr, PTC, PTM, PRD, PRR, and_true, true_and, or_true, true_or, and_self] <;> omega))).tr x2, fun k => by rw [x3, wI_g, if_neg (by omega), wI_g, if_neg (by omega)]⟩
      unfold f_X10_known
      rw [hG2.kd]
      by_cases kd : m2.1 0 5 = 1
      · rw [if_pos kd, if_pos kd]
        obtain ⟨r, f1, f2, hr⟩ := q_find hG2 kd hX2.2.2.2.2.2.2.2
        rw [f1, cl_s, hX2.2.2.2.2.1, f2, cl_s, k8, pk_mul, lt_s', zm_giveL hp4 hg8]
        have eA : anyF (fun k => decide (m2.1 32 (8 * p + k) = r)) g = anyF (fun k => decide (m.1 32 (8 * p + k) = r)) g := anyF_cg _ (fun k hk => by rw [j32o k hk])
        rw [eA]
        by_cases d : r = -1
        · rw [if_pos d, if_pos d]
          obtain ⟨w5, m5, x5, b5, f5, F5, M5⟩ := q_fail hG2 (k := 5) (by decide)
          obtain ⟨w', x1, x2, x3⟩ := flx w5 f5.1 ((F5.1 _ _ (by simp only [PGc, PGr, PTC, PTM, PRD, PRR, and_true, true_and, or_true, true_or, and_self] <;> omega)).trans n8)
          rw [x5, cv_s, cl_s, x1, b5, cl_s, if_pos (show isB 0 = true from rfl)]
          exact ⟨w', m5, rfl, toD ((hF1c.tr (F5.mo (fun a k q => Or.inl q) (fun a k q => q))).tr x2), toR (hM2.tr (M5.mo (fun a k q => Or.inl q))), Or.inr ⟨rfl, f5.e x3⟩⟩
        · rw [if_neg d, if_neg d]
          obtain ⟨i, hi, rfl⟩ := hr.resolve_left d
          have hi8 : i < 8 := by have := hX2.2.2.2.2.2.1; omega
          have hbt : bt (w1.1 c 15) i = anyF (fun k => decide (m.1 32 (8 * p + k) = nI i)) g := by rw [n15]; exact rb15 i (by omega)
          rw [if_bt (show i < 32 by omega), hbt]
          by_cases e : anyF (fun k => decide (m.1 32 (8 * p + k) = nI i)) g = true
          · rw [if_neg (by rw [e]; decide), if_pos e]
            obtain ⟨w5, m5, x5, b5, f5, F5, M5⟩ := q_fail hG2 (k := 3) (by decide)
            obtain ⟨w', x1, x2, x3⟩ := flx w5 f5.1 ((F5.1 _ _ (by simp only [PGc, PGr, PTC, PTM, PRD, PRR, and_true, true_and, or_true, true_or, and_self] <;> omega)).trans n8)
            rw [x5, cv_s, cl_s, x1, b5, cl_s, if_pos (show isB 0 = true from rfl)]
            exact ⟨w', m5, rfl, toD ((hF1c.tr (F5.mo (fun a k q => Or.inl q) (fun a k q => q))).tr x2), toR (hM2.tr (M5.mo (fun a k q => Or.inl q))), Or.inr ⟨rfl, f5.e x3⟩⟩
          · rw [if_pos (by rw [Bool.not_eq_true] at e; exact e), if_neg e]
            obtain ⟨w3, m3, y1, y2, hG3, hp3, -, hF3, hM3⟩ := q_step (hG2.r (a := 32) (k := 8 * p + g) (v := nI i) (by omega))
            rw [PTG_r (by omega)] at hp3
            have o8 : w3.1 c 8 = nI g := (hF3.1 _ _ (by simp only [PGc, PGr, PTC, PTM, PRD, PRR, and_true, true_and, or_true, true_or, and_self] <;> omega)).trans n8
            have o81 : (wI w3 (c + 1) g (nI i)).1 c 8 = nI g := by rw [wI_g, if_neg (by omega)]; exact o8
            rw [y1, cv_s, cl_s, y2, cv_s, if_pos i8, nI_clamp (n := g) (by omega), lt_s', o81, if_pos i8, nI_clamp (n := g) (by omega), wI_s, zc_bit (by omega), cl_s, lt_s']
            have o15 : (wI w3 (c + 1) g (nI i)).1 c 15 = w.1 c 15 := by rw [wI_g, if_neg (by omega), hF3.1 _ _ (by simp only [PGc, PGr, PTC, PTM, PRD, PRR, and_true, true_and, or_true, true_or, and_self] <;> omega)]; exact n15
            rw [o15]
            have hFx : FXL (PGc c g) PTl w (wI (wI w3 (c + 1) g (nI i)) c 15 (w.1 c 15 ||| (1 <<< (nI i &&& 31)))) := ((hF1c.tr (hF3.mo (fun a k q => Or.inl q) (fun a k q => q))).tr (FXL.w _ _ (by simp only [PGc, PGr, PTC, PTM, PRD, PRR, and_true, true_and, or_true, true_or, and_self] <;> omega))).tr (FXL.w _ _ (by simp only [PGc, PGr, PTC, PTM, PRD, PRR, and_true, true_and, or_true, true_or, and_self] <;> omega))
            have hMx : FX (PGr p (8 * p + g)) m m3 := (hM2.tr (FX.w _ _ (by simp only [PGc, PGr, PTC, PTM, PRD, PRR, and_true, true_and, or_true, true_or, and_self] <;> omega))).tr (hM3.mo (fun a k q => Or.inl q))
            have z32 : m3.1 32 (8 * p + g) = nI i := by rw [hM3.2 _ _ (by simp only [PGc, PGr, PTC, PTM, PRD, PRR, and_true, true_and, or_true, true_or, and_self] <;> omega), wI_s]
            have z33 : m3.1 33 (8 * p + g) = 0 := by rw [hM3.2 _ _ (by simp only [PGc, PGr, PTC, PTM, PRD, PRR, and_true, true_and, or_true, true_or, and_self] <;> omega), wI_g, if_neg (by omega)]; exact j33
            have hC := q_to (w := wI (wI w3 (c + 1) g (nI i)) c 15 (w.1 c 15 ||| (1 <<< (nI i &&& 31)))) (m := m3) hc hP0 hg hg8 hFx hMx (by omega) ((hG3.c (by omega) (by omega)).c (by omega) (by omega)) (hX.fr hc (toD hFx) (toR hMx)) (by rw [wI_g, if_neg (by omega)]; exact o81) (by rw [hM3.2 _ _ (by simp only [PGc, PGr, PTC, PTM, PRD, PRR, and_true, true_and, or_true, true_or, and_self] <;> omega), wI_g, if_neg (by omega)]; exact j23) (by rw [wI_g, if_neg (by omega), wI_s, z32]) (by rw [wI_g, if_neg (by omega), wI_g, if_neg (by omega), hF3.1 _ _ (by simp only [PGc, PGr, PTC, PTM, PRD, PRR, and_true, true_and, or_true, true_or, and_self] <;> omega), z33]; exact n2) (Or.inr ⟨by rw [z32, show nTh m3 = nTh m2 by unfold nTh; rw [hM3.2 _ _ (by simp only [PGc, PGr, PTC, PTM, PRD, PRR, and_true, true_and, or_true, true_or, and_self] <;> omega), wI_g, if_neg (by omega)]]; exact ⟨i, hi, rfl⟩, z33⟩) (by
              rw [wI_s, z32]
              refine (rb15.or (RB.one (p := i) (by omega))).cg (fun t ht => ?_)
              show (_ || decide (t = i)) = (_ || decide (nI i = nI t))
              congr 1
              refine decide_eq_decide.mpr ?_
              rw [nI_eq (by omega) (by omega)]
              exact ⟨fun q => q.symm, fun q => q.symm⟩) (by rw [wI_g, if_neg (by omega), wI_g, if_neg (by omega), hF3.1 _ _ (by simp only [PGc, PGr, PTC, PTM, PRD, PRR, and_true, true_and, or_true, true_or, and_self] <;> omega)]; exact n16)
            obtain ⟨w9, m9, c1, c2, c3, c4⟩ := hC
            rw [c1, cv_s]
            exact ⟨w9, m9, rfl, c2, c3, c4⟩
      · rw [if_neg kd, if_neg kd]
        obtain ⟨w5, m5, x5, b5, f5, F5, M5⟩ := q_fail hG2 (k := 1) (by decide)
        obtain ⟨w', x1, x2, x3⟩ := flx w5 f5.1 ((F5.1 _ _ (by simp only [PGc, PGr, PTC, PTM, PRD, PRR, and_true, true_and, or_true, true_or, and_self] <;> omega)).trans n8)
        rw [x5, cv_s, cl_s, x1, b5, cl_s, if_pos (show isB 0 = true from rfl)]
        exact ⟨w', m5, rfl, toD ((hF1c.tr (F5.mo (fun a k q => Or.inl q) (fun a k q => q))).tr x2), toR (hM2.tr (M5.mo (fun a k q => Or.inl q))), Or.inr ⟨rfl, f5.e x3⟩⟩
    · -- pay
      rw [show (if true = true then 35 else 34) = 35 from rfl] at hb
      rw [bI_t, if_neg (show ¬ (1 : Int32) = 0 by decide)]
      rcases zc_passT hGa (show 34 < 47 by omega) with ⟨-, v2⟩ | ⟨hy, -⟩
      rotate_left
      · rw [hb] at hy; exact absurd hy (by decide)
      have hnd : f_X10_need 35 wa = some w1 := by
        unfold f_X10_need
        rw [zc_isT hGa (by omega), cl_s, if_b0, hb, if_neg (by decide), s1, cv_s]
      rw [v2, cl_s, if_pos (show (0 : Int32) = 0 from rfl), hnd, cv_s, n8]
      obtain ⟨r, w3, m3, y1, hF3, hM3, hr⟩ := q_num hG2 1 99999
      rw [y1, cl_s, if_pos i8, nI_clamp (n := g) (by omega), lt_s']
      have o8 : (wI w3 (c + 2) g r).1 c 8 = nI g := by rw [wI_g, if_neg (by omega), hF3.1 _ _ (by simp only [PGc, PGr, PTC, PTM, PRD, PRR, and_true, true_and, or_true, true_or, and_self] <;> omega)]; exact n8
      have hFx : FXL (PGc c g) PTl w (wI w3 (c + 2) g r) := (hF1c.tr (hF3.mo (fun a k q => Or.inl q) (fun a k q => q))).tr (FXL.w _ _ (by simp only [PGc, PGr, PTC, PTM, PRD, PRR, and_true, true_and, or_true, true_or, and_self] <;> omega))
      rcases hr with ⟨y2, hG3, hp3, g7, hv⟩ | ⟨y2, hf3, hv⟩
      · rw [y2, cl_s, if_neg (show ¬ (1 : Int32) = 0 by decide), if_pos i32, lt_s', g7]
        have hMx : FX (PGr p (8 * p + g)) m (wI m3 33 (8 * p + g) r) := (hM2.tr (hM3.mo (fun a k q => Or.inl q))).tr (FX.w _ _ (by simp only [PGc, PGr, PTC, PTM, PRD, PRR, and_true, true_and, or_true, true_or, and_self] <;> omega))
        have z32 : (wI m3 33 (8 * p + g) r).1 32 (8 * p + g) = -1 := by rw [wI_g, if_neg (by omega), hM3.2 _ _ (by simp only [PGc, PGr, PTC, PTM, PRD, PRR, and_true, true_and, or_true, true_or, and_self] <;> omega)]; exact j32
        have i1 : (1 : Int32).toInt = 1 := rfl
        have i9 : (99999 : Int32).toInt = 99999 := rfl
        have hC := q_to (w := wI w3 (c + 2) g r) (m := wI m3 33 (8 * p + g) r) hc hP0 hg hg8 hFx hMx (by rw [PTG_r (by omega)]; omega) ((hG3.c (by omega) (by omega)).r (by omega)) (hX.fr hc (toD hFx) (toR hMx)) o8 (by rw [wI_g, if_neg (by omega), hM3.2 _ _ (by simp only [PGc, PGr, PTC, PTM, PRD, PRR, and_true, true_and, or_true, true_or, and_self] <;> omega)]; exact j23) (by rw [z32, wI_g, if_neg (by omega), hF3.1 _ _ (by simp only [PGc, PGr, PTC, PTM, PRD, PRR, and_true, true_and, or_true, true_or, and_self] <;> omega)]; exact n1) (by rw [wI_s, wI_s]) (Or.inl ⟨z32, r.toInt.toNat, by omega, by omega, by rw [wI_s]; apply Int32.toInt_inj.mp; rw [nI_toInt (by omega)]; omega⟩) (by
          rw [wI_g, if_neg (by omega), hF3.1 _ _ (by simp only [PGc, PGr, PTC, PTM, PRD, PRR, and_true, true_and, or_true, true_or, and_self] <;> omega), n15, z32]
          refine rb15.cg (fun t ht => ?_)
          rw [decide_eq_false (fun q => nI_n1 (n := t) (by omega) q.symm), Bool.or_false]) (by rw [wI_g, if_neg (by omega), hF3.1 _ _ (by simp only [PGc, PGr, PTC, PTM, PRD, PRR, and_true, true_and, or_true, true_or, and_self] <;> omega)]; exact n16)
        obtain ⟨w9, m9, c1, c2, c3, c4⟩ := hC
        rw [c1, cv_s]
        exact ⟨w9, m9, rfl, c2, c3, c4⟩
      · obtain ⟨w', x1, x2, x3⟩ := fl_111 (hf3.c (a := c + 2) (k := g) (v := r) (by omega)).1 o8 hg8 hc
        rw [x1, cv_s, y2, cl_s, if_pos (show (0 : Int32) = 0 from rfl)]
        exact ⟨w', m3, rfl, toD (hFx.tr x2), toR (hM2.tr (hM3.mo (fun a k q => Or.inl q))), Or.inr ⟨rfl, (hf3.c (by omega)).e x3⟩⟩
end
