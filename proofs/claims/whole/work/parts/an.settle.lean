/-! settle, feed, end, fault, count -/
-- PTC PTM PTk PTm
def PSet (a k : Nat) : Prop := PBu a k ∨ a = 1 ∨ a = 30
def PSem (a k : Nat) : Prop := PRk a k ∨ (a = 0 ∧ k < 8) ∨ a = 60
section
variable {wc wm A : Wd}
theorem q_settle (h : KRN wc wm A) (hp : PRP wc A) {cp : Nat} (hO : OKC wc A cp) (hR : RKC wm A) : ∃ r wc1 cp1 wm1, f_X11_settle cp wc = some (r, wc1, cp1) ∧ f_X12_settle wm = some (r, wm1) ∧ FXL PSet PTl wc wc1 ∧ FX PSem wm wm1 ∧ PRP wc1 A ∧ OKC wc1 A cp1 ∧ RKC wm1 A ∧ TPR wc1 wm1 ∧ cp ≤ cp1 := by
  obtain ⟨hL, hK, hI, hPe, hX, hT, hB, hTp, hFl⟩ := h
  have hN := hI.1
  have hP8 := hN.2.1.2
  have hww := nWy_le hN
  obtain ⟨w2, m1, o1, o2, hG1, -, hF2, hM1, z1⟩ := q_open hTp
  have e8 : (wI (wI m1 0 8 (wm.1 0 8)) 0 9 (wm.1 0 9)).1 0 8 = wm.1 0 8 := by rw [wI_g, if_neg (by omega), wI_s]
  have e9 : (wI (wI m1 0 8 (wm.1 0 8)) 0 9 (wm.1 0 9)).1 0 9 = wm.1 0 9 := wI_s _ _ _ _
  have emo : ∀ a k, ¬ (a = 0 ∧ (k = 8 ∨ k = 9)) → (wI (wI m1 0 8 (wm.1 0 8)) 0 9 (wm.1 0 9)).1 a k = m1.1 a k := fun a k q => by rw [wI_g, if_neg (by omega), wI_g, if_neg (by omega)]
  have eml : (wI (wI m1 0 8 (wm.1 0 8)) 0 9 (wm.1 0 9)).2 = wm.2 := hM1.1
  have hRT : RT w2 (wI (wI m1 0 8 (wm.1 0 8)) 0 9 (wm.1 0 9)) := (hG1.1.r (by omega)).r (by omega)
  have hFm2 : FX PSem wm (wI (wI m1 0 8 (wm.1 0 8)) 0 9 (wm.1 0 9)) := by
    refine ⟨eml, fun a k q => ?_⟩
    by_cases c8 : a = 0 ∧ k = 8
    · rw [c8.1, c8.2]; exact e8
    · by_cases c9 : a = 0 ∧ k = 9
      · rw [c9.1, c9.2]; exact e9
      · rw [emo a k (by omega), hM1.2 a k (by unfold PSem PRk PMS at q; simp only [PTM]; omega)]
  generalize hm2 : wI (wI m1 0 8 (wm.1 0 8)) 0 9 (wm.1 0 9) = m2 at e8 e9 emo eml hRT hFm2
  have hT2 : tol m2 = A := by
    rw [← hT]
    exact tol_rd (p := nPa wm) rfl ⟨hFm2.1, fun a k q => by
      by_cases c8 : a = 0 ∧ (k = 8 ∨ k = 9)
      · rcases c8.2 with e | e
        · rw [c8.1, e]; exact e8
        · rw [c8.1, e]; exact e9
      · rw [emo a k c8, hM1.2 a k (by unfold PXR at q; simp only [PTM]; omega)]⟩
  have e11 : m2.1 0 11 = nI (nPe A) := (tol_0 hT2 11 rfl).trans hN.2.1.1
  obtain ⟨r, w3, n, m3, x1, x2, hn, hF3, hM3, hr⟩ := q_off hP8 (nPe A) fu fu 0 w2 m2 (by omega) (by omega) (by rw [fu_eq]; omega) (by rw [fu_eq]; omega) hRT e11 (fun k hk => by omega)
  have y1 : X11_readOffers_b23_L (nI (nPe A)) 0 w2 = some (r, w3) := x1
  have y2 : X12_settle_b26_L 0 m2 = X12_settle_b62 (nI n) m3 := x2
  have hF4 : FXL PSet PTl wc (wI w3 1 1 0) := ((hF2.mo (fun a k q => by unfold PTC at q; unfold PSet PBu PCS; omega) (fun a k q => q)).tr (hF3.mo (fun a k q => by unfold POf at q; unfold PSet PBu PCS; omega) (fun a k q => q))).tr (FXL.w _ _ (by unfold PSet PBu PCS; omega))
  have w4o : ∀ a k, ¬ a = 1 → ¬ a = 30 → (wI w3 1 1 0).1 a k = wc.1 a k := fun a k q1 q2 => by rw [wI_g, if_neg (by omega), hF3.1 a k (by unfold POf; omega), hF2.1 a k (by simp only [PXR, PTC, PTM, PTk, PTm, and_true, true_and, or_true, true_or, and_self] <;> omega)]
  have w430 : ∀ k, (wI w3 1 1 0).1 30 k = w3.1 30 k := fun k => by rw [wI_g, if_neg (by omega)]
  have w411 : (wI w3 1 1 0).1 1 1 = 0 := wI_s _ _ _ _
  have hL4 : TLD (wI w3 1 1 0) A := hL.fg (fun k _ _ => w4o 3 k (by omega) (by omega)) (fun k => w4o 6 k (by omega) (by omega)) (fun a k _ _ => w4o a k (by omega) (by omega)) (fun a k _ _ => w4o a k (by omega) (by omega)) (fun a k _ _ => w4o a k (by omega) (by omega)) (fun a k q1 q2 => hF4.2 a k (by unfold PTl; omega))
  have hK4 : KIN (wI w3 1 1 0) A := hK.fg (fun a k _ _ => w4o a k (by omega) (by omega))
  have hp4 : PRP (wI w3 1 1 0) A := ⟨fun q => (hp.1 (by rw [w4o 8 13 (by omega) (by omega), w4o 3 6 (by omega) (by omega)] at q; exact q)).fo hN (fun a k q => w4o a k (by unfold PCS at q; omega) (by unfold PCS at q; omega)), hp.2.fr (w4o 3 6 (by omega) (by omega)) (Or.inl (w4o 8 13 (by omega) (by omega))) (Or.inl (w4o 16 9 (by omega) (by omega)))⟩
  have hO4 : OKC (wI w3 1 1 0) A cp := by
    refine ⟨⟨by rw [w4o 16 4 (by omega) (by omega)]; exact hO.1.1, hO.1.2⟩, fun q => ?_⟩
    have := hO.2 (by rw [w4o 16 9 (by omega) (by omega), w4o 3 6 (by omega) (by omega)] at q; exact q)
    exact ⟨this.1.fr (fun a k s => w4o a k (by unfold POu at s; omega) (by unfold POu at s; omega)), fun y hy => by rw [w4o 17 y (by omega) (by omega)]; exact this.2 y hy⟩
  have hT3 : tol m3 = A := hM3.ot hT2 (fun k hk => by unfold POr; omega) (fun o k ho => by unfold POr; omega)
  have hFm3 : FX PSem wm m3 := hFm2.tr (hM3.mo (fun a k q => by unfold POr at q; unfold PSem PRk PMS; omega))
  have m3o : ∀ a k, ¬ (a = 0 ∧ k < 10) → ¬ a = 60 → m3.1 a k = wm.1 a k := fun a k q1 q2 => by rw [hM3.2 a k (by unfold POr; omega), emo a k (by omega), hM1.2 a k (by simp only [PTM]; omega)]
  have z3 : m3.1 0 1 = 0 := by rw [hM3.2 0 1 (by unfold POr; omega), emo 0 1 (by omega)]; exact z1
  have hR3 : RKC m3 A := by
    rcases hR with q | ⟨q1, q2⟩
    · exact Or.inl (by rw [m3o 0 78 (by omega) (by omega)]; exact q)
    · exact Or.inr ⟨q1.fr (fun a k q => m3o a k (by omega) (by omega)), by rw [m3o 0 78 (by omega) (by omega)]; exact q2⟩
  have tp : ∀ wx mx : Wd, (∀ k, wx.1 2 k = wc.1 2 k) → wx.1 1 1 = 0 → (∀ k, mx.1 1 k = wm.1 1 k) → mx.1 0 1 = 0 → TPR wx mx := fun wx mx a1 a2 a3 a4 => ⟨by rw [show wx.1 2 = wc.1 2 from funext a1, show mx.1 1 = wm.1 1 from funext a3]; exact hTp.1, fun j => by rw [a3]; exact hTp.2.1 j, by rw [a2, a4], ⟨0, by omega, a4⟩⟩
  have tp3 := tp (wI w3 1 1 0) m3 (fun k => w4o 2 k (by omega) (by omega)) w411 (fun k => m3o 1 k (by omega) (by omega)) z3
  have e113 : m3.1 0 11 = nI (nPe A) := (tol_0 hT3 11 rfl).trans hN.2.1.1
  unfold f_X11_settle f_X11_readOffers f_X10_empty f_X12_settle
  rw [hL.1.1.2.1, hN.2.1.1, lt_s', o1, cv_s, y1, cl_s, lt_s', cv_s, lt_s', lt_s', o2, cv_s, lt_s', lt_s', hm2, y2]
  unfold X12_settle_b62
  rw [e113]
  rcases hr with ⟨rfl, rfl, k0, ho⟩ | ⟨rfl, hno⟩
  · rw [i10, if_pos k0, if_pos rfl, zc_ways hL4.1 hL4.2.2.1 hN, cl_s, zm_ways hT3 hN, cl_s]
    by_cases hz : nWy A = 0
    · rw [hz, if_pos (show nI 0 = 0 from rfl), if_pos (show nI 0 = 0 from rfl)]
      exact ⟨-4, _, cp, m3, rfl, rfl, hF4, hFm3, hp4, hO4, hR3, tp3, Nat.le_refl _⟩
    · have nz := nz_i hz (by omega)
      rw [if_neg nz, if_neg nz]
      obtain ⟨⟨w5, c5⟩, b1, hO5, b9, hp5, hF5, hcp⟩ := zc_bring hL4 hK4 hI hPe hX hp4 hO4
      dsimp only at hO5 b9 hp5 hF5 hcp
      have w5o : ∀ a k, ¬ PBu a k → w5.1 a k = (wI w3 1 1 0).1 a k := fun a k q => hF5.2 a k q
      rw [b1, cvm_s, w5o 34 1 (by unfold PBu PCS; omega), hL4.1.1.2.1, hN.2.1.1, lt_s', (sh_pe (nPe A) hP8).1]
      obtain ⟨⟨q1, q2, q3⟩, g1, g2, g3, g4⟩ := zc_setL (m := m3) hI hPe hO5 (by omega) hP8 (fun k hk => by
        rw [w5o 30 k (by unfold PBu PCS; omega), w430]; exact ho k hk)
      dsimp only at g2 g3 g4
      obtain ⟨⟨t1, t2⟩, g5, g6, g7, g8⟩ := zm_setL hT3 hI hPe hR3 (by omega) rfl (fun k hk => (ho k hk).2)
      dsimp only at g6 g7 g8
      rw [g1, g5, g3, g4]
      have eq : q1 = t1 := g2.un hP8 g6
      rw [eq]
      refine ⟨t1, w5, c5, t2, rfl, rfl, ?_, ?_, hp5, ⟨hO5.1.2.1, fun _ => hO5⟩, g8, ?_, hcp⟩
      · exact hF4.tr (FX.xl (hF5.mo (fun a k q => Or.inl q)))
      · exact hFm3.tr (g7.mo (fun a k q => Or.inl q))
      · refine tp w5 t2 (fun k => ?_) ?_ (fun k => ?_) ?_
        · rw [w5o 2 k (by unfold PBu PCS; omega)]; exact w4o 2 k (by omega) (by omega)
        · rw [w5o 1 1 (by unfold PBu PCS; omega)]; exact w411
        · rw [g7.2 1 k (by unfold PRk PMS; omega)]; exact m3o 1 k (by omega) (by omega)
        · rw [g7.2 0 1 (by unfold PRk PMS; omega)]; exact z3
  · rw [i01]
    have e : (if m3.1 0 5 = 0 then (if nI n = nI (nPe A) then (cl (f_X12_allWays m3) fun r7 w6 => if r7 = 0 then (some ((-4), w6)) else X12_settle_b92_L 1 w6) else some ((-1), m3)) else some ((-1), m3)) = some (-1, m3) := by
      by_cases k0 : m3.1 0 5 = 0
      · rw [if_pos k0, if_neg (fun q => hno ⟨by rw [nI_eq (by omega) (by omega)] at q; exact q, k0⟩)]
      · rw [if_neg k0]
    exact ⟨-1, _, cp, m3, rfl, e, hF4, hFm3, hp4, hO4, hR3, tp3, Nat.le_refl _⟩
/-! fault, count -/
theorem q_fault (h : FLR wc wm) (x : Int32) : ∃ r, f_X11_fault x wc = some (r, wc) ∧ f_X12_fault x wm = some (r, wm) := by
  unfold f_X11_fault f_X12_fault
  rw [h.1, h.2]
  by_cases h0 : x = 0
  · rw [if_pos h0, if_pos h0]; exact ⟨_, rfl, rfl⟩
  · rw [if_neg h0, if_neg h0]
    by_cases h1 : x = 1
    · rw [if_pos h1, if_pos h1]; exact ⟨_, rfl, rfl⟩
    · rw [if_neg h1, if_neg h1]; exact ⟨_, rfl, rfl⟩
theorem q_count (hL : TLD wc A) (hN : NUM A) (hT : tol wm = A) (hS : wc.1 22 0 = wm.1 0 99) (hTp : TPR wc wm) (x : Int32) : ∃ r, f_X11_count x wc = some (r, wc) ∧ f_X12_count x wm = some (r, wm) := by
  unfold f_X11_count f_X12_count
  rw [zc_items hL.2.1 hN, zm_items hT hN, cl_s, cl_s, hS, hTp.2.2.1, hL.1.2.2.2.2.1.2.2.2, tol_0 hT 13 rfl]
  by_cases h0 : x = 0
  · rw [if_pos h0, if_pos h0]; exact ⟨_, rfl, rfl⟩
  rw [if_neg h0, if_neg h0]
  by_cases h1 : x = 1
  · rw [if_pos h1, if_pos h1]; exact ⟨_, rfl, rfl⟩
  rw [if_neg h1, if_neg h1]
  by_cases h2 : x = 2
  · rw [if_pos h2, if_pos h2]; exact ⟨_, rfl, rfl⟩
  rw [if_neg h2, if_neg h2]
  by_cases h3 : x = 3
  · rw [if_pos h3, if_pos h3]; exact ⟨_, rfl, rfl⟩
  rw [if_neg h3, if_neg h3]; exact ⟨_, rfl, rfl⟩
/-! feed and end -/
def PFc (a k : Nat) : Prop := a = 2 ∨ (a = 1 ∧ k = 1)
def PFm (a k : Nat) : Prop := a = 1 ∨ (a = 0 ∧ k = 1)
theorem q_end (h : TPR wc wm) (x : Int32) : ∃ r wc1 wm1, f_X11_end x wc = some (r, wc1) ∧ f_X12_end x wm = some (r, wm1) ∧ TPR wc1 wm1 ∧ FX PFc wc wc1 ∧ FX PFm wm wm1 := by
  have h0 := h
  obtain ⟨h1, h2, h3, n, hn, h4⟩ := h
  have i0 : (0 : Int32).toInt = 0 := rfl
  have j0 : (0 : Int64).toInt = 0 := rfl
  unfold f_X11_end f_X12_end
  rw [m_in, cl_s, if_b0, j0, z_l, h3]
  by_cases c1 : x < 0
  · have q : decide (0 ≤ x.toInt ∧ x.toInt ≤ (wm.1 0 1).toInt) = false := decide_eq_false (by rw [z_lt] at c1; omega)
    rw [if_pos c1, q, if_pos rfl]
    exact ⟨_, wc, wm, rfl, rfl, h0, FX.rf _ _, FX.rf _ _⟩
  rw [if_neg c1]
  by_cases c2 : x ≤ wm.1 0 1
  · have q : decide (0 ≤ x.toInt ∧ x.toInt ≤ (wm.1 0 1).toInt) = true := decide_eq_true (by rw [z_lt] at c1; rw [z_le] at c2; omega)
    rw [if_pos c2, q, if_neg (show ¬ true = false by decide), lt_s', lt_s']
    refine ⟨_, _, _, rfl, rfl, ⟨?_, fun j => ?_, by rw [wI_s, wI_s], ?_⟩, FX.w _ _ (by unfold PFc; omega), FX.w _ _ (by unfold PFm; omega)⟩
    · rw [show (wI wc 1 1 x).1 2 = wc.1 2 from funext fun k => by rw [wI_g, if_neg (by omega)], show (wI wm 0 1 x).1 1 = wm.1 1 from funext fun k => by rw [wI_g, if_neg (by omega)]]; exact h1
    · rw [wI_g, if_neg (by omega)]; exact h2 j
    · rw [wI_s]
      rw [z_lt] at c1
      rw [z_le, h4, nI_toInt (by omega)] at c2
      obtain ⟨i, hi, e⟩ := nn_i (x := x) (n := 901) (by omega) (by omega)
      exact ⟨i, by omega, e⟩
  · have q : decide (0 ≤ x.toInt ∧ x.toInt ≤ (wm.1 0 1).toInt) = false := decide_eq_false (by rw [z_le] at c2; omega)
    rw [if_neg c2, q, if_pos rfl]
    exact ⟨_, wc, wm, rfl, rfl, h0, FX.rf _ _, FX.rf _ _⟩
theorem nar_by (y : Int32) : bRg (vp_nar .byte ((Int32.toInt8 y).toInt32)) := by
  rw [pk_vb]
  unfold bRg
  rw [Int8.toInt_toInt32]
  have h1 := Int8.le_toInt y.toInt8
  have h2 := Int8.toInt_lt y.toInt8
  omega
def byF (x : Int32) (i : Nat) : Int32 := vp_nar .byte ((Int32.toInt8 (x >>> (nI (24 - 8 * i) &&& 31))).toInt32)
theorem y_nx : ∀ i, i < 4 → (i < 3 ∧ nI (24 - 8 * i) + (-8) = nI (24 - 8 * (i + 1))) ∨ (i = 3 ∧ nI (24 - 8 * i) + (-8) = -8) := by decide
theorem y_ge : ∀ i, i < 4 → ¬ nI (24 - 8 * i) < 0 := by decide
theorem zc_four {w : Wd} {n : Nat} (hn : n + 4 ≤ 900) (h : w.1 1 1 = nI n) (x : Int32) : OK (f_X10_putFour x w) (fun v => v.1 1 1 = nI (n + 4) ∧ (∀ k, v.1 2 k = if n ≤ k ∧ k < n + 4 then byF x (k - n) else w.1 2 k) ∧ FX PFc w v) := by
  unfold f_X10_putFour
  refine lo3 (fun m y1 y2 v => ∃ i, m = 4 - i ∧ i ≤ 4 ∧ y1 = x ∧ ((i < 4 ∧ y2 = nI (24 - 8 * i)) ∨ (i = 4 ∧ y2 = -8)) ∧ v.1 1 1 = nI (n + i) ∧ (∀ k, v.1 2 k = if n ≤ k ∧ k < n + i then byF x (k - n) else w.1 2 k) ∧ FX PFc w v) ?_ fu (4 - 0) x 24 w (by rw [fu_eq]; omega) ⟨0, rfl, by omega, rfl, Or.inl ⟨by omega, rfl⟩, h, fun k => by rw [if_neg (by omega)], FX.rf _ _⟩
  rintro m k y1 y2 v ⟨i, rfl, hi, rfl, hy, h1, h2, hF⟩ hk
  rw [X10_putFour_b3]
  rcases hy with ⟨hi4, rfl⟩ | ⟨rfl, rfl⟩
  · refine OK.f (y_ge i hi4) ?_
    rw [h1]
    refine OK.f (nI_ge (b := 900) (by omega) (by omega)) (OK.t (z_inb (by omega) (by omega)) (OK.l (OK.l (hk _ _ _ _ (by omega) ⟨i + 1, rfl, hi4, rfl, ?_, ?_, fun k => ?_, (hF.tr (FX.w _ _ (by unfold PFc; omega))).tr (FX.w _ _ (by unfold PFc; omega))⟩))))
    · rcases y_nx i hi4 with ⟨q1, q2⟩ | ⟨q1, q2⟩
      · exact Or.inl ⟨by omega, q2⟩
      · exact Or.inr ⟨by omega, q2⟩
    · rw [wI_s, wI_g, if_neg (by omega), h1, nI_1]; rfl
    · rw [wI_g, if_neg (by omega), nI_clamp (by omega), wI_g]
      by_cases q : k = n + i
      · rw [if_pos ⟨rfl, q⟩, if_pos (by omega), q, show n + i - n = i by omega]; rfl
      · rw [if_neg (fun e => q e.2), h2]
        by_cases c : n ≤ k ∧ k < n + i
        · rw [if_pos c, if_pos (by omega)]
        · rw [if_neg c, if_neg (by omega)]
  · exact OK.t (by decide) (OK.s ⟨h1, h2, hF⟩)
theorem zm_four {w : Wd} {n : Nat} (hn : n + 4 ≤ 900) (h : w.1 0 1 = nI n) (x : Int32) : OK (f_X12_putFour x w) (fun v => v.1 0 1 = nI (n + 4) ∧ (∀ k, v.1 1 k = if n ≤ k ∧ k < n + 4 then byF x (k - n) else w.1 1 k) ∧ FX PFm w v) := by
  unfold f_X12_putFour
  refine lo3 (fun m y1 y2 v => ∃ i, m = 4 - i ∧ i ≤ 4 ∧ y1 = x ∧ ((i < 4 ∧ y2 = nI (24 - 8 * i)) ∨ (i = 4 ∧ y2 = -8)) ∧ v.1 0 1 = nI (n + i) ∧ (∀ k, v.1 1 k = if n ≤ k ∧ k < n + i then byF x (k - n) else w.1 1 k) ∧ FX PFm w v) ?_ fu (4 - 0) x 24 w (by rw [fu_eq]; omega) ⟨0, rfl, by omega, rfl, Or.inl ⟨by omega, rfl⟩, h, fun k => by rw [if_neg (by omega)], FX.rf _ _⟩
  rintro m k y1 y2 v ⟨i, rfl, hi, rfl, hy, h1, h2, hF⟩ hk
  rw [X12_putFour_b3]
  rcases hy with ⟨hi4, rfl⟩ | ⟨rfl, rfl⟩
  · refine OK.f (y_ge i hi4) ?_
    rw [h1]
    refine OK.t (z_inb (by omega) (by omega)) (OK.l (OK.l (hk _ _ _ _ (by omega) ⟨i + 1, rfl, hi4, rfl, ?_, ?_, fun k => ?_, (hF.tr (FX.w _ _ (by unfold PFm; omega))).tr (FX.w _ _ (by unfold PFm; omega))⟩)))
    · rcases y_nx i hi4 with ⟨q1, q2⟩ | ⟨q1, q2⟩
      · exact Or.inl ⟨by omega, q2⟩
      · exact Or.inr ⟨by omega, q2⟩
    · rw [wI_s, wI_g, if_neg (by omega), h1, nI_1]; rfl
    · rw [wI_g, if_neg (by omega), nI_clamp (by omega), wI_g]
      by_cases q : k = n + i
      · rw [if_pos ⟨rfl, q⟩, if_pos (by omega), q, show n + i - n = i by omega]; rfl
      · rw [if_neg (fun e => q e.2), h2]
        by_cases c : n ≤ k ∧ k < n + i
        · rw [if_pos c, if_pos (by omega)]
        · rw [if_neg c, if_neg (by omega)]
  · exact OK.t (by decide) (OK.s ⟨h1, h2, hF⟩)
theorem q_put {n : Nat} (h1 : wc.1 2 = wm.1 1) (h2 : ∀ j, bRg (wm.1 1 j)) (h3 : wc.1 1 1 = nI n) (h4 : wm.1 0 1 = nI n) (hn : n + 4 ≤ 900) (x : Int32) : ∃ wc1 wm1, f_X10_putFour x wc = some wc1 ∧ f_X12_putFour x wm = some wm1 ∧ wc1.1 2 = wm1.1 1 ∧ (∀ j, bRg (wm1.1 1 j)) ∧ wc1.1 1 1 = nI (n + 4) ∧ wm1.1 0 1 = nI (n + 4) ∧ FX PFc wc wc1 ∧ FX PFm wm wm1 := by
  obtain ⟨wc1, e1, a1, a2, a3⟩ := zc_four hn h3 x
  obtain ⟨wm1, e2, b1, b2, b3⟩ := zm_four hn h4 x
  refine ⟨wc1, wm1, e1, e2, funext fun k => ?_, fun j => ?_, a1, b1, a3, b3⟩
  · rw [a2, b2, h1]
  · rw [b2]
    by_cases c : n ≤ j ∧ j < n + 4
    · rw [if_pos c]; exact nar_by _
    · rw [if_neg c]; exact h2 j
theorem q_feed (h : TPR wc wm) (a b c d e : Int32) : ∃ r wc1 wm1, f_X11_feed a b c d e wc = some (r, wc1) ∧ f_X12_feed a b c d e wm = some (r, wm1) ∧ TPR wc1 wm1 ∧ FX PFc wc wc1 ∧ FX PFm wm wm1 := by
  have h0 := h
  obtain ⟨h1, h2, h3, n, hn, h4⟩ := h
  unfold f_X11_feed f_X12_feed f_X10_hasRoomForFeed
  rw [h3, h4, show (20 : Int32) = nI 20 from rfl, nI_add]
  by_cases c1 : n + 20 ≤ 900
  · rw [if_neg (show ¬ (900 : Int32) < nI (n + 20) from nI_nlt (a := 900) (b := n + 20) c1 (by omega)), cl_s, i10, if_pos (show nI (n + 20) ≤ 900 from nI_le (b := 900) c1 (by omega))]
    obtain ⟨w1, m1, p1, q1, a1, a2, a3, a4, a5, a6⟩ := q_put h1 h2 (h3.trans h4) h4 (by omega) a
    obtain ⟨w2, m2, p2, q2, b1, b2, b3, b4, b5, b6⟩ := q_put a1 a2 a3 a4 (by omega) b
    obtain ⟨w3, m3, p3, q3, c1', c2, c3, c4, c5, c6⟩ := q_put b1 b2 b3 b4 (by omega) c
    obtain ⟨w4, m4, p4, q4, d1, d2, d3, d4, d5, d6⟩ := q_put c1' c2 c3 c4 (by omega) d
    obtain ⟨w5, m5, p5, q5, e1, e2, e3, e4, e5, e6⟩ := q_put d1 d2 d3 d4 (by omega) e
    rw [p1, cv_s, p2, cv_s, p3, cv_s, p4, cv_s, p5, cv_s, q1, cv_s, q2, cv_s, q3, cv_s, q4, cv_s, q5, cv_s, e3, e4]
    exact ⟨_, w5, m5, rfl, rfl, ⟨e1, e2, e3.trans e4.symm, n + 4 + 4 + 4 + 4 + 4, by omega, e4⟩, (((a5.tr b5).tr c5).tr d5).tr e5, (((a6.tr b6).tr c6).tr d6).tr e6⟩
  · rw [if_pos (show (900 : Int32) < nI (n + 20) from nI_lt (a := 900) (b := n + 20) (by omega) (by omega)), cl_s, i01, if_neg (show ¬ nI (n + 20) ≤ 900 from nI_ge (a := 900) (b := n + 20) (by omega) (by omega))]
    exact ⟨_, wc, wm, rfl, rfl, h0, FX.rf _ _, FX.rf _ _⟩
end
