/-! a land, whole -/
-- PTC PTM PED PEM PLw PLm
def PLv (L a k : Nat) : Prop := PTC a k ∨ (a = 51 ∧ 13 * L ≤ k ∧ k < 13 * L + 13)
def PLk (L a k : Nat) : Prop := PTM a k ∨ (a = 14 ∧ 13 * L ≤ k ∧ k < 13 * L + 13)
theorem ct_a13 {x : Int32} {i : Nat} (hi : i < 13) (h : bt x i = false) : fb_ct (bt (x ||| (1 <<< (nI i &&& 31)))) 13 = fb_ct (bt x) 13 + 1 := by
  have e : fb_ct (bt (x ||| (1 <<< (nI i &&& 31)))) 13 = fb_ct (fun k => if k = i then true else bt x k) 13 := fb_ct_cong (fun k hk => by
    rw [b_or, z_one (by omega) (by omega)]
    by_cases c : k = i
    · rw [if_pos c, decide_eq_true c, Bool.or_true]
    · rw [if_neg c, decide_eq_false c, Bool.or_false])
  have := fb_ct_upd (bt x) true (i := i) (n := 13) hi
  rw [h, if_neg (by decide), if_pos rfl, Nat.add_zero] at this
  rw [e]; exact this
def LOU (L : Nat) (w m : Wd) (x : Option Wd) (y : Option (Int32 × Wd)) : Prop := ∃ w' m', x = some w' ∧ FXL (PLv L) PTl w w' ∧ FX (PLk L) m m' ∧ ((y = some (1, wI m' 0 26 (nI (L + 1))) ∧ GR w' m' ∧ PTG m ≤ PTG m' ∧ LRU w' m' L) ∨ (y = some (0, m') ∧ FT w' m') ∨ (y = some (1, wI m' 0 26 (nI (L + 1))) ∧ m'.1 0 5 = 1 ∧ FLT w' ∧ w'.1 1 4 = 1 ∧ w'.1 1 5 = m'.1 0 3))
theorem LOU.tr {L : Nat} {w0 m0 w m : Wd} {x : Option Wd} {y : Option (Int32 × Wd)} (hF : FXL (PLv L) PTl w0 w) (hM : FX (PLk L) m0 m) (hp : PTG m0 ≤ PTG m) (h : LOU L w m x y) : LOU L w0 m0 x y := by
  obtain ⟨w', m', e1, hF1, hM1, hr⟩ := h
  refine ⟨w', m', e1, hF.tr hF1, hM.tr hM1, ?_⟩
  rcases hr with ⟨e2, hG, hg, hP⟩ | q
  · exact Or.inl ⟨e2, hG, by omega, hP⟩
  · exact Or.inr q
section
variable {w m : Wd} {L : Nat}
theorem q_landL (hL : L < 4) : ∀ (d f g i : Nat) (t : Int32) (w m : Wd), d = 13 - i → i ≤ 13 → fb_ct (bt t) 13 = i → d + 2 ≤ f → d + 1 ≤ g → GR w m → LRU w m L → m.1 0 26 = nI L → LOU L w m (lp f (fun _ _ _ _ => none) (fun k53 => X0_readLand_b53 k53) (nI L) t (nI i) w) (cl (f_X12_ruleAt m) fun r5 w4 => lp g (fun _ _ _ => none) (fun k90 => X12_readLand_b90 k90) t r5 w4) := by
  intro d
  induction d with
  | zero =>
    intro f g i t w m hd hi hct hf hg h hR h26
    have hall := (fb_ct_all (p := bt t) (n := 13)).mp (by omega)
    obtain ⟨f, rfl⟩ : ∃ f', f = f' + 1 := ⟨f - 1, by omega⟩
    obtain ⟨f, rfl⟩ : ∃ f', f = f' + 1 := ⟨f - 1, by omega⟩
    obtain ⟨g, rfl⟩ : ∃ g', g = g' + 1 := ⟨g - 1, by omega⟩
    obtain ⟨r, e1, e2, hr⟩ := q_rnam h
    rw [e2, cl_s]
    show LOU L w m (X0_readLand_b53 (lp (f + 1) (fun _ _ _ _ => none) (fun k53 => X0_readLand_b53 k53)) (nI L) t (nI i) w) (X12_readLand_b90 (lp g (fun _ _ _ => none) (fun k90 => X12_readLand_b90 k90)) t r m)
    rw [X0_readLand_b53, X12_readLand_b90, if_neg (show ¬ (13 : Int32) < nI i from nI_nlt (a := 13) (b := i) (by omega) (by omega)), h.kd, h26, nI_1 L]
    by_cases k1 : m.1 0 5 = 1
    · rw [if_pos k1, e1, cl_s]
      by_cases r1 : r = -1
      · rw [if_pos r1, if_pos r1, zc_failw h, cv_s, lt_s']
        have hfl : FLT (wI (wI (wI w 1 4 1) 1 5 (m.1 0 3)) 1 2 4) := ⟨by rw [wI_g, if_neg (by omega), wI_g, if_neg (by omega), wI_s]; decide, wI_s _ _ _ _⟩
        rw [fl_landL hfl]
        refine ⟨_, m, rfl, ((FXL.w _ _ (by simp only [PLv, PLk, PLw, PLm, PED, PEM, PTC, PTM, and_true, true_and, or_true, true_or, and_self] <;> omega)).tr (FXL.w _ _ (by simp only [PLv, PLk, PLw, PLm, PED, PEM, PTC, PTM, and_true, true_and, or_true, true_or, and_self] <;> omega))).tr (FXL.w _ _ (by simp only [PLv, PLk, PLw, PLm, PED, PEM, PTC, PTM, and_true, true_and, or_true, true_or, and_self] <;> omega)), FX.rf _ _, Or.inr (Or.inr ⟨rfl, k1, hfl, ?_, ?_⟩)⟩
        · rw [wI_g, if_neg (by omega), wI_g, if_neg (by omega), wI_s]
        · rw [wI_g, if_neg (by omega), wI_s]
      · obtain ⟨⟨k, hk, rfl⟩, -⟩ := hr.resolve_left r1
        obtain ⟨w5, m5, x5, b5, f5, F5, M5⟩ := q_fail h (k := 3) (by decide)
        rw [if_neg r1, if_neg r1, if_bt (show k < 32 by omega), if_bt1 (show k < 32 by omega), hall k hk, if_neg (show ¬ true = false by decide), if_pos rfl, x5, cv_s, fl_landL f5.1, b5, cl_s, if_pos (show isB 0 = true from rfl)]
        exact ⟨w5, m5, rfl, F5.mo (fun a k q => Or.inl q) (fun a k q => q), M5.mo (fun a k q => Or.inl q), Or.inr (Or.inl ⟨rfl, f5⟩)⟩
    · have r1 : r = -1 := by
        rcases hr with q | q
        · exact q
        · exact absurd q.2 k1
      rw [if_neg k1, if_pos r1, lt_s']
      exact ⟨w, m, rfl, FXL.rf _ _ _, FX.rf _ _, Or.inl ⟨rfl, h, Nat.le_refl _, hR⟩⟩
  | succ d ih =>
    intro f g i t w m hd hi hct hf hg h hR h26
    obtain ⟨f, rfl⟩ : ∃ f', f = f' + 1 := ⟨f - 1, by omega⟩
    obtain ⟨f, rfl⟩ : ∃ f', f = f' + 1 := ⟨f - 1, by omega⟩
    obtain ⟨g, rfl⟩ : ∃ g', g = g' + 1 := ⟨g - 1, by omega⟩
    obtain ⟨r, e1, e2, hr⟩ := q_rnam h
    rw [e2, cl_s]
    show LOU L w m (X0_readLand_b53 (lp (f + 1) (fun _ _ _ _ => none) (fun k53 => X0_readLand_b53 k53)) (nI L) t (nI i) w) (X12_readLand_b90 (lp g (fun _ _ _ => none) (fun k90 => X12_readLand_b90 k90)) t r m)
    rw [X0_readLand_b53, X12_readLand_b90, if_neg (show ¬ (13 : Int32) < nI i from nI_nlt (a := 13) (b := i) (by omega) (by omega)), h.kd, h26, nI_1 L]
    by_cases k1 : m.1 0 5 = 1
    · rw [if_pos k1, e1, cl_s]
      by_cases r1 : r = -1
      · rw [if_pos r1, if_pos r1, zc_failw h, cv_s, lt_s']
        have hfl : FLT (wI (wI (wI w 1 4 1) 1 5 (m.1 0 3)) 1 2 4) := ⟨by rw [wI_g, if_neg (by omega), wI_g, if_neg (by omega), wI_s]; decide, wI_s _ _ _ _⟩
        rw [fl_landL hfl]
        refine ⟨_, m, rfl, ((FXL.w _ _ (by simp only [PLv, PLk, PLw, PLm, PED, PEM, PTC, PTM, and_true, true_and, or_true, true_or, and_self] <;> omega)).tr (FXL.w _ _ (by simp only [PLv, PLk, PLw, PLm, PED, PEM, PTC, PTM, and_true, true_and, or_true, true_or, and_self] <;> omega))).tr (FXL.w _ _ (by simp only [PLv, PLk, PLw, PLm, PED, PEM, PTC, PTM, and_true, true_and, or_true, true_or, and_self] <;> omega)), FX.rf _ _, Or.inr (Or.inr ⟨rfl, k1, hfl, ?_, ?_⟩)⟩
        · rw [wI_g, if_neg (by omega), wI_g, if_neg (by omega), wI_s]
        · rw [wI_g, if_neg (by omega), wI_s]
      · obtain ⟨⟨k, hk, rfl⟩, -⟩ := hr.resolve_left r1
        rw [if_neg r1, if_neg r1, if_bt (show k < 32 by omega), if_bt1 (show k < 32 by omega)]
        cases hb : bt t k
        · rw [if_pos (show false = false from rfl), if_neg (show ¬ false = true by decide), lt_s', lt_s']
          obtain ⟨v, w', m', x1, hF, hM, hrr⟩ := q_ru h hL hk
          obtain ⟨w1, s1, s2⟩ : ∃ w1, f_X10_step w = some w1 ∧ f_X0_readRule (nI k) w1 = some (v, w') := by
            cases hs : f_X10_step w with
            | none => rw [hs] at x1; cases x1
            | some w1 => rw [hs, cv_s] at x1; exact ⟨w1, rfl, x1⟩
          rw [s1, cv_s, s2, cl_s, show (13 : Int32) = nI 13 from rfl, pk_mul, nI_add, if_pos (z_inb (show L * 13 + k < 52 by omega) (by omega)), nI_clamp (n := L * 13 + k) (by omega), lt_s', show L * 13 + k = 13 * L + k by omega, nI_1 i]
          have hFa : FXL (PLv L) PTl w (wI w' 51 (13 * L + k) v) := (hF.mo (fun a k q => Or.inl q) (fun a k q => q)).tr (FXL.w _ _ (by simp only [PLv, PLk, PLw, PLm, PED, PEM, PTC, PTM, and_true, true_and, or_true, true_or, and_self] <;> omega))
          rcases hrr with ⟨x2, hG, hp, hv⟩ | ⟨x2, hf2⟩
          · rw [x2, cl_s, i10]
            have hMa : FX (PLk L) m (wI m' 14 (13 * L + k) v) := (hM.mo (fun a k q => Or.inl q)).tr (FX.w _ _ (by simp only [PLv, PLk, PLw, PLm, PED, PEM, PTC, PTM, and_true, true_and, or_true, true_or, and_self] <;> omega))
            exact LOU.tr hFa hMa (by rw [PTG_r (by omega)]; exact hp) (ih (f + 1) g (i + 1) _ _ _ (by omega) (by omega) (by rw [ct_a13 hk hb, hct]) (by omega) (by omega) ((hG.c (by omega) (by omega)).r (by omega)) (hR.wr hF hM hk hv) (by rw [wI_g, if_neg (by omega), hM.2 _ _ (by simp only [PLv, PLk, PLw, PLm, PED, PEM, PTC, PTM, and_true, true_and, or_true, true_or, and_self] <;> omega)]; exact h26))
          · rw [x2, cl_s, i01, fl_landL (hf2.c (by omega)).1]
            exact ⟨_, m', rfl, hFa, hM.mo (fun a k q => Or.inl q), Or.inr (Or.inl ⟨rfl, hf2.c (by omega)⟩)⟩
        · obtain ⟨w5, m5, x5, b5, f5, F5, M5⟩ := q_fail h (k := 3) (by decide)
          rw [if_neg (show ¬ true = false by decide), if_pos (show true = true from rfl), x5, cv_s, fl_landL f5.1, b5, cl_s, if_pos (show isB 0 = true from rfl)]
          exact ⟨w5, m5, rfl, F5.mo (fun a k q => Or.inl q) (fun a k q => q), M5.mo (fun a k q => Or.inl q), Or.inr (Or.inl ⟨rfl, f5⟩)⟩
    · have r1 : r = -1 := by
        rcases hr with q | q
        · exact q
        · exact absurd q.2 k1
      rw [if_neg k1, if_pos r1, lt_s']
      exact ⟨w, m, rfl, FXL.rf _ _ _, FX.rf _ _, Or.inl ⟨rfl, h, Nat.le_refl _, hR⟩⟩
theorem q_ldone {w' m' : Wd} {c0 : Int64} (hD : DR w m) (hLr : L = rL m) (hL : L < 4) (hF : FXL (PLw L) (PLl L) w w') (hM : FXL (PLm L) (PLn L) m m') (n46 : w'.2 46 L = c0) (n11 : m'.2 11 L = c0) (n45 : w'.1 45 1 = nI (L + 1)) (hR : LRU w' m' L) : DR w' (wI m' 0 26 (nI (L + 1))) := by
  obtain ⟨d1, d2, d3, d4, d5, d6, d7, d8⟩ := hD
  have eL : rL (wI m' 0 26 (nI (L + 1))) = L + 1 := by unfold rL; rw [wI_s, nI_clamp (by omega)]
  have eP : rP (wI m' 0 26 (nI (L + 1))) = rP m := by unfold rP; rw [wI_g, if_neg (by omega), hM.1 0 27 (by simp only [PLv, PLk, PLw, PLm, PED, PEM, PTC, PTM, and_true, true_and, or_true, true_or, and_self] <;> omega)]
  have eT : rT (wI m' 0 26 (nI (L + 1))) = rT m := by unfold rT; rw [wI_g, if_neg (by omega), hM.1 0 28 (by simp only [PLv, PLk, PLw, PLm, PED, PEM, PTC, PTM, and_true, true_and, or_true, true_or, and_self] <;> omega)]
  have om : ∀ a k, (a = 0 ∧ 26 ≤ k ∧ k ≤ 36 ∧ ¬ k = 26) ∨ (14 ≤ a ∧ a ≤ 19 ∧ ¬ (a = 14 ∧ 13 * L ≤ k ∧ k < 13 * L + 13)) → (wI m' 0 26 (nI (L + 1))).1 a k = m.1 a k := fun a k q => by rw [wI_g, if_neg (by omega), hM.1 a k (by simp only [PLv, PLk, PLw, PLm, PED, PEM, PTC, PTM, and_true, true_and, or_true, true_or, and_self] <;> omega)]
  have om1 : ∀ a k, 14 ≤ a → (wI m' 0 26 (nI (L + 1))).1 a k = m'.1 a k := fun a k q => by rw [wI_g, if_neg (by omega)]
  have ow : ∀ a k, 44 ≤ a → a ≤ 56 → ¬ (a = 45 ∧ k = 1) → ¬ (a = 51 ∧ 13 * L ≤ k ∧ k < 13 * L + 13) → w'.1 a k = w.1 a k := fun a k h1 h2 h3 h4 => hF.1 a k (by simp only [PLv, PLk, PLw, PLm, PED, PEM, PTC, PTM, and_true, true_and, or_true, true_or, and_self] <;> omega)
  have mono : ∀ x : Int32, NN x (rL m) → NN x (L + 1) := fun x ⟨i, hi, e⟩ => ⟨i, by omega, e⟩
  refine ⟨?_, ⟨fun k hk => ?_, fun l hl => ?_⟩, ?_, fun k hk => ?_, fun i hi => ?_, fun i hi => ?_, ?_, ?_⟩
  · unfold dN
    rw [eL, eP, eT, wI_s, om 0 27 (by omega), om 0 28 (by omega), ow 47 1 (by omega) (by omega) (by omega) (by omega), ow 49 1 (by omega) (by omega) (by omega) (by omega), wI_2]
    refine ⟨⟨rfl, by omega, n45, fun k hk => ?_⟩, ⟨d1.2.1.1, d1.2.1.2.1, d1.2.1.2.2.1, fun k hk => ?_⟩, d1.2.2.1, d1.2.2.2.1, d1.2.2.2.2.1, fun k hk => ?_⟩
    · by_cases q : k = L
      · rw [q, n46, n11]
      · rw [hF.2 46 k (by simp only [PLl, PTl]; omega), hM.2 11 k (by unfold PLn; omega)]; exact d1.1.2.2.2 k (by omega)
    · rw [hF.2 48 k (by simp only [PLl, PTl]; omega), hM.2 12 k (by unfold PLn; omega)]; exact d1.2.1.2.2.2 k hk
    · rw [hF.2 50 k (by simp only [PLl, PTl]; omega), hM.2 13 k (by unfold PLn; omega)]; exact d1.2.2.2.2.2 k hk
  · rw [eL] at hk
    by_cases q : 13 * L ≤ k
    · have e : k = 13 * L + (k - 13 * L) := by omega
      rw [e, om1 14 _ (by omega)]; exact hR.1 _ (by omega)
    · rw [ow 51 k (by omega) (by omega) (by omega) (by omega), om 14 k (by omega)]; exact d2.1 k (by omega)
  · rw [eL] at hl
    by_cases q : l = L
    · rw [q, om1 14 _ (by omega), om1 14 _ (by omega), om1 14 _ (by omega), om1 14 _ (by omega)]
      exact hR.2
    · rw [om 14 _ (by omega), om 14 _ (by omega), om 14 _ (by omega), om 14 _ (by omega)]
      exact d2.2 l (by omega)
  · unfold dP dPk
    rw [eP]
    simp only [fun k => ow 52 k (by omega) (by omega) (by omega) (by omega), fun k => ow 53 k (by omega) (by omega) (by omega) (by omega), fun k => ow 44 k (by omega) (by omega) (by omega) (by omega), fun k => ow 56 k (by omega) (by omega) (by omega) (by omega), fun k => om 15 k (by omega), fun k => om 16 k (by omega), fun k => om 19 k (by omega)]
    exact d3
  · rw [eT] at hk
    unfold dTk
    rw [eL, ow 54 k (by omega) (by omega) (by omega) (by omega), ow 55 k (by omega) (by omega) (by omega) (by omega), om 17 k (by omega), om 18 k (by omega)]
    obtain ⟨a1, a2, a3⟩ := d4 k hk
    exact ⟨a1, a2, a3.imp id (mono _)⟩
  · unfold dSk
    rw [eL, ow 44 18 (by omega) (by omega) (by omega) (by omega), ow 44 (12 + i) (by omega) (by omega) (by omega) (by omega), om 0 36 (by omega), om 0 (31 + i) (by omega)]
    obtain ⟨a1, a2, a3⟩ := d5 i hi
    exact ⟨a1, fun q => ⟨(a2 q).1, mono _ (a2 q).2⟩, a3⟩
  · rw [ow 44 18 (by omega) (by omega) (by omega) (by omega), ow 44 (15 + i) (by omega) (by omega) (by omega) (by omega), om 0 36 (by omega), om 0 (29 + i) (by omega)]
    exact d6 i hi
  · unfold dW
    rw [eP, ow 44 11 (by omega) (by omega) (by omega) (by omega), om 0 34 (by omega)]; exact d7
  · unfold dC
    rw [ow 44 17 (by omega) (by omega) (by omega) (by omega), om 0 35 (by omega)]; exact d8
theorem q_land (h : GR w m) (hD : DR w m) : ECL w m (cv (f_X0_readLand w) fun w35 => some w35) (f_X12_readLand m) := by
  have hD0 := hD
  obtain ⟨d1, d2, d3, d4, d5, d6, d7, d8⟩ := hD
  obtain ⟨t1, t2, t3, t4⟩ := d1.1
  have hNl : NMS w m 45 11 (rL m) 4 := ⟨t3.trans t1, t2, by omega, t4⟩
  obtain ⟨L, hLr⟩ : ∃ L, L = rL m := ⟨_, rfl⟩
  rw [← hLr] at hNl
  rw [← hLr] at t1 t2 t4
  have toE : ∀ {u : Wd}, FXL (PLw L) (PLl L) w u → FXL PED QED w u := fun q => q.mo (fun a k q => by simp only [PLv, PLk, PLw, PLm, PED, PEM, PTC, PTM] at q ⊢; omega) (fun a k q => by simp only [PTl, QED, QEM, PLl, PLn] at q ⊢; omega)
  have toM : ∀ {u : Wd}, FXL (PLm L) (PLn L) m u → FXL PEM QEM m u := fun q => q.mo (fun a k q => by simp only [PLv, PLk, PLw, PLm, PED, PEM, PTC, PTM] at q ⊢; omega) (fun a k q => by simp only [PTl, QED, QEM, PLl, PLn] at q ⊢; omega)
  unfold f_X0_readLand f_X12_readLand
  rcases q_name h (by omega) hNl t1 (by omega) (fun w2 => X12_readLand_b37_L 0 w2) with ⟨w1, w2, m2, e1, e2, e3, hf, hF, hM⟩ | ⟨hLn, w1, m1, e1, e2, hG1, hp1, hF1, hM1, hk⟩
  · rw [show nI 4 = (4 : Int32) from rfl] at e3
    rw [e1, cv_s, e2, cl_s, i01, cv_s, e3]
    exact ⟨w2, m2, rfl, PTC_E hF, PTM_E hM, Or.inr (Or.inl ⟨rfl, hf⟩)⟩
  · rw [e1, cv_s, e2, cl_s, i10]
    have s1 : w1.1 45 1 = nI L := by rw [hF1.1 _ _ (by simp only [PLv, PLk, PLw, PLm, PED, PEM, PTC, PTM, and_true, true_and, or_true, true_or, and_self] <;> omega)]; exact hNl.1
    rw [s1, lt_s', zc_add s1 hLn (by omega), cv_s]
    obtain ⟨c0, hc0⟩ : ∃ c0, c0 = w1.2 1 3 := ⟨_, rfl⟩
    rw [← hc0] at hk ⊢
    obtain ⟨w3, m3, s3, s4, hG3, hp3, -, hF3, hM3⟩ := q_step (((hG1.lg (a := 46) (k := L) (v := c0) (by omega)).c (a := 45) (k := 1) (v := nI (L + 1)) (by omega) (by omega)).rg (a := 11) (k := L) (v := c0))
    have hk3 := hk m3 s4
    rw [show nI 4 = (4 : Int32) from rfl] at hk3
    rw [hk3, s3, cv_s]
    rw [PTG_rg] at hp3
    have h26 : m3.1 0 26 = nI L := by rw [hM3.2 _ _ (by simp only [PLv, PLk, PLw, PLm, PED, PEM, PTC, PTM, and_true, true_and, or_true, true_or, and_self] <;> omega), wG_1, hM1.2 _ _ (by simp only [PLv, PLk, PLw, PLm, PED, PEM, PTC, PTM, and_true, true_and, or_true, true_or, and_self] <;> omega)]; exact t1
    obtain ⟨w4, x1, hu4, hF4⟩ := zc_unt (w := w3) hLn
    rw [x1, cv_s, zm_unt hLn h26]
    have hM4 := wU_fx m3 14 L 13
    have hG4 : GR w4 (wU m3 14 L 13) := by
      have e1 : ∀ k, w4.1 1 k = w3.1 1 k := fun k => hF4.2 1 k (by omega)
      have e2 : w4.1 2 = w3.1 2 := funext fun k => hF4.2 2 k (by omega)
      have e3 : ∀ k, (wU m3 14 L 13).1 0 k = m3.1 0 k := fun k => hM4.2 0 k (by omega)
      have e4 : (wU m3 14 L 13).1 1 = m3.1 1 := funext fun k => hM4.2 1 k (by omega)
      obtain ⟨⟨n, f, e, k1, k2, k3, k4, k5, k6, k7, k8, k9, k10, k11, k12, k13, k14, k15, k16⟩, g1, g2, g3⟩ := hG3
      refine ⟨⟨n, f, e, k1, k2, k3, ?_, ?_, ?_, ?_, ?_, ?_, ?_, ?_, ?_, ?_, ?_, ?_, ?_⟩, ?_, ?_, ?_⟩
      · rw [e2, e4]; exact k4
      · rw [e4]; exact k5
      · rw [e1]; exact k6
      · rw [e3]; exact k7
      · rw [e1]; exact k8
      · rw [e3]; exact k9
      · rw [e1]; exact k10
      · rw [e3]; exact k11
      · rw [e1, e3]; exact k12
      · rw [e1]; exact k13
      · rw [e1, e3, e3]; exact k14
      · rw [e3, e4, hF4.1]; exact k15
      · rw [e3]; exact k16
      · rw [e1]; exact g1
      · rw [e3]; exact g2
      · rw [e3]; exact g3
    have pg4 : PTG (wU m3 14 L 13) = PTG m3 := by unfold PTG; rw [hM4.2 0 4 (by omega)]
    have hFb : FXL (PLw L) (PLl L) w w4 := (((hF1.mo (fun a k q => Or.inl q) (fun a k q => Or.inl q)).tr ((FXL.g _ _ (Or.inr ⟨rfl, rfl⟩)).tr (FXL.w _ _ (by simp only [PLv, PLk, PLw, PLm, PED, PEM, PTC, PTM, and_true, true_and, or_true, true_or, and_self] <;> omega)))).tr (hF3.mo (fun a k q => Or.inl q) (fun a k q => Or.inl q))).tr (FX.xl (hF4.mo (fun a k q => by simp only [PLv, PLk, PLw, PLm, PED, PEM, PTC, PTM] at q ⊢; omega)))
    have hMb : FXL (PLm L) (PLn L) m (wU m3 14 L 13) := (((FX.xl (hM1.mo (fun a k q => Or.inl q))).tr (FXL.g _ _ ⟨rfl, rfl⟩)).tr (FX.xl (hM3.mo (fun a k q => Or.inl q)))).tr (FX.xl (hM4.mo (fun a k q => by simp only [PLv, PLk, PLw, PLm, PED, PEM, PTC, PTM] at q ⊢; omega)))
    have hR4 : LRU w4 (wU m3 14 L 13) L := by
      refine ⟨fun k hk => by rw [hu4 k hk, wU_g _ _ _ _ _ hk], ?_, ?_, ?_, ?_⟩
      · rw [wU_g _ _ _ _ 11 (by omega)]; exact ⟨0, by omega, rfl⟩
      · rw [wU_g _ _ _ _ 12 (by omega)]; exact ⟨⟨0, by omega, rfl⟩, by decide⟩
      · rw [wU_g _ _ _ _ 9 (by omega)]; exact ⟨50, by omega, rfl⟩
      · rw [wU_g _ _ _ _ 10 (by omega)]; exact ⟨0, by omega, rfl⟩
    have h264 : (wU m3 14 L 13).1 0 26 = nI L := by rw [hM4.2 0 26 (by omega)]; exact h26
    obtain ⟨w5, m5, y1, hF5, hM5, hr⟩ := q_landL hLn 13 fu fu 0 0 w4 (wU m3 14 L 13) rfl (by omega) (by decide) (by rw [fu_eq]; omega) (by rw [fu_eq]; omega) hG4 hR4 h264
    have z1 : X0_readLand_b53_L (nI L) 0 0 w4 = some w5 := y1
    rw [z1, cv_s]
    have hFc : FXL (PLw L) (PLl L) w w5 := hFb.tr (hF5.mo (fun a k q => by simp only [PLv, PLk, PLw, PLm, PED, PEM, PTC, PTM] at q ⊢; omega) (fun a k q => Or.inl q))
    have hMc : FXL (PLm L) (PLn L) m m5 := hMb.tr (FX.xl (hM5.mo (fun a k q => by simp only [PLv, PLk, PLw, PLm, PED, PEM, PTC, PTM] at q ⊢; omega)))
    refine ⟨w5, ?_⟩
    rcases hr with ⟨y2, hG5, hp5, hR5⟩ | ⟨y2, hf5⟩ | ⟨y2, k5, hf5, e4, e5⟩
    · refine ⟨_, rfl, toE hFc, toM (hMc.tr (FXL.w _ _ (by simp only [PLv, PLk, PLw, PLm, PED, PEM, PTC, PTM, and_true, true_and, or_true, true_or, and_self] <;> omega))), Or.inl ⟨y2, hG5.r (by omega), by rw [PTG_r (by omega)]; omega, q_ldone (c0 := c0) hD0 hLr hLn hFc hMc ?_ ?_ ?_ hR5⟩⟩
      · rw [hF5.2 46 L (by unfold PTl; omega), hF4.1, hF3.2 46 L (by unfold PTl; omega), wI_2, wG_g, if_pos ⟨rfl, rfl⟩]
      · rw [hM5.1, hM4.1, hM3.1, wG_g, if_pos ⟨rfl, rfl⟩]
      · rw [hF5.1 45 1 (by simp only [PLv, PLk, PLw, PLm, PED, PEM, PTC, PTM, and_true, true_and, or_true, true_or, and_self] <;> omega), hF4.2 45 1 (by omega), hF3.1 _ _ (by simp only [PLv, PLk, PLw, PLm, PED, PEM, PTC, PTM, and_true, true_and, or_true, true_or, and_self] <;> omega), wI_s]
    · exact ⟨m5, rfl, toE hFc, toM hMc, Or.inr (Or.inl ⟨y2, hf5⟩)⟩
    · exact ⟨_, rfl, toE hFc, toM (hMc.tr (FXL.w _ _ (by simp only [PLv, PLk, PLw, PLm, PED, PEM, PTC, PTM, and_true, true_and, or_true, true_or, and_self] <;> omega))), Or.inr (Or.inr ⟨y2, by rw [wI_g, if_neg (by omega), k5]; decide, hf5, e4, by rw [e5, wI_g, if_neg (by omega)]⟩)⟩
end
