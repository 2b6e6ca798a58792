/-! offers -/
-- PTC PTM PTk PTm
section
variable {w m : Wd}
theorem q_stepT (h : RT w m) : ∃ w' m', f_X10_step w = some w' ∧ f_X12_scan m = some m' ∧ RT w' m' ∧ FXL PTk PTl w w' ∧ FX PTm m m' := by
  obtain ⟨n, f, e, h1, h2, h3, h4, h5, h6, h7, h8, h9, h10, h11, h12, h13, -⟩ := h
  obtain ⟨w', m', e1, e2, hr, p1, p2, hF, hM⟩ := q_tok h1 h3 h4 h5 h6 h7 h10 h11 h13
  exact ⟨w', m', e1, e2, hr, hF, hM⟩
theorem RT.c (h : RT w m) {a k : Nat} {v : Int32} (ha : ¬ a = 1) (ha2 : ¬ a = 2) : RT (wI w a k v) m := by
  obtain ⟨n, f, e, h1, h2, h3, h4, h5, h6, h7, h8, h9, h10, h11, h12, h13, h14, h15, h16⟩ := h
  have q : ∀ j, (wI w a k v).1 1 j = w.1 1 j := fun j => by rw [wI_g, if_neg (by omega)]
  have q2 : (wI w a k v).1 2 = w.1 2 := funext fun j => by rw [wI_g, if_neg (by omega)]
  refine ⟨n, f, e, h1, h2, h3, ?_, h5, ?_, h7, ?_, h9, ?_, h11, ?_, ?_, ?_, h15, h16⟩
  · rw [q2]; exact h4
  · rw [q]; exact h6
  · rw [q]; exact h8
  · rw [q]; exact h10
  · rw [q]; exact h12
  · rw [q]; exact h13
  · rw [q]; exact h14
theorem RT.r (h : RT w m) {a k : Nat} {v : Int32} (ha : 2 ≤ a ∨ (a = 0 ∧ 7 ≤ k)) : RT w (wI m a k v) := by
  obtain ⟨n, f, e, h1, h2, h3, h4, h5, h6, h7, h8, h9, h10, h11, h12, h13, h14, h15, h16⟩ := h
  have b1 : (wI m a k v).1 1 = m.1 1 := funext fun j => by rw [wI_g, if_neg (by omega)]
  have b0 : ∀ j, j < 7 → (wI m a k v).1 0 j = m.1 0 j := fun j hj => by rw [wI_g, if_neg (by omega)]
  refine ⟨n, f, e, h1, h2, h3, ?_, ?_, h6, ?_, h8, ?_, h10, ?_, ?_, h13, ?_, ?_, ?_⟩
  · rw [b1]; exact h4
  · rw [b1]; exact h5
  · rw [b0 _ (by omega)]; exact h7
  · rw [b0 _ (by omega)]; exact h9
  · rw [b0 _ (by omega)]; exact h11
  · rw [b0 _ (by omega)]; exact h12
  · rw [b0 5 (by omega), b0 6 (by omega)]; exact h14
  · rw [b0 5 (by omega), b1]; exact h15
  · rw [b0 5 (by omega)]; exact h16
def POf (a k : Nat) : Prop := (a = 1 ∧ ¬ k = 1) ∨ a = 30
def POr (a k : Nat) : Prop := (a = 0 ∧ 3 ≤ k ∧ k ≤ 6) ∨ a = 60
theorem fl_off {P : Nat} (hP : P ≤ 8) : ∀ (d f i : Nat) (w : Wd), d = P - i → i ≤ P → d + 1 ≤ f → FLT w → ∃ w', lp f (fun _ _ _ => none) (fun k23 => X11_readOffers_b23 k23) (nI P) (nI i) w = some (0, w') ∧ FXL POf PTl w w' := by
  intro d
  induction d with
  | zero =>
    intro f i w hd hi hf h
    obtain ⟨f, rfl⟩ : ∃ f', f = f' + 1 := ⟨f - 1, by omega⟩
    show ∃ w', X11_readOffers_b23 (lp f (fun _ _ _ => none) (fun k23 => X11_readOffers_b23 k23)) (nI P) (nI i) w = some (0, w') ∧ _
    rw [X11_readOffers_b23, if_pos (nI_le (by omega) (by omega)), zf_failed h, cl_s, i10]
    exact ⟨w, rfl, FXL.rf _ _ _⟩
  | succ d ih =>
    intro f i w hd hi hf h
    obtain ⟨f, rfl⟩ : ∃ f', f = f' + 1 := ⟨f - 1, by omega⟩
    show ∃ w', X11_readOffers_b23 (lp f (fun _ _ _ => none) (fun k23 => X11_readOffers_b23 k23)) (nI P) (nI i) w = some (0, w') ∧ _
    rw [X11_readOffers_b23, if_neg (nI_ge (by omega) (by omega)), zf_number h, cl_s, if_pos (z_inb (show i < 8 by omega) (by omega)), nI_clamp (n := i) (by omega), lt_s', nI_1]
    obtain ⟨w', e1, hF⟩ := ih f (i + 1) (wI w 30 i 0) (by omega) (by omega) (by omega) (h.i (by omega))
    exact ⟨w', e1, (FXL.w _ _ (by unfold POf; omega)).tr hF⟩
theorem q_off {P : Nat} (hP : P ≤ 8) : ∀ (d f g i : Nat) (w m : Wd), d = P - i → i ≤ P → d + 1 ≤ f → d + 1 ≤ g → RT w m → m.1 0 11 = nI P → (∀ k, k < i → w.1 30 k = m.1 60 k ∧ NN (m.1 60 k) 100000) → ∃ r w' n m', lp f (fun _ _ _ => none) (fun k23 => X11_readOffers_b23 k23) (nI P) (nI i) w = some (r, w') ∧ lp g (fun _ _ => none) (fun k26 => X12_settle_b26 k26) (nI i) m = X12_settle_b62 (nI n) m' ∧ n ≤ P ∧ FXL POf PTl w w' ∧ FX POr m m' ∧ ((r = 1 ∧ n = P ∧ m'.1 0 5 = 0 ∧ ∀ k, k < P → w'.1 30 k = m'.1 60 k ∧ NN (m'.1 60 k) 100000) ∨ (r = 0 ∧ ¬ (n = P ∧ m'.1 0 5 = 0))) := by
  intro d
  induction d with
  | zero =>
    intro f g i w m hd hi hf hg h h11 ho
    obtain ⟨f, rfl⟩ : ∃ f', f = f' + 1 := ⟨f - 1, by omega⟩
    obtain ⟨g, rfl⟩ : ∃ g', g = g' + 1 := ⟨g - 1, by omega⟩
    have ei : i = P := by omega
    subst ei
    have hkd : w.1 1 2 = m.1 0 5 ∧ w.1 1 4 = 0 := by
      obtain ⟨n, f, e, h1, h2, h3, h4, h5, h6, h7, h8, h9, h10, h11, h12, h13, -⟩ := h
      exact ⟨h12, h13⟩
    have e1 : lp (f + 1) (fun _ _ _ => none) (fun k23 => X11_readOffers_b23 k23) (nI i) (nI i) w = (if m.1 0 5 = 0 then some (1, w) else some (0, w)) := by
      show X11_readOffers_b23 (lp f (fun _ _ _ => none) (fun k23 => X11_readOffers_b23 k23)) (nI i) (nI i) w = _
      unfold X11_readOffers_b23 f_X10_hasFailed
      rw [if_pos (nI_le (Nat.le_refl _) (by omega)), if_pos hkd.2, cl_s, i01, hkd.1]
    have e2 : lp (g + 1) (fun _ _ => none) (fun k26 => X12_settle_b26 k26) (nI i) m = X12_settle_b62 (nI i) m := by
      show X12_settle_b26 (lp g (fun _ _ => none) (fun k26 => X12_settle_b26 k26)) (nI i) m = _
      rw [X12_settle_b26, h11, if_pos (nI_le (Nat.le_refl _) (by omega))]
      by_cases q : m.1 0 5 = 2
      · rw [if_pos q]
      · rw [if_neg q]
    rw [e1]
    by_cases q : m.1 0 5 = 0
    · rw [if_pos q]
      exact ⟨1, w, i, m, rfl, e2, Nat.le_refl _, FXL.rf _ _ _, FX.rf _ _, Or.inl ⟨rfl, rfl, q, ho⟩⟩
    · rw [if_neg q]
      exact ⟨0, w, i, m, rfl, e2, Nat.le_refl _, FXL.rf _ _ _, FX.rf _ _, Or.inr ⟨rfl, fun e => q e.2⟩⟩
  | succ d ih =>
    intro f g i w m hd hi hf hg h h11 ho
    obtain ⟨f, rfl⟩ : ∃ f', f = f' + 1 := ⟨f - 1, by omega⟩
    obtain ⟨g, rfl⟩ : ∃ g', g = g' + 1 := ⟨g - 1, by omega⟩
    have hkd : w.1 1 2 = m.1 0 5 ∧ w.1 1 4 = 0 ∧ (m.1 0 5 = 2 → w.1 1 6 = m.1 0 6 ∧ NN (m.1 0 6) 100000) := by
      obtain ⟨n, f, e, h1, h2, h3, h4, h5, h6, h7, h8, h9, h10, h11, h12, h13, h14, -⟩ := h
      exact ⟨h12, h13, h14⟩
    have i8 := z_inb (show i < 8 by omega) (show 8 < 2 ^ 31 by omega)
    show ∃ r w' n m', X11_readOffers_b23 (lp f (fun _ _ _ => none) (fun k23 => X11_readOffers_b23 k23)) (nI P) (nI i) w = some (r, w') ∧ X12_settle_b26 (lp g (fun _ _ => none) (fun k26 => X12_settle_b26 k26)) (nI i) m = X12_settle_b62 (nI n) m' ∧ _
    rw [X11_readOffers_b23, X12_settle_b26, if_neg (nI_ge (show i < P by omega) (by omega)), h11, if_neg (nI_ge (show i < P by omega) (by omega))]
    unfold f_X10_number
    rw [hkd.1]
    by_cases q : m.1 0 5 = 2
    · obtain ⟨v6, k, hk, ek⟩ := hkd.2.2 q
      obtain ⟨w1, m1, s1, s2, hR, hF, hM⟩ := q_stepT (h.r (a := 60) (k := i) (v := nI k) (by omega))
      rw [if_pos q, if_pos q, if_pos i8, nI_clamp (n := i) (by omega), v6, ek, lt_s', if_neg (show ¬ nI k < 0 from by rw [z_lt, nI_toInt (by omega)]; have : (0 : Int32).toInt = 0 := rfl; omega), if_pos (show nI k ≤ 99999 from nI_le (b := 99999) (by omega) (by omega)), s1, cv_s, cl_s, if_pos i8, lt_s', lt_s', s2, cv_s, nI_1]
      obtain ⟨r, w', n, m', e1, e2, hn, hFF, hMM, hr⟩ := ih f g (i + 1) (wI w1 30 i (nI k)) m1 (by omega) (by omega) (by omega) (by omega) (hR.c (by omega) (by omega)) (by rw [hM.2 _ _ (by simp only [PTC, PTM, PTk, PTm, and_true, true_and, or_true, true_or, and_self] <;> omega), wI_g, if_neg (by omega)]; exact h11) (fun j hj => by
        rw [hM.2 60 j (by simp only [PTC, PTM, PTk, PTm, and_true, true_and, or_true, true_or, and_self] <;> omega)]
        by_cases e : j = i
        · rw [e, wI_s, wI_s]; exact ⟨rfl, k, hk, rfl⟩
        · rw [wI_g, if_neg (by omega), wI_g, if_neg (by omega), hF.1 30 j (by simp only [PTC, PTM, PTk, PTm, and_true, true_and, or_true, true_or, and_self] <;> omega)]; exact ho j (by omega))
      exact ⟨r, w', n, m', e1, e2, hn, ((hF.mo (fun a k q => by unfold PTk at q; unfold POf; omega) (fun a k q => q)).tr (FXL.w _ _ (by unfold POf; omega))).tr hFF, ((FX.w _ _ (by unfold POr; omega)).tr (hM.mo (fun a k q => by unfold PTm at q; unfold POr; omega))).tr hMM, hr⟩
    · have hf1 : ∃ w1, f_X10_fail 1 w = some w1 ∧ FLT w1 ∧ FXL POf PTl w w1 := by
        unfold f_X10_fail
        rw [if_pos hkd.2.1, lt_s', lt_s', lt_s']
        refine ⟨_, rfl, ⟨?_, wI_s _ _ _ _⟩, ((FXL.w _ _ (by unfold POf; omega)).tr (FXL.w _ _ (by unfold POf; omega))).tr (FXL.w _ _ (by unfold POf; omega))⟩
        rw [wI_g, if_neg (by omega), wI_g, if_neg (by omega), wI_s]; decide
      obtain ⟨w1, f1, fl1, hF1⟩ := hf1
      rw [if_neg q, if_neg q, f1, cv_s, cl_s, if_pos i8, nI_clamp (n := i) (by omega), lt_s', nI_1]
      obtain ⟨w', e1, hF⟩ := fl_off hP d f (i + 1) (wI w1 30 i 0) (by omega) (by omega) (by omega) (fl1.i (by omega))
      exact ⟨0, w', i, m, e1, rfl, by omega, (hF1.tr (FXL.w _ _ (by unfold POf; omega))).tr hF, FX.rf _ _, Or.inr ⟨rfl, fun e => by omega⟩⟩
/-! what a set is offered -/
def ofS (m : Wd) (s P : Nat) : Nat := fb_sm (fun p => if bt (nI s) p = true then (m.1 60 p).toNatClampNeg else 0) P
theorem ofS_lt {s P : Nat} (hP : P ≤ 8) (h : ∀ k, k < P → NN (m.1 60 k) 100000) : ∀ i, i ≤ P → ofS m s i ≤ 100000 * i := by
  intro i hi
  unfold ofS
  have := fb_sm_bound (f := fun p => if bt (nI s) p = true then (m.1 60 p).toNatClampNeg else 0) (c := 100000) (n := i) (fun p hp => by
    show (if bt (nI s) p = true then (m.1 60 p).toNatClampNeg else 0) ≤ 100000
    have := ((h p (by omega)).e (by omega)).2
    split <;> omega)
  omega
theorem bt_hi {s P i : Nat} (hs : s < 2 ^ P) (hi : P ≤ i) (h32 : i < 32) : bt (nI s) i = false := by
  rw [b_nI _ _ h32]
  exact Nat.testBit_lt_two_pow (Nat.lt_of_lt_of_le hs (Nat.pow_le_pow_right (by omega) hi))
theorem zc_offTo {P s : Nat} (hP : P ≤ 8) (hs : s < 2 ^ P) (h : ∀ k, k < P → w.1 30 k = m.1 60 k ∧ NN (m.1 60 k) 100000) : f_X11_offeredTo (nI s) w = some (nI (ofS m s P), w) := by
  have hb := ofS_lt (m := m) (s := s) hP (fun k hk => (h k hk).2)
  have lo : OK (X11_offeredTo_b4_L (nI s) 0 0 w) (fun q => q = (nI (ofS m s P), w)) := by
    refine lo4 (fun n y1 y2 y3 v => ∃ i, n = 8 - i ∧ i ≤ 8 ∧ y1 = nI s ∧ y2 = nI (ofS m s (if i ≤ P then i else P)) ∧ y3 = nI i ∧ w = v) ?_ fu (8 - 0) (nI s) 0 0 w (by rw [fu_eq]; omega) ⟨0, rfl, by omega, rfl, by rw [if_pos (by omega)]; rfl, rfl, rfl⟩
    rintro n k y1 y2 y3 v ⟨i, rfl, hi, rfl, rfl, rfl, rfl⟩ hk
    rw [X11_offeredTo_b4]
    by_cases c : i < 8
    · refine OK.f (nI_ge (b := 8) c (by omega)) ?_
      rw [if_bt (show i < 32 by omega)]
      cases hbt : bt (nI s) i
      · refine OK.t rfl (OK.l (hk _ _ _ _ _ (by omega) ⟨i + 1, rfl, c, rfl, ?_, nI_1 i, rfl⟩))
        rw [Int32.add_zero]
        congr 1
        by_cases c1 : i < P
        · rw [if_pos (by omega), if_pos (by omega)]
          show _ = ofS m s i + (if bt (nI s) i = true then (m.1 60 i).toNatClampNeg else 0)
          rw [hbt, if_neg (by decide)]; rfl
        · by_cases c2 : i = P
          · rw [if_pos (by omega), if_neg (by omega), c2]
          · rw [if_neg (by omega), if_neg (by omega)]
      · have c1 : i < P := by
          rcases Nat.lt_or_ge i P with q | q
          · exact q
          · rw [bt_hi hs q (by omega)] at hbt; cases hbt
        have e60 := (h i c1).2.e (by omega)
        refine OK.f (by decide) (OK.t (z_inb c (by omega)) ?_)
        rw [nI_clamp (n := i) (by omega), (h i c1).1, e60.1]
        refine OK.l (hk _ _ _ _ _ (by omega) ⟨i + 1, rfl, c, rfl, ?_, nI_1 i, rfl⟩)
        rw [nI_add, if_pos (by omega), if_pos (by omega)]
        show _ = nI (ofS m s i + (if bt (nI s) i = true then (m.1 60 i).toNatClampNeg else 0))
        rw [hbt, if_pos rfl]
    · have e : i = 8 := by omega
      subst e
      refine OK.t (nI_le (a := 8) (b := 8) (by omega) (by omega)) (OK.s ?_)
      by_cases q : 8 ≤ P
      · rw [if_pos q, show P = 8 by omega]
      · rw [if_neg q]
  obtain ⟨q, e, rfl⟩ := lo
  exact e
end
