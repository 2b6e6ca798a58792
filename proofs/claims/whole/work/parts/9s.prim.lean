/-! numbers and names in step -/
def PRM (w wm : Wd) (x y : Option (Int32 × Wd)) (d : Int32) (V : Int32 → Prop) : Prop := ∃ v w' m', x = some (v, w') ∧ FXL PTC PTl w w' ∧ FX PTM wm m' ∧ ((y = some (1, m') ∧ GR w' m' ∧ PTG wm ≤ PTG m' ∧ m'.1 0 7 = v ∧ V v) ∨ (y = some (0, m') ∧ FT w' m' ∧ v = d))
section
variable {w wm : Wd}
theorem GR.w7 (h : GR w wm) (x : Int32) : GR w (wI wm 0 7 x) := by
  obtain ⟨⟨n, f, e, h1, h2, h3, h4, h5, h6, h7, h8, h9, h10, h11, h12, h13, h14, h15, h16⟩, g1, g2, g3⟩ := h
  have b1 : (wI wm 0 7 x).1 1 = wm.1 1 := funext fun k => by rw [wI_g, if_neg (by omega)]
  have b0 : ∀ k, ¬ k = 7 → (wI wm 0 7 x).1 0 k = wm.1 0 k := fun k hk => by rw [wI_g, if_neg (by omega)]
  refine ⟨⟨n, f, e, h1, h2, h3, ?_, ?_, h6, ?_, h8, ?_, h10, ?_, ?_, h13, ?_, ?_, ?_⟩, g1, ?_, ?_⟩
  · rw [b1]; exact h4
  · rw [b1]; exact h5
  · rw [b0 _ (by omega)]; exact h7
  · rw [b0 _ (by omega)]; exact h9
  · rw [b0 _ (by omega)]; exact h11
  · rw [b0 _ (by omega)]; exact h12
  · rw [b0 5 (by omega), b0 6 (by omega)]; exact h14
  · rw [b0 5 (by omega), b1]; exact h15
  · rw [b0 5 (by omega)]; exact h16
  · rw [b0 _ (by omega)]; exact g2
  · rw [b0 _ (by omega)]; exact g3
theorem PTG_w7 (x : Int32) : PTG (wI wm 0 7 x) = PTG wm := by unfold PTG; rw [wI_g, if_neg (by omega)]
theorem GR.kd (h : GR w wm) : w.1 1 2 = wm.1 0 5 := by
  obtain ⟨⟨n, f, e, h1, h2, h3, h4, h5, h6, h7, h8, h9, h10, h11, h12, h13, -⟩, -⟩ := h
  exact h12
theorem GR.f0 (h : GR w wm) : w.1 1 4 = 0 := by
  obtain ⟨⟨n, f, e, h1, h2, h3, h4, h5, h6, h7, h8, h9, h10, h11, h12, h13, -⟩, -⟩ := h
  exact h13
theorem GR.vl (h : GR w wm) (k : wm.1 0 5 = 2) : w.1 1 6 = wm.1 0 6 := by
  obtain ⟨⟨n, f, e, h1, h2, h3, h4, h5, h6, h7, h8, h9, h10, h11, h12, h13, h14, -⟩, -⟩ := h
  exact (h14 k).1
theorem GR.vn (h : GR w wm) (k : wm.1 0 5 = 2) : NN (wm.1 0 6) 100000 := by
  obtain ⟨⟨n, f, e, h1, h2, h3, h4, h5, h6, h7, h8, h9, h10, h11, h12, h13, h14, -⟩, -⟩ := h
  exact (h14 k).2
theorem GR.pg (h : GR w wm) (k : ¬ wm.1 0 5 = 0) : 1 ≤ PTG wm ∧ PTG wm ≤ 900 := by
  obtain ⟨⟨n, f, e, h1, h2, h3, h4, h5, h6, h7, h8, h9, h10, h11, h12, h13, h14, h15, h16⟩, -⟩ := h
  unfold PTG
  rw [h11, nI_clamp (by omega)]
  rcases h16 with q | q
  · exact absurd q k
  · omega
theorem q_num (h : GR w wm) (a b : Int32) : PRM w wm (f_X10_number a b w) (f_X12_number a b wm) a (fun v => a.toInt ≤ v.toInt ∧ v.toInt ≤ b.toInt) := by
  unfold f_X10_number f_X12_number f_X12_peek
  rw [h.kd]
  by_cases c : wm.1 0 5 = 2
  · rw [if_pos c, if_pos c, m_in, cl_s, h.vl c, lt_s', if_b0, z_l, z_l]
    by_cases d : a.toInt ≤ (wm.1 0 6).toInt ∧ (wm.1 0 6).toInt ≤ b.toInt
    · rw [decide_eq_true d, if_neg (show ¬ true = false by decide), lt_s', cl_s, if_neg (show ¬ (1 : Int32) = 0 by decide)]
      obtain ⟨w', m', e1, -, -, -, -, hF, -⟩ := q_step h
      obtain ⟨w2, m2, e3, e2, hG, hp, -, -, hM⟩ := q_step (h.w7 (wm.1 0 6))
      rw [e1] at e3
      cases e3
      rw [if_neg (by rw [z_lt]; omega), if_pos (by rw [z_le]; omega), e1, cv_s, e2, cv_s]
      refine ⟨_, w', m2, rfl, hF, (FX.w wm _ (by unfold PTM; omega)).tr hM, Or.inl ⟨rfl, hG, by rw [PTG_w7] at hp; exact hp, ?_, d⟩⟩
      have : FX PTm (wI wm 0 7 (wm.1 0 6)) m2 := by
        obtain ⟨⟨n, f, e, k1, k2, k3, k4, k5, k6, k7, k8, k9, k10, k11, k12, k13, -⟩, g1, g2, g3⟩ := h.w7 (wm.1 0 6)
        obtain ⟨v, u1, -, -, -, -, u2⟩ := zm_tok k7 k1 k11 k3 (fun k _ => k5 k)
        rw [e2] at u1
        cases u1
        exact u2
      rw [this.2 0 7 (by unfold PTm; omega), wI_s]
    · rw [decide_eq_false d, if_pos (show false = false from rfl)]
      obtain ⟨w', m', e1, e2, hf, hF, hM⟩ := q_fail h (k := 2) (by decide)
      rw [e2, cl_s, if_pos (show isB 0 = true from rfl), cl_s, if_pos (show (0 : Int32) = 0 from rfl)]
      have hb : X10_number_b30 a w = some (a, w') := by unfold X10_number_b30; rw [e1, cv_s]
      rw [hb]
      refine ⟨a, w', m', ?_, hF, hM, Or.inr ⟨rfl, hf, rfl⟩⟩
      by_cases d1 : wm.1 0 6 < a
      · rw [if_pos d1]
      · rw [if_neg d1, if_neg (fun q => d ⟨by rw [z_lt] at d1; omega, by rw [z_le] at q; omega⟩)]
  · rw [if_neg c, if_neg c]
    obtain ⟨w', m', e1, e2, hf, hF, hM⟩ := q_fail h (k := 1) (by decide)
    rw [e1, cv_s, e2, cl_s, if_pos (show isB 0 = true from rfl), cl_s, if_pos (show (0 : Int32) = 0 from rfl)]
    exact ⟨a, w', m', rfl, hF, hM, Or.inr ⟨rfl, hf, rfl⟩⟩
/-! names -/
def fdF (g : Nat → Int64) (c : Int64) : Nat → Nat → Int32
  | 0, _ => -1
  | j + 1, k => if g k = c then nI k else fdF g c j (k + 1)
theorem fd_s {g : Nat → Int64} {c : Int64} {n k : Nat} (h : k < n) : fdF g c (n - k) k = if g k = c then nI k else fdF g c (n - (k + 1)) (k + 1) := by
  rw [show n - k = (n - (k + 1)) + 1 by omega]; rfl
theorem fd_r (g : Nat → Int64) (c : Int64) : ∀ j k, fdF g c j k = -1 ∨ NN (fdF g c j k) (k + j)
  | 0, k => Or.inl rfl
  | j + 1, k => by
    show (if g k = c then nI k else fdF g c j (k + 1)) = -1 ∨ NN (if g k = c then nI k else fdF g c j (k + 1)) (k + (j + 1))
    by_cases h : g k = c
    · rw [if_pos h]; exact Or.inr ⟨k, by omega, rfl⟩
    · rw [if_neg h]
      rcases fd_r g c j (k + 1) with q | ⟨i, hi, e⟩
      · exact Or.inl q
      · exact Or.inr ⟨i, by omega, e⟩
theorem fd_cg {g g' : Nat → Int64} {c : Int64} : ∀ j k, (∀ i, i < k + j → g i = g' i) → fdF g c j k = fdF g' c j k
  | 0, k, _ => rfl
  | j + 1, k, h => by
    show (if g k = c then nI k else fdF g c j (k + 1)) = (if g' k = c then nI k else fdF g' c j (k + 1))
    rw [h k (by omega), fd_cg j (k + 1) (fun i hi => h i (by omega))]
theorem zc_find {o n many : Nat} (hm : w.1 o 1 = nI many) (hn : many ≤ n) (h8 : n ≤ 8) (c : Int64) : f_X4_find o n c w = some (fdF (fun k => w.2 (o + 1) k) c many 0, w) := by
  unfold f_X4_find
  refine (up5 (fun i => (o, n, c, nI i, w)) (fun i => some (fdF (fun k => w.2 (o + 1) k) c (many - i) i, w)) many ?_ ?_ fu 0 (by omega) (by rw [fu_eq]; omega)).trans ?_
  · intro i k hi hk
    dsimp only at hk ⊢
    unfold X4_find_b2
    rw [hm, if_neg (nI_ge hi (by omega)), if_pos (z_inb (by omega) (by omega)), nI_clamp (by omega), fd_s hi]
    by_cases q : w.2 (o + 1) i = c
    · rw [if_pos (lg_e.mpr q), if_pos q]
    · rw [if_neg (fun e => q (lg_e.mp e)), if_neg q, nI_1]; exact hk
  · intro k
    dsimp only
    unfold X4_find_b2
    rw [hm, if_pos (nI_le (Nat.le_refl _) (by omega)), Nat.sub_self]; rfl
  · rfl
theorem z_nmx : ∀ k, k < 26 → (nI (97 + k) - 96 = nI (k + 1)) ∧ (nI (97 + k) - 97 + 1 = nI (k + 1)) ∧ (Int32.toInt64 (nI (k + 1))).toBitVec = BitVec.ofNat 64 (k + 1) := by decide +kernel
theorem z_nm (a : Int64) {x : Int32} (hx : sml x = true) : (a <<< (Int32.toInt64 5 &&& 63)) ||| Int32.toInt64 (x - 96) = (a <<< (Int32.toInt64 5 &&& 63)) + Int32.toInt64 (x - 97 + 1) := by
  have hp := sml_pos hx
  obtain ⟨k, hk, rfl⟩ : ∃ k, k < 26 ∧ x = nI (97 + k) := by
    refine ⟨(x.toInt - 97).toNat, by omega, ?_⟩
    apply Int32.toInt_inj.mp
    rw [nI_toInt (by omega)]
    omega
  obtain ⟨e1, e2, e3⟩ := z_nmx k hk
  rw [e1, e2]
  apply Int64.toBitVec_inj.mp
  rw [Int64.toBitVec_or, Int64.toBitVec_add, e3, Int64.toBitVec_shiftLeft]
  have es : ((Int32.toInt64 5 &&& 63 : Int64).toBitVec.smod 64) = 5#64 := by decide
  rw [es]
  refine (BitVec.add_eq_or_of_and_eq_zero _ _ ?_).symm
  apply BitVec.eq_of_getLsbD_eq
  intro i hi
  rw [BitVec.getLsbD_and, BitVec.getLsbD_zero, BitVec.shiftLeft_eq', BitVec.getLsbD_shiftLeft, BitVec.getLsbD_ofNat]
  by_cases c : i < 5
  · have : i < (5#64).toNat := c
    simp [this]
    intro _ h5
    omega
  · rw [Nat.testBit_lt_two_pow (x := k + 1) (i := i) (Nat.lt_of_lt_of_le (show k + 1 < 2 ^ 5 by omega) (Nat.pow_le_pow_right (by omega) (by omega)))]
    simp
theorem zm_nmT (h : GR w wm) (hk : wm.1 0 5 = 1) : f_X12_name wm = some (w.2 1 3, wm) := by
  obtain ⟨⟨n, f, e, h1, h2, h3, h4, h5, h6, h7, h8, h9, h10, h11, h12, h13, h14, h15, h16⟩, g1, g2, g3⟩ := h
  obtain ⟨q1, q2⟩ := h15 hk
  unfold f_X12_name
  rw [lt_s', h9, q1]
  have lo : OK (X12_name_b7_L 0 (nI f) wm) (fun q => q = (nmF (wm.1 1) f (e - f), wm)) := by
    refine lo3 (fun m y1 y3 v => ∃ j, m = (e - f) - j ∧ j ≤ e - f ∧ y1 = nmF (wm.1 1) f j ∧ y3 = nI (f + j) ∧ wm = v) ?_ fu (e - f - 0) 0 (nI f) wm (by rw [fu_eq]; omega) ⟨0, rfl, Nat.zero_le _, rfl, rfl, rfl⟩
    rintro m k y1 y3 v ⟨j, rfl, hj, rfl, rfl, rfl⟩ hk
    rw [X12_name_b7, h11]
    by_cases c : j < e - f
    · refine OK.f (nI_ge (by omega) (by omega)) ?_
      have hs := q2 (f + j) (by omega) (by omega)
      rw [zm_byteAt h7 h1 (by omega), cl_s, if_pos (by omega), pos_255 (h5 _) (by have := sml_pos hs; omega), z_nm _ hs]
      exact OK.l (hk _ _ _ _ (by omega) ⟨j + 1, rfl, c, rfl, nI_1 _, rfl⟩)
    · refine OK.t (nI_le (by omega) (by omega)) (OK.s ?_)
      rw [show j = e - f by omega]
  obtain ⟨q, e1, rfl⟩ := lo
  exact e1
theorem zm_find (h : GR w wm) (hk : wm.1 0 5 = 1) {o n many : Nat} (hn : many ≤ n) (h8 : n ≤ 8) : f_X12_find o n (nI many) wm = some (fdF (fun k => wm.2 o k) (w.2 1 3) many 0, wm) := by
  unfold f_X12_find
  refine (up5 (fun i => (o, n, nI many, nI i, wm)) (fun i => some (fdF (fun k => wm.2 o k) (w.2 1 3) (many - i) i, wm)) many ?_ ?_ fu 0 (by omega) (by rw [fu_eq]; omega)).trans ?_
  · intro i k hi hk'
    dsimp only at hk' ⊢
    unfold X12_find_b2
    rw [if_neg (nI_ge hi (by omega)), if_pos (z_inb (by omega) (by omega)), zm_nmT h hk, cl_s, nI_clamp (by omega), fd_s hi]
    by_cases q : wm.2 o i = w.2 1 3
    · rw [if_pos (lg_e.mpr q), if_pos q]
    · rw [if_neg (fun e => q (lg_e.mp e)), if_neg q, nI_1]; exact hk'
  · intro k
    dsimp only
    unfold X12_find_b2
    rw [if_pos (nI_le (Nat.le_refl _) (by omega)), Nat.sub_self]; rfl
  · rfl
/-- two rows of names, alike -/
def NMS (w wm : Wd) (o o' many n : Nat) : Prop := w.1 o 1 = nI many ∧ many ≤ n ∧ n ≤ 8 ∧ ∀ k, k < many → w.2 (o + 1) k = wm.2 o' k
theorem q_find (h : GR w wm) (hk : wm.1 0 5 = 1) {o o' many n : Nat} (hN : NMS w wm o o' many n) : ∃ r, f_X4_find o n (w.2 1 3) w = some (r, w) ∧ f_X12_find o' n (nI many) wm = some (r, wm) ∧ (r = -1 ∨ NN r many) := by
  refine ⟨_, zc_find hN.1 hN.2.1 hN.2.2.1 _, ?_, ?_⟩
  · rw [zm_find h hk hN.2.1 hN.2.2.1, fd_cg many 0 (fun i hi => hN.2.2.2 i (by omega))]
  · have := fd_r (fun k => w.2 (o + 1) k) (w.2 1 3) many 0
    rw [Nat.zero_add] at this
    exact this
theorem q_known (h : GR w wm) {o o' many n : Nat} (hN : NMS w wm o o' many n) : PRM w wm (f_X10_known o n 0 w) (f_X12_known o' n (nI many) wm) (-1) (fun v => NN v many) := by
  unfold f_X10_known f_X12_known
  rw [h.kd]
  by_cases c : wm.1 0 5 = 1
  · rw [if_pos c, if_pos c]
    obtain ⟨r, e1, e2, hr⟩ := q_find h c hN
    rw [e1, cl_s, e2, cl_s, lt_s', wI_s]
    by_cases d : r = -1
    · rw [if_pos d, if_pos d]
      obtain ⟨w', m', u1, u2, hf, hF, hM⟩ := q_fail (h.w7 r) (k := 5) (by decide)
      rw [u1, cv_s, u2, cl_s, if_pos (show isB 0 = true from rfl)]
      exact ⟨-1, w', m', rfl, hF, (FX.w wm _ (by unfold PTM; omega)).tr hM, Or.inr ⟨rfl, hf, rfl⟩⟩
    · rw [if_neg d, if_neg d]
      obtain ⟨w2, m2, e3, e4, hG, hp, -, hF, hM⟩ := q_step (h.w7 r)
      have z0 : ∀ i, i < 8 → ((0 : Int32) >>> (nI i &&& 31)) &&& 1 = 0 := by decide +kernel
      have hr' := hr.resolve_left d
      obtain ⟨i, hi, rfl⟩ := hr'
      rw [if_pos (z0 i (by have := hN.2.1; have := hN.2.2.1; omega)), e3, cv_s, e4, cv_s]
      refine ⟨_, w2, m2, rfl, hF, (FX.w wm _ (by unfold PTM; omega)).tr hM, Or.inl ⟨rfl, hG, by rw [PTG_w7] at hp; exact hp, ?_, ⟨i, hi, rfl⟩⟩⟩
      have : FX PTm (wI wm 0 7 (nI i)) m2 := by
        obtain ⟨⟨n, f, e, k1, k2, k3, k4, k5, k6, k7, k8, k9, k10, k11, k12, k13, -⟩, g1, g2, g3⟩ := h.w7 (nI i)
        obtain ⟨v, u1, -, -, -, -, u2⟩ := zm_tok k7 k1 k11 k3 (fun k _ => k5 k)
        rw [e4] at u1
        cases u1
        exact u2
      rw [this.2 0 7 (by unfold PTm; omega), wI_s]
  · rw [if_neg c, if_neg c]
    obtain ⟨w', m', e1, e2, hf, hF, hM⟩ := q_fail h (k := 1) (by decide)
    rw [e1, cv_s, e2, cl_s, if_pos (show isB 0 = true from rfl)]
    exact ⟨-1, w', m', rfl, hF, hM, Or.inr ⟨rfl, hf, rfl⟩⟩
/-- without a value: the class goes on by a word, the reference tells whether -/
def PRW (w wm : Wd) (x : Option Wd) (y : Option (Int32 × Wd)) : Prop := ∃ w' m', x = some w' ∧ FXL PTC PTl w w' ∧ FX PTM wm m' ∧ ((y = some (1, m') ∧ GR w' m' ∧ PTG wm ≤ PTG m') ∨ (y = some (0, m') ∧ FT w' m'))
theorem q_need (h : GR w wm) {s : Nat} (hs : s < 47) : PRW w wm (f_X10_need s w) (f_X12_expect s wm) := by
  unfold f_X10_need f_X12_expect
  rw [zc_isT h hs, zm_isT h hs, cl_s, cl_s, if_b0, if_b0]
  by_cases c : decide (TW wm = some (sByt.getD s [])) = false
  · rw [if_pos c, if_pos c]
    obtain ⟨w', m', e1, e2, hf, hF, hM⟩ := q_fail h (k := 1) (by decide)
    rw [e1, cv_s, e2, cl_s, if_pos (show isB 0 = true from rfl)]
    exact ⟨w', m', rfl, hF, hM, Or.inr ⟨rfl, hf⟩⟩
  · rw [if_neg c, if_neg c]
    obtain ⟨w', m', e1, e2, hG, hp, -, hF, hM⟩ := q_step h
    rw [e1, cv_s, e2, cv_s]
    exact ⟨w', m', rfl, hF, hM, Or.inl ⟨rfl, hG, hp⟩⟩
theorem zc_passT (h : GR w wm) {s : Nat} (hs : s < 47) : (¬ TW wm = some (sByt.getD s []) ∧ f_X10_passes s w = some (0, w)) ∨ (TW wm = some (sByt.getD s []) ∧ ∃ w', f_X10_step w = some w' ∧ f_X10_passes s w = some (1, w')) := by
  unfold f_X10_passes
  rw [zc_isT h hs, cl_s, if_b0]
  by_cases c : TW wm = some (sByt.getD s [])
  · rw [decide_eq_true c, if_neg (by decide)]
    obtain ⟨w', m', e1, -⟩ := q_step h
    rw [e1, cv_s]
    exact Or.inr ⟨c, w', rfl, rfl⟩
  · rw [decide_eq_false c, if_pos rfl]
    exact Or.inl ⟨c, rfl⟩
end
