/-! says, tells -/
def PSc (a k : Nat) : Prop := (a = 22 ∧ k = 0) ∨ (23 ≤ a ∧ a ≤ 27)
def PSm (a k : Nat) : Prop := (a = 0 ∧ k = 99) ∨ (55 ≤ a ∧ a ≤ 59)
theorem PSm_t {w w' A : Wd} (h : FX PSm w w') (hT : tol w = A) : tol w' = A := h.ot hT (fun k hk => by unfold PSm; omega) (fun o k ho => by unfold PSm; omega)
def QS (wc wm A : Wd) (fc fm : Option (Int32 × Wd)) : Prop := ∃ r wc1 wm1, fc = some (r, wc1) ∧ fm = some (r, wm1) ∧ FX PSc wc wc1 ∧ FX PSm wm wm1 ∧ STO wc1 wm1 ∧ STI A wm1
section
variable {wc wm A : Wd}
theorem QS.rf {r : Int32} (hS : STO wc wm) (hI : STI A wm) : QS wc wm A (some (r, wc)) (some (r, wm)) := ⟨r, wc, wm, rfl, rfl, FX.rf _ _, FX.rf _ _, hS, hI⟩
theorem w4_k (w : Wd) (o1 o2 o3 o4 k q : Nat) (a b c d : Int32) (h1 : o1 ≠ o4) (h2 : o2 ≠ o4) (h3 : o3 ≠ o4) : (wI (wI (wI (wI w o1 k a) o2 k b) o3 k c) o4 q d).1 o4 q = d := wI_s _ _ _ _
theorem zc_addFact {w : Wd} {k : Nat} (h : w.1 22 0 = nI k) (hk : k < 8) (a b c : Int32) : f_X9_addFact a b c w = some (nI k, wI (wI (wI (wI w 23 k a) 24 k b) 25 k c) 22 0 (nI (k + 1))) := by
  have hin : inb (nI k) 8 = true := z_inb hk (by omega)
  have hcl : (nI k).toNatClampNeg = k := nI_clamp (by omega)
  unfold f_X9_addFact
  rw [h, if_pos (show nI k < 8 from nI_lt (b := 8) hk (by omega)), hin, if_pos rfl, hcl, lt_s', show (wI w 23 k a).1 22 0 = nI k by rw [wI_g, if_neg (by omega)]; exact h, hin, if_pos rfl, hcl, lt_s', show (wI (wI w 23 k a) 24 k b).1 22 0 = nI k by rw [wI_g, if_neg (by omega), wI_g, if_neg (by omega)]; exact h, hin, if_pos rfl, hcl, lt_s', show (wI (wI (wI w 23 k a) 24 k b) 25 k c).1 22 0 = nI k by rw [wI_g, if_neg (by omega), wI_g, if_neg (by omega), wI_g, if_neg (by omega)]; exact h, lt_s', wI_s, nI_1, nI_pred]
theorem zc_last {w : Wd} {x : Int32} (hC : CNT w A) (hN : NUM A) {i : Nat} (hi : i < nIt A) (hx : x = nI i) : ∃ y, f_X9_lasting x w = some (y, w) ∧ NMR y (if nPa A ≤ i then nI (10 + (i - nPa A)) else nI i) := by
  have h4 := hN.2.2.2.1.2
  have h3 := hN.2.2.2.2.1.2
  unfold nIt at hi
  unfold f_X9_lasting
  rw [hC.1, hN.2.2.2.1.1, hx]
  by_cases c : nPa A ≤ i
  · rw [if_pos c, if_pos (nI_le c (by omega)), show (16 : Int32) = nI 16 from rfl, nI_add, pk_sub (by omega), show 16 + i - nPa A = 16 + (i - nPa A) by omega]
    exact ⟨_, rfl, Or.inr ⟨i - nPa A, by omega, rfl, rfl⟩⟩
  · rw [if_neg c, if_neg (nI_ge (by omega) (by omega))]
    exact ⟨_, rfl, Or.inl ⟨i, by omega, rfl, rfl⟩⟩
theorem zm_name {w : Wd} {x : Int32} (hT : tol w = A) (hN : NUM A) {i : Nat} (hi : i < nIt A) (hx : x = nI i) : f_X12_nameOf x w = some (if nPa A ≤ i then nI (10 + (i - nPa A)) else nI i, w) := by
  have h4 := hN.2.2.2.1.2
  have h3 := hN.2.2.2.2.1.2
  unfold nIt at hi
  unfold f_X12_nameOf
  rw [tol_0 hT 49 rfl, hN.2.2.2.1.1, hx]
  by_cases c : nPa A ≤ i
  · rw [if_pos c, if_pos (nI_le c (by omega)), show (10 : Int32) = nI 10 from rfl, nI_add, pk_sub (by omega), show 10 + i - nPa A = 10 + (i - nPa A) by omega]
  · rw [if_neg c, if_neg (nI_ge (by omega) (by omega))]
theorem nSt_w {w : Wd} {k : Nat} (h : w.1 0 99 = nI k) (hk : k < 2 ^ 31) : nSt w = k := by unfold nSt; rw [h, nI_clamp hk]
theorem q_says (hL : TLD wc A) (hN : NUM A) (hS : STO wc wm) (hI : STI A wm) (hT : tol wm = A) (x1 x2 x3 : Int32) : QS wc wm A (f_X11_says x1 x2 x3 wc) (f_X12_says x1 x2 x3 wm) := by
  have hP8 := hN.2.1.2
  have h8 := hI.1.2
  have y0 : (0 : Int32).toInt = 0 := rfl
  have y1 : (1 : Int32).toInt = 1 := rfl
  have y3 : (3 : Int32).toInt = 3 := rfl
  have z0 : (0 : Int64).toInt = 0 := rfl
  have z1 : (1 : Int64).toInt = 1 := rfl
  have z2 : (2 : Int64).toInt = 2 := rfl
  unfold f_X11_says f_X12_says
  rw [zc_isPerson, zm_isPerson hT, hL.1.1.2.1, hN.2.1.1, cl_s, cl_s, if_b0, if_b0]
  by_cases h1 : rng x1 (nI (nPe A)) = false
  · rw [if_pos h1, if_pos h1]; exact QS.rf hS hI
  rw [if_neg h1, if_neg h1, m_in, cl_s, if_b0, m_in, cl_s, if_b0, z0, z1, z2]
  rw [Bool.not_eq_false] at h1
  obtain ⟨p, hp, rfl⟩ := rng_ex (by omega) h1
  by_cases b2 : 0 ≤ x2.toInt ∧ x2.toInt ≤ 2
  · rw [if_neg (show ¬ x2 < 0 by rw [z_lt, y0]; omega), if_neg (show ¬ 3 ≤ x2 by rw [z_le, y3]; omega), decide_eq_true b2]
    obtain ⟨f, hf, rfl⟩ := z_ex (n := 3) b2.1 (by omega)
    by_cases b3 : 0 ≤ x3.toInt ∧ x3.toInt ≤ 1
    · rw [if_neg (show ¬ x3 < 0 by rw [z_lt, y0]; omega), if_pos (show x3 ≤ 1 by rw [z_le, y1]; omega), decide_eq_true b3, if_neg (show ¬ true = false by decide), if_neg (show ¬ true = false by decide)]
      have hx3 : x3 = 0 ∨ x3 = 1 := by
        obtain ⟨i, hi, rfl⟩ := z_ex (n := 2) b3.1 (by omega)
        rcases (show i = 0 ∨ i = 1 by omega) with rfl | rfl
        · exact Or.inl rfl
        · exact Or.inr rfl
      have s0 := hS.1.trans hI.1.1
      have m0 := hI.1.1
      rw [s0, m0]
      by_cases c : nSt wm = 8
      · rw [c, if_neg (by decide), if_pos (by rfl)]; exact QS.rf hS hI
      · have hk : nSt wm < 8 := by omega
        have hS2 := hS.2
        have hI2 := hI.2
        generalize nSt wm = k at hk s0 m0 hS2 hI2 c ⊢
        have hin : inb (nI k) 8 = true := z_inb hk (by omega)
        have hcl : (nI k).toNatClampNeg = k := nI_clamp (by omega)
        rw [if_pos (show nI k < 8 from nI_lt (b := 8) hk (by omega)), if_neg (show ¬ nI k = 8 from fun h => c ((nI_eq (b := 8) (by omega) (by omega)).mp h)), zc_addFact s0 hk, cl_s]
        rw [hin, if_pos rfl, hcl, lt_s', show (wI wm 55 k (nI p)).1 0 99 = nI k by rw [wI_g, if_neg (by omega)]; exact m0, hin, if_pos rfl, hcl, lt_s', show (wI (wI wm 55 k (nI p)) 56 k (nI f)).1 0 99 = nI k by rw [wI_g, if_neg (by omega), wI_g, if_neg (by omega)]; exact m0, hin, if_pos rfl, hcl, lt_s', show (wI (wI (wI wm 55 k (nI p)) 56 k (nI f)) 57 k x3).1 0 99 = nI k by rw [wI_g, if_neg (by omega), wI_g, if_neg (by omega), wI_g, if_neg (by omega)]; exact m0, lt_s', wI_s, nI_1, nI_pred]
        refine ⟨_, _, _, rfl, rfl, (((FX.w wc _ (by unfold PSc; omega)).tr (FX.w _ _ (by unfold PSc; omega))).tr (FX.w _ _ (by unfold PSc; omega))).tr (FX.w _ _ (by unfold PSc; omega)), (((FX.w wm _ (by unfold PSm; omega)).tr (FX.w _ _ (by unfold PSm; omega))).tr (FX.w _ _ (by unfold PSm; omega))).tr (FX.w _ _ (by unfold PSm; omega)), ?_, ?_⟩
        · have hn := nSt_w (w := wI (wI (wI (wI wm 55 k (nI p)) 56 k (nI f)) 57 k x3) 0 99 (nI (k + 1))) (wI_s _ _ _ _) (by omega)
          refine ⟨by rw [wI_s, wI_s], fun s hs => ?_⟩
          rw [hn] at hs
          by_cases e : s = k
          · subst e
            simp only [wI_g]
            simp [nI_n1 (n := f) (by omega)]
          · have := hS2 s (by omega)
            simp only [wI_g]
            simp [e]
            exact this
        · have hn := nSt_w (w := wI (wI (wI (wI wm 55 k (nI p)) 56 k (nI f)) 57 k x3) 0 99 (nI (k + 1))) (wI_s _ _ _ _) (by omega)
          refine ⟨⟨by rw [wI_s, hn], by rw [hn]; omega⟩, fun s hs => ?_⟩
          rw [hn] at hs
          by_cases e : s = k
          · subst e
            simp only [wI_g]
            simp
            exact ⟨⟨p, hp, rfl⟩, Or.inr ⟨f, hf, rfl⟩, fun _ => hx3⟩
          · have := hI2 s (by omega)
            simp only [wI_g]
            simp [e]
            exact this
    · rw [decide_eq_false b3, if_neg (show ¬ true = false by decide), if_pos rfl]
      by_cases q : x3 < 0
      · rw [if_pos q]; exact QS.rf hS hI
      · rw [if_neg q, if_neg (fun h => b3 (by rw [z_lt, y0] at q; rw [z_le, y1] at h; omega))]; exact QS.rf hS hI
  · rw [decide_eq_false b2, if_pos rfl]
    by_cases q : x2 < 0
    · rw [if_pos q]; exact QS.rf hS hI
    · rw [if_neg q, if_pos (by rw [z_lt, y0] at q; rw [z_le, y3]; omega)]; exact QS.rf hS hI
theorem zc_addAhead {w : Wd} {k : Nat} (h : w.1 22 0 = nI k) (hk : k < 8) (hC : CNT w A) (hN : NUM A) (a : Int32) {i j : Nat} (hi : i < nIt A) (hj : j < nIt A) : ∃ y z, f_X9_addAhead a (nI i) (nI j) w = some (nI k, wI (wI (wI (wI (wI w 23 k a) 24 k (-1)) 26 k y) 27 k z) 22 0 (nI (k + 1))) ∧ NMR y (if nPa A ≤ i then nI (10 + (i - nPa A)) else nI i) ∧ NMR z (if nPa A ≤ j then nI (10 + (j - nPa A)) else nI j) := by
  have hin : inb (nI k) 8 = true := z_inb hk (by omega)
  have hcl : (nI k).toNatClampNeg = k := nI_clamp (by omega)
  have c2 : CNT (wI (wI w 23 k a) 24 k (-1)) A := ⟨by rw [wI_g, if_neg (by omega), wI_g, if_neg (by omega)]; exact hC.1, by rw [wI_g, if_neg (by omega), wI_g, if_neg (by omega)]; exact hC.2⟩
  obtain ⟨y, ey, hy⟩ := zc_last c2 hN hi rfl
  have c3 : CNT (wI (wI (wI w 23 k a) 24 k (-1)) 26 k y) A := ⟨by rw [wI_g, if_neg (by omega)]; exact c2.1, by rw [wI_g, if_neg (by omega)]; exact c2.2⟩
  obtain ⟨z, ez, hz⟩ := zc_last c3 hN hj rfl
  refine ⟨y, z, ?_, hy, hz⟩
  have r1 : (wI w 23 k a).1 22 0 = nI k := by rw [wI_g, if_neg (by omega)]; exact h
  have r2 : (wI (wI w 23 k a) 24 k (-1)).1 22 0 = nI k := by rw [wI_g, if_neg (by omega)]; exact r1
  have r3 : (wI (wI (wI w 23 k a) 24 k (-1)) 26 k y).1 22 0 = nI k := by rw [wI_g, if_neg (by omega)]; exact r2
  have r4 : (wI (wI (wI (wI w 23 k a) 24 k (-1)) 26 k y) 27 k z).1 22 0 = nI k := by rw [wI_g, if_neg (by omega)]; exact r3
  unfold f_X9_addAhead
  rw [h, if_pos (show nI k < 8 from nI_lt (b := 8) hk (by omega)), hin, if_pos rfl, hcl, lt_s', r1, hin, if_pos rfl, hcl, lt_s', ey, cl_s, r2, hin, if_pos rfl, hcl, lt_s', ez, cl_s, r3, hin, if_pos rfl, hcl, lt_s', r4, lt_s', wI_s, nI_1, nI_pred]
theorem q_tells (hL : TLD wc A) (hN : NUM A) (hS : STO wc wm) (hI : STI A wm) (hT : tol wm = A) (x1 x2 x3 : Int32) : QS wc wm A (f_X11_tells x1 x2 x3 wc) (f_X12_tells x1 x2 x3 wm) := by
  have hP8 := hN.2.1.2
  have h8 := hI.1.2
  have h6 : nIt A ≤ 6 := hN.2.2.2.2.2.1
  unfold f_X11_tells f_X12_tells
  rw [zc_isPerson, zm_isPerson hT, hL.1.1.2.1, hN.2.1.1, cl_s, cl_s, if_b0, if_b0]
  by_cases h1 : rng x1 (nI (nPe A)) = false
  · rw [if_pos h1, if_pos h1]; exact QS.rf hS hI
  rw [if_neg h1, if_neg h1, zc_isItem hL.2.1 hN, zm_isItem hT hN, cl_s, cl_s, if_b0, if_b0]
  by_cases h2 : rng x2 (nI (nIt A)) = false
  · rw [if_pos h2, if_pos h2]; exact QS.rf hS hI
  rw [if_neg h2, if_neg h2, zc_isItem hL.2.1 hN, zm_isItem hT hN, cl_s, cl_s, if_b0, if_b0]
  by_cases h3 : rng x3 (nI (nIt A)) = false
  · rw [if_pos h3, if_pos h3]; exact QS.rf hS hI
  rw [if_neg h3, if_neg h3]
  by_cases h4 : x2 = x3
  · rw [if_pos h4, if_pos h4]; exact QS.rf hS hI
  rw [if_neg h4, if_neg h4]
  rw [Bool.not_eq_false] at h1 h2 h3
  obtain ⟨p, hp, rfl⟩ := rng_ex (by omega) h1
  obtain ⟨i, hi, rfl⟩ := rng_ex (by omega) h2
  obtain ⟨j, hj, rfl⟩ := rng_ex (by omega) h3
  have s0 := hS.1.trans hI.1.1
  have m0 := hI.1.1
  rw [s0, m0]
  by_cases c : nSt wm = 8
  · rw [c, if_neg (by decide), if_pos (by rfl)]; exact QS.rf hS hI
  have hk : nSt wm < 8 := by omega
  have hS2 := hS.2
  have hI2 := hI.2
  generalize nSt wm = k at hk s0 m0 hS2 hI2 c ⊢
  have hin : inb (nI k) 8 = true := z_inb hk (by omega)
  have hcl : (nI k).toNatClampNeg = k := nI_clamp (by omega)
  obtain ⟨y, z, ec, hy, hz⟩ := zc_addAhead s0 hk hL.2.1 hN (nI p) hi hj
  rw [if_pos (show nI k < 8 from nI_lt (b := 8) hk (by omega)), if_neg (show ¬ nI k = 8 from fun h => c ((nI_eq (b := 8) (by omega) (by omega)).mp h)), ec, cl_s]
  have r1 : (wI wm 55 k (nI p)).1 0 99 = nI k := by rw [wI_g, if_neg (by omega)]; exact m0
  have f2 : FX PSm wm (wI (wI wm 55 k (nI p)) 56 k (-1)) := (FX.w wm _ (by unfold PSm; omega)).tr (FX.w _ _ (by unfold PSm; omega))
  have r2 : (wI (wI wm 55 k (nI p)) 56 k (-1)).1 0 99 = nI k := by rw [wI_g, if_neg (by omega)]; exact r1
  generalize hy' : (if nPa A ≤ i then nI (10 + (i - nPa A)) else nI i) = y' at hy
  generalize hz' : (if nPa A ≤ j then nI (10 + (j - nPa A)) else nI j) = z' at hz
  have f3 : FX PSm wm (wI (wI (wI wm 55 k (nI p)) 56 k (-1)) 58 k y') := f2.tr (FX.w _ _ (by unfold PSm; omega))
  have r3 : (wI (wI (wI wm 55 k (nI p)) 56 k (-1)) 58 k y').1 0 99 = nI k := by rw [wI_g, if_neg (by omega)]; exact r2
  have r4 : (wI (wI (wI (wI wm 55 k (nI p)) 56 k (-1)) 58 k y') 59 k z').1 0 99 = nI k := by rw [wI_g, if_neg (by omega)]; exact r3
  rw [hin, if_pos rfl, hcl, lt_s', r1, hin, if_pos rfl, hcl, lt_s', zm_name (PSm_t f2 hT) hN hi rfl, hy', cl_s, r2, hin, if_pos rfl, hcl, lt_s', zm_name (PSm_t f3 hT) hN hj rfl, hz', cl_s, r3, hin, if_pos rfl, hcl, lt_s', r4, lt_s', wI_s, nI_1, nI_pred]
  refine ⟨_, _, _, rfl, rfl, ((((FX.w wc _ (by unfold PSc; omega)).tr (FX.w _ _ (by unfold PSc; omega))).tr (FX.w _ _ (by unfold PSc; omega))).tr (FX.w _ _ (by unfold PSc; omega))).tr (FX.w _ _ (by unfold PSc; omega)), (f3.tr (FX.w _ _ (by unfold PSm; omega))).tr (FX.w _ _ (by unfold PSm; omega)), ?_, ?_⟩
  · have hn := nSt_w (w := wI (wI (wI (wI (wI wm 55 k (nI p)) 56 k (-1)) 58 k y') 59 k z') 0 99 (nI (k + 1))) (wI_s _ _ _ _) (by omega)
    refine ⟨by rw [wI_s, wI_s], fun s hs => ?_⟩
    rw [hn] at hs
    by_cases e : s = k
    · subst e
      simp only [wI_g]
      simp
      exact ⟨hy, hz⟩
    · have := hS2 s (by omega)
      simp only [wI_g]
      simp [e]
      exact this
  · have hn := nSt_w (w := wI (wI (wI (wI (wI wm 55 k (nI p)) 56 k (-1)) 58 k y') 59 k z') 0 99 (nI (k + 1))) (wI_s _ _ _ _) (by omega)
    refine ⟨⟨by rw [wI_s, hn], by rw [hn]; omega⟩, fun s hs => ?_⟩
    rw [hn] at hs
    by_cases e : s = k
    · subst e
      simp only [wI_g]
      simp
      exact ⟨p, hp, rfl⟩
    · have := hI2 s (by omega)
      simp only [wI_g]
      simp [e]
      exact this
end
