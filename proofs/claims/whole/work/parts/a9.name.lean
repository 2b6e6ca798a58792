/-! a new name -/
-- PTC PTM PED PEM
section
variable {w m : Wd}
theorem zc_b33f (h : FLT w) : X10_hasNewName_b33 w = some (0, w) := by unfold X10_hasNewName_b33; rw [zf_failed h, cl_s, i10]
theorem zc_b33t (h : w.1 1 4 = 0) : X10_hasNewName_b33 w = some (1, w) := by unfold X10_hasNewName_b33 f_X10_hasFailed; rw [if_pos h, cl_s, i01]
/-- passing over the word and finding a name -/
theorem q_name (h : GR w m) {o o' many n s : Nat} (ho : 44 ≤ o) (hN : NMS w m o o' many n) (hs : m.1 0 s = nI many) (hs2 : 26 ≤ s ∧ s ≤ 28) (K : Wd → Option (Int32 × Wd)) : (∃ w1 w2 m2, f_X0_passUnlessFull o n w = some w1 ∧ f_X10_hasNewName o n w1 = some (0, w2) ∧ (if m.1 0 s = nI n then (cl (f_X12_bad 4 m) fun r18 w17 => if isB r18 = true then some (r18, w17) else none) else cv (f_X12_scan m) fun w1 => cl (f_X12_fresh o' n (w1.1 0 s) w1) fun r3 w2 => if r3 = 0 then some (0, w2) else K w2) = some (0, m2) ∧ FT w2 m2 ∧ FXL PTC PTl w w2 ∧ FX PTM m m2) ∨ (many < n ∧ ∃ w1 m1, f_X0_passUnlessFull o n w = some w1 ∧ f_X10_hasNewName o n w1 = some (1, w1) ∧ GR w1 m1 ∧ PTG m ≤ PTG m1 ∧ FXL PTC PTl w w1 ∧ FX PTM m m1 ∧ ∀ m2, f_X12_scan (wG m1 o' many (w1.2 1 3)) = some m2 → (if m.1 0 s = nI n then (cl (f_X12_bad 4 m) fun r18 w17 => if isB r18 = true then some (r18, w17) else none) else cv (f_X12_scan m) fun w1 => cl (f_X12_fresh o' n (w1.1 0 s) w1) fun r3 w2 => if r3 = 0 then some (0, w2) else K w2) = K m2) := by
  have hn8 := hN.2.2.1
  have hmn := hN.2.1
  unfold f_X0_passUnlessFull f_X4_isFull X0_passUnlessFull_b12
  rw [hN.1, hs]
  by_cases c : many < n
  · rw [if_pos (show nI many < Int32.ofNat n from nI_lt c (by omega)), cl_s, i01, if_neg (show ¬ nI many = nI n from fun q => by rw [nI_eq (by omega) (by omega)] at q; omega)]
    obtain ⟨w1, m1, e1, e2, hG, hp, -, hF, hM⟩ := q_step h
    rw [e1, cv_s, e2, cv_s, hM.2 0 s (by simp only [PED, PEM, PTC, PTM, and_true, true_and, or_true, true_or, and_self] <;> omega), hs]
    have hN1 : NMS w1 m1 o o' many n := ⟨by rw [hF.1 o 1 (by simp only [PED, PEM, PTC, PTM, and_true, true_and, or_true, true_or, and_self] <;> omega)]; exact hN.1, hmn, hn8, fun k hk => by
      rw [hM.1, hF.2 _ _ (by unfold PTl; omega)]; exact hN.2.2.2 k hk⟩
    unfold f_X12_fresh
    by_cases kd : m1.1 0 5 = 1
    · obtain ⟨r, f1, f2, hr⟩ := q_find hG kd hN1
      rw [if_pos kd, f2, cl_s]
      by_cases d : r = -1
      · refine Or.inr ⟨c, w1, m1, rfl, ?_, hG, hp, hF, hM, fun m2 hm2 => ?_⟩
        · unfold f_X10_hasNewName
          rw [hG.kd, if_pos kd, f1, cl_s, if_pos d, zc_b33t hG.f0]
        · rw [if_pos d, zm_nmT hG kd, cl_s, if_pos (z_inb c (by omega)), nI_clamp (n := many) (by omega), lt_s', hm2, cv_s, cl_s, i10]
      · obtain ⟨w5, m5, x5, b5, f5, F5, M5⟩ := q_fail hG (k := 3) (by decide)
        refine Or.inl ⟨w1, w5, m5, rfl, ?_, ?_, f5, hF.tr F5, hM.tr M5⟩
        · unfold f_X10_hasNewName
          rw [hG.kd, if_pos kd, f1, cl_s, if_neg d, x5, cv_s, zc_b33f f5.1]
        · rw [if_neg d, b5, cl_s, if_pos (show isB 0 = true from rfl), cl_s, i01]
    · obtain ⟨w5, m5, x5, b5, f5, F5, M5⟩ := q_fail hG (k := 1) (by decide)
      refine Or.inl ⟨w1, w5, m5, rfl, ?_, ?_, f5, hF.tr F5, hM.tr M5⟩
      · unfold f_X10_hasNewName
        rw [hG.kd, if_neg kd, x5, cv_s, zc_b33f f5.1]
      · rw [if_neg kd, b5, cl_s, if_pos (show isB 0 = true from rfl), cl_s, i01]
  · have e : many = n := by omega
    rw [e, if_neg (show ¬ nI n < Int32.ofNat n from nI_nlt (Nat.le_refl _) (by omega)), cl_s, i10, if_pos (show nI n = nI n from rfl)]
    obtain ⟨w5, m5, x5, b5, f5, F5, M5⟩ := q_fail h (k := 4) (by decide)
    rw [x5, cv_s, zf_step f5.1, cv_s, b5, cl_s, if_pos (show isB 0 = true from rfl)]
    exact Or.inl ⟨w5, w5, m5, rfl, zf_newName f5.1 _ _, rfl, f5, F5, M5⟩
theorem zc_add {o n many : Nat} {v : Int64} (h : w.1 o 1 = nI many) (hm : many < n) (hn : n ≤ 8) : f_X4_add o n v w = some (wI (wG w (o + 1) many v) o 1 (nI (many + 1))) := by
  unfold f_X4_add
  rw [h, if_neg (show ¬ Int32.ofNat n ≤ nI many from nI_ge hm (by omega)), if_pos (z_inb hm (by omega)), nI_clamp (n := many) (by omega), lt_s', wG_1, h, nI_1]
  rfl
theorem TW_ne (h : GR w m) : ¬ TW m = some [] := by
  obtain ⟨⟨n, f, e, h1, h2, h3, h4, h5, h6, h7, h8, h9, h10, h11, h12, h13, h14, h15, h16⟩, g1, g2, g3⟩ := h
  unfold TW
  rw [h11, h9, nI_clamp (by omega), nI_clamp (by omega)]
  by_cases c : m.1 0 5 = 1
  · rw [if_pos c]
    intro q
    have := congrArg List.length (Option.some.inj q)
    rw [tkW_len] at this
    rcases h16 with e0 | e0
    · rw [c] at e0; exact absurd e0 (by decide)
    · have : e - f = 0 := this
      omega
  · rw [if_neg c]
    intro q; cases q
/-- one of four words -/
theorem q_chosen (h : GR w m) {a b c d : Nat} (ha : a < 47) (hb : b < 47) (hc : c < 47) (hd : d < 47) {w' : Wd} (hs : f_X10_step w = some w') : (TW m = some (sByt.getD b []) → f_X10_chosen a b c d w = some (1, w')) ∧ (¬ TW m = some (sByt.getD b []) → TW m = some (sByt.getD c []) → f_X10_chosen a b c d w = some (2, w')) ∧ (¬ TW m = some (sByt.getD b []) → ¬ TW m = some (sByt.getD c []) → TW m = some (sByt.getD d []) → f_X10_chosen a b c d w = some (3, w')) ∧ (¬ TW m = some (sByt.getD b []) → ¬ TW m = some (sByt.getD c []) → ¬ TW m = some (sByt.getD d []) → TW m = some (sByt.getD a []) → f_X10_chosen a b c d w = some (0, w')) := by
  unfold f_X10_chosen X10_chosen_b59
  refine ⟨fun h1 => ?_, fun h1 h2 => ?_, fun h1 h2 h3 => ?_, fun h1 h2 h3 h4 => ?_⟩
  · rw [zcY h hb h1, cl_s, i10, hs, cv_s]
  · rw [zcN h hb h1, cl_s, i01, zcY h hc h2, cl_s, i10, hs, cv_s]
  · rw [zcN h hb h1, cl_s, i01, zcN h hc h2, cl_s, i01, zcY h hd h3, cl_s, i10, hs, cv_s]
  · rw [zcN h hb h1, cl_s, i01, zcN h hc h2, cl_s, i01, zcN h hd h3, cl_s, i01, zcY h ha h4, cl_s, i10, hs, cv_s]
theorem q_chosenN (h : GR w m) {a b c d : Nat} (ha : a < 47) (hb : b < 47) (hc : c < 47) (hd : d < 47) {w' : Wd} (hs : f_X10_fail 1 w = some w') (hf : FLT w') (h1 : ¬ TW m = some (sByt.getD b [])) (h2 : ¬ TW m = some (sByt.getD c [])) (h3 : ¬ TW m = some (sByt.getD d [])) (h4 : ¬ TW m = some (sByt.getD a [])) : f_X10_chosen a b c d w = some (0, w') := by
  unfold f_X10_chosen X10_chosen_b59
  rw [zcN h hb h1, cl_s, i01, zcN h hc h2, cl_s, i01, zcN h hd h3, cl_s, i01, zcN h ha h4, cl_s, i01, hs, cv_s, zf_step hf, cv_s]
end
