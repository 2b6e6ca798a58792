/-! estate -/
-- PTC PTM PED PEM PTk PTm PEC PEN
def PEC (a k : Nat) : Prop := (a = 0 ∧ (k = 7 ∨ k = 8)) ∨ a = 1 ∨ a = 3 ∨ a = 6 ∨ a = 7 ∨ (a = 22 ∧ k = 0) ∨ (31 ≤ a ∧ a ≤ 56)
def QEC (a k : Nat) : Prop := PTl a k ∨ (31 ≤ a ∧ a ≤ 56)
def PEN (a k : Nat) : Prop := (a = 0 ∧ (k < 51 ∨ k = 75 ∨ k = 78 ∨ k = 99)) ∨ (2 ≤ a ∧ a ≤ 7) ∨ (14 ≤ a ∧ a ≤ 19) ∨ a = 43 ∨ a = 44
def QEN (a _k : Nat) : Prop := 8 ≤ a ∧ a ≤ 13
theorem ss_cg {A B : Wd} (hp : nPe A = nPe B) (h : ∀ k, k < nPe B → A.1 3 k = B.1 3 k ∧ A.1 4 k = B.1 4 k ∧ A.1 7 k = B.1 7 k) (x : Int32) : ssS A x = ssS B x := by
  have st : ∀ n p, p < nPe B → stF A n p = stF B n p := by
    intro n
    induction n with
    | zero => intro p _; rfl
    | succ n ih =>
      intro p hpp
      show (!ddS A p || anyF (fun k => decide (p < k) && (decide (A.1 4 k = nI p) && stF A n k)) (nPe A)) = (!ddS B p || anyF (fun k => decide (p < k) && (decide (B.1 4 k = nI p) && stF B n k)) (nPe B))
      rw [hp]
      congr 1
      · unfold ddS; rw [(h p hpp).2.2]
      · exact anyF_cg _ (fun k hk => by rw [(h k hk).2.1, ih k hk])
  funext k
  unfold ssS
  rw [hp]
  by_cases c : k < nPe B
  · unfold stS
    rw [st 9 k c, (h k c).1, (h k c).2.1]
  · rw [decide_eq_false c, Bool.false_and, Bool.false_and]
def eW (m : Wd) : Wd := (fun a k => if a = 3 then m.1 15 k else if a = 4 then m.1 16 k else if a = 7 then m.1 19 k else if a = 0 ∧ k = 11 then m.1 0 27 else 0, fun _ _ => 0)
theorem zc_clrE {w : Wd} : ∃ w1, f_X0_clear w = some w1 ∧ (w1.1 45 1 = 0 ∧ w1.1 47 1 = 0 ∧ w1.1 49 1 = 0 ∧ w1.1 44 9 = 0 ∧ w1.1 44 10 = 0 ∧ w1.1 44 11 = -1 ∧ w1.1 44 12 = -1 ∧ w1.1 44 13 = -1 ∧ w1.1 44 14 = -1 ∧ w1.1 44 15 = 0 ∧ w1.1 44 16 = 0 ∧ w1.1 44 17 = 0 ∧ w1.1 44 18 = 0) ∧ FX (fun a k => 44 ≤ a ∧ a ≤ 56) w w1 := by
  refine ⟨wI (wI (wI (wI (wI (wI (wI (wI (wI (wI (wI (wI (wI w 45 1 0) 47 1 0) 49 1 0) 44 9 0) 44 10 0) 44 11 (-1)) 44 12 (-1)) 44 13 (-1)) 44 14 (-1)) 44 15 0) 44 16 0) 44 17 0) 44 18 0, rfl, ?_, ?_⟩
  · simp [wI_g]
  · refine ⟨rfl, fun a k hn => ?_⟩
    have h1 : ¬ a = 44 := by omega
    have h2 : ¬ a = 45 := by omega
    have h3 : ¬ a = 47 := by omega
    have h4 : ¬ a = 49 := by omega
    simp [wI_g, h1, h2, h3, h4]
theorem zm_clrE {w m : Wd} (hG : GR w m) : ∃ m2, f_X12_readEstate m = X12_readEstate_b55_L m2 ∧ GR w m2 ∧ PTG m2 = PTG m ∧ m2.1 0 5 = m.1 0 5 ∧ (m2.1 0 26 = 0 ∧ m2.1 0 27 = 0 ∧ m2.1 0 28 = 0 ∧ m2.1 0 29 = 0 ∧ m2.1 0 30 = 0 ∧ m2.1 0 31 = 0 ∧ m2.1 0 32 = 0 ∧ m2.1 0 33 = 0 ∧ m2.1 0 34 = -1 ∧ m2.1 0 35 = 0 ∧ m2.1 0 36 = 0) ∧ FX (fun a k => a = 0 ∧ 26 ≤ k ∧ k ≤ 36) m m2 := by
  refine ⟨wI (wI (wI (wI (wI (wI (wI (wI (wI (wI (wI m 0 26 0) 0 27 0) 0 28 0) 0 29 0) 0 30 0) 0 31 0) 0 32 0) 0 33 0) 0 34 (-1)) 0 36 0) 0 35 0, rfl, ?_, ?_, ?_, ?_, ?_⟩
  · exact ((((((((((hG.r (by omega)).r (by omega)).r (by omega)).r (by omega)).r (by omega)).r (by omega)).r (by omega)).r (by omega)).r (by omega)).r (by omega)).r (by omega)
  · simp [PTG, wI_g]
  · simp [wI_g]
  · simp [wI_g]
  · exact ((((((((((FX.w m _ (by omega)).tr (FX.w _ _ (by omega))).tr (FX.w _ _ (by omega))).tr (FX.w _ _ (by omega))).tr (FX.w _ _ (by omega))).tr (FX.w _ _ (by omega))).tr (FX.w _ _ (by omega))).tr (FX.w _ _ (by omega))).tr (FX.w _ _ (by omega))).tr (FX.w _ _ (by omega))).tr (FX.w _ _ (by omega))
theorem DR.new {w m : Wd} (hw : w.1 45 1 = 0 ∧ w.1 47 1 = 0 ∧ w.1 49 1 = 0 ∧ w.1 44 9 = 0 ∧ w.1 44 10 = 0 ∧ w.1 44 11 = -1 ∧ w.1 44 12 = -1 ∧ w.1 44 13 = -1 ∧ w.1 44 14 = -1 ∧ w.1 44 15 = 0 ∧ w.1 44 16 = 0 ∧ w.1 44 17 = 0 ∧ w.1 44 18 = 0) (hm : m.1 0 26 = 0 ∧ m.1 0 27 = 0 ∧ m.1 0 28 = 0 ∧ m.1 0 29 = 0 ∧ m.1 0 30 = 0 ∧ m.1 0 31 = 0 ∧ m.1 0 32 = 0 ∧ m.1 0 33 = 0 ∧ m.1 0 34 = -1 ∧ m.1 0 35 = 0 ∧ m.1 0 36 = 0) : DR w m := by
  obtain ⟨w45, w47, w49, w9, w10, w11, w12, w13, w14, w15, w16, w17, w18⟩ := hw
  obtain ⟨m26, m27, m28, m29, m30, m31, m32, m33, m34, m35, m36⟩ := hm
  have eL : rL m = 0 := by unfold rL; rw [m26]; rfl
  have eP : rP m = 0 := by unfold rP; rw [m27]; rfl
  have eT : rT m = 0 := by unfold rT; rw [m28]; rfl
  refine ⟨⟨⟨by rw [eL, m26]; rfl, by omega, w45.trans m26.symm, fun k hk => by omega⟩, ⟨by rw [eP, m27]; rfl, by omega, w47.trans m27.symm, fun k hk => by omega⟩, ⟨by rw [eT, m28]; rfl, by omega, w49.trans m28.symm, fun k hk => by omega⟩⟩, ⟨fun k hk => by omega, fun l hl => by omega⟩, ⟨fun k hk => by omega, fun k _ _ => by rw [w10]; exact b_0 k, w9⟩, fun k hk => by omega, fun j hj => ?_, fun j hj => ?_, ⟨w11.trans m34.symm, Or.inl m34⟩, w17.trans m35.symm⟩
  · refine ⟨by rw [w18, m36], (fun q => by rw [m36, b_0] at q; cases q), fun _ => ?_⟩
    rcases (show j = 0 ∨ j = 1 ∨ j = 2 by omega) with rfl | rfl | rfl
    · exact ⟨w12, m31⟩
    · exact ⟨w13, m32⟩
    · exact ⟨w14, m33⟩
  · rcases (show j = 0 ∨ j = 1 by omega) with rfl | rfl
    · exact ⟨by rw [w18, m36], w15.trans m29.symm, ⟨0, by omega, m29⟩⟩
    · exact ⟨by rw [w18, m36], w16.trans m30.symm, ⟨0, by omega, m30⟩⟩
theorem sw_e {w : Wd} {i k : Nat} (h : 31 ≤ i) (h2 : i ≤ 43) : (swW w).1 i k = w.1 (i + 13) k := by
  show w.1 (sw i) k = _
  rw [show sw i = i + 13 by unfold sw; rw [if_pos (by omega)]]
theorem sw_el {w : Wd} {i k : Nat} (h : 31 ≤ i) (h2 : i ≤ 43) : (swW w).2 i k = w.2 (i + 13) k := by
  show w.2 (sw i) k = _
  rw [show sw i = i + 13 by unfold sw; rw [if_pos (by omega)]]
theorem sw_o {w : Wd} {i k : Nat} (h : i < 31 ∨ 56 < i) : (swW w).1 i k = w.1 i k := by
  show w.1 (sw i) k = _
  rw [show sw i = i by unfold sw; rw [if_neg (by omega), if_neg (by omega)]]
theorem sw_ol {w : Wd} {i k : Nat} (h : i < 31 ∨ 56 < i) : (swW w).2 i k = w.2 i k := by
  show w.2 (sw i) k = _
  rw [show sw i = i by unfold sw; rw [if_neg (by omega), if_neg (by omega)]]
def CHE (wc wm A wc1 wm1 A1 : Wd) : Prop := FXL PEC QEC wc wc1 ∧ FXL PEN QEN wm wm1 ∧ ((A1 = A ∧ wc1.1 3 6 = wc.1 3 6 ∧ wm1.1 0 78 = wm.1 0 78 ∧ wc1.1 22 0 = wc.1 22 0 ∧ wm1.1 0 99 = wm.1 0 99) ∨ (wc1.1 3 6 = wc.1 3 6 + 1 ∧ wm1.1 0 78 = 0 ∧ wc1.1 22 0 = 0 ∧ wm1.1 0 99 = 0))
