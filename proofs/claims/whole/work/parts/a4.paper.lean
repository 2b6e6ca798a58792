/-! paper -/
-- PTC PTM PRD PRR PTk PTm
def PI1 (A : Wd) (p : Nat) : Prop := (NN (A.1 23 p) 9 ∧ NN (A.1 24 p) 5 ∧ NN (A.1 20 p) 10000 ∧ NN (A.1 21 p) 10000) ∧ (∀ i, nPe A ≤ i → i < 32 → bt (A.1 22 p) i = false) ∧ (∀ i, p ≤ i → i < 32 → bt (A.1 25 p) i = false ∧ bt (A.1 26 p) i = false) ∧ (A.1 27 p = -1 ∨ NN (A.1 27 p) p) ∧ (∀ g, g < nGi A p → PAPg A p g) ∧ (∀ h, h < nHe A p → NN (A.1 36 (4 * p + h)) (nPe A)) ∧ (∀ o, 28 ≤ o → o ≤ 31 → A.1 o p = 0 ∨ A.1 o p = 1)
/-- alike at one paper -/
def CI1 (A B : Wd) (p : Nat) : Prop := (∀ a, 20 ≤ a → a ≤ 31 → A.1 a p = B.1 a p) ∧ (∀ a g, (32 ≤ a ∧ a ≤ 35) ∨ a = 37 → g < 8 → A.1 a (8 * p + g) = B.1 a (8 * p + g)) ∧ (∀ h, h < 4 → A.1 36 (4 * p + h) = B.1 36 (4 * p + h))
theorem PI1.ci {A B : Wd} {p : Nat} (h : PI1 B p) (e : CI1 A B p) (eP : nPe A = nPe B) (eT : nTh A = nTh B) : PI1 A p := by
  obtain ⟨e1, e2, e3⟩ := e
  obtain ⟨⟨h1, h2, h3, h4⟩, h5, h6, h7, h8, h9, h10⟩ := h
  have n8 : nGi B p < 9 := (h1.e (by omega)).2
  have n4 : nHe B p < 5 := (h2.e (by omega)).2
  have eg : nGi A p = nGi B p := by unfold nGi; rw [e1 23 (by omega) (by omega)]
  have eh : nHe A p = nHe B p := by unfold nHe; rw [e1 24 (by omega) (by omega)]
  unfold PI1
  rw [eP, eg, eh, e1 23 (by omega) (by omega), e1 24 (by omega) (by omega), e1 20 (by omega) (by omega), e1 21 (by omega) (by omega), e1 22 (by omega) (by omega), e1 25 (by omega) (by omega), e1 26 (by omega) (by omega), e1 27 (by omega) (by omega)]
  refine ⟨⟨h1, h2, h3, h4⟩, h5, h6, h7, fun g hg => ?_, fun h hh => ?_, fun o o1 o2 => ?_⟩
  · have := h8 g hg
    unfold PAPg at this ⊢
    rw [eP, eT, e2 34 g (by omega) (by omega), e2 32 g (by omega) (by omega), e2 33 g (by omega) (by omega), e2 35 g (by omega) (by omega), e2 37 g (by omega) (by omega)]
    exact this
  · rw [e3 h (by omega)]; exact h9 h hh
  · rw [e1 o (by omega) o2]; exact h10 o o1 o2
theorem PAP1.ci {w w' A B : Wd} {c p : Nat} (h : PAP1 w B c p) (e : CI1 A B p) (hw : ∀ a k, c ≤ a → a ≤ c + 5 → w'.1 a k = w.1 a k) (n8 : nGi B p < 9) (n4 : nHe B p < 5) : PAP1 w' A c p := by
  obtain ⟨e1, e2, e3⟩ := e
  have eg : nGi A p = nGi B p := by unfold nGi; rw [e1 23 (by omega) (by omega)]
  have eh : nHe A p = nHe B p := by unfold nHe; rw [e1 24 (by omega) (by omega)]
  have hh : hrS A p = hrS B p := by
    unfold hrS
    rw [eh]
    exact hr_cgk _ (fun k hk => e3 k (by omega))
  have hg : gnS A p = gnS B p := by
    unfold gnS
    rw [eg]
    exact gn_cg hh _ (fun k hk => e2 34 k (by omega) (by omega))
  obtain ⟨⟨a0, a1, a2, a3, a4, a5, a6, a7, a8⟩, ⟨b1, b2, b3⟩, c1, d1⟩ := h
  have q : ∀ k, w'.1 c k = w.1 c k := fun k => hw c k (by omega) (by omega)
  refine ⟨⟨?_, ?_, ?_, ?_, ?_, ?_, ?_, ?_, ?_⟩, ⟨?_, ?_, ?_⟩, ?_, fun g hgg => ?_⟩
  · rw [q, e1 20 (by omega) (by omega)]; exact a0
  · rw [q, e1 21 (by omega) (by omega)]; exact a1
  · rw [q, e1 22 (by omega) (by omega)]; exact a2
  · rw [q, hh]; exact a3
  · rw [q, e1 31 (by omega) (by omega)]; exact a4
  · rw [q, e1 25 (by omega) (by omega)]; exact a5
  · rw [q, e1 26 (by omega) (by omega)]; exact a6
  · rw [q, e1 27 (by omega) (by omega)]; exact a7
  · rw [q, e1 23 (by omega) (by omega)]; exact a8
  · rw [q, e1 28 (by omega) (by omega)]; exact b1
  · rw [q, e1 29 (by omega) (by omega)]; exact b2
  · rw [q, e1 30 (by omega) (by omega)]; exact b3
  · rw [q, hg]; exact c1
  · rw [eg] at hgg
    obtain ⟨g1, g2, g3, g4⟩ := d1 g hgg
    refine ⟨?_, ?_, ?_, ?_⟩
    · rw [hw _ _ (by omega) (by omega), e2 32 g (by omega) (by omega)]; exact g1
    · rw [hw _ _ (by omega) (by omega), e2 33 g (by omega) (by omega)]; exact g2
    · rw [hw _ _ (by omega) (by omega), e2 34 g (by omega) (by omega)]; exact g3
    · unfold PIF
      rw [hw (c + 4) g (by omega) (by omega), hw (c + 5) g (by omega) (by omega), e2 35 g (by omega) (by omega), e2 37 g (by omega) (by omega)]; exact g4
theorem PPR.pap {w m : Wd} {c p : Nat} (h : PPR w m c p) : PAP1 w m c p := by
  obtain ⟨h1, h2, h3, h4, h5, h6, h7, h8, h9⟩ := h
  have mk : ∀ (x y : Int32) (i : Nat) (v : Int32), i < 6 → v = nI (2 ^ i) → bt x i = decide (¬ y = 0) → (x &&& v = 0 ↔ y = 0) := by
    intro x y i v hi hv e
    rw [hv, z_mk _ _ hi, e, decide_eq_false_iff_not, Decidable.not_not]
  refine ⟨⟨h1.1, h1.2.1, h2.1, h3.1, h4.1.1, h4.2.1, h5.1, h6.1, h7.1⟩, ⟨mk _ _ 0 1 (by omega) rfl h8.1.1.1, mk _ _ 1 2 (by omega) rfl h8.1.1.2.1, mk _ _ 2 4 (by omega) rfl h8.1.1.2.2⟩, h9, h7.2.2.1⟩
theorem PPR.pi1 {w m : Wd} {c p : Nat} (h : PPR w m c p) : PI1 m p := by
  obtain ⟨h1, h2, h3, h4, h5, h6, h7, h8, h9⟩ := h
  refine ⟨⟨h7.2.1, h3.2.1, h1.2.2.1, h1.2.2.2⟩, h2.2.1, fun i hi hi32 => ⟨h4.2.2 i hi hi32, h5.2 i hi hi32⟩, h6.2, h7.2.2.2.1, h3.2.2.1, fun o o1 o2 => ?_⟩
  rcases (show o = 28 ∨ o = 29 ∨ o = 30 ∨ o = 31 by omega) with rfl | rfl | rfl | rfl
  · exact h8.1.2.1
  · exact h8.1.2.2.1
  · exact h8.1.2.2.2.1
  · exact h4.1.2
section
variable {w w' A : Wd}
theorem TLD.fg (h : TLD w A) (h3 : ∀ k, 3 ≤ k → k ≤ 5 → w'.1 3 k = w.1 3 k) (h6 : ∀ k, w'.1 6 k = w.1 6 k) (he : ∀ a k, 31 ≤ a → a ≤ 43 → w'.1 a k = w.1 a k) (hp : ∀ a k, 57 ≤ a → a < 57 + 6 * nPa A → w'.1 a k = w.1 a k) (hv : ∀ a k, 81 ≤ a → a < 81 + nEv A → w'.1 a k = w.1 a k) (hl : ∀ a k, 33 ≤ a → a ≤ 37 → w'.2 a k = w.2 a k) : TLD w' A := by
  obtain ⟨a1, a2, a3, a4, a5⟩ := h
  refine ⟨a1.fg he hl, ⟨?_, ?_⟩, ⟨?_, fun o ho i hi => ?_⟩, fun p hpp => ?_, fun e hee => ?_⟩
  · rw [h3 3 (by omega) (by omega)]; exact a2.1
  · rw [h3 4 (by omega) (by omega)]; exact a2.2
  · rw [h3 5 (by omega) (by omega)]; exact a3.1
  · rw [h6]; exact a3.2 o ho i hi
  · exact PAP1.cg (fun a k _ _ => rfl) (fun a k h1 h2 => hp a k (by omega) (by omega)) (a4 p hpp)
  · obtain ⟨b1, b2, b3, b4, b5⟩ := a5 e hee
    rw [hv _ _ (by omega) (by omega), hv _ _ (by omega) (by omega), hv _ _ (by omega) (by omega), hv _ _ (by omega) (by omega), hv _ _ (by omega) (by omega)]
    exact ⟨b1, b2, b3, b4, b5⟩
theorem KIN.fg (h : KIN w A) (he : ∀ a k, 31 ≤ a → a ≤ 43 → w'.1 a k = w.1 a k) : KIN w' A := ⟨by rw [he 31 9 (by omega) (by omega)]; exact h.1, fun k hk => by rw [he 43 k (by omega) (by omega)]; exact h.2 k hk⟩
end
def FLR (w m : Wd) : Prop := w.1 0 7 = m.1 0 8 ∧ w.1 0 8 = m.1 0 9
def KRN (wc wm A : Wd) : Prop := TLD wc A ∧ KIN wc A ∧ INV A ∧ PEI A ∧ NCH A ∧ tol wm = A ∧ BDP wc ∧ TPR wc wm ∧ FLR wc wm
theorem zm_clear {m : Wd} {p : Nat} (h : m.1 0 49 = nI p) (hp : p < 4) : f_X12_readPaper m = X12_readPaper_b96_L (wI (wI (wI (wI (wI (wI (wI (wI (wI (wI (wI (wI (wI m 20 p 0) 21 p 9999) 22 p 0) 23 p 0) 24 p 0) 25 p 0) 26 p 0) 27 p (-1)) 28 p 0) 29 p 0) 30 p 0) 31 p 0) 0 69 0) := by
  have i4 := z_inb hp (show 4 < 2 ^ 31 by omega)
  have hn : vp_nar .boolean 0 = 0 := rfl
  unfold f_X12_readPaper
  rw [h, lt_s']
  simp only [i4, if_true, hn, nI_clamp (show p < 2 ^ 31 by omega)]
  rfl
section
variable {w m : Wd} {c p : Nat}
/-- both have cleared what is read -/
theorem PPR.new (hc : 57 ≤ c) (hw : w.1 c 0 = 0 ∧ w.1 c 1 = 9999 ∧ w.1 c 2 = 0 ∧ w.1 c 3 = 0 ∧ w.1 c 4 = 0 ∧ w.1 c 5 = 0 ∧ w.1 c 6 = 0 ∧ w.1 c 7 = -1 ∧ w.1 c 8 = 0 ∧ w.1 c 14 = 0 ∧ w.1 c 15 = 0 ∧ w.1 c 16 = 0) (hm : m.1 20 p = 0 ∧ m.1 21 p = 9999 ∧ m.1 22 p = 0 ∧ m.1 23 p = 0 ∧ m.1 24 p = 0 ∧ m.1 25 p = 0 ∧ m.1 26 p = 0 ∧ m.1 27 p = -1 ∧ m.1 28 p = 0 ∧ m.1 29 p = 0 ∧ m.1 30 p = 0 ∧ m.1 31 p = 0 ∧ m.1 0 69 = 0) : PPR w m c p := by
  obtain ⟨w0, w1, w2, w3, w4, w5, w6, w7, w8, w14, w15, w16⟩ := hw
  obtain ⟨m20, m21, m22, m23, m24, m25, m26, m27, m28, m29, m30, m31, m69⟩ := hm
  have hg : nGi m p = 0 := by unfold nGi; rw [m23]; rfl
  have hh : nHe m p = 0 := by unfold nHe; rw [m24]; rfl
  have hr : hrS m p = 0 := by unfold hrS; rw [hh]; rfl
  have hn : gnS m p = 0 := by
    unfold gnS
    rw [hg]
    show hrS m p = 0
    exact hr
  have c0 : fb_ct (bt 0) 8 = 0 := by decide
  refine ⟨⟨w0.trans m20.symm, w1.trans m21.symm, by rw [m20]; exact ⟨0, by omega, rfl⟩, by rw [m21]; exact ⟨9999, by omega, rfl⟩⟩, ⟨w2.trans m22.symm, fun i _ _ => by rw [m22]; exact b_0 i, by rw [m22, c0]; omega⟩, ⟨w3.trans hr.symm, by rw [m24]; exact ⟨0, by omega, rfl⟩, fun h q => by omega, by rw [hr, c0, hh]⟩, ⟨⟨w4.trans m31.symm, Or.inl m31⟩, w5.trans m25.symm, fun i _ _ => by rw [m25]; exact b_0 i⟩, ⟨w6.trans m26.symm, fun i _ _ => by rw [m26]; exact b_0 i⟩, ⟨w7.trans m27.symm, Or.inl m27⟩, ⟨w8.trans m23.symm, by rw [m23]; exact ⟨0, by omega, rfl⟩, fun g q => by omega, fun g q => by omega, by rw [w15, hg]; exact RB.z⟩, ⟨⟨⟨?_, ?_, ?_⟩, Or.inl m28, Or.inl m29, Or.inl m30, ?_, ?_, ?_, ?_, ?_, ?_⟩, fun _ => m24⟩, w16.trans hn.symm⟩
  · rw [w14, m28, b_0]; rfl
  · rw [w14, m29, b_0]; rfl
  · rw [w14, m30, b_0]; rfl
  all_goals (rw [w14, m69] <;> simp only [b_0])
end
