/-! reading a paper: what holds between clauses -/
def PRD (c a k : Nat) : Prop := PTC a k ∨ (c ≤ a ∧ a ≤ c + 5)
def PRR (p a k : Nat) : Prop := PTM a k ∨ (a = 0 ∧ k = 69) ∨ (20 ≤ a ∧ a ≤ 31 ∧ k = p) ∨ ((32 ≤ a ∧ a ≤ 35 ∨ a = 37) ∧ 8 * p ≤ k ∧ k < 8 * p + 8) ∨ (a = 36 ∧ 4 * p ≤ k ∧ k < 4 * p + 4)
theorem PTC_D {c : Nat} {w w' : Wd} (h : FXL PTC PTl w w') : FXL (PRD c) PTl w w' := h.mo (fun a k q => Or.inl q) (fun a k q => q)
theorem PTM_R {p : Nat} {w w' : Wd} (h : FX PTM w w') : FX (PRR p) w w' := h.mo (fun a k q => Or.inl q)
/-- what stays as it is while a paper is read -/
def CTX (w m : Wd) (p : Nat) : Prop := m.1 0 49 = nI p ∧ p < 4 ∧ m.1 0 11 = nI (nPe m) ∧ nPe m ≤ 8 ∧ m.1 0 12 = nI (nTh m) ∧ nTh m ≤ 8 ∧ NMS w m 34 9 (nPe m) 8 ∧ NMS w m 36 10 (nTh m) 8
theorem CTX.fr {w m w' m' : Wd} {p c : Nat} (h : CTX w m p) (hc : 57 ≤ c) (hF : FXL (PRD c) PTl w w') (hM : FX (PRR p) m m') : CTX w' m' p := by
  obtain ⟨h1, h2, h3, h4, h5, h6, ⟨a1, a2, a3, a4⟩, ⟨b1, b2, b3, b4⟩⟩ := h
  have e11 : m'.1 0 11 = m.1 0 11 := hM.2 _ _ (by unfold PRR PTM; omega)
  have e12 : m'.1 0 12 = m.1 0 12 := hM.2 _ _ (by unfold PRR PTM; omega)
  have eP : nPe m' = nPe m := by unfold nPe; rw [e11]
  have eT : nTh m' = nTh m := by unfold nTh; rw [e12]
  refine ⟨(hM.2 _ _ (by unfold PRR PTM; omega)).trans h1, h2, ?_, ?_, ?_, ?_, ⟨?_, ?_, a3, fun k hk => ?_⟩, ⟨?_, ?_, b3, fun k hk => ?_⟩⟩
  · rw [e11, eP]; exact h3
  · rw [eP]; exact h4
  · rw [e12, eT]; exact h5
  · rw [eT]; exact h6
  · rw [hF.1 _ _ (by unfold PRD PTC; omega), eP]; exact a1
  · rw [eP]; exact a2
  · rw [eP] at hk; rw [hF.2 _ _ (by unfold PTl; omega), hM.1]; exact a4 k hk
  · rw [hF.1 _ _ (by unfold PRD PTC; omega), eT]; exact b1
  · rw [eT]; exact b2
  · rw [eT] at hk; rw [hF.2 _ _ (by unfold PTl; omega), hM.1]; exact b4 k hk
def gA (w m : Wd) (c p : Nat) : Prop := w.1 c 0 = m.1 20 p ∧ w.1 c 1 = m.1 21 p ∧ NN (m.1 20 p) 10000 ∧ NN (m.1 21 p) 10000
def gB (w m : Wd) (c p : Nat) : Prop := w.1 c 2 = m.1 22 p ∧ (∀ i, nPe m ≤ i → i < 32 → bt (m.1 22 p) i = false) ∧ fb_ct (bt (m.1 22 p)) 8 ≤ 3
def gC (w m : Wd) (c p : Nat) : Prop := w.1 c 3 = hrS m p ∧ NN (m.1 24 p) 5 ∧ (∀ h, h < nHe m p → NN (m.1 36 (4 * p + h)) (nPe m)) ∧ fb_ct (bt (hrS m p)) 8 = nHe m p
def gD (w m : Wd) (c p : Nat) : Prop := (w.1 c 4 = m.1 31 p ∧ (m.1 31 p = 0 ∨ m.1 31 p = 1)) ∧ w.1 c 5 = m.1 25 p ∧ (∀ i, p ≤ i → i < 32 → bt (m.1 25 p) i = false)
def gW (w m : Wd) (c p : Nat) : Prop := w.1 c 6 = m.1 26 p ∧ (∀ i, p ≤ i → i < 32 → bt (m.1 26 p) i = false)
def gV (w m : Wd) (c p : Nat) : Prop := w.1 c 7 = m.1 27 p ∧ (m.1 27 p = -1 ∨ NN (m.1 27 p) p)
def gE (w m : Wd) (c p : Nat) : Prop := w.1 c 8 = m.1 23 p ∧ NN (m.1 23 p) 9 ∧ (∀ g, g < nGi m p → w.1 (c + 1) g = m.1 32 (8 * p + g) ∧ w.1 (c + 2) g = m.1 33 (8 * p + g) ∧ w.1 (c + 3) g = m.1 34 (8 * p + g) ∧ PIF w m c p g) ∧ (∀ g, g < nGi m p → PAPg m p g) ∧ RB (w.1 c 15) (fun t => anyF (fun g => decide (m.1 32 (8 * p + g) = nI t)) (nGi m p))
def gF0 (w m : Wd) (c p : Nat) : Prop := (bt (w.1 c 14) 0 = decide (¬ m.1 28 p = 0) ∧ bt (w.1 c 14) 1 = decide (¬ m.1 29 p = 0) ∧ bt (w.1 c 14) 2 = decide (¬ m.1 30 p = 0)) ∧ (m.1 28 p = 0 ∨ m.1 28 p = 1) ∧ (m.1 29 p = 0 ∨ m.1 29 p = 1) ∧ (m.1 30 p = 0 ∨ m.1 30 p = 1) ∧ bt (w.1 c 14) 0 = bt (m.1 0 69) 1 ∧ bt (w.1 c 14) 1 = bt (m.1 0 69) 2 ∧ bt (w.1 c 14) 2 = bt (m.1 0 69) 3 ∧ bt (w.1 c 14) 3 = bt (m.1 0 69) 0 ∧ bt (w.1 c 14) 4 = bt (m.1 0 69) 4 ∧ bt (w.1 c 14) 5 = bt (m.1 0 69) 5
def gF (w m : Wd) (c p : Nat) : Prop := gF0 w m c p ∧ (bt (m.1 0 69) 4 = false → m.1 24 p = 0)
def gG (w m : Wd) (c p : Nat) : Prop := w.1 c 16 = gnS m p
def PPR (w m : Wd) (c p : Nat) : Prop := gA w m c p ∧ gB w m c p ∧ gC w m c p ∧ gD w m c p ∧ gW w m c p ∧ gV w m c p ∧ gE w m c p ∧ gF w m c p ∧ gG w m c p
theorem hr_cg {m m' : Wd} {p : Nat} (h : ∀ k, m'.1 36 k = m.1 36 k) : ∀ n, hrF m' p n = hrF m p n
  | 0 => rfl
  | n + 1 => by
    show hrF m' p n ||| 1 <<< (m'.1 36 (4 * p + n) &&& 31) = hrF m p n ||| 1 <<< (m.1 36 (4 * p + n) &&& 31)
    rw [hr_cg h n, h]
theorem hrS_cg {m m' : Wd} {p : Nat} (h : ∀ k, m'.1 36 k = m.1 36 k) (h2 : m'.1 24 p = m.1 24 p) : hrS m' p = hrS m p := by
  unfold hrS nHe; rw [h2, hr_cg h]
theorem gn_cg {m m' : Wd} {p : Nat} (h : hrS m' p = hrS m p) : ∀ n, (∀ k, k < n → m'.1 34 (8 * p + k) = m.1 34 (8 * p + k)) → gnF m' p n = gnF m p n
  | 0, _ => h
  | n + 1, k => by
    show gnF m' p n ||| 1 <<< (m'.1 34 (8 * p + n) &&& 31) = gnF m p n ||| 1 <<< (m.1 34 (8 * p + n) &&& 31)
    rw [gn_cg h n (fun j hj => k j (by omega)), k n (by omega)]
section
variable {w m w' m' : Wd} {c p : Nat} {P Q R : Nat → Nat → Prop}
theorem gA.fr (h : gA w m c p) (hF : FXL P Q w w') (hM : FX R m m') (h1 : ¬ P c 0) (h2 : ¬ P c 1) (h3 : ¬ R 20 p) (h4 : ¬ R 21 p) : gA w' m' c p := by
  unfold gA; rw [hF.1 _ _ h1, hF.1 _ _ h2, hM.2 _ _ h3, hM.2 _ _ h4]; exact h
theorem gB.fr (h : gB w m c p) (hF : FXL P Q w w') (hM : FX R m m') (h1 : ¬ P c 2) (h3 : ¬ R 22 p) (h4 : ¬ R 0 11) : gB w' m' c p := by
  unfold gB nPe; rw [hF.1 _ _ h1, hM.2 _ _ h3, hM.2 _ _ h4]; exact h
theorem gC.fr (h : gC w m c p) (hF : FXL P Q w w') (hM : FX R m m') (h1 : ¬ P c 3) (h3 : ¬ R 24 p) (h4 : ¬ R 0 11) (h5 : ∀ k, ¬ R 36 k) : gC w' m' c p := by
  have e := hrS_cg (fun k => hM.2 36 k (h5 k)) (hM.2 24 p h3)
  obtain ⟨a1, a2, a3, a4⟩ := h
  have en : nHe m' p = nHe m p := by unfold nHe; rw [hM.2 _ _ h3]
  refine ⟨?_, ?_, fun h hh => ?_, ?_⟩
  · rw [hF.1 _ _ h1, e]; exact a1
  · rw [hM.2 _ _ h3]; exact a2
  · rw [en] at hh
    unfold nPe
    rw [hM.2 _ _ (h5 _), hM.2 _ _ h4]; exact a3 h hh
  · rw [e, en]; exact a4
theorem gD.fr (h : gD w m c p) (hF : FXL P Q w w') (hM : FX R m m') (h1 : ¬ P c 4) (h2 : ¬ P c 5) (h3 : ¬ R 31 p) (h4 : ¬ R 25 p) : gD w' m' c p := by
  unfold gD; rw [hF.1 _ _ h1, hF.1 _ _ h2, hM.2 _ _ h3, hM.2 _ _ h4]; exact h
theorem gW.fr (h : gW w m c p) (hF : FXL P Q w w') (hM : FX R m m') (h1 : ¬ P c 6) (h4 : ¬ R 26 p) : gW w' m' c p := by
  unfold gW; rw [hF.1 _ _ h1, hM.2 _ _ h4]; exact h
theorem gV.fr (h : gV w m c p) (hF : FXL P Q w w') (hM : FX R m m') (h1 : ¬ P c 7) (h4 : ¬ R 27 p) : gV w' m' c p := by
  unfold gV; rw [hF.1 _ _ h1, hM.2 _ _ h4]; exact h
theorem gE.fr (h : gE w m c p) (hF : FXL P Q w w') (hM : FX R m m') (h1 : ¬ P c 8) (h2 : ¬ P c 15) (h3 : ∀ a k, c < a → a ≤ c + 5 → ¬ P a k) (h4 : ¬ R 23 p) (h5 : ∀ a k, (32 ≤ a ∧ a ≤ 35) ∨ a = 37 → ¬ R a k) (h6 : ¬ R 0 11) (h7 : ¬ R 0 12) : gE w' m' c p := by
  have en : nGi m' p = nGi m p := by unfold nGi; rw [hM.2 _ _ h4]
  unfold gE PIF PAPg nPe nTh at h ⊢
  rw [en]
  simp (disch := first | assumption | omega) only [hF.1 c 8 h1, hF.1 c 15 h2, hM.2 23 p h4, hM.2 0 11 h6, hM.2 0 12 h7, fun k => hF.1 (c + 1) k (h3 _ _ (by omega) (by omega)), fun k => hF.1 (c + 2) k (h3 _ _ (by omega) (by omega)), fun k => hF.1 (c + 3) k (h3 _ _ (by omega) (by omega)), fun k => hF.1 (c + 4) k (h3 _ _ (by omega) (by omega)), fun k => hF.1 (c + 5) k (h3 _ _ (by omega) (by omega)), fun k => hM.2 32 k (h5 _ _ (by omega)), fun k => hM.2 33 k (h5 _ _ (by omega)), fun k => hM.2 34 k (h5 _ _ (by omega)), fun k => hM.2 35 k (h5 _ _ (by omega)), fun k => hM.2 37 k (h5 _ _ (by omega))]
  exact h
theorem gF.fr (h : gF w m c p) (hF : FXL P Q w w') (hM : FX R m m') (h1 : ¬ P c 14) (h3 : ¬ R 28 p) (h4 : ¬ R 29 p) (h5 : ¬ R 30 p) (h6 : ¬ R 0 69) (h7 : ¬ R 24 p) : gF w' m' c p := by
  unfold gF gF0; rw [hF.1 _ _ h1, hM.2 _ _ h3, hM.2 _ _ h4, hM.2 _ _ h5, hM.2 _ _ h6, hM.2 _ _ h7]; exact h
theorem gF.f4 (h : gF w m c p) (hF : FXL P Q w w') (hM : FX R m m') (h1 : ¬ P c 14) (h3 : ¬ R 28 p) (h4 : ¬ R 29 p) (h5 : ¬ R 30 p) (h6 : ¬ R 0 69) (h7 : bt (m.1 0 69) 4 = true) : gF w' m' c p := by
  unfold gF gF0; rw [hF.1 _ _ h1, hM.2 _ _ h3, hM.2 _ _ h4, hM.2 _ _ h5, hM.2 _ _ h6]; exact ⟨h.1, fun q => by rw [h7] at q; cases q⟩
theorem gG.fr (h : gG w m c p) (hF : FXL P Q w w') (hM : FX R m m') (h1 : ¬ P c 16) (h2 : ¬ R 24 p) (h3 : ∀ k, ¬ R 36 k) (h4 : ¬ R 23 p) (h5 : ∀ k, ¬ R 34 k) : gG w' m' c p := by
  unfold gG gnS nGi
  rw [hF.1 _ _ h1, hM.2 _ _ h4, gn_cg (hrS_cg (fun k => hM.2 36 k (h3 k)) (hM.2 24 p h2)) _ (fun k _ => hM.2 34 _ (h5 _))]
  exact h
theorem PPR.fr (h : PPR w m c p) (hc : 57 ≤ c) (hF : FXL PTC PTl w w') (hM : FX PTM m m') : PPR w' m' c p := by
  obtain ⟨h1, h2, h3, h4, h5, h6, h7, h8, h9⟩ := h
  refine ⟨h1.fr hF hM ?_ ?_ ?_ ?_, h2.fr hF hM ?_ ?_ ?_, h3.fr hF hM ?_ ?_ ?_ (fun k => ?_), h4.fr hF hM ?_ ?_ ?_ ?_, h5.fr hF hM ?_ ?_, h6.fr hF hM ?_ ?_, h7.fr hF hM ?_ ?_ (fun a k _ _ => ?_) ?_ (fun a k _ => ?_) ?_ ?_, h8.fr hF hM ?_ ?_ ?_ ?_ ?_ ?_, h9.fr hF hM ?_ ?_ (fun k => ?_) ?_ (fun k => ?_)⟩ <;> (first | (unfold PTC; omega) | (unfold PTM; omega))
end
/-! small frames of what is read -/
section
variable {w m : Wd}
theorem FT.c (h : FT w m) {a k : Nat} {v : Int32} (ha : ¬ a = 1) : FT (wI w a k v) m := by
  obtain ⟨⟨h1, h2⟩, h3, h4⟩ := h
  have e : ∀ j, (wI w a k v).1 1 j = w.1 1 j := fun j => by rw [wI_g, if_neg (by omega)]
  refine ⟨⟨?_, ?_⟩, ?_, ?_⟩
  · rw [e]; exact h1
  · rw [e]; exact h2
  · rw [e]; exact h3
  · rw [e]; exact h4
theorem GR.c (h : GR w m) {a k : Nat} {v : Int32} (ha : ¬ a = 1) (ha2 : ¬ a = 2) : GR (wI w a k v) m := by
  obtain ⟨⟨n, f, e, h1, h2, h3, h4, h5, h6, h7, h8, h9, h10, h11, h12, h13, h14, h15, h16⟩, g1, g2, g3⟩ := h
  have q : ∀ j, (wI w a k v).1 1 j = w.1 1 j := fun j => by rw [wI_g, if_neg (by omega)]
  have q2 : (wI w a k v).1 2 = w.1 2 := funext fun j => by rw [wI_g, if_neg (by omega)]
  refine ⟨⟨n, f, e, h1, h2, h3, ?_, h5, ?_, h7, ?_, h9, ?_, h11, ?_, ?_, ?_, h15, h16⟩, ?_, g2, g3⟩
  · rw [q2]; exact h4
  · rw [q]; exact h6
  · rw [q]; exact h8
  · rw [q]; exact h10
  · rw [q]; exact h12
  · rw [q]; exact h13
  · rw [q]; exact h14
  · rw [q]; exact g1
theorem GR.r (h : GR w m) {a k : Nat} {v : Int32} (ha : 2 ≤ a ∨ (a = 0 ∧ 10 ≤ k)) : GR w (wI m a k v) := by
  obtain ⟨⟨n, f, e, h1, h2, h3, h4, h5, h6, h7, h8, h9, h10, h11, h12, h13, h14, h15, h16⟩, g1, g2, g3⟩ := h
  have b1 : (wI m a k v).1 1 = m.1 1 := funext fun j => by rw [wI_g, if_neg (by omega)]
  have b0 : ∀ j, j < 10 → (wI m a k v).1 0 j = m.1 0 j := fun j hj => by rw [wI_g, if_neg (by omega)]
  refine ⟨⟨n, f, e, h1, h2, h3, ?_, ?_, h6, ?_, h8, ?_, h10, ?_, ?_, h13, ?_, ?_, ?_⟩, g1, ?_, ?_⟩
  · rw [b1]; exact h4
  · rw [b1]; exact h5
  · rw [b0 _ (by omega)]; exact h7
  · rw [b0 _ (by omega)]; exact h9
  · rw [b0 _ (by omega)]; exact h11
  · rw [b0 _ (by omega)]; exact h12
  · rw [b0 5 (by omega), b0 6 (by omega)]; exact h14
  · rw [b0 5 (by omega), b1]; exact h15
  · rw [b0 5 (by omega)]; exact h16
  · rw [b0 _ (by omega)]; exact g2
  · rw [b0 _ (by omega)]; exact g3
theorem PTG_r {a k : Nat} {v : Int32} (ha : 2 ≤ a ∨ (a = 0 ∧ 10 ≤ k)) : PTG (wI m a k v) = PTG m := by unfold PTG; rw [wI_g, if_neg (by omega)]
theorem TW_r {a k : Nat} {v : Int32} (ha : 2 ≤ a ∨ (a = 0 ∧ 10 ≤ k)) : TW (wI m a k v) = TW m := by
  unfold TW
  rw [show (wI m a k v).1 1 = m.1 1 from funext fun j => by rw [wI_g, if_neg (by omega)], wI_g, if_neg (show ¬ (0 = a ∧ 5 = k) by omega), wI_g, if_neg (show ¬ (0 = a ∧ 3 = k) by omega), wI_g, if_neg (show ¬ (0 = a ∧ 4 = k) by omega)]
end
/-- a clause in step -/
def CLA (c p : Nat) (w m : Wd) (x : Option Wd) (y : Option (Int32 × Wd)) : Prop := ∃ w' m', x = some w' ∧ FXL (PRD c) PTl w w' ∧ FX (PRR p) m m' ∧ ((y = some (1, m') ∧ GR w' m' ∧ PTG m ≤ PTG m' ∧ PPR w' m' c p) ∨ (y = some (0, m') ∧ FT w' m'))
theorem z_mk (x : Int32) (i : Nat) (hi : i < 6) : (x &&& nI (2 ^ i) = 0) ↔ bt x i = false := by
  have e : nI (2 ^ i) = 1 <<< (nI i &&& 31) := by
    have : ∀ i, i < 6 → nI (2 ^ i) = 1 <<< (nI i &&& 31) := by decide
    exact this i hi
  rw [e]; exact z_ts (by omega)
theorem z_2i : ∀ i, i < 6 → ∀ j, j < 6 → bt (nI (2 ^ i)) j = decide (j = i) := by decide +kernel
