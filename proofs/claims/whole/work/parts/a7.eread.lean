/-! reading an estate: what holds between clauses -/
-- PTC PTM PED PEM
def PED (a k : Nat) : Prop := PTC a k ∨ (44 ≤ a ∧ a ≤ 56)
def QED (a k : Nat) : Prop := PTl a k ∨ a = 46 ∨ a = 48 ∨ a = 50
def PEM (a k : Nat) : Prop := PTM a k ∨ (a = 0 ∧ 26 ≤ k ∧ k ≤ 36) ∨ (14 ≤ a ∧ a ≤ 19)
def QEM (a _k : Nat) : Prop := 11 ≤ a ∧ a ≤ 13
theorem PTC_E {w w' : Wd} (h : FXL PTC PTl w w') : FXL PED QED w w' := h.mo (fun a k q => Or.inl q) (fun a k q => Or.inl q)
theorem PTM_E {w w' : Wd} (h : FX PTM w w') : FXL PEM QEM w w' := FX.xl (h.mo (fun a k q => Or.inl q))
def rL (m : Wd) : Nat := (m.1 0 26).toNatClampNeg
def rP (m : Wd) : Nat := (m.1 0 27).toNatClampNeg
def rT (m : Wd) : Nat := (m.1 0 28).toNatClampNeg
def dN (w m : Wd) : Prop := (m.1 0 26 = nI (rL m) ∧ rL m ≤ 4 ∧ w.1 45 1 = m.1 0 26 ∧ ∀ k, k < rL m → w.2 46 k = m.2 11 k) ∧ (m.1 0 27 = nI (rP m) ∧ rP m ≤ 8 ∧ w.1 47 1 = m.1 0 27 ∧ ∀ k, k < rP m → w.2 48 k = m.2 12 k) ∧ (m.1 0 28 = nI (rT m) ∧ rT m ≤ 8 ∧ w.1 49 1 = m.1 0 28 ∧ ∀ k, k < rT m → w.2 50 k = m.2 13 k)
def dR (w m : Wd) : Prop := (∀ k, k < 13 * rL m → w.1 51 k = m.1 14 k) ∧ ∀ l, l < rL m → NN (m.1 14 (13 * l + 11)) 4 ∧ (NN (m.1 14 (13 * l + 12)) 4 ∧ ¬ m.1 14 (13 * l + 12) = 1) ∧ NN (m.1 14 (13 * l + 9)) 101 ∧ NN (m.1 14 (13 * l + 10)) 91
def dPk (w m : Wd) (k : Nat) : Prop := (w.1 52 k = m.1 15 k ∧ w.1 53 k = m.1 16 k ∧ bt (w.1 44 10) k = decide (¬ m.1 19 k = 0) ∧ w.1 56 k = 0) ∧ (m.1 19 k = 0 ∨ m.1 19 k = 1) ∧ NN (m.1 15 k) 4 ∧ (m.1 16 k = -1 ∨ NN (m.1 16 k) k) ∧ (m.1 15 k = 1 → m.1 16 k = -1)
def dP (w m : Wd) : Prop := (∀ k, k < rP m → dPk w m k) ∧ (∀ k, rP m ≤ k → k < 32 → bt (w.1 44 10) k = false) ∧ w.1 44 9 = 0
def dTk (w m : Wd) (k : Nat) : Prop := (w.1 54 k = m.1 17 k ∧ w.1 55 k = m.1 18 k) ∧ (∃ v, 1 ≤ v ∧ v ≤ 9999 ∧ m.1 17 k = nI v) ∧ (m.1 18 k = -1 ∨ NN (m.1 18 k) (rL m))
def dT (w m : Wd) : Prop := ∀ k, k < rT m → dTk w m k
def dSk (w m : Wd) (j : Nat) : Prop := bt (w.1 44 18) j = bt (m.1 0 36) j ∧ (bt (m.1 0 36) j = true → w.1 44 (12 + j) = m.1 0 (31 + j) ∧ NN (m.1 0 (31 + j)) (rL m)) ∧ (bt (m.1 0 36) j = false → w.1 44 (12 + j) = -1 ∧ m.1 0 (31 + j) = 0)
def dS (w m : Wd) : Prop := ∀ j, j < 3 → dSk w m j
def dA (w m : Wd) : Prop := ∀ j, j < 2 → bt (w.1 44 18) (3 + j) = bt (m.1 0 36) (3 + j) ∧ w.1 44 (15 + j) = m.1 0 (29 + j) ∧ NN (m.1 0 (29 + j)) 100000
def dW (w m : Wd) : Prop := w.1 44 11 = m.1 0 34 ∧ (m.1 0 34 = -1 ∨ NN (m.1 0 34) (rP m))
def dC (w m : Wd) : Prop := w.1 44 17 = m.1 0 35
def DR (w m : Wd) : Prop := dN w m ∧ dR w m ∧ dP w m ∧ dT w m ∧ dS w m ∧ dA w m ∧ dW w m ∧ dC w m
section
variable {w m w' m' : Wd}
/-- alike in all that is read of an estate -/
theorem DR.cg (h : DR w m) (h1 : ∀ a k, 44 ≤ a → a ≤ 56 → w'.1 a k = w.1 a k) (h2 : ∀ a k, a = 46 ∨ a = 48 ∨ a = 50 → w'.2 a k = w.2 a k) (h3 : ∀ a k, (a = 0 ∧ 26 ≤ k ∧ k ≤ 36) ∨ (14 ≤ a ∧ a ≤ 19) → m'.1 a k = m.1 a k) (h4 : ∀ a k, 11 ≤ a → a ≤ 13 → m'.2 a k = m.2 a k) : DR w' m' := by
  obtain ⟨a1, a2, a3, a4, a5, a6, a7, a8⟩ := h
  have eL : rL m' = rL m := by unfold rL; rw [h3 0 26 (by omega)]
  have eP : rP m' = rP m := by unfold rP; rw [h3 0 27 (by omega)]
  have eT : rT m' = rT m := by unfold rT; rw [h3 0 28 (by omega)]
  refine ⟨?_, ?_, ?_, ?_, ?_, ?_, ?_, ?_⟩
  · unfold dN at a1 ⊢
    rw [eL, eP, eT, h3 0 26 (by omega), h3 0 27 (by omega), h3 0 28 (by omega), h1 45 1 (by omega) (by omega), h1 47 1 (by omega) (by omega), h1 49 1 (by omega) (by omega)]
    simp only [fun k => h2 46 k (by omega), fun k => h2 48 k (by omega), fun k => h2 50 k (by omega), fun k => h4 11 k (by omega) (by omega), fun k => h4 12 k (by omega) (by omega), fun k => h4 13 k (by omega) (by omega)]
    exact a1
  · unfold dR at a2 ⊢
    rw [eL]
    simp only [fun k => h1 51 k (by omega) (by omega), fun k => h3 14 k (by omega)]
    exact a2
  · unfold dP dPk at a3 ⊢
    rw [eP]
    simp only [fun a k => h1 52 k (by omega) (by omega), fun k => h1 52 k (by omega) (by omega), fun k => h1 53 k (by omega) (by omega), fun k => h1 44 k (by omega) (by omega), fun k => h1 56 k (by omega) (by omega), fun k => h3 15 k (by omega), fun k => h3 16 k (by omega), fun k => h3 19 k (by omega)]
    exact a3
  · unfold dT dTk at a4 ⊢
    rw [eT, eL]
    simp only [fun k => h1 54 k (by omega) (by omega), fun k => h1 55 k (by omega) (by omega), fun k => h3 17 k (by omega), fun k => h3 18 k (by omega)]
    exact a4
  · intro j hj
    have := a5 j hj
    unfold dSk at this ⊢
    rw [eL, h1 44 18 (by omega) (by omega), h1 44 (12 + j) (by omega) (by omega), h3 0 36 (by omega), h3 0 (31 + j) (by omega)]
    exact this
  · intro j hj
    have := a6 j hj
    rw [h1 44 18 (by omega) (by omega), h1 44 (15 + j) (by omega) (by omega), h3 0 36 (by omega), h3 0 (29 + j) (by omega)]
    exact this
  · unfold dW at a7 ⊢
    rw [eP, h1 44 11 (by omega) (by omega), h3 0 34 (by omega)]
    exact a7
  · unfold dC at a8 ⊢
    rw [h1 44 17 (by omega) (by omega), h3 0 35 (by omega)]
    exact a8
theorem DR.fr (h : DR w m) (hF : FXL PTC PTl w w') (hM : FX PTM m m') : DR w' m' := h.cg (fun a k h1 h2 => hF.1 a k (by simp only [PED, PEM, PTC, PTM, and_true, true_and, or_true, true_or, and_self] <;> omega)) (fun a k q => hF.2 a k (by unfold PTl; omega)) (fun a k q => hM.2 a k (by simp only [PED, PEM, PTC, PTM, and_true, true_and, or_true, true_or, and_self] <;> omega)) (fun a k _ _ => by rw [hM.1])
end
/-- the outcome of a clause -/
def ECL (w m : Wd) (x : Option Wd) (y : Option (Int32 × Wd)) : Prop := ∃ w' m', x = some w' ∧ FXL PED QED w w' ∧ FXL PEM QEM m m' ∧ ((y = some (1, m') ∧ GR w' m' ∧ PTG m ≤ PTG m' ∧ DR w' m') ∨ (y = some (0, m') ∧ FT w' m') ∨ (y = some (1, m') ∧ ¬ m'.1 0 5 = 3 ∧ FLT w' ∧ w'.1 1 4 = 1 ∧ w'.1 1 5 = m'.1 0 3))
theorem ECL.tr {w0 m0 w m : Wd} {x : Option Wd} {y : Option (Int32 × Wd)} (hF : FXL PED QED w0 w) (hM : FXL PEM QEM m0 m) (hp : PTG m0 ≤ PTG m) (h : ECL w m x y) : ECL w0 m0 x y := by
  obtain ⟨w', m', e1, hF1, hM1, hr⟩ := h
  refine ⟨w', m', e1, hF.tr hF1, hM.tr hM1, ?_⟩
  rcases hr with ⟨e2, hG, hg, hP⟩ | q
  · exact Or.inl ⟨e2, hG, by omega, hP⟩
  · exact Or.inr q
section
variable {w m : Wd}
theorem GR.lg (h : GR w m) {a k : Nat} {v : Int64} (ha : ¬ a = 1) : GR (wG w a k v) m := by
  obtain ⟨⟨n, f, e, h1, h2, h3, h4, h5, h6, h7, h8, h9, h10, h11, h12, h13, h14, h15, h16⟩, g1, g2, g3⟩ := h
  refine ⟨⟨n, f, e, h1, h2, h3, h4, h5, h6, h7, h8, h9, h10, h11, h12, h13, h14, fun q => ?_, h16⟩, g1, g2, g3⟩
  rw [wG_g, if_neg (by omega)]
  exact h15 q
theorem GR.rg (h : GR w m) {a k : Nat} {v : Int64} : GR w (wG m a k v) := h
theorem PTG_rg {a k : Nat} {v : Int64} : PTG (wG m a k v) = PTG m := rfl
/-- clauses told once: a seat -/
theorem q_eonce (h : GR w m) {j : Nat} (hj : j < 5) (hb : bt (w.1 44 18) j = bt (m.1 0 36) j) : (bt (m.1 0 36) j = true ∧ ∃ w' m', f_X0_passOnce (nI (2 ^ j)) w = some w' ∧ f_X12_bad 3 m = some (0, m') ∧ FT w' m' ∧ FXL PED QED w w' ∧ FX PTM m m') ∨ (bt (m.1 0 36) j = false ∧ ∃ w' m', f_X0_passOnce (nI (2 ^ j)) w = some w' ∧ f_X12_scan (wI m 0 36 (m.1 0 36 ||| (1 <<< (nI j &&& 31)))) = some m' ∧ GR w' m' ∧ PTG m ≤ PTG m' ∧ w'.1 44 18 = w.1 44 18 ||| nI (2 ^ j) ∧ m'.1 0 36 = m.1 0 36 ||| (1 <<< (nI j &&& 31)) ∧ FXL (fun a k => PTC a k ∨ (a = 44 ∧ k = 18)) PTl w w' ∧ FX (fun a k => PTM a k ∨ (a = 0 ∧ k = 36)) m m') := by
  unfold f_X0_passOnce X0_passOnce_b14
  cases hj' : bt (m.1 0 36) j
  · refine Or.inr ⟨rfl, ?_⟩
    rw [if_pos ((z_mk _ _ (by omega)).mpr (hb.trans hj')), lt_s']
    obtain ⟨w', m', e1, e2, hG, hp, -, hF, hM⟩ := q_step ((h.c (a := 44) (k := 18) (v := w.1 44 18 ||| nI (2 ^ j)) (by omega) (by omega)).r (a := 0) (k := 36) (v := m.1 0 36 ||| (1 <<< (nI j &&& 31))) (by omega))
    rw [e1, cv_s]
    refine ⟨w', m', rfl, e2, hG, ?_, ?_, ?_, ?_, ?_⟩
    · rw [PTG_r (by omega)] at hp; exact hp
    · rw [hF.1 _ _ (by simp only [PED, PEM, PTC, PTM, and_true, true_and, or_true, true_or, and_self] <;> omega), wI_s]
    · rw [hM.2 _ _ (by simp only [PED, PEM, PTC, PTM, and_true, true_and, or_true, true_or, and_self] <;> omega), wI_s]
    · exact (FXL.w w _ (Or.inr ⟨rfl, rfl⟩)).tr (hF.mo (fun a k q => Or.inl q) (fun a k q => q))
    · exact (FX.w m _ (Or.inr ⟨rfl, rfl⟩)).tr (hM.mo (fun a k q => Or.inl q))
  · refine Or.inl ⟨rfl, ?_⟩
    rw [if_neg (fun q => by rw [z_mk _ _ (by omega), hb, hj'] at q; cases q)]
    obtain ⟨w', m', e1, e2, hf, hF, hM⟩ := q_fail h (k := 3) (by decide)
    rw [e1, cv_s, lt_s', zf_step (hf.c (a := 44) (k := 18) (by omega)).1, cv_s]
    exact ⟨_, m', rfl, e2, hf.c (by omega), (PTC_E hF).tr (FXL.w _ _ (by simp only [PED, PEM, PTC, PTM, and_true, true_and, or_true, true_or, and_self] <;> omega)), hM⟩
theorem dS_or {w' m' : Wd} {x y : Int32} {j : Nat} (hj : j < 5) (h1 : w'.1 44 18 = w.1 44 18 ||| nI (2 ^ j)) (h2 : m'.1 0 36 = m.1 0 36 ||| (1 <<< (nI j &&& 31))) : (∀ i, i < 5 → bt (w'.1 44 18) i = (bt (w.1 44 18) i || decide (i = j))) ∧ ∀ i, i < 5 → bt (m'.1 0 36) i = (bt (m.1 0 36) i || decide (i = j)) :=
  ⟨fun i hi => by rw [h1, b_or, z_2i j (by omega) i (by omega)], fun i hi => by rw [h2, b_or, z_one (by omega) (by omega)]⟩
end
