/-! the reference takes over what it read -/
def CPx (m u : Wd) (nl nr np nt : Nat) : Prop := (∀ a k, ¬ (2 ≤ a ∧ a ≤ 7) → u.1 a k = m.1 a k) ∧ (∀ a k, ¬ (8 ≤ a ∧ a ≤ 10) → u.2 a k = m.2 a k) ∧ (∀ k, k < nr → u.1 2 k = m.1 14 k) ∧ (∀ k, k < nl → u.2 8 k = m.2 11 k) ∧ (∀ k, k < np → u.1 3 k = m.1 15 k ∧ u.1 4 k = m.1 16 k ∧ u.1 7 k = m.1 19 k ∧ u.2 9 k = m.2 12 k) ∧ (∀ k, k < nt → u.1 5 k = m.1 17 k ∧ u.1 6 k = m.1 18 k ∧ u.2 10 k = m.2 13 k)
def FinE (u : Wd) : Option (Int32 × Wd) := lt (wI u 0 49 0) fun w14 => lt (wI w14 0 50 0) fun w15 => lt (wI w15 0 99 0) fun w16 => cv (f_X12_findOrders w16) fun w17 => some (w17.1 0 13, w17)
section
variable {m : Wd}
theorem CPx.i {u : Wd} {nl nr np nt a k : Nat} (h : CPx m u nl nr np nt) (q : ¬ (2 ≤ a ∧ a ≤ 7)) : u.1 a k = m.1 a k := h.1 a k q
theorem zm_copy {P : Int32 × Wd → Prop} {nL nP nT : Nat} (h10 : m.1 0 10 = nI nL) (h11 : m.1 0 11 = nI nP) (h12 : m.1 0 12 = nI nT) (hL : nL ≤ 4) (hP : nP ≤ 8) (hT : nT ≤ 8) (hd : ∀ k, k < nP → m.1 19 k = 0 ∨ m.1 19 k = 1) (hfin : ∀ u, CPx m u nL (13 * nL) nP nT → OK (FinE u) P) : OK (X12_estate_b95_L 0 m) P := by
  have things : ∀ u0, CPx m u0 nL (13 * nL) nP 0 → OK (X12_estate_b223_L 0 u0) P := by
    intro u0 h0
    refine lo2 (fun n y u => ∃ i, n = nT - i ∧ i ≤ nT ∧ y = nI i ∧ CPx m u nL (13 * nL) nP i) ?_ fu (nT - 0) 0 u0 (by rw [fu_eq]; omega) ⟨0, rfl, Nat.zero_le _, rfl, h0⟩
    rintro n k y u ⟨i, rfl, hi, rfl, h⟩ hk
    rw [X12_estate_b223, h.i (show ¬ (2 ≤ 0 ∧ 0 ≤ 7) by omega), h12]
    by_cases c : i < nT
    · have i8 := z_inb (show i < 8 by omega) (show 8 < 2 ^ 31 by omega)
      refine OK.f (nI_ge c (by omega)) (OK.t i8 (OK.t i8 ?_))
      rw [nI_clamp (n := i) (by omega)]
      refine OK.l (OK.t i8 (OK.t i8 (OK.l (OK.t i8 (OK.t i8 (OK.l (hk _ _ _ (by omega) ⟨i + 1, rfl, c, nI_1 i, ?_⟩)))))))
      obtain ⟨a1, a2, a3, a4, a5, a6⟩ := h
      have r17 : (wG u 10 i (u.2 13 i)).1 17 i = m.1 17 i := a1 17 i (by omega)
      have r18 : (wI (wG u 10 i (u.2 13 i)) 5 i ((wG u 10 i (u.2 13 i)).1 17 i)).1 18 i = m.1 18 i := by rw [wI_g, if_neg (by omega)]; exact a1 18 i (by omega)
      rw [r17] at r18 ⊢
      rw [r18, a2 13 i (by omega)]
      refine ⟨fun a k q => ?_, fun a k q => ?_, fun k hk => ?_, fun k hk => ?_, fun k hk => ?_, fun k hk => ?_⟩
      · rw [wI_g, if_neg (by omega), wI_g, if_neg (by omega), wG_1]; exact a1 a k q
      · rw [wI_2, wI_2, wG_g, if_neg (by omega)]; exact a2 a k q
      · rw [wI_g, if_neg (by omega), wI_g, if_neg (by omega), wG_1]; exact a3 k hk
      · rw [wI_2, wI_2, wG_g, if_neg (by omega)]; exact a4 k hk
      · obtain ⟨b1, b2, b3, b4⟩ := a5 k hk
        refine ⟨?_, ?_, ?_, ?_⟩
        · rw [wI_g, if_neg (by omega), wI_g, if_neg (by omega), wG_1]; exact b1
        · rw [wI_g, if_neg (by omega), wI_g, if_neg (by omega), wG_1]; exact b2
        · rw [wI_g, if_neg (by omega), wI_g, if_neg (by omega), wG_1]; exact b3
        · rw [wI_2, wI_2, wG_g, if_neg (by omega)]; exact b4
      · by_cases q : k = i
        · subst q
          refine ⟨?_, ?_, ?_⟩
          · rw [wI_g, if_neg (by omega), wI_s]
          · rw [wI_s]
          · rw [wI_2, wI_2, wG_g, if_pos ⟨rfl, rfl⟩]
        · obtain ⟨b1, b2, b3⟩ := a6 k (by omega)
          refine ⟨?_, ?_, ?_⟩
          · rw [wI_g, if_neg (by omega), wI_g, if_neg (by omega), wG_1]; exact b1
          · rw [wI_g, if_neg (by omega), wI_g, if_neg (by omega), wG_1]; exact b2
          · rw [wI_2, wI_2, wG_g, if_neg (by omega)]; exact b3
    · have e : i = nT := by omega
      subst e
      exact OK.t (nI_le (Nat.le_refl _) (by omega)) (hfin u h)
  have people : ∀ u0, CPx m u0 nL (13 * nL) 0 0 → OK (X12_estate_b159_L 0 u0) P := by
    intro u0 h0
    refine lo2 (fun n y u => ∃ i, n = nP - i ∧ i ≤ nP ∧ y = nI i ∧ CPx m u nL (13 * nL) i 0) ?_ fu (nP - 0) 0 u0 (by rw [fu_eq]; omega) ⟨0, rfl, Nat.zero_le _, rfl, h0⟩
    rintro n k y u ⟨i, rfl, hi, rfl, h⟩ hk
    rw [X12_estate_b159, h.i (show ¬ (2 ≤ 0 ∧ 0 ≤ 7) by omega), h11]
    by_cases c : i < nP
    · have i8 := z_inb (show i < 8 by omega) (show 8 < 2 ^ 31 by omega)
      refine OK.f (nI_ge c (by omega)) (OK.t i8 (OK.t i8 ?_))
      rw [nI_clamp (n := i) (by omega)]
      refine OK.l (OK.t i8 (OK.t i8 (OK.l (OK.t i8 (OK.t i8 (OK.l (OK.t i8 (OK.t i8 (OK.l (hk _ _ _ (by omega) ⟨i + 1, rfl, c, nI_1 i, ?_⟩))))))))))
      obtain ⟨a1, a2, a3, a4, a5, a6⟩ := h
      have r15 : (wG u 9 i (u.2 12 i)).1 15 i = m.1 15 i := a1 15 i (by omega)
      have r16 : ∀ x, (wI (wG u 9 i (u.2 12 i)) 3 i x).1 16 i = m.1 16 i := fun x => by rw [wI_g, if_neg (by omega)]; exact a1 16 i (by omega)
      have r19 : ∀ x y, (wI (wI (wG u 9 i (u.2 12 i)) 3 i x) 4 i y).1 19 i = m.1 19 i := fun x y => by rw [wI_g, if_neg (by omega), wI_g, if_neg (by omega)]; exact a1 19 i (by omega)
      rw [r19, r16, r15, a2 12 i (by omega), nar_01 (hd i c)]
      refine ⟨fun a k q => ?_, fun a k q => ?_, fun k hk => ?_, fun k hk => ?_, fun k hk => ?_, fun k hk => by omega⟩
      · rw [wI_g, if_neg (by omega), wI_g, if_neg (by omega), wI_g, if_neg (by omega), wG_1]; exact a1 a k q
      · rw [wI_2, wI_2, wI_2, wG_g, if_neg (by omega)]; exact a2 a k q
      · rw [wI_g, if_neg (by omega), wI_g, if_neg (by omega), wI_g, if_neg (by omega), wG_1]; exact a3 k hk
      · rw [wI_2, wI_2, wI_2, wG_g, if_neg (by omega)]; exact a4 k hk
      · by_cases q : k = i
        · subst q
          refine ⟨?_, ?_, ?_, ?_⟩
          · rw [wI_g, if_neg (by omega), wI_g, if_neg (by omega), wI_s]
          · rw [wI_g, if_neg (by omega), wI_s]
          · rw [wI_s]
          · rw [wI_2, wI_2, wI_2, wG_g, if_pos ⟨rfl, rfl⟩]
        · obtain ⟨b1, b2, b3, b4⟩ := a5 k (by omega)
          refine ⟨?_, ?_, ?_, ?_⟩
          · rw [wI_g, if_neg (by omega), wI_g, if_neg (by omega), wI_g, if_neg (by omega), wG_1]; exact b1
          · rw [wI_g, if_neg (by omega), wI_g, if_neg (by omega), wI_g, if_neg (by omega), wG_1]; exact b2
          · rw [wI_g, if_neg (by omega), wI_g, if_neg (by omega), wI_g, if_neg (by omega), wG_1]; exact b3
          · rw [wI_2, wI_2, wI_2, wG_g, if_neg (by omega)]; exact b4
    · have e : i = nP := by omega
      subst e
      exact OK.t (nI_le (Nat.le_refl _) (by omega)) (things u h)
  refine lo2 (fun n y u => ∃ i, n = nL - i ∧ i ≤ nL ∧ y = nI i ∧ CPx m u i (13 * i) 0 0) ?_ fu (nL - 0) 0 m (by rw [fu_eq]; omega) ⟨0, rfl, Nat.zero_le _, rfl, fun _ _ _ => rfl, fun _ _ _ => rfl, fun k hk => by omega, fun k hk => by omega, fun k hk => by omega, fun k hk => by omega⟩
  rintro n k y u ⟨i, rfl, hi, rfl, h⟩ hk
  rw [X12_estate_b95, h.i (show ¬ (2 ≤ 0 ∧ 0 ≤ 7) by omega), h10]
  by_cases c : i < nL
  · have i4 := z_inb (show i < 4 by omega) (show 4 < 2 ^ 31 by omega)
    refine OK.f (nI_ge c (by omega)) (OK.t i4 (OK.t i4 ?_))
    rw [nI_clamp (n := i) (by omega)]
    refine OK.l ?_
    have h1 : CPx m (wG u 8 i (u.2 11 i)) (i + 1) (13 * i) 0 0 := by
      obtain ⟨a1, a2, a3, a4, a5, a6⟩ := h
      rw [a2 11 i (by omega)]
      refine ⟨fun a k q => a1 a k q, fun a k q => ?_, a3, fun k hk => ?_, fun k hk => by omega, fun k hk => by omega⟩
      · rw [wG_g, if_neg (by omega)]; exact a2 a k q
      · rw [wG_g]
        by_cases q : k = i
        · rw [if_pos ⟨rfl, q⟩, q]
        · rw [if_neg (by omega)]; exact a4 k (by omega)
    refine lo3 (fun n y1 y2 v => ∃ r, n = 13 - r ∧ r ≤ 13 ∧ y1 = nI i ∧ y2 = nI r ∧ CPx m v (i + 1) (13 * i + r) 0 0) ?_ fu (13 - 0) (nI i) 0 _ (by rw [fu_eq]; omega) ⟨0, rfl, by omega, rfl, rfl, h1⟩
    rintro n k2 y1 y2 v ⟨r, rfl, hr, rfl, rfl, hv⟩ hk2
    rw [X12_estate_b117]
    by_cases cr : r < 13
    · refine OK.f (nI_ge (b := 13) cr (by omega)) ?_
      rw [show (13 : Int32) = nI 13 from rfl, pk_mul, nI_add]
      have i52 := z_inb (show 13 * i + r < 52 by omega) (show 52 < 2 ^ 31 by omega)
      refine OK.t i52 (OK.t i52 ?_)
      rw [nI_clamp (n := 13 * i + r) (by omega)]
      refine OK.l (hk2 _ _ _ _ (by omega) ⟨r + 1, rfl, cr, rfl, nI_1 r, ?_⟩)
      obtain ⟨a1, a2, a3, a4, a5, a6⟩ := hv
      rw [a1 14 _ (by omega)]
      refine ⟨fun a k q => ?_, a2, fun k hk => ?_, a4, fun k hk => by omega, fun k hk => by omega⟩
      · rw [wI_g, if_neg (by omega)]; exact a1 a k q
      · rw [wI_g]
        by_cases q : k = 13 * i + r
        · rw [if_pos ⟨rfl, q⟩, q]
        · rw [if_neg (by omega)]; exact a3 k (by omega)
    · have e : r = 13 := by omega
      subst e
      refine OK.t (nI_le (a := 13) (b := 13) (by omega) (by omega)) (hk _ _ _ (by omega) ⟨i + 1, rfl, c, nI_1 i, ?_⟩)
      rw [show 13 * (i + 1) = 13 * i + 13 by omega]; exact hv
  · have e : i = nL := by omega
    subst e
    exact OK.t (nI_le (Nat.le_refl _) (by omega)) (people u h)
theorem zm_setE (m : Wd) : f_X12_estate m = (cv (f_X12_open m) fun w1 => cl (f_X12_readEstate w1) fun r3 w2 => if r3 = 0 then some (-1, w2) else X12_estate_b95_L 0 (wI (wI (wI (wI (wI (wI (wI (wI (wI (wI w2 0 10 (w2.1 0 26)) 0 11 (w2.1 0 27)) 0 12 (w2.1 0 28)) 0 14 (w2.1 0 29)) 0 15 (w2.1 0 30)) 0 16 (w2.1 0 31)) 0 17 (w2.1 0 32)) 0 18 (w2.1 0 33)) 0 19 (w2.1 0 34)) 0 13 (w2.1 0 35))) := by
  unfold f_X12_estate
  simp only [lt_s', wI_g]
  simp
end
