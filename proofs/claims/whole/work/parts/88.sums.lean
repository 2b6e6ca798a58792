/-! sums -/
def smT (A : Wd) (way n i : Nat) : Nat := fb_sm (fun t => tV A way t i) n
def sumS (A : Wd) (way i : Nat) : Nat := mP A way i + mL A way i + smT A way (nTh A) i
theorem CVd.fr {w w' A : Wd} {s l : Nat} {cn vo : Nat → Bool} (h : CVd w s cn vo l A) (f : ∀ k, w'.1 s k = w.1 s k) : CVd w' s cn vo l A := by
  unfold CVd
  rw [f, f, f]; exact h
theorem TKN.fr {w w' A : Wd} {way : Nat} (h : TKN w A way) (hI : INV A) (h0 : 0 < nLa A) (f : ∀ s k, 84 ≤ s → w'.1 s k = w.1 s k) (f2 : w'.1 8 11 = w.1 8 11) (f3 : w'.1 8 12 = w.1 8 12) : TKN w' A way := ⟨fun l hl => (h.1 l hl).fr (fun k => f _ k (by omega)), by rw [f2]; exact h.2.1, by rw [f3]; exact h.2.2⟩
/-- scratch of the parts alone -/
def PPt (a k : Nat) : Prop := (a = 8 ∧ k = 8) ∨ (9 ≤ a ∧ a ≤ 11) ∨ a = 14 ∨ a = 15
theorem PPt_q {w w' : Wd} (h : FX PPt w w') : FX PQ w w' := h.mo (fun a k q => by unfold PPt at q; unfold PQ; omega)
theorem PMc_p {w w' : Wd} (h : FX PMc w w') : FX PPt w w' := h.mo (fun a k q => by unfold PMc at q; unfold PPt; omega)
theorem PO9_p {w w' : Wd} (h : FX (PO 9) w w') : FX PPt w w' := h.mo (fun a k q => by unfold PO at q; unfold PPt; omega)
theorem TKN.fp {w w' A : Wd} {way : Nat} (h : TKN w A way) (hI : INV A) (h0 : 0 < nLa A) (f : FX PPt w w') : TKN w' A way := h.fr hI h0 (fun s k hs => f.2 _ _ (by unfold PPt; omega)) (f.2 _ _ (by unfold PPt; omega)) (f.2 _ _ (by unfold PPt; omega))
section
variable {w A : Wd}
theorem zc_addUp (hL : TLD w A) (hK : KIN w A) (hI : INV A) (hPe : PEI A) (hr : RDY w A) {way : Nat} (hw : way < nWy A) (hk : TKN w A way) : OK (f_X7_addUp w) (fun v => PV v 11 (sumS A way) ∧ FX PPt w v) := by
  have hN := hI.1
  have hT8 := hN.2.2.1.2
  obtain ⟨ho, h0⟩ := nWy_or hw
  have at1 : ∀ v, FX PPt w v → TLD v A ∧ KIN v A ∧ RDY v A ∧ TKN v A way := fun v h => ⟨hL.fr hN (PCS_t (PQ_s (PPt_q h))), hK.fr (PCS_t (PQ_s (PPt_q h))), hr.fq hN (PPt_q h), hk.fp hI h0 h⟩
  have things : ∀ v, FX PPt w v → PV v 11 (fun i => mP A way i + mL A way i) → OK (X7_addUp_b39_L 0 v) (fun v => PV v 11 (sumS A way) ∧ FX PPt w v) := by
    intro v0 hF0 h11
    refine lo2 (fun n y v => ∃ t, n = nTh A - t ∧ t ≤ nTh A ∧ y = nI t ∧ FX PPt w v ∧ PV v 11 (fun i => mP A way i + mL A way i + smT A way t i)) ?_ fu (nTh A - 0) 0 v0 (by rw [fu_eq]; omega) ⟨0, rfl, Nat.zero_le _, rfl, hF0, h11⟩
    rintro n k y v ⟨t, rfl, ht, rfl, hF, hv⟩ hkk
    obtain ⟨a1, a2, a3, a4⟩ := at1 v hF
    rw [X7_addUp_b39, a1.1.1.2.2, hN.2.2.1.1]
    by_cases hin : t < nTh A
    · have hl : lwT A t < nLa A := lwX_lt hI.2.1 hN h0 (x := nI t) (Or.inr ⟨t, hin, rfl⟩)
      refine OK.f (nI_ge hin (by omega)) (OK.c ((zc_thing a1 a2 hI hPe (a4.1 _ (us_t hin)) hl hin (a3.2.2.2 t hin) ho a4.2.1 a4.2.2).m ?_))
      rintro ⟨r, v2⟩ ⟨-, g2, g3⟩
      dsimp only at g2 g3 ⊢
      have hF2 := hF.tr (PO9_p g3)
      refine lo3 (fun n y1 y2 x => ∃ i, n = 8 - i ∧ i ≤ 8 ∧ y1 = nI t ∧ y2 = nI i ∧ FX PPt w x ∧ PV x 9 (tV A way t) ∧ ∀ j, j < 8 → x.1 11 j = nI (mP A way j + mL A way j + (if j < i then smT A way (t + 1) j else smT A way t j))) ?_ fu (8 - 0) (nI t) 0 v2 (by rw [fu_eq]; omega) ⟨0, rfl, by omega, rfl, rfl, hF2, g2, fun j hj => ?_⟩
      · rintro n k2 b1 b2 x ⟨i, rfl, hi, rfl, rfl, hFx, hx9, hx⟩ hk2
        rw [X7_addUp_b64, k8]
        by_cases hin2 : i < 8
        · refine OK.f (nI_ge hin2 (by omega)) (OK.t (z_inb (by omega) (by omega)) (OK.t (z_inb (by omega) (by omega)) (OK.t (z_inb (by omega) (by omega)) (OK.l ?_))))
          rw [nI_clamp (by omega), hx i hin2, hx9 i hin2, nI_add, if_neg (show ¬ i < i by omega)]
          refine hk2 _ _ _ _ (by omega) ⟨i + 1, rfl, hin2, rfl, nI_1 i, hFx.tr (FX.w x _ (by unfold PPt; omega)), fun j hj => ?_, fun j hj => ?_⟩
          · try dsimp only
            rw [wI_g, if_neg (by omega)]; exact hx9 j hj
          · try dsimp only
            rw [wI_g]
            by_cases e : j = i
            · rw [if_pos ⟨rfl, e⟩, if_pos (by omega), e, Nat.add_assoc]; rfl
            · rw [if_neg (fun h => e h.2), hx j hj]
              by_cases h : j < i
              · rw [if_pos h, if_pos (by omega)]
              · rw [if_neg h, if_neg (by omega)]
        · have e : i = 8 := by omega
          subst e
          refine OK.t (nI_le (Nat.le_refl _) (by omega)) (hkk _ _ _ (by omega) ⟨t + 1, rfl, hin, nI_1 t, hFx, fun j hj => ?_⟩)
          rw [hx j hj, if_pos hj]
      · rw [if_neg (by omega), g3.2 _ _ (by unfold PO; omega)]; exact hv j hj
    · have e : t = nTh A := by omega
      subst e
      exact OK.t (nI_le (Nat.le_refl _) (by omega)) (OK.s ⟨hv, hF⟩)
  unfold f_X7_addUp
  refine OK.v ((zc_goM hL hK hI hPe hr hw hk).m ?_)
  rintro w1 ⟨h10, h9, hF1⟩
  refine lo2 (fun n y x => ∃ i, n = 8 - i ∧ i ≤ 8 ∧ y = nI i ∧ FX PPt w x ∧ PV x 10 (mP A way) ∧ PV x 9 (mL A way) ∧ ∀ j, j < i → x.1 11 j = nI (mP A way j + mL A way j)) ?_ fu (8 - 0) 0 w1 (by rw [fu_eq]; omega) ⟨0, rfl, by omega, rfl, PMc_p hF1, h10, h9, fun j hj => by omega⟩
  rintro n k y x ⟨i, rfl, hi, rfl, hFx, hx10, hx9, hx⟩ hkk
  rw [X7_addUp_b6, k8]
  by_cases hin : i < 8
  · refine OK.f (nI_ge hin (by omega)) (OK.t (z_inb (by omega) (by omega)) (OK.t (z_inb (by omega) (by omega)) (OK.t (z_inb (by omega) (by omega)) (OK.l ?_))))
    rw [nI_clamp (by omega), hx10 i hin, hx9 i hin, nI_add]
    refine hkk _ _ _ (by omega) ⟨i + 1, rfl, hin, nI_1 i, hFx.tr (FX.w x _ (by unfold PPt; omega)), fun j hj => ?_, fun j hj => ?_, fun j hj => ?_⟩
    · try dsimp only
      rw [wI_g, if_neg (by omega)]; exact hx10 j hj
    · try dsimp only
      rw [wI_g, if_neg (by omega)]; exact hx9 j hj
    · try dsimp only
      rw [wI_g]
      by_cases e : j = i
      · rw [if_pos ⟨rfl, e⟩, e]
      · rw [if_neg (fun h => e h.2)]; exact hx j (by omega)
  · have e : i = 8 := by omega
    subst e
    exact OK.t (nI_le (Nat.le_refl _) (by omega)) (things x hFx hx)
def PSw (way a k : Nat) : Prop := PMS a k ∨ (a = 51 ∧ 8 * way ≤ k ∧ k < 8 * way + 8)
theorem PSw_t {w w' A : Wd} {way : Nat} (h : FX (PSw way) w w') (hT : tol w = A) : tol w' = A := h.ot hT (fun k hk => by unfold PSw PMS; omega) (fun o k ho => by unfold PSw PMS; omega)
theorem PSw_m {w w' : Wd} {way : Nat} (h : FX PMS w w') : FX (PSw way) w w' := h.mo (fun a k q => Or.inl q)
theorem GO.fr {w w' A : Wd} {way : Nat} (h : GO w A way) (f : ∀ a k, (a = 0 ∧ (k = 88 ∨ k = 89)) ∨ a = 46 ∨ a = 47 → w'.1 a k = w.1 a k) : GO w' A way := ⟨(f 0 88 (by omega)).trans h.1, (f 0 89 (by omega)).trans h.2.1, fun l hl => by rw [f 46 l (by omega), f 47 l (by omega)]; exact h.2.2 l hl⟩
theorem zm_sumWay (hT : tol w = A) (hI : INV A) (hPe : PEI A) {way : Nat} (hw : way < nWy A) : OK (f_X12_sumWay (nI way) w) (fun v => (∀ p, p < nPe A → v.1 51 (8 * way + p) = nI (sumS A way p)) ∧ FX (PSw way) w v) := by
  have hN := hI.1
  have h8 := hN.2.1.2
  have hT8 := hN.2.2.1.2
  have hww := nWy_le hN
  unfold f_X12_sumWay
  refine OK.v ((zm_goWay hT hI hw).m ?_)
  rintro w1 ⟨hG, hF1⟩
  refine OK.v ((zm_goM hI hPe (hF1.gt hT) hw hG).m ?_)
  rintro w2 ⟨-, h48, hF2⟩
  have hFw2 : FX (PSw way) w w2 := PSw_m ((PG_s hF1).tr (PMo_s hF2))
  have hG2 : GO w2 A way := hG.fr (fun a k h => hF2.2 a k (by unfold PMo; omega))
  have things : ∀ v, FX (PSw way) w v → GO v A way → (∀ p, p < nPe A → v.1 51 (8 * way + p) = nI (mP A way p + mL A way p)) → OK (X12_sumWay_b42_L (nI way) 0 v) (fun v => (∀ p, p < nPe A → v.1 51 (8 * way + p) = nI (sumS A way p)) ∧ FX (PSw way) w v) := by
    intro v0 hF0 hG0 hv0
    refine lo3 (fun n y1 y v => ∃ t, n = nTh A - t ∧ t ≤ nTh A ∧ y1 = nI way ∧ y = nI t ∧ FX (PSw way) w v ∧ GO v A way ∧ ∀ p, p < nPe A → v.1 51 (8 * way + p) = nI (mP A way p + mL A way p + smT A way t p)) ?_ fu (nTh A - 0) (nI way) 0 v0 (by rw [fu_eq]; omega) ⟨0, rfl, Nat.zero_le _, rfl, rfl, hF0, hG0, hv0⟩
    rintro n k y1 y v ⟨t, rfl, ht, rfl, rfl, hF, hGv, hv⟩ hkk
    have hTv := PSw_t hF hT
    rw [X12_sumWay_b42, tol_0 hTv 12 rfl, hN.2.2.1.1]
    by_cases hin : t < nTh A
    · refine OK.f (nI_ge hin (by omega)) (OK.c ((zm_goT hI hPe hTv hw hGv hin).m ?_))
      rintro ⟨r, v2⟩ ⟨-, g2, g3⟩
      dsimp only at g2 g3 ⊢
      have hF2 := hF.tr (PSw_m (PTh_s g3))
      have hGv2 : GO v2 A way := hGv.fr (fun a k h => g3.2 a k (by unfold PTh; omega))
      refine lo4 (fun n y1 y2 y3 x => ∃ i, n = nPe A - i ∧ i ≤ nPe A ∧ y1 = nI way ∧ y2 = nI t ∧ y3 = nI i ∧ FX (PSw way) w x ∧ GO x A way ∧ PV x 48 (tV A way t) ∧ ∀ j, j < nPe A → x.1 51 (8 * way + j) = nI (mP A way j + mL A way j + (if j < i then smT A way (t + 1) j else smT A way t j))) ?_ fu (nPe A - 0) (nI way) (nI t) 0 v2 (by rw [fu_eq]; omega) ⟨0, rfl, by omega, rfl, rfl, rfl, hF2, hGv2, g2, fun j hj => ?_⟩
      · rintro n k2 b1 b2 b3 x ⟨i, rfl, hi, rfl, rfl, rfl, hFx, hGx, hx48, hx⟩ hk2
        have hTx := PSw_t hFx hT
        rw [X12_sumWay_b58, tol_0 hTx 11 rfl, hN.2.1.1]
        by_cases hin2 : i < nPe A
        · refine OK.f (nI_ge hin2 (by omega)) ?_
          rw [ix8]
          refine OK.t (z_inb (by omega) (by omega)) (OK.t (z_inb (by omega) (by omega)) (OK.t (z_inb (by omega) (by omega)) (OK.l ?_)))
          rw [nI_clamp (n := 8 * way + i) (by omega), nI_clamp (n := i) (by omega), hx i hin2, hx48 i (by omega), nI_add, if_neg (show ¬ i < i by omega)]
          refine hk2 _ _ _ _ _ (by omega) ⟨i + 1, rfl, hin2, rfl, rfl, nI_1 i, hFx.tr (FX.w x _ (by unfold PSw PMS; omega)), hGx.fr (fun a k h => by rw [wI_g, if_neg (by omega)]), fun j hj => ?_, fun j hj => ?_⟩
          · try dsimp only
            rw [wI_g, if_neg (by omega)]; exact hx48 j hj
          · try dsimp only
            rw [wI_g]
            by_cases e : j = i
            · rw [if_pos ⟨rfl, by omega⟩, if_pos (by omega), e, Nat.add_assoc]; rfl
            · rw [if_neg (fun h => e (by omega)), hx j hj]
              by_cases h : j < i
              · rw [if_pos h, if_pos (by omega)]
              · rw [if_neg h, if_neg (by omega)]
        · have e : i = nPe A := by omega
          subst e
          refine OK.t (nI_le (Nat.le_refl _) (by omega)) (hkk _ _ _ _ (by omega) ⟨t + 1, rfl, hin, rfl, nI_1 t, hFx, hGx, fun j hj => ?_⟩)
          rw [hx j hj, if_pos hj]
      · rw [if_neg (by omega), g3.2 _ _ (by unfold PTh; omega)]; exact hv j hj
    · have e : t = nTh A := by omega
      subst e
      exact OK.t (nI_le (Nat.le_refl _) (by omega)) (OK.s ⟨hv, hF⟩)
  refine lo3 (fun n y1 y x => ∃ i, n = 8 - i ∧ i ≤ 8 ∧ y1 = nI way ∧ y = nI i ∧ FX (PSw way) w x ∧ GO x A way ∧ PV x 48 (fun i => mL A way i + mP A way i) ∧ ∀ j, j < i → x.1 51 (8 * way + j) = nI (mP A way j + mL A way j)) ?_ fu (8 - 0) (nI way) 0 w2 (by rw [fu_eq]; omega) ⟨0, rfl, by omega, rfl, rfl, hFw2, hG2, h48, fun j hj => by omega⟩
  rintro n k y1 y x ⟨i, rfl, hi, rfl, rfl, hFx, hGx, hx48, hx⟩ hkk
  rw [X12_sumWay_b11]
  by_cases hin : i < 8
  · rw [ix8, k8]
    refine OK.f (nI_ge hin (by omega)) (OK.t (z_inb (by omega) (by omega)) (OK.t (z_inb (by omega) (by omega)) (OK.l ?_)))
    rw [nI_clamp (n := 8 * way + i) (by omega), nI_clamp (n := i) (by omega), hx48 i hin]
    refine hkk _ _ _ _ (by omega) ⟨i + 1, rfl, hin, rfl, nI_1 i, hFx.tr (FX.w x _ (by unfold PSw PMS; omega)), hGx.fr (fun a k h => by rw [wI_g, if_neg (by omega)]), fun j hj => ?_, fun j hj => ?_⟩
    · try dsimp only
      rw [wI_g, if_neg (by omega)]; exact hx48 j hj
    · try dsimp only
      rw [wI_g]
      by_cases e : j = i
      · rw [if_pos ⟨rfl, by omega⟩, e, Nat.add_comm]
      · rw [if_neg (fun h => e (by omega))]; exact hx j (by omega)
  · have e : i = 8 := by omega
    subst e
    exact OK.t (nI_le (Nat.le_refl _) (by omega)) (things x hFx hGx (fun p hp => hx p (by omega)))
end
