/-! lack, surely, gain -/
def wtF (A : Wd) (n : Nat) : Nat := fb_sm (wtS A) n
def lnS (A : Wd) (p : Nat) : Bool := decide (A.1 3 p = 1) || decide (A.1 3 p = 2)
def lnF (A : Wd) (v n : Nat) : Nat := fb_sm (fun p => if lnS A p = true then sumS A v p else 0) n
def fcS (A : Wd) : Nat := (thM A + wtF A (nTh A)) * (A.1 2 (13 * lwM A + 10)).toNatClampNeg / 100
def lkS (A : Wd) (v : Nat) : Int32 := if (0 : Int32) < nI (fcS A) - nI (lnF A v (nPe A)) then nI (fcS A) - nI (lnF A v (nPe A)) else 0
theorem wt_9 {A : Wd} (hPe : PEI A) {t : Nat} (ht : t < nTh A) : A.1 5 t = nI (wtS A t) ∧ wtS A t ≤ 9999 := by
  obtain ⟨v, h5, h6, h7⟩ := hPe.2.2.1 t ht
  unfold wtS
  rw [h7, nI_clamp (by omega)]
  exact ⟨rfl, h6⟩
theorem sb_i {a b : Nat} (ha : a < 2 ^ 31) (hb : b < 2 ^ 31) : (nI a - nI b).toInt = (a : Int) - b := by
  rw [z_sub (by rw [nI_toInt ha, nI_toInt hb]; omega) (by rw [nI_toInt ha, nI_toInt hb]; omega), nI_toInt ha, nI_toInt hb]
theorem wtF_le {A : Wd} (hPe : PEI A) {n : Nat} (hn : n ≤ nTh A) (h8 : nTh A ≤ 8) : wtF A n ≤ 80000 := by
  have := fb_sm_bound (f := wtS A) (c := 10000) (n := n) (fun t ht => by have := (wt_9 hPe (t := t) (by omega)).2; omega)
  unfold wtF
  omega
theorem lnF_le {A : Wd} (hI : INV A) (hPe : PEI A) {v : Nat} (hv : v < nWy A) {n : Nat} (hn : n ≤ 8) : lnF A v n ≤ 1600000000 := by
  have := fb_sm_bound (f := fun p => if lnS A p = true then sumS A v p else 0) (c := 200000000) (n := n) (fun p hp => by
    have := sum_lt hI hPe hv (i := p) (by omega)
    show (if lnS A p = true then sumS A v p else 0) ≤ _
    split <;> omega)
  exact Nat.le_trans this (Nat.le_trans (Nat.mul_le_mul_right _ hn) (by decide))
section
variable {w wc wm A : Wd}
theorem zc_line (hL : TLD w A) (hN : NUM A) {p : Nat} (hp : p < nPe A) : f_X0_isOfTheLine (nI p) w = some (bI (lnS A p), w) := by
  have h8 := hN.2.1.2
  unfold f_X0_isOfTheLine lnS
  rw [z_inb (show p < 8 by omega) (by omega), nI_clamp (by omega), (hL.1.2.2.1 p hp).1, if_pos rfl, if_pos rfl]
  by_cases c : A.1 3 p = 1
  · rw [if_pos c, decide_eq_true c]; rfl
  · rw [if_neg c, decide_eq_false c]
    by_cases d : A.1 3 p = 2
    · rw [if_pos d, decide_eq_true d]; rfl
    · rw [if_neg d, decide_eq_false d]; rfl
theorem fc_e (hI : INV A) (hPe : PEI A) (h0 : 0 < nLa A) : nI (thM A + wtF A (nTh A)) * A.1 2 (13 * lwM A + 10) / 100 = nI (fcS A) ∧ fcS A ≤ 180000 := by
  have hN := hI.1
  have hlM : lwM A < nLa A := lwX_lt hI.2.1 hN h0 (x := -1) (Or.inl rfl)
  have hm1 : (A.1 0 14).toNatClampNeg < 100000 := (hPe.2.2.2.1.e (by omega)).2
  have hth : thM A ≤ 100000 := by unfold thM; omega
  have hw := wtF_le hPe (Nat.le_refl (nTh A)) hN.2.2.1.2
  have hr := (hPe.2.2.2.2.2 _ hlM).2.e (by omega)
  have hr2 : (A.1 2 (13 * lwM A + 10)).toNatClampNeg < 91 := hr.2
  have hm : (thM A + wtF A (nTh A)) * (A.1 2 (13 * lwM A + 10)).toNatClampNeg ≤ (thM A + wtF A (nTh A)) * 100 := Nat.mul_le_mul_left _ (by omega)
  unfold fcS
  constructor
  · rw [hr.1, pk_mul, show (100 : Int32) = nI 100 from rfl, pk_div (by omega) (by omega) (by omega), nI_clamp (by omega)]
  · omega
theorem zc_short (hL : TLD w A) (hI : INV A) (hPe : PEI A) {v : Nat} (hv : v < nWy A) (h0 : 0 < nLa A) (h9 : w.1 8 9 = nI (lwM A)) (hP : PV w 11 (sumS A v)) : f_X7_shortOfForce w = some (lkS A v, w) := by
  have hN := hI.1
  have h8 := hN.2.1.2
  have ht8 := hN.2.2.1.2
  have hlM : lwM A < nLa A := lwX_lt hI.2.1 hN h0 (x := -1) (Or.inl rfl)
  obtain ⟨fe, fl⟩ := fc_e hI hPe h0
  have key : OK (f_X7_shortOfForce w) (fun q => q = (lkS A v, w)) := by
    unfold f_X7_shortOfForce
    rw [zc_there hL hPe, cl_s]
    refine lo3 (fun m y2 y3 u => ∃ i, m = nTh A - i ∧ i ≤ nTh A ∧ y2 = nI (thM A + wtF A i) ∧ y3 = nI i ∧ w = u) ?_ fu (nTh A - 0) (nI (thM A)) 0 w (by rw [fu_eq]; omega) ⟨0, rfl, Nat.zero_le _, rfl, rfl, rfl⟩
    rintro m k y2 y3 u ⟨i, rfl, hi, rfl, rfl, rfl⟩ hk
    rw [X7_shortOfForce_b15, hL.1.1.2.2, hN.2.2.1.1]
    by_cases hin : i < nTh A
    · refine OK.f (nI_ge hin (by omega)) (OK.t (z_inb (by omega) (by omega)) (OK.l ?_))
      rw [nI_clamp (n := i) (by omega), (hL.1.2.2.2.1 i hin).1, (wt_9 hPe hin).1, nI_add, Nat.add_assoc]
      exact hk _ _ _ _ (by omega) ⟨i + 1, rfl, hin, rfl, nI_1 i, rfl⟩
    · have e : i = nTh A := by omega
      subst e
      refine OK.t (nI_le (Nat.le_refl _) (by omega)) ?_
      rw [h9, show (10 : Int32) = nI 10 from rfl, zc_ruleOf hL.1 hN hlM (by omega), cl_s]
      refine OK.l ?_
      rw [fe]
      clear hk
      refine lo3 (fun m y3 y4 u => ∃ i, m = nPe A - i ∧ i ≤ nPe A ∧ y3 = nI (fcS A) - nI (lnF A v i) ∧ y4 = nI i ∧ w = u) ?_ fu (nPe A - 0) (nI (fcS A)) 0 w (by rw [fu_eq]; omega) ⟨0, rfl, Nat.zero_le _, by rw [show lnF A v 0 = 0 from rfl, pk_sub (by omega)]; rfl, rfl, rfl⟩
      rintro m k y3 y4 u ⟨i, rfl, hi, rfl, rfl, rfl⟩ hk
      rw [X7_shortOfForce_b60, hL.1.1.2.1, hN.2.1.1]
      by_cases hin : i < nPe A
      · refine OK.f (nI_ge hin (by omega)) ?_
        have l1 := lnF_le hI hPe hv (n := i) (by omega)
        have l2 := sum_lt hI hPe hv (i := i) (by omega)
        have a1 := sb_i (a := fcS A) (b := lnF A v i) (by omega) (by omega)
        rw [zc_line hL hN hin, cl_s, if_b0]
        by_cases c : lnS A i = false
        · refine OK.t c (OK.l (hk _ _ _ _ (by omega) ⟨i + 1, rfl, hin, ?_, nI_1 i, rfl⟩))
          show nI (fcS A) - nI (lnF A v i) - 0 = nI (fcS A) - nI (lnF A v i + if lnS A i = true then sumS A v i else 0)
          rw [if_neg (by rw [c]; decide), Nat.add_zero, Int32.sub_zero]
        · refine OK.f c (OK.t (z_inb (by omega) (by omega)) (OK.l (hk _ _ _ _ (by omega) ⟨i + 1, rfl, hin, ?_, nI_1 i, rfl⟩)))
          rw [Bool.not_eq_false] at c
          rw [nI_clamp (n := i) (by omega), hP i (by omega)]
          show _ = nI (fcS A) - nI (lnF A v i + if lnS A i = true then sumS A v i else 0)
          rw [if_pos c]
          have l3 := lnF_le hI hPe hv (n := i + 1) (by omega)
          have l4 : lnF A v (i + 1) = lnF A v i + sumS A v i := by
            show lnF A v i + (if lnS A i = true then sumS A v i else 0) = _
            rw [if_pos c]
          have a2 := sb_i (a := fcS A) (b := lnF A v i + sumS A v i) (by omega) (by omega)
          rw [z_eq, a2, z_sub (by rw [a1, nI_toInt (by omega)]; omega) (by rw [a1, nI_toInt (by omega)]; omega), a1, nI_toInt (by omega)]
          omega
      · have e : i = nPe A := by omega
        subst e
        exact OK.t (nI_le (Nat.le_refl _) (by omega)) (OK.s rfl)
  obtain ⟨q, e, rfl⟩ := key
  exact e
theorem zm_short (hT : tol w = A) (hI : INV A) (hPe : PEI A) (hR : RKN w A (nWy A)) {v : Nat} (hv : v < nWy A) (h0 : 0 < nLa A) : OK (X12_lack_b22_L (nI v) (nI (thM A)) 0 w) (fun q => q.1 = lkS A v ∧ FX PMS w q.2) := by
  have hN := hI.1
  have h8 := hN.2.1.2
  have ht8 := hN.2.2.1.2
  have hL4 := hN.1.2
  have hW := nWy_le hN
  have hlM : lwM A < nLa A := lwX_lt hI.2.1 hN h0 (x := -1) (Or.inl rfl)
  obtain ⟨fe, fl⟩ := fc_e hI hPe h0
  refine lo4 (fun m y1 y2 y3 u => ∃ i, m = nTh A - i ∧ i ≤ nTh A ∧ y1 = nI v ∧ y2 = nI (thM A + wtF A i) ∧ y3 = nI i ∧ w = u) ?_ fu (nTh A - 0) (nI v) (nI (thM A)) 0 w (by rw [fu_eq]; omega) ⟨0, rfl, Nat.zero_le _, rfl, rfl, rfl, rfl⟩
  rintro m k y1 y2 y3 u ⟨i, rfl, hi, rfl, rfl, rfl, rfl⟩ hk
  rw [X12_lack_b22, tol_0 hT 12 rfl, hN.2.2.1.1]
  by_cases hin : i < nTh A
  · refine OK.f (nI_ge hin (by omega)) (OK.t (z_inb (by omega) (by omega)) (OK.l ?_))
    rw [nI_clamp (n := i) (by omega), tol_a hT 5 i (by omega), (wt_9 hPe hin).1, nI_add, Nat.add_assoc]
    exact hk _ _ _ _ _ (by omega) ⟨i + 1, rfl, hin, rfl, rfl, nI_1 i, rfl⟩
  · have e : i = nTh A := by omega
    subst e
    refine OK.t (nI_le (Nat.le_refl _) (by omega)) ?_
    clear hk
    refine lo5 (fun m y1 y2 y3 y4 u => ∃ i, m = nPe A - i ∧ i ≤ nPe A ∧ y1 = nI v ∧ y2 = nI (thM A + wtF A (nTh A)) ∧ y3 = nI (lnF A v i) ∧ y4 = nI i ∧ w = u) ?_ fu (nPe A - 0) (nI v) (nI (thM A + wtF A (nTh A))) 0 0 w (by rw [fu_eq]; omega) ⟨0, rfl, Nat.zero_le _, rfl, rfl, rfl, rfl, rfl⟩
    rintro m k y1 y2 y3 y4 u ⟨i, rfl, hi, rfl, rfl, rfl, rfl, rfl⟩ hk
    rw [X12_lack_b50, tol_0 hT 11 rfl, hN.2.1.1]
    by_cases hin : i < nPe A
    · have hb : lnS A i = true → OK (X12_lack_b82 k (nI v) (nI (thM A + wtF A (nTh A))) (nI i) (nI (lnF A v i)) w) (fun q => q.1 = lkS A v ∧ FX PMS w q.2) := by
        intro c
        unfold X12_lack_b82
        rw [ix8]
        refine OK.t (z_inb (by omega) (by omega)) (OK.l ?_)
        rw [nI_clamp (n := 8 * v + i) (by omega), hR.1 v hv i hin]
        unfold sI
        rw [nI_add]
        refine hk _ _ _ _ _ _ (by omega) ⟨i + 1, rfl, hin, rfl, rfl, ?_, nI_1 i, rfl⟩
        show _ = nI (lnF A v i + if lnS A i = true then sumS A v i else 0)
        rw [if_pos c]
      refine OK.f (nI_ge hin (by omega)) (OK.t (z_inb (by omega) (by omega)) ?_)
      rw [nI_clamp (n := i) (by omega), tol_a hT 3 i (by omega)]
      by_cases c : A.1 3 i = 1
      · exact OK.t c (hb (by unfold lnS; rw [decide_eq_true c]; rfl))
      · refine OK.f c (OK.t (z_inb (by omega) (by omega)) ?_)
        by_cases d : A.1 3 i = 2
        · exact OK.t d (hb (by unfold lnS; rw [decide_eq_true d, Bool.or_true]))
        · refine OK.f d (OK.l (hk _ _ _ _ _ _ (by omega) ⟨i + 1, rfl, hin, rfl, rfl, ?_, nI_1 i, rfl⟩))
          show nI (lnF A v i) + nI 0 = nI (lnF A v i + if lnS A i = true then sumS A v i else 0)
          rw [if_neg (by unfold lnS; rw [decide_eq_false c, decide_eq_false d]; decide), nI_add]
    · have e : i = nPe A := by omega
      subst e
      refine OK.t (nI_le (Nat.le_refl _) (by omega)) ?_
      rw [zm_lawFor hT hN hI.2.1 h0 (x := -1) (Or.inl rfl), cl_s]
      have ei : 13 * nI (lwX A (-1)) + 10 = nI (13 * lwM A + 10) := by
        show nI 13 * nI (lwM A) + nI 10 = _
        rw [pk_mul, nI_add]
      rw [ei]
      refine OK.t (z_inb (by omega) (by omega)) (OK.s ⟨?_, FX.w _ _ (by unfold PMS; omega)⟩)
      have ew : (wI w 0 79 (bI (rgX A (-1)))).1 2 (13 * lwM A + 10) = A.1 2 (13 * lwM A + 10) := by rw [wI_g, if_neg (by omega), tol_a hT 2 _ (by omega)]
      rw [nI_clamp (n := 13 * lwM A + 10) (by omega), ew, fe]
      rfl
theorem q_lack (hL : TLD wc A) (hK : KIN wc A) (hI : INV A) (hPe : PEI A) (hX : NCH A) (hp : PRP wc A) (hT : tol wm = A) (hR : RKC wm A) (b : Int32) : QRk wc wm A (f_X11_lack b wc) (f_X12_lack b wm) := by
  have hN := hI.1
  have h8 := hN.2.1.2
  have hww := nWy_le hN
  unfold f_X11_lack f_X12_lack
  rw [zc_isWay hL.1 hL.2.2.1 hN, zm_isWay hT hN, cl_s, cl_s, if_b0, if_b0]
  by_cases h2 : rng b (nI (nWy A)) = false
  · rw [if_pos h2, if_pos h2]; exact QRk.rf hp hR
  rw [if_neg h2, if_neg h2]
  rw [Bool.not_eq_false] at h2
  obtain ⟨way, hw, rfl⟩ := rng_ex (by omega) h2
  obtain ⟨ho, h0⟩ := nWy_or hw
  obtain ⟨w1, e1, hr1, hc1, hF1⟩ := zc_ready hL hI hX h0 hp
  have hT1 := PCS_t (PP_s hF1)
  obtain ⟨w2, e2, hTK, hF2⟩ := zc_way (hL.fr hN hT1) hI hr1 hw
  have hT2 := hT1.tr (PCS_t (PQ_s hF2))
  have hr2 := hr1.fq hN hF2
  obtain ⟨w3, e3, hPV, hF3⟩ := zc_addUp (hL.fr hN hT2) (hK.fr hT2) hI hPe hr2 hw hTK
  have hr3 := hr2.fq hN (PPt_q hF3)
  have hT3 := hT2.tr (PCS_t (PPt_q' hF3))
  obtain ⟨m1, f1, hR1, h78, hFm⟩ := zm_reckon hT hI hPe hR
  have hTm := PRk_t hFm hT
  obtain ⟨⟨r2, m2⟩, f2, g1, hF4⟩ := zm_short hTm hI hPe hR1 hw h0
  try dsimp only at g1 hF4
  rw [e1, cv_s, e2, cv_s, e3, cv_s, zc_short (hL.fr hN hT3) hI hPe hw h0 hr3.2.1 hPV, cl_s, f1, cv_s, zm_there hTm hPe, cl_s, f2, g1]
  refine ⟨_, w3, m2, rfl, rfl, ((PP_s hF1).tr (PQ_s hF2)).tr (PPt_q' hF3), hp.q hN hr1 hc1 hF1 (hF2.tr (PPt_q hF3)), hFm.tr (hF4.mo (fun a k q => Or.inl q)), Or.inr ⟨hR1.fr (fun a k q => hF4.2 a k (by unfold PMS; omega)), ?_⟩⟩
  rw [hF4.2 0 78 (by unfold PMS; omega)]; exact h78
/-! surely -/
def alG (A : Wd) (t n : Nat) : Prop := ∀ v, v < n → ∀ i, i < 32 → gtS (tV A v t) i = gtS (tV A 0 t) i
theorem q_surely (hL : TLD wc A) (hK : KIN wc A) (hI : INV A) (hPe : PEI A) (hX : NCH A) (hp : PRP wc A) (hT : tol wm = A) (a : Int32) : QQ wc wm A (f_X11_surely a wc) (f_X12_surely a wm) := by
  have hN := hI.1
  have hT8 := hN.2.2.1.2
  have hww := nWy_le hN
  unfold f_X11_surely f_X12_surely
  rw [zc_isThing, zm_isThing hT, hL.1.1.2.2, hN.2.2.1.1, cl_s, cl_s, if_b0, if_b0]
  by_cases h1 : rng a (nI (nTh A)) = false
  · rw [if_pos h1, if_pos h1]; exact QQ.rf hp
  rw [if_neg h1, if_neg h1, zc_ways hL.1 hL.2.2.1 hN, cl_s]
  rw [Bool.not_eq_false] at h1
  obtain ⟨t, ht, rfl⟩ := rng_ex (by omega) h1
  have neg1 : ∀ (x : Int32) (n : Nat), RB x (gtS (tV A n t)) → ¬ x = -1 := fun x n h e => by
    have := h 31 (by omega)
    rw [e, b_m1 31 (by omega)] at this
    unfold gtS at this
    rw [decide_eq_false (by omega), Bool.false_and] at this
    cases this
  have km : OK (X12_surely_b15_L (nI t) (-1) 0 wm) (fun q => FX PMS wm q.2 ∧ ((alG A t (nWy A) ∧ (nWy A = 0 ∧ q.1 = -1 ∨ 0 < nWy A ∧ RB q.1 (gtS (tV A 0 t)))) ∨ (¬ alG A t (nWy A) ∧ q.1 = -1))) := by
    refine lo4 (fun m y1 y2 y3 u => ∃ i, m = nWy A - i ∧ i ≤ nWy A ∧ y1 = nI t ∧ y3 = nI i ∧ FX PMS wm u ∧ alG A t i ∧ ((i = 0 ∧ y2 = -1) ∨ 0 < i ∧ RB y2 (gtS (tV A 0 t)))) ?_ fu (nWy A - 0) (nI t) (-1) 0 wm (by rw [fu_eq]; omega) ⟨0, rfl, Nat.zero_le _, rfl, rfl, FX.rf _ _, fun v hv => absurd hv (Nat.not_lt_zero v), Or.inl ⟨rfl, rfl⟩⟩
    rintro m k y1 y2 y3 u ⟨i, rfl, hi, rfl, rfl, hF, hal, hm⟩ hk
    have hTu := hF.mt hT
    rw [X12_surely_b15, zm_ways hTu hN, cl_s]
    by_cases hin : i < nWy A
    · refine OK.f (nI_ge hin (by omega)) (OK.v ((zm_goWay hTu hI hin).m (fun u1 g => ?_)))
      obtain ⟨hG, hF1⟩ := g
      have hTu1 := hF1.gt hTu
      refine OK.c ((zm_goT hI hPe hTu1 hin hG ht).m (fun q g => ?_))
      obtain ⟨-, g2, g3⟩ := g
      have hTu2 := PTh_t g3 hTu1
      have hF2 := (hF.tr (PG_s hF1)).tr (PTh_s g3)
      have hget : OK (f_X12_whoGets q.2) (fun z => z.2 = q.2 ∧ RB z.1 (gtS (tV A i t))) := zm_getters hTu2 hN g2 (fun j hj h8 => thV_hi hI hPe hj h8)
      obtain ⟨⟨z1, z2⟩, ez, gz1, gz2⟩ := hget
      try dsimp only at gz1 gz2
      subst gz1
      have b48 : (∀ j, j < 32 → gtS (tV A i t) j = gtS (tV A 0 t) j) → OK (X12_surely_b48 k (nI t) (nI i) q.2) (fun q => FX PMS wm q.2 ∧ ((alG A t (nWy A) ∧ (nWy A = 0 ∧ q.1 = -1 ∨ 0 < nWy A ∧ RB q.1 (gtS (tV A 0 t)))) ∨ (¬ alG A t (nWy A) ∧ q.1 = -1))) := by
        intro he
        unfold X12_surely_b48
        rw [ez, cl_s]
        refine hk _ _ _ _ _ (by omega) ⟨i + 1, rfl, hin, rfl, nI_1 i, hF2, fun v hv => ?_, Or.inr ⟨by omega, gz2.cg he⟩⟩
        by_cases e : v = i
        · rw [e]; exact he
        · exact hal v (by omega)
      by_cases c : i = 0
      · subst c
        exact OK.t (by decide) (b48 (fun j _ => rfl))
      · refine OK.f (by rw [z_le, nI_toInt (by omega)]; have : (0 : Int32).toInt = 0 := rfl; omega) ?_
        rw [ez, cl_s]
        have hy := (hm.resolve_left (fun h => c h.1)).2
        by_cases e : z1 = y2
        · refine OK.t e (b48 (fun j hj => ?_))
          rw [← gz2 j hj, ← hy j hj, e]
        · refine OK.f e (OK.s ⟨hF2, Or.inr ⟨fun h => e ?_, rfl⟩⟩)
          exact RB.eq gz2 (hy.cg (fun j hj => (h i hin j hj).symm))
    · have e : i = nWy A := by omega
      subst e
      exact OK.t (nI_le (Nat.le_refl _) (by omega)) (OK.s ⟨hF, Or.inl ⟨hal, hm⟩⟩)
  obtain ⟨⟨r2, m2⟩, f2, hFm, gm⟩ := km
  try dsimp only at hFm gm
  rw [f2]
  by_cases hz : nWy A = 0
  · rw [hz, if_pos (by rfl)]
    have er : r2 = -1 := by
      rcases gm with ⟨-, h | h⟩ | h
      · exact h.2
      · omega
      · exact h.2
    rw [er]
    exact ⟨_, wc, m2, rfl, rfl, FX.rf _ _, hp, hFm⟩
  rw [if_neg (nz_i hz (by omega))]
  have h0 := nWy_0 hz
  obtain ⟨w1, e1, hr1, hc1, hF1⟩ := zc_ready hL hI hX h0 hp
  have hL1 := hL.fr hN (PCS_t (PP_s hF1))
  have hK1 := hK.fr (PCS_t (PP_s hF1))
  obtain ⟨⟨U, w2⟩, e2, hU, hw2⟩ := zc_unused hL1 hI
  try dsimp only at hU hw2
  subst hw2
  have kc : OK (X11_surely_b46_L (nI t) (nI (nWy A)) U (-1) 0 w2) (fun q => FX PQ w2 q.2 ∧ ((alG A t (nWy A) ∧ RB q.1 (gtS (tV A 0 t))) ∨ (¬ alG A t (nWy A) ∧ q.1 = -1))) := by
    refine lo6 (fun m y1 y2 y3 y4 y5 u => ∃ i, m = nWy A - i ∧ i ≤ nWy A ∧ y1 = nI t ∧ y2 = nI (nWy A) ∧ U = y3 ∧ y5 = nI i ∧ FX PQ w2 u ∧ alG A t i ∧ ((i = 0 ∧ y4 = -1) ∨ RB y4 (gtS (tV A 0 t)))) ?_ fu (nWy A - 0) (nI t) (nI (nWy A)) U (-1) 0 w2 (by rw [fu_eq]; omega) ⟨0, rfl, Nat.zero_le _, rfl, rfl, rfl, rfl, FX.rf _ _, fun v hv => absurd hv (Nat.not_lt_zero v), Or.inl ⟨rfl, rfl⟩⟩
    rintro m k y1 y2 y3 y4 y5 u ⟨i, rfl, hi, rfl, rfl, rfl, rfl, hF, hal, hm⟩ hk
    have hTu := PCS_t (PQ_s hF)
    rw [X11_surely_b46]
    by_cases hin : i < nWy A
    · refine OK.f (nI_ge hin (by omega)) ?_
      obtain ⟨v', x1, x2, x3, x4⟩ := wy_red hU i
      by_cases c : nI i &&& U = 0
      · refine OK.t c ?_
        obtain ⟨⟨q1, q2⟩, eq2, -, g2, g3⟩ := zc_goT (hL1.fr hN hTu) (hK1.fr hTu) hI hPe (hr1.fq hN hF) hin ht
        obtain ⟨v2, ev, ep⟩ : ∃ v2, f_X7_takeWayFor (nI t) (nI i) u = some v2 ∧ f_X7_partThing (nI t) v2 = some (q1, q2) := by
          cases h : f_X7_takeWayFor (nI t) (nI i) u with
          | none => rw [h] at eq2; cases eq2
          | some v2 => rw [h] at eq2; exact ⟨v2, rfl, eq2⟩
        try dsimp only at g2 g3
        obtain ⟨⟨z1, z2⟩, ez, gz1, gz2⟩ := zc_getters g2
        try dsimp only at gz1 gz2
        subst gz1
        rw [ev, cv_s, ep, cl_s, ez, cl_s]
        have go : (∀ j, j < 32 → gtS (tV A i t) j = gtS (tV A 0 t) j) → OK (k (nI t) (nI (nWy A)) U z1 (nI i + 1) z2) (fun q => FX PQ w2 q.2 ∧ ((alG A t (nWy A) ∧ RB q.1 (gtS (tV A 0 t))) ∨ (¬ alG A t (nWy A) ∧ q.1 = -1))) := fun he => by
          refine hk _ _ _ _ _ _ _ (by omega) ⟨i + 1, rfl, hin, rfl, rfl, rfl, nI_1 i, hF.tr g3, fun v hv => ?_, Or.inr (gz2.cg he)⟩
          by_cases e : v = i
          · rw [e]; exact he
          · exact hal v (by omega)
        rcases hm with ⟨d1, d2⟩ | hy
        · subst d1
          exact OK.t d2 (go (fun j _ => rfl))
        · refine OK.f (neg1 y4 0 hy) ?_
          by_cases e : y4 = z1
          · refine OK.t e (go (fun j hj => ?_))
            rw [← gz2 j hj, ← hy j hj, e]
          · refine OK.f e (OK.s ⟨hF.tr g3, Or.inr ⟨fun h => e ?_, rfl⟩⟩)
            exact RB.eq (hy.cg (fun j hj => (h i hin j hj).symm)) gz2
      · have hlt := x4 c
        refine OK.f c (hk _ _ _ _ _ _ _ (by omega) ⟨i + 1, rfl, hin, rfl, rfl, rfl, nI_1 i, hF, fun v hv => ?_, ?_⟩)
        · by_cases e : v = i
          · intro j hj
            rw [e, ← hal v' hlt j hj]
            unfold gtS
            rw [tv_cg hI x3 hin]
          · exact hal v (by omega)
        · exact Or.inr (hm.resolve_left (fun h => by omega))
    · have e : i = nWy A := by omega
      subst e
      refine OK.t (nI_le (Nat.le_refl _) (by omega)) (OK.s ⟨hF, Or.inl ⟨hal, hm.resolve_left (fun h => hz h.1)⟩⟩)
  obtain ⟨⟨r3, w3⟩, e3, hF3, gc⟩ := kc
  try dsimp only at hF3 gc
  have er : r3 = r2 := by
    rcases gc with ⟨c1, c2⟩ | ⟨c1, c2⟩
    · rcases gm with ⟨d1, d2⟩ | ⟨d1, d2⟩
      · exact RB.eq c2 (d2.resolve_left (fun h => hz h.1)).2
      · exact absurd c1 d1
    · rcases gm with ⟨d1, d2⟩ | ⟨d1, d2⟩
      · exact absurd d1 c1
      · rw [c2, d2]
  rw [e1, cv_s, e2, cl_s, e3, er]
  exact ⟨_, w3, m2, rfl, rfl, (PP_s hF1).tr (PQ_s hF3), hp.q hN hr1 hc1 hF1 hF3, hFm⟩
/-! gain -/
def gnM (A m : Wd) (s : Nat) (b : Bool) : Nat → Nat
  | 0 => 0
  | v + 1 => if trS A m s v = b then (if gnM A m s b v < sumS A v (m.1 55 s).toNatClampNeg then sumS A v (m.1 55 s).toNatClampNeg else gnM A m s b v) else gnM A m s b v
theorem gn_lt (hI : INV A) (hPe : PEI A) {m : Wd} {s : Nat} {b : Bool} (hs : (m.1 55 s).toNatClampNeg < 8) : ∀ n, n ≤ nWy A → gnM A m s b n < 200000000 := by
  intro n
  induction n with
  | zero => intro _; show (0 : Nat) < 200000000; omega
  | succ n ih =>
    intro hn
    have h1 := ih (by omega)
    have h2 := sum_lt hI hPe (show n < nWy A by omega) hs
    show (if trS A m s n = b then _ else _) < _
    split
    · split <;> omega
    · exact h1
theorem q_gain (hL : TLD wc A) (hK : KIN wc A) (hI : INV A) (hPe : PEI A) (hX : NCH A) (hp : PRP wc A) {cp : Nat} (hO : OKC wc A cp) (hS : STO wc wm) (hSI : STI A wm) (hT : tol wm = A) (hR : RKC wm A) (a : Int32) : QM cp wc wm A (f_X11_gain cp a wc) (f_X12_gain a wm) := by
  have hN := hI.1
  have h8 := hN.2.1.2
  have hww := nWy_le hN
  have z0 : (0 : Int32).toInt = 0 := rfl
  have z64 : (0 : Int64).toInt = 0 := rfl
  obtain ⟨hs1, hs8⟩ := hSI.1
  unfold f_X11_gain f_X12_gain
  rw [m_in, z64, z_lm, hs1, cl_s, if_b0, hS.1, hs1]
  by_cases h1 : a < 0
  · rw [if_pos h1, if_pos (decide_eq_false (by rw [z_lt, z0] at h1; omega))]; exact QM.rf hp hO hR
  rw [if_neg h1]
  rw [z_lt, z0] at h1
  by_cases h2 : a < nI (nSt wm)
  · rw [if_pos h2]
    rw [z_lt, nI_toInt (by omega)] at h2
    rw [nI_toInt (by omega), if_neg (by rw [decide_eq_true ⟨by omega, by omega⟩]; decide), zc_ways hL.1 hL.2.2.1 hN, cl_s, zm_ways hT hN, cl_s]
    obtain ⟨s, hs, rfl⟩ := z_ex (n := nSt wm) (x := a) (by omega) (by omega)
    by_cases hz : nWy A = 0
    · rw [hz, if_pos (by rfl), if_pos (by rfl)]
      exact QM.rf hp hO hR
    · rw [if_neg (nz_i hz (by omega)), if_neg (nz_i hz (by omega))]
      obtain ⟨⟨w1, c1⟩, e1, hO1, h9, hp1, hF1, hcp⟩ := zc_bring hL hK hI hPe hX hp hO
      try dsimp only at hO1 hp1 hF1
      obtain ⟨m1, f1, hR1, h78, hFm⟩ := zm_reckon hT hI hPe hR
      have hTm := PRk_t hFm hT
      have hL1 := hL.fr hN (PBu_t hF1)
      have hcl := cn_le (A := A) (nWy A)
      have hcp := hO1.1.2.1.2
      unfold CAP at hcp
      have hsz := hO1.1.2.2.1
      -- stories are kept
      have fm : ∀ k j, (k = 0 ∧ j = 99) ∨ 55 ≤ k ∧ k ≤ 59 → m1.1 k j = wm.1 k j := fun k j h => hFm.2 k j (by unfold PRk PMS; omega)
      have n1 : nSt m1 = nSt wm := by unfold nSt; rw [fm 0 99 (by omega)]
      have hSI1 : STI A m1 := by
        unfold STI
        rw [n1, fm 0 99 (by omega)]
        refine ⟨hSI.1, fun s hs => ?_⟩
        rw [fm 55 s (by omega), fm 56 s (by omega), fm 57 s (by omega)]
        exact hSI.2 s hs
      have hS1 : STO w1 m1 := by
        have := hS.fr (w' := w1) (fun a k h => hF1.2 a k (by unfold PBu PCS; omega))
        unfold STO at this ⊢
        rw [n1, fm 0 99 (by omega)]
        refine ⟨this.1, fun s hs => ?_⟩
        rw [fm 55 s (by omega), fm 56 s (by omega), fm 57 s (by omega), fm 58 s (by omega), fm 59 s (by omega)]
        exact this.2 s hs
      have hs' : s < nSt m1 := by rw [n1]; exact hs
      obtain ⟨ep, hpp⟩ := (hSI1.2 s hs').1.e (by omega)
      have hp8 : (m1.1 55 s).toNatClampNeg < 8 := by omega
      have kc : OK (f_X9_gainBy c1 (nI s) w1) (fun q => q.2 = w1 ∧ q.1 = nI (gnM A m1 s true (nWy A)) - nI (gnM A m1 s false (nWy A))) := by
        unfold f_X9_gainBy
        rw [zc_ways hL1.1 hL1.2.2.1 hN, cl_s]
        refine lo6 (fun m y1 y2 y3 y4 y5 u => ∃ i, m = nWy A - i ∧ i ≤ nWy A ∧ y1 = nI s ∧ y2 = nI (gnM A m1 s true i) ∧ y3 = nI (gnM A m1 s false i) ∧ y4 = nI (nWy A) ∧ y5 = nI i ∧ w1 = u) ?_ fu (nWy A - 0) (nI s) 0 0 (nI (nWy A)) 0 w1 (by rw [fu_eq]; omega) ⟨0, rfl, Nat.zero_le _, rfl, rfl, rfl, rfl, rfl, rfl⟩
        rintro m k y1 y2 y3 y4 y5 u ⟨i, rfl, hi, rfl, rfl, rfl, rfl, rfl, rfl⟩ hk
        rw [X9_gainBy_b16]
        by_cases hin : i < nWy A
        · have g1 := gn_lt hI hPe (m := m1) (s := s) (b := true) hp8 i (by omega)
          have g2 := gn_lt hI hPe (m := m1) (s := s) (b := false) hp8 i (by omega)
          have g3 := sum_lt hI hPe hin hp8
          have o1 := on_lt (A := A) hin
          have hr := rp_le (A := A) i
          have esum : f_X5_sumIn c1 (nI i) (w1.1 23 s) w1 = some (nI (sumS A i (m1.1 55 s).toNatClampNeg), w1) := by
            unfold f_X5_sumIn
            rw [nI_clamp (n := i) (by omega), hO1.2 i hin, (hS1.2 s hs').1, ep, i8x, z_inb (show i < 5760 by omega) (by omega), if_pos rfl, z_inb (show 8 * onO A i + (m1.1 55 s).toNatClampNeg < 8 * c1 by omega) (by omega), if_pos rfl, nI_clamp (n := 8 * onO A i + (m1.1 55 s).toNatClampNeg) (by omega)]
            have := hO1.1.2.2.2.1 (rpO A i) (by omega) (rp_first i) _ hp8
            unfold onO
            rw [this, like_8 hI hPe (rp_like i) hp8, nI_clamp (n := (m1.1 55 s).toNatClampNeg) (by omega)]
            rfl
          refine OK.f (nI_ge hin (by omega)) (OK.t (z_inb (by omega) (by omega)) ?_)
          rw [nI_clamp (n := s) (by omega), esum, cl_s, zc_true hL1.2.2.1 hL1.2.1 hN hS1 hSI1 hs' hin, cl_s, if_b0]
          have st : ∀ b, gnM A m1 s b (i + 1) = if trS A m1 s i = b then (if gnM A m1 s b i < sumS A i (m1.1 55 s).toNatClampNeg then sumS A i (m1.1 55 s).toNatClampNeg else gnM A m1 s b i) else gnM A m1 s b i := fun b => rfl
          by_cases c : trS A m1 s i = false
          · refine OK.t c (OK.l (hk _ _ _ _ _ _ _ (by omega) ⟨i + 1, rfl, hin, rfl, ?_, ?_, rfl, nI_1 i, rfl⟩))
            · rw [st, if_neg (by rw [c]; decide)]
            · rw [st, if_pos c]
              by_cases q : gnM A m1 s false i < sumS A i (m1.1 55 s).toNatClampNeg
              · rw [if_pos q, if_pos (nI_lt q (by omega))]
              · rw [if_neg q, if_neg (fun h => q ((nI_ltI (by omega) (by omega)).mp h))]
          · refine OK.f c (OK.l (hk _ _ _ _ _ _ _ (by omega) ⟨i + 1, rfl, hin, rfl, ?_, ?_, rfl, nI_1 i, rfl⟩))
            · rw [Bool.not_eq_false] at c
              rw [st, if_pos c]
              by_cases q : gnM A m1 s true i < sumS A i (m1.1 55 s).toNatClampNeg
              · rw [if_pos q, if_pos (nI_lt q (by omega))]
              · rw [if_neg q, if_neg (fun h => q ((nI_ltI (by omega) (by omega)).mp h))]
            · rw [st, if_neg c]
        · have e : i = nWy A := by omega
          subst e
          exact OK.t (nI_le (Nat.le_refl _) (by omega)) (OK.s ⟨rfl, rfl⟩)
      have km : OK (X12_gain_b40_L (nI s) 0 0 0 m1) (fun q => q.2 = m1 ∧ q.1 = nI (gnM A m1 s true (nWy A)) - nI (gnM A m1 s false (nWy A))) := by
        refine lo5 (fun m y1 y2 y3 y5 u => ∃ i, m = nWy A - i ∧ i ≤ nWy A ∧ y1 = nI s ∧ y2 = nI (gnM A m1 s true i) ∧ y3 = nI (gnM A m1 s false i) ∧ y5 = nI i ∧ m1 = u) ?_ fu (nWy A - 0) (nI s) 0 0 0 m1 (by rw [fu_eq]; omega) ⟨0, rfl, Nat.zero_le _, rfl, rfl, rfl, rfl, rfl⟩
        rintro m k y1 y2 y3 y5 u ⟨i, rfl, hi, rfl, rfl, rfl, rfl, rfl⟩ hk
        rw [X12_gain_b40, zm_ways hTm hN, cl_s]
        by_cases hin : i < nWy A
        · have g1 := gn_lt hI hPe (m := m1) (s := s) (b := true) hp8 i (by omega)
          have g2 := gn_lt hI hPe (m := m1) (s := s) (b := false) hp8 i (by omega)
          have g3 := sum_lt hI hPe hin hp8
          have ei : 8 * nI i + m1.1 55 s = nI (8 * i + (m1.1 55 s).toNatClampNeg) := by rw [← ix8, ← ep]
          refine OK.f (nI_ge hin (by omega)) (OK.t (z_inb (by omega) (by omega)) ?_)
          rw [nI_clamp (n := s) (by omega), ei]
          refine OK.t (z_inb (by omega) (by omega)) (OK.l ?_)
          rw [nI_clamp (n := 8 * i + (m1.1 55 s).toNatClampNeg) (by omega), hR1.1 i hin _ hpp, zm_true hTm hN hSI1 hs' hin, cl_s, if_b0]
          unfold sI
          have st : ∀ b, gnM A m1 s b (i + 1) = if trS A m1 s i = b then (if gnM A m1 s b i < sumS A i (m1.1 55 s).toNatClampNeg then sumS A i (m1.1 55 s).toNatClampNeg else gnM A m1 s b i) else gnM A m1 s b i := fun b => rfl
          by_cases c : trS A m1 s i = false
          · refine OK.t c (OK.l (hk _ _ _ _ _ _ (by omega) ⟨i + 1, rfl, hin, rfl, ?_, ?_, nI_1 i, rfl⟩))
            · rw [st, if_neg (by rw [c]; decide)]
            · rw [st, if_pos c]
              by_cases q : gnM A m1 s false i < sumS A i (m1.1 55 s).toNatClampNeg
              · rw [if_pos q, if_pos (nI_lt q (by omega))]
              · rw [if_neg q, if_neg (fun h => q ((nI_ltI (by omega) (by omega)).mp h))]
          · refine OK.f c (OK.l (hk _ _ _ _ _ _ (by omega) ⟨i + 1, rfl, hin, rfl, ?_, ?_, nI_1 i, rfl⟩))
            · rw [Bool.not_eq_false] at c
              rw [st, if_pos c]
              by_cases q : gnM A m1 s true i < sumS A i (m1.1 55 s).toNatClampNeg
              · rw [if_pos q, if_pos (nI_lt q (by omega))]
              · rw [if_neg q, if_neg (fun h => q ((nI_ltI (by omega) (by omega)).mp h))]
            · rw [st, if_neg c]
        · have e : i = nWy A := by omega
          subst e
          exact OK.t (nI_le (Nat.le_refl _) (by omega)) (OK.s ⟨rfl, rfl⟩)
      obtain ⟨⟨r3, w3⟩, e3, g1, g2⟩ := kc
      obtain ⟨⟨r4, m4⟩, e4, g3, g4⟩ := km
      try dsimp only at g1 g2 g3 g4
      subst g1 g3
      rw [e1, cvm_s, e3, cl_s, f1, cv_s, e4, g2, g4]
      exact ⟨_, w3, c1, m4, rfl, rfl, hF1, hp1, ⟨hO1.1.2.1, fun _ => hO1⟩, hFm, Or.inr ⟨hR1, h78⟩, hcp⟩
  · rw [if_neg h2]
    rw [z_lt, nI_toInt (by omega)] at h2
    rw [nI_toInt (by omega), if_pos (decide_eq_false (fun h => by omega))]
    exact QM.rf hp hO hR
end
