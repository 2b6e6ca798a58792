/-! the desk: what no gift takes -/
def KIN (w A : Wd) : Prop := RB (w.1 31 9) (ssS A (-1)) ∧ ∀ k, k < nPe A → RB (w.1 43 k) (ssS A (nI k))
theorem KIN.fr {w w' A : Wd} (h : KIN w A) (f : TFR w w') : KIN w' A := ⟨by rw [f.2 31 9 (by omega)]; exact h.1, fun k hk => by rw [f.2 43 k (by omega)]; exact h.2 k hk⟩
def plH (A : Wd) (l : Nat) (cn vo : Nat → Bool) (o : Nat) : Nat := match rhF A l cn vo o (nIt A) with
  | some _ => 1
  | none => if (hwS A || hsK A) = true then 2 else 3
def plV (A : Wd) (l : Nat) (cn vo : Nat → Bool) (o m i : Nat) : Nat := match rhF A l cn vo o (nIt A) with
  | some set => eqP set m i
  | none => if (hwS A || hsK A) = true then kvS A l m i else 0
theorem PO9_t {w w' : Wd} (h : FX (PO 9) w w') : TFR w w' := ⟨h.1, fun a k ha => h.2 a k (by unfold PO; omega)⟩
section
variable {w A : Wd}
theorem zc_dead (hL : TLD w A) (hN : NUM A) {k : Nat} (hk : k < nPe A) : f_X0_isDead 31 (nI k) w = some (bI (ddS A k), w) := by
  have h8 := hN.2.1.2
  unfold f_X0_isDead
  rw [if_bt (by omega), (hL.1.2.2.1 k hk).2.2]
  show (if ddS A k = false then _ else _) = _
  cases ddS A k <;> rfl
theorem zc_pass (hL : TLD w A) (hK : KIN w A) (hN : NUM A) {P : Nat → Nat} (hP : PV w 9 P) {M : Nat} (hM : ∀ i, P i ≤ M) (hM2 : M ≤ 2000000) : OK (X7_partLeft_b132_L 0 w) (fun q => q.1 = 2 ∧ PV q.2 9 (psF A P (nPe A)) ∧ FX (PO 9) w q.2) := by
  have h8 := hN.2.1.2
  refine lo2 (fun n y u => ∃ j, n = nPe A - j ∧ j ≤ nPe A ∧ y = nI j ∧ FX (PO 9) w u ∧ PV u 9 (psF A P j)) ?_ fu (nPe A - 0) 0 w (by rw [fu_eq]; omega) ⟨0, rfl, Nat.zero_le _, rfl, FX.rf _ w, hP⟩
  rintro n k y u ⟨j, rfl, hj, rfl, hF, hu⟩ hk
  have hLu := hL.fr hN (PO9_t hF)
  have hKu := hK.fr (PO9_t hF)
  rw [X7_partLeft_b132, hLu.1.1.2.1, hN.2.1.1]
  by_cases hin : j < nPe A
  · refine OK.f (nI_ge hin (by omega)) ?_
    rw [zc_dead hLu hN hin, cl_s, if_b0]
    have hb : psF A P j j ≤ 256 * M := by
      have h1 := ps_le h8 hM j j
      have h2 : 2 ^ j ≤ 2 ^ 8 := Nat.pow_le_pow_right (by omega) (by omega)
      exact Nat.le_trans h1 (Nat.mul_le_mul_right M h2)
    have hstep : psF A P (j + 1) = pj A (psF A P j) j := rfl
    unfold pj at hstep
    by_cases d : ddS A j = false
    · rw [if_neg (fun h => by rw [d] at h; exact absurd h.1 (by decide))] at hstep
      refine OK.t d (hk _ _ _ (by omega) ⟨j + 1, rfl, hin, nI_1 j, hF, ?_⟩)
      rw [hstep]; exact hu
    · rw [Bool.not_eq_false] at d
      refine OK.f (by rw [d]; decide) (OK.t (z_inb (by omega) (by omega)) ?_)
      rw [nI_clamp (by omega), hu j (by omega)]
      by_cases z : 0 < psF A P j j
      · rw [if_pos ⟨d, z⟩] at hstep
        refine OK.f (nI_nle z (by omega)) (OK.t (z_inb (by omega) (by omega)) (OK.l (OK.t (z_inb (by omega) (by omega)) (OK.l (OK.t (z_inb (by omega) (by omega)) ?_)))))
        rw [show (wI u 9 j 0).1 43 j = u.1 43 j by rw [wI_g, if_neg (by omega)]]
        have hu2 : PV (wI u 9 j 0) 9 (fun i => if i = j then 0 else psF A P j i) := by
          intro i hi
          try dsimp only
          rw [wI_g]
          by_cases e : i = j
          · rw [if_pos ⟨rfl, e⟩, if_pos e]; rfl
          · rw [if_neg (fun h => e h.2), if_neg e]; exact hu i hi
        refine OK.v ((zc_equal (hKu.2 j hin) (ss_8 h8) (m := psF A P j j) (by omega) hu2).m ?_)
        rintro u3 ⟨h1, h2⟩
        refine hk _ _ _ (by omega) ⟨j + 1, rfl, hin, nI_1 j, (hF.tr (FX.w u _ rfl)).tr h2, ?_⟩
        rw [hstep]; exact h1
      · rw [if_neg (fun h => z h.2)] at hstep
        rw [show psF A P j j = 0 by omega]
        refine OK.t (by decide) (hk _ _ _ (by omega) ⟨j + 1, rfl, hin, nI_1 j, hF, ?_⟩)
        rw [hstep]; exact hu
  · have e : j = nPe A := by omega
    subst e
    exact OK.t (nI_le (Nat.le_refl _) (by omega)) (OK.s ⟨rfl, hu, hF⟩)
theorem zc_left (hL : TLD w A) (hK : KIN w A) (hI : INV A) (hPe : PEI A) {l o m : Nat} {cn vo : Nat → Bool} (hM : CVd w (84 + 3 * l) cn vo l A) (hl : l < nLa A) (ho : o < nOr A) (hw : w.1 8 11 = nI o) (hm : m < 1000000) (h0 : PV w 9 (fun _ => 0)) : OK (f_X7_partLeft (nI l) (nI m) w) (fun q => q.1 = nI (plH A l cn vo o) ∧ PV q.2 9 (plV A l cn vo o m) ∧ FX (PO 9) w q.2) := by
  have hN := hI.1
  have h8 := hN.2.1.2
  have hL4 := hN.1.2
  have hle := hrs_le hPe (m := m) hl
  obtain ⟨wr, hwr, ewr⟩ := (hPe.2.2.2.2.2 l hl).1
  unfold f_X7_partLeft plH plV
  refine OK.t (z_inb (by omega) (by omega)) ?_
  rw [nI_clamp (by omega)]
  refine OK.c ((zc_rest hL hI hPe hM ho hw).m ?_)
  rintro ⟨r, u⟩ ⟨hu, hr⟩
  dsimp only at hu hr ⊢
  subst hu
  rcases hr with ⟨hn, rfl⟩ | ⟨set, hs, hRB, hr0⟩
  · rw [hn]
    dsimp only
    refine OK.t rfl ?_
    have hst : hsK A = false ↔ u.1 31 9 = 0 := by
      unfold hsK
      constructor
      · intro h
        have c : fb_ct (ssS A (-1)) 8 = 0 := Classical.byContradiction (fun q => by rw [decide_eq_true q] at h; cases h)
        refine b_ext (fun j hj => ?_)
        rw [hK.1 j hj, b_0]
        cases q : ssS A (-1) j
        · rfl
        · have := fb_ct_zero.mp c j (ss_8 h8 j q)
          rw [q] at this; cases this
      · intro h
        refine decide_eq_false (fun q => q (fb_ct_zero.mpr (fun k hk => ?_)))
        rw [← hK.1 k (by omega), h, b_0]
    have last : ∀ v, FX (PO 9) u v → PV v 9 (fun i => if (hwS A && decide (nI i = A.1 0 19)) = true then hrsS A l m else 0) → (hwS A || hsK A) = true → OK (X7_partLeft_b117 (nI m) (nI (hrsS A l m)) v) (fun q => q.1 = nI (if (hwS A || hsK A) = true then 2 else 3) ∧ PV q.2 9 (fun i => if (hwS A || hsK A) = true then kvS A l m i else 0) ∧ FX (PO 9) u q.2) := by
      intro v hF hv hor
      have hLv := hL.fr hN (PO9_t hF)
      have hKv := hK.fr (PO9_t hF)
      unfold X7_partLeft_b117
      rw [pk_sub hle]
      refine OK.v ((zc_equal hKv.1 (ss_8 h8) (m := m - hrsS A l m) (by omega) hv).m ?_)
      rintro v2 ⟨h1, h2⟩
      have hP : PV v2 9 (fun i => if i < 8 then p0S A l m i else 0) := fun i hi => by
        try dsimp only
        rw [if_pos hi]; exact h1 i hi
      refine (zc_pass (hLv.fr hN (PO9_t h2)) (hKv.fr (PO9_t h2)) hN hP (M := 2 * m) (fun i => ?_) (by omega)).m ?_
      · show (if i < 8 then p0S A l m i else 0) ≤ 2 * m
        split
        · unfold p0S
          have := eqP_le (ss_8 h8 (of := -1)) (m := m - hrsS A l m) (i := i)
          split <;> omega
        · omega
      · rintro ⟨r, v3⟩ ⟨e1, e2, e3⟩
        dsimp only at e1 e2 e3 ⊢
        rw [if_pos hor]
        refine ⟨e1, fun i hi => ?_, (hF.tr h2).tr e3⟩
        try dsimp only
        rw [if_pos hor, e2 i hi, pass_kv hPe h8 l m hi]
    have b104 : hwS A = true → OK (X7_partLeft_b104 (nI m) (nI (hrsS A l m)) u) (fun q => q.1 = nI (if (hwS A || hsK A) = true then 2 else 3) ∧ PV q.2 9 (fun i => if (hwS A || hsK A) = true then kvS A l m i else 0) ∧ FX (PO 9) u q.2) := by
      intro c
      have c' := c
      unfold hwS at c'
      rw [Bool.and_eq_true] at c'
      obtain ⟨q, hq, e⟩ := hPe.2.1.resolve_left (of_decide_eq_true c'.1)
      unfold X7_partLeft_b104
      rw [hL.1.2.2.2.2.1.1, e]
      refine OK.t (z_inb (by omega) (by omega)) (OK.l ?_)
      rw [nI_clamp (by omega)]
      refine last _ (FX.w u _ rfl) (fun i hi => ?_) (by rw [c, Bool.true_or])
      try dsimp only
      rw [wI_g, c, Bool.true_and, e]
      by_cases ei : i = q
      · rw [if_pos ⟨rfl, ei⟩, ei, decide_eq_true rfl, if_pos rfl]
      · rw [if_neg (fun h => ei h.2), decide_eq_false (fun h => ei ((nI_eq (by omega) (by omega)).mp h)), if_neg (by decide)]; exact h0 i hi
    have b73 : (hwS A || hsK A) = true → OK (X7_partLeft_b73 (nI l) (nI m) (bI (hwS A)) u) (fun q => q.1 = nI (if (hwS A || hsK A) = true then 2 else 3) ∧ PV q.2 9 (fun i => if (hwS A || hsK A) = true then kvS A l m i else 0) ∧ FX (PO 9) u q.2) := by
      intro hor
      unfold X7_partLeft_b73
      rw [if_b0]
      by_cases c : hwS A = false
      · have hz : hrsS A l m = 0 := by unfold hrsS; rw [if_neg (by rw [c]; decide)]
        have hl0 := last u (FX.rf _ u) (fun i hi => by
          dsimp only
          rw [c, Bool.false_and, if_neg (by decide)]; exact h0 i hi) hor
        rw [hz] at hl0
        exact OK.t c hl0
      · refine OK.f c ?_
        rw [Bool.not_eq_false] at c
        have hb := b104 c
        by_cases c2 : hsK A = false
        · have hz : hrsS A l m = m := by unfold hrsS; rw [if_pos c, if_neg (by rw [c2]; decide)]
          rw [hz] at hb
          exact OK.t (hst.mp c2) hb
        · have hz : hrsS A l m = m * wr / 100 := by
            rw [Bool.not_eq_false] at c2
            unfold hrsS; rw [if_pos c, if_pos c2, ewr, nI_clamp (by omega)]
          refine OK.f (fun h => c2 (hst.mpr h)) ?_
          have hp : m * wr < 2 ^ 31 := by
            have : m * wr ≤ m * 100 := Nat.mul_le_mul_left m (by omega)
            omega
          rw [show (9 : Int32) = nI 9 from rfl, zc_ruleOf hL.1 hN hl (by omega), cl_s, ewr, pk_mul, show (100 : Int32) = nI 100 from rfl, pk_div hp (by omega) (by omega), ← hz]
          exact hb
    have b57 : OK (X7_partLeft_b57 (nI l) (nI m) (bI (hwS A)) u) (fun q => q.1 = nI (if (hwS A || hsK A) = true then 2 else 3) ∧ PV q.2 9 (fun i => if (hwS A || hsK A) = true then kvS A l m i else 0) ∧ FX (PO 9) u q.2) := by
      unfold X7_partLeft_b57
      rw [if_b0]
      by_cases c : hwS A = false
      · refine OK.t c ?_
        by_cases c2 : hsK A = false
        · refine OK.t (hst.mp c2) (OK.s ⟨?_, fun i hi => ?_, FX.rf _ u⟩)
          · rw [c, c2]; rfl
          · dsimp only
            rw [c, c2]; exact h0 i hi
        · exact OK.f (fun h => c2 (hst.mpr h)) (b73 (by rw [Bool.not_eq_false] at c2; rw [c2, Bool.or_true]))
      · exact OK.f c (b73 (by rw [Bool.not_eq_false] at c; rw [c, Bool.true_or]))
    rw [hL.1.2.2.2.2.1.1]
    by_cases c : A.1 0 19 = -1
    · have hh : hwS A = false := by unfold hwS; rw [decide_eq_false (fun q => q c), Bool.false_and]
      rw [hh] at b57 ⊢
      exact OK.t (by rw [c]; decide) b57
    · obtain ⟨q, hq, e⟩ := hPe.2.1.resolve_left c
      have hcl : (A.1 0 19).toNatClampNeg = q := by rw [e, nI_clamp (by omega)]
      have hh : hwS A = !ddS A q := by unfold hwS; rw [decide_eq_true c, Bool.true_and, hcl]
      rw [e]
      refine OK.f (nI_pos (by omega)) ?_
      rw [zc_dead hL hN hq, cl_s, if_b0]
      by_cases d : ddS A q = false
      · rw [hh, d] at b57 ⊢
        exact OK.t rfl b57
      · rw [Bool.not_eq_false] at d
        rw [hh, d] at b57 ⊢
        exact OK.f (by decide) b57
  · rw [hs]
    dsimp only
    refine OK.f hr0 (OK.v ((zc_equal hRB (rh_8 h8 hs).2 (m := m) (by omega) h0).m ?_))
    rintro v ⟨h1, h2⟩
    refine OK.s ⟨rfl, fun i hi => ?_, h2⟩
    have := h1 i hi
    dsimp only at this ⊢
    rw [Nat.zero_add] at this
    exact this
end
