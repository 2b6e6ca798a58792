/-! by kin, the reference's side -/
theorem PO_t {w w' A : Wd} (h : FX (PO 48) w w') (hT : tol w = A) : tol w' = A := h.ot hT (fun k _ => by unfold PO; omega) (fun o k _ => by unfold PO; omega)
theorem lp_succ {τ : Type} (n : Nat) (z : τ) (B : τ → τ) : lp (n + 1) z B = B (lp n z B) := rfl
theorem toS_s (n : Nat) : f_X12_toStems_n (n + 1) = X12_toStems_body (f_X12_toStems_n n) := by
  unfold f_X12_toStems_n
  exact lp_succ n _ _
theorem vG_0 {A : Wd} {rec : Nat → Nat → Nat → Nat} {of : Int32} {m i k : Nat} (h : ssS A of k = false) : vG A rec of m i k = 0 := by
  unfold vG; rw [h, if_neg (by decide)]
theorem sm_0 {f : Nat → Nat} {n : Nat} (h : ∀ k, k < n → f k = 0) : fb_sm f n = 0 := by
  rw [fb_sm_cong (g := fun _ => 0) h, fb_sm_const, Nat.mul_zero]
theorem zm_toStems {A : Wd} (hI : INV A) (hPe : PEI A) : ∀ (n : Nat) (of : Int32) (m : Nat) (w : Wd) (v : Nat → Nat), tol w = A → (of = -1 ∧ nPe A < n ∨ ∃ p, p < nPe A ∧ of = nI p ∧ nPe A - p ≤ n) → m < 1000000000 → PV w 48 v → OK (f_X12_toStems_n n of (nI m) w) (fun q => PV q.2 48 (fun i => v i + vF A n of m i) ∧ FX (PO 48) w q.2) := by
  have hN := hI.1
  have h8 := hN.2.1.2
  intro n
  induction n with
  | zero =>
    intro of m w v _ h
    rcases h with h | ⟨p, hp, -, h⟩ <;> omega
  | succ n ih =>
    intro of m w v hT hof hm hv
    rw [toS_s]
    unfold X12_toStems_body
    have hcut : fb_ct (ssS A of) 8 = fb_ct (ssS A of) (nPe A) := fb_cut h8 (fun j h _ => by
      cases q : ssS A of j
      · rfl
      · have := ss_lt q; omega)
    have hc8 := fb_ct_le (ssS A of) 8
    have hkid : ∀ k, ssS A of k = true → nPe A - k ≤ n := by
      intro k hk
      have := ss_lt hk
      rcases hof with h | ⟨p, hp, rfl, h⟩
      · omega
      · have := ss_kin hPe h8 hp hk; omega
    refine lo5 (fun c y1 y2 y3 y4 u => ∃ k, c = nPe A - k ∧ k ≤ nPe A ∧ y1 = of ∧ y2 = nI m ∧ y3 = nI (fb_ct (ssS A of) k) ∧ y4 = nI k ∧ u = w) ?_ fu (nPe A - 0) of (nI m) 0 0 w (by rw [fu_eq]; omega) ⟨0, rfl, Nat.zero_le _, rfl, rfl, rfl, rfl, rfl⟩
    rintro c kk a1 a2 a3 a4 u ⟨k, rfl, hk, rfl, rfl, rfl, rfl, rfl⟩ hkk
    rw [X12_toStems_b5, tol_0 hT 11 rfl, hN.2.1.1]
    by_cases hin : k < nPe A
    · refine OK.f (nI_ge hin (by omega)) ?_
      rw [zm_stemOf hT hN hin, cl_s, if_b0]
      by_cases c : ssS A a1 k = false
      · refine OK.t c (OK.l (hkk _ _ _ _ _ _ (by omega) ⟨k + 1, rfl, hin, rfl, rfl, ?_, nI_1 k, rfl⟩))
        rw [Int32.add_zero, fb_ct_succ, c]; rfl
      · rw [Bool.not_eq_false] at c
        refine OK.f (by rw [c]; decide) (OK.l (hkk _ _ _ _ _ _ (by omega) ⟨k + 1, rfl, hin, rfl, rfl, ?_, nI_1 k, rfl⟩))
        rw [nI_1, fb_ct_succ, c]; rfl
    · have e : k = nPe A := by omega
      subst e
      refine OK.t (nI_le (Nat.le_refl _) (by omega)) ?_
      rw [← hcut]
      by_cases c0 : fb_ct (ssS A a1) 8 = 0
      · rw [c0]
        refine OK.t rfl (OK.s ⟨fun i hi => ?_, FX.rf _ u⟩)
        have : vF A (n + 1) a1 m i = 0 := sm_0 (fun k hk => vG_0 (fb_ct_zero.mp c0 k (by omega)))
        dsimp only
        rw [this, Nat.add_zero]; exact hv i hi
      · have hn0 : ¬ nI (fb_ct (ssS A a1) 8) = 0 := nI_ne0 (by omega) (by omega)
        have hmod : m % fb_ct (ssS A a1) 8 < fb_ct (ssS A a1) 8 := Nat.mod_lt _ (by omega)
        refine OK.f hn0 (OK.f hn0 (OK.l ?_))
        rw [pk_rem (by omega) (by omega) (by omega)]
        refine lo6 (fun c y1 y2 y3 y4 y5 x => ∃ k, c = nPe A - k ∧ k ≤ nPe A ∧ y1 = a1 ∧ y2 = nI m ∧ y3 = nI (fb_ct (ssS A a1) 8) ∧ y4.toInt = ((m % fb_ct (ssS A a1) 8 : Nat) : Int) - (fb_ct (ssS A a1) k : Nat) ∧ y5 = nI k ∧ FX (PO 48) u x ∧ ∀ j, j < 8 → x.1 48 j = nI (v j + fb_sm (vG A (fun k a j => vF A n (nI k) a j) a1 m j) k)) ?_ fu (nPe A - 0) a1 (nI m) (nI (fb_ct (ssS A a1) 8)) (nI (m % fb_ct (ssS A a1) 8)) 0 u (by rw [fu_eq]; omega) ⟨0, rfl, Nat.zero_le _, rfl, rfl, rfl, ?_, rfl, FX.rf _ u, fun j hj => ?_⟩
        · rintro c k2 b1 b2 b3 y b5 x ⟨k, rfl, hk, rfl, rfl, rfl, hy, rfl, hF, hx⟩ hkk2
          have hTx := PO_t hF hT
          rw [X12_toStems_b52, tol_0 hTx 11 rfl, hN.2.1.1]
          by_cases hin : k < nPe A
          · refine OK.f (nI_ge hin (by omega)) ?_
            rw [zm_stemOf hTx hN hin, cl_s, if_b0]
            by_cases c : ssS A b1 k = false
            · refine OK.t c (hkk2 _ _ _ _ _ _ _ (by omega) ⟨k + 1, rfl, hin, rfl, rfl, rfl, ?_, nI_1 k, hF, fun j hj => ?_⟩)
              · rw [hy, show fb_ct (ssS A b1) (k + 1) = fb_ct (ssS A b1) k by rw [fb_ct_succ, c]; rfl]
              · rw [hx j hj, fb_sm_succ, vG_0 c, Nat.add_zero]
            · rw [Bool.not_eq_false] at c
              refine OK.f (by rw [c]; decide) (OK.f hn0 ?_)
              rw [pk_div (by omega) (by omega) (by omega)]
              have hcs : fb_ct (ssS A b1) (k + 1) = fb_ct (ssS A b1) k + 1 := by rw [fb_ct_succ, c]; rfl
              have hck := fb_ct_le (ssS A b1) k
              have hq := eqP_le (ss_8 h8 (of := b1)) (m := m) (i := k)
              have stp : ∀ (t0 : Int32) (b : Nat), t0 = nI b → m / fb_ct (ssS A b1) 8 + b = eqP (ssS A b1) m k → OK (X12_toStems_b87 (f_X12_toStems_n n) k2 b1 (nI m) (nI (fb_ct (ssS A b1) 8)) y (nI k) t0 (nI (m / fb_ct (ssS A b1) 8)) x) (fun q => PV q.2 48 (fun i => v i + vF A (n + 1) b1 m i) ∧ FX (PO 48) u q.2) := by
                intro t0 b ht hb
                unfold X12_toStems_b87
                refine OK.l ?_
                rw [ht, nI_add, hb]
                refine OK.t (z_inb (by omega) (by omega)) ?_
                rw [nI_clamp (by omega), tol_a hTx 7 k (by omega)]
                by_cases cd : A.1 7 k = 0
                · have hd : ddS A k = false := decide_eq_false (fun q => q cd)
                  refine OK.t cd (OK.t (z_inb (by omega) (by omega)) (OK.t (z_inb (by omega) (by omega)) (OK.l ?_)))
                  rw [hx k (by omega), nI_add]
                  refine hkk2 _ _ _ _ _ _ _ (by omega) ⟨k + 1, rfl, hin, rfl, rfl, rfl, ?_, nI_1 k, hF.tr (FX.w x _ rfl), fun j hj => ?_⟩
                  · rw [z_m1 (by rw [hy]; omega), hy, hcs]; omega
                  · rw [wI_g, fb_sm_succ]
                    have hvk : vG A (fun k a j => vF A n (nI k) a j) b1 m j k = if j = k then eqP (ssS A b1) m k else 0 := by
                      unfold vG; rw [if_pos c, if_neg (by rw [hd]; decide)]
                    rw [hvk]
                    by_cases e : j = k
                    · rw [if_pos ⟨rfl, e⟩, if_pos e, e, Nat.add_assoc]
                    · rw [if_neg (fun h => e h.2), if_neg e, Nat.add_zero]; exact hx j hj
                · have hd : ddS A k = true := decide_eq_true cd
                  refine OK.f cd (OK.c ((ih (nI k) (eqP (ssS A b1) m k) x (fun j => v j + fb_sm (vG A (fun k a j => vF A n (nI k) a j) b1 m j) k) hTx (Or.inr ⟨k, hin, rfl, hkid k c⟩) (by omega) hx).m ?_))
                  rintro ⟨r, x2⟩ ⟨h1, h2⟩
                  refine hkk2 _ _ _ _ _ _ _ (by omega) ⟨k + 1, rfl, hin, rfl, rfl, rfl, ?_, nI_1 k, hF.tr h2, fun j hj => ?_⟩
                  · rw [z_m1 (by rw [hy]; omega), hy, hcs]; omega
                  · have hvk : vG A (fun k a j => vF A n (nI k) a j) b1 m j k = vF A n (nI k) (eqP (ssS A b1) m k) j := by
                      unfold vG; rw [if_pos c, if_pos hd]
                    rw [fb_sm_succ, hvk, ← Nat.add_assoc]
                    exact h1 j hj
              by_cases c2 : fb_ct (ssS A b1) k < m % fb_ct (ssS A b1) 8
              · refine OK.f (by rw [z_le0, hy]; omega) (stp 1 1 rfl ?_)
                unfold eqP; rw [if_pos c, if_pos c2]
              · refine OK.t (by rw [z_le0, hy]; omega) (stp 0 0 rfl ?_)
                unfold eqP; rw [if_pos c, if_neg c2]
          · have e : k = nPe A := by omega
            subst e
            exact OK.t (nI_le (Nat.le_refl _) (by omega)) (OK.s ⟨hx, hF⟩)
        · rw [nI_toInt (by omega)]; show _ = _ - ((0 : Nat) : Int); omega
        · show _ = nI (v j + 0)
          exact hv j hj
def hwS (A : Wd) : Bool := decide (¬ A.1 0 19 = -1) && !ddS A (A.1 0 19).toNatClampNeg
def hsK (A : Wd) : Bool := decide (¬ fb_ct (ssS A (-1)) 8 = 0)
def hrsS (A : Wd) (l m : Nat) : Nat := if hwS A = true then (if hsK A = true then m * (A.1 2 (13 * l + 9)).toNatClampNeg / 100 else m) else 0
def kvS (A : Wd) (l m i : Nat) : Nat := (if (hwS A && decide (nI i = A.1 0 19)) = true then hrsS A l m else 0) + vF A 10 (-1) (m - hrsS A l m) i
theorem hrs_le {A : Wd} (hPe : PEI A) {l m : Nat} (hl : l < nLa A) : hrsS A l m ≤ m := by
  obtain ⟨i, hi, e⟩ := (hPe.2.2.2.2.2 l hl).1
  unfold hrsS
  split
  · split
    · rw [e, nI_clamp (by omega)]
      refine Nat.div_le_of_le_mul ?_
      rw [Nat.mul_comm 100 m]
      exact Nat.mul_le_mul_left m (by omega)
    · exact Nat.le_refl m
  · omega
theorem zm_byKin {w A : Wd} (hT : tol w = A) (hI : INV A) (hPe : PEI A) {l m : Nat} (hl : l < nLa A) (hm : m < 10000000) {v : Nat → Nat} (hv : PV w 48 v) : OK (f_X12_byKin (nI m) (nI l) w) (fun q => (hwS A = false ∧ hsK A = false ∧ q.1 = 0 ∧ q.2 = w) ∨ ((hwS A = true ∨ hsK A = true) ∧ q.1 = 1 ∧ PV q.2 48 (fun i => v i + kvS A l m i) ∧ FX (PO 48) w q.2)) := by
  have hN := hI.1
  have h8 := hN.2.1.2
  have hL := hN.1.2
  have hle := hrs_le hPe (m := m) hl
  obtain ⟨wr, hwr, ewr⟩ := (hPe.2.2.2.2.2 l hl).1
  have hcut : fb_ct (ssS A (-1)) 8 = fb_ct (ssS A (-1)) (nPe A) := fb_cut h8 (fun j h _ => by
    cases q : ssS A (-1) j
    · rfl
    · have := ss_lt q; omega)
  have hany : anyF (ssS A (-1)) (nPe A) = hsK A := by
    unfold hsK
    rw [hcut]
    by_cases c : fb_ct (ssS A (-1)) (nPe A) = 0
    · rw [decide_eq_false (fun q => q c)]
      exact anyF_no _ (fun k hk => fb_ct_zero.mp c k hk)
    · rw [decide_eq_true c]
      obtain ⟨k, hk, e⟩ := fb_ct_pos.mp (show 0 < fb_ct (ssS A (-1)) (nPe A) by omega)
      have : anyF (ssS A (-1)) (k + 1) = true := by
        show (anyF _ k || ssS A (-1) k) = true
        rw [e, Bool.or_true]
      exact anyF_mo this _ (by omega)
  have hz : hsK A = false → ∀ a i, vF A 10 (-1) a i = 0 := by
    intro h a i
    have c : fb_ct (ssS A (-1)) 8 = 0 := Classical.byContradiction (fun q => by
      unfold hsK at h; rw [decide_eq_true q] at h; cases h)
    exact sm_0 (fun k hk => vG_0 (fb_ct_zero.mp c k (by omega)))
  have last : ∀ u h, tol u = A → h = hrsS A l m → PV u 48 (fun i => v i + (if (hwS A && decide (nI i = A.1 0 19)) = true then hrsS A l m else 0)) → FX (PO 48) w u → (hwS A = true ∨ hsK A = true) → OK (X12_byKin_b134 (nI m) (bI (hsK A)) (nI h) u) (fun q => (hwS A = false ∧ hsK A = false ∧ q.1 = 0 ∧ q.2 = w) ∨ ((hwS A = true ∨ hsK A = true) ∧ q.1 = 1 ∧ PV q.2 48 (fun i => v i + kvS A l m i) ∧ FX (PO 48) w q.2)) := by
    intro u h hTu hh hPu hFu hor
    subst hh
    unfold X12_byKin_b134
    rw [if_b0, pk_sub hle]
    by_cases c : hsK A = false
    · refine OK.t c (OK.s (Or.inr ⟨hor, rfl, fun i hi => ?_, hFu⟩))
      dsimp only
      unfold kvS
      rw [hz c, Nat.add_zero]; exact hPu i hi
    · refine OK.f c (OK.c ((zm_toStems hI hPe 10 (-1) (m - hrsS A l m) u _ hTu (Or.inl ⟨rfl, by omega⟩) (by omega) hPu).m ?_))
      rintro ⟨r, u2⟩ ⟨h1, h2⟩
      refine OK.s (Or.inr ⟨hor, rfl, fun i hi => ?_, hFu.tr h2⟩)
      have := h1 i hi
      dsimp only at this ⊢
      unfold kvS
      rw [this, Nat.add_assoc]
  have b114 : (hwS A = true ∨ hsK A = true) → OK (X12_byKin_b114 (nI m) (bI (hwS A)) (bI (hsK A)) (nI (hrsS A l m)) w) (fun q => (hwS A = false ∧ hsK A = false ∧ q.1 = 0 ∧ q.2 = w) ∨ ((hwS A = true ∨ hsK A = true) ∧ q.1 = 1 ∧ PV q.2 48 (fun i => v i + kvS A l m i) ∧ FX (PO 48) w q.2)) := by
    intro hor
    unfold X12_byKin_b114
    rw [if_b0]
    by_cases c : hwS A = false
    · refine OK.t c (last w _ hT rfl (fun i hi => ?_) (FX.rf _ w) hor)
      dsimp only
      rw [c, Bool.false_and, if_neg (by decide), Nat.add_zero]; exact hv i hi
    · refine OK.f c ?_
      rw [Bool.not_eq_false] at c
      have c' := c
      unfold hwS at c'
      rw [Bool.and_eq_true] at c'
      obtain ⟨q, hq, e⟩ := hPe.2.1.resolve_left (of_decide_eq_true c'.1)
      rw [tol_0 hT 19 rfl, e]
      refine OK.t (z_inb (by omega) (by omega)) (OK.t (z_inb (by omega) (by omega)) (OK.l ?_))
      rw [nI_clamp (by omega), hv q (by omega), nI_add]
      have hF1 : FX (PO 48) w (wI w 48 q (nI (v q + hrsS A l m))) := FX.w w _ rfl
      refine last _ _ (PO_t hF1 hT) rfl (fun i hi => ?_) hF1 hor
      dsimp only
      rw [wI_g, c, Bool.true_and, e]
      by_cases ei : i = q
      · rw [if_pos ⟨rfl, ei⟩, ei, decide_eq_true rfl, if_pos rfl]
      · rw [if_neg (fun h => ei h.2), decide_eq_false (fun h => ei ((nI_eq (by omega) (by omega)).mp h)), if_neg (by decide), Nat.add_zero]; exact hv i hi
  have b80 : (hwS A = true ∨ hsK A = true) → OK (X12_byKin_b80 (nI m) (nI l) (bI (hwS A)) (bI (hsK A)) w) (fun q => (hwS A = false ∧ hsK A = false ∧ q.1 = 0 ∧ q.2 = w) ∨ ((hwS A = true ∨ hsK A = true) ∧ q.1 = 1 ∧ PV q.2 48 (fun i => v i + kvS A l m i) ∧ FX (PO 48) w q.2)) := by
    intro hor
    have hb := b114 hor
    unfold hrsS at hb
    unfold X12_byKin_b80
    rw [if_b0, if_b0]
    by_cases c : hwS A = false
    · rw [if_neg (show ¬ hwS A = true by rw [c]; decide)] at hb
      exact OK.t c hb
    · refine OK.f c ?_
      rw [Bool.not_eq_false] at c
      rw [if_pos c] at hb
      by_cases c2 : hsK A = false
      · rw [if_neg (show ¬ hsK A = true by rw [c2]; decide)] at hb
        exact OK.t c2 hb
      · refine OK.f c2 ?_
        rw [Bool.not_eq_false] at c2
        rw [if_pos c2] at hb
        obtain ⟨r1, r2⟩ := zm_rule hT hN hl (c := 9) (by omega)
        rw [show (9 : Int32) = nI 9 from rfl, r1, r2]
        refine OK.t rfl ?_
        rw [ewr, nI_clamp (by omega)] at hb
        have hp : m * wr < 2 ^ 31 := by
          have : m * wr ≤ m * 100 := Nat.mul_le_mul_left m (by omega)
          omega
        rw [ewr, pk_mul, show (100 : Int32) = nI 100 from rfl, pk_div hp (by omega) (by omega)]
        exact hb
  have loop : OK (X12_byKin_b25 (nI m) (nI l) (bI (hwS A)) w) (fun q => (hwS A = false ∧ hsK A = false ∧ q.1 = 0 ∧ q.2 = w) ∨ ((hwS A = true ∨ hsK A = true) ∧ q.1 = 1 ∧ PV q.2 48 (fun i => v i + kvS A l m i) ∧ FX (PO 48) w q.2)) := by
    unfold X12_byKin_b25
    refine lo6 (fun c y1 y2 y3 y4 y5 u => ∃ k, c = nPe A - k ∧ k ≤ nPe A ∧ y1 = nI m ∧ y2 = nI l ∧ y3 = bI (hwS A) ∧ y4 = bI (anyF (ssS A (-1)) k) ∧ y5 = nI k ∧ u = w) ?_ fu (nPe A - 0) (nI m) (nI l) (bI (hwS A)) 0 0 w (by rw [fu_eq]; omega) ⟨0, rfl, Nat.zero_le _, rfl, rfl, rfl, rfl, rfl, rfl⟩
    rintro c kk a1 a2 a3 a4 a5 u ⟨k, rfl, hk, rfl, rfl, rfl, rfl, rfl, rfl⟩ hkk
    rw [X12_byKin_b32, tol_0 hT 11 rfl, hN.2.1.1]
    by_cases hin : k < nPe A
    · refine OK.f (nI_ge hin (by omega)) ?_
      rw [if_b0]
      by_cases c : anyF (ssS A (-1)) k = false
      · refine OK.t c ?_
        rw [zm_stemOf hT hN hin, cl_s, if_b0]
        have hs : anyF (ssS A (-1)) (k + 1) = ssS A (-1) k := by
          show (anyF (ssS A (-1)) k || ssS A (-1) k) = _
          rw [c, Bool.false_or]
        by_cases c2 : ssS A (-1) k = false
        · refine OK.t c2 (hkk _ _ _ _ _ _ _ (by omega) ⟨k + 1, rfl, hin, rfl, rfl, rfl, ?_, nI_1 k, rfl⟩)
          rw [hs, c2]; rfl
        · rw [Bool.not_eq_false] at c2
          refine OK.f (by rw [c2]; decide) (hkk _ _ _ _ _ _ _ (by omega) ⟨k + 1, rfl, hin, rfl, rfl, rfl, ?_, nI_1 k, rfl⟩)
          rw [hs, c2]; rfl
      · rw [Bool.not_eq_false] at c
        refine OK.f (by rw [c]; decide) (hkk _ _ _ _ _ _ _ (by omega) ⟨k + 1, rfl, hin, rfl, rfl, rfl, ?_, nI_1 k, rfl⟩)
        rw [anyF_mo c (k + 1) (by omega)]; rfl
    · have e : k = nPe A := by omega
      subst e
      refine OK.t (nI_le (Nat.le_refl _) (by omega)) ?_
      rw [hany, if_b0, if_b0]
      by_cases c : hwS A = false
      · refine OK.t c ?_
        by_cases c2 : hsK A = false
        · exact OK.t c2 (OK.s (Or.inl ⟨c, c2, rfl, rfl⟩))
        · exact OK.f c2 (b80 (Or.inr (by rw [Bool.not_eq_false] at c2; exact c2)))
      · exact OK.f c (b80 (Or.inl (by rw [Bool.not_eq_false] at c; exact c)))
  unfold f_X12_byKin
  rw [tol_0 hT 19 rfl]
  unfold hwS at loop ⊢
  by_cases c : A.1 0 19 = -1
  · rw [decide_eq_false (fun q => q c), Bool.false_and] at loop ⊢
    exact OK.t c loop
  · refine OK.f c ?_
    obtain ⟨q, hq, e⟩ := hPe.2.1.resolve_left c
    rw [decide_eq_true c, Bool.true_and] at loop ⊢
    have hcl : (A.1 0 19).toNatClampNeg = q := by rw [e, nI_clamp (by omega)]
    rw [hcl] at loop ⊢
    refine OK.t (by rw [e]; exact z_inb (by omega) (by omega)) ?_
    rw [tol_a hT 7 q (by omega)]
    by_cases c2 : A.1 7 q = 0
    · rw [show ddS A q = false from decide_eq_false (fun z => z c2)] at loop ⊢
      exact OK.t c2 loop
    · rw [show ddS A q = true from decide_eq_true c2] at loop ⊢
      exact OK.f c2 loop
