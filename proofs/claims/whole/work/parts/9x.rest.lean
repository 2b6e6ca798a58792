/-! the rest -/
-- PTC PTM P14 P69 PRD PRR
theorem anyF_x {g : Nat → Bool} : ∀ {n : Nat}, anyF g n = true → ∃ k, k < n ∧ g k = true
  | 0, h => by cases h
  | n + 1, h => by
    have e : (anyF g n || g n) = true := h
    rw [Bool.or_eq_true] at e
    rcases e with q | q
    · obtain ⟨k, hk, e⟩ := anyF_x q
      exact ⟨k, by omega, e⟩
    · exact ⟨n, by omega, q⟩
theorem CLA.tr {c p : Nat} {w0 m0 w m : Wd} {x : Option Wd} {y : Option (Int32 × Wd)} (hF : FXL (PRD c) PTl w0 w) (hM : FX (PRR p) m0 m) (hp : PTG m0 ≤ PTG m) (h : CLA c p w m x y) : CLA c p w0 m0 x y := by
  obtain ⟨w', m', e1, hF1, hM1, hr⟩ := h
  refine ⟨w', m', e1, hF.tr hF1, hM.tr hM1, ?_⟩
  rcases hr with ⟨e2, hG, hg, hP⟩ | ⟨e2, hf⟩
  · exact Or.inl ⟨e2, hG, by omega, hP⟩
  · exact Or.inr ⟨e2, hf⟩
theorem hr_bt {m : Wd} {p n : Nat} (hn : n ≤ 8) : ∀ k, (∀ h, h < k → NN (m.1 36 (4 * p + h)) n) → ∀ i, i < 32 → bt (hrF m p k) i = anyF (fun h => decide (m.1 36 (4 * p + h) = nI i)) k
  | 0, _, i, hi => b_0 i
  | k + 1, h, i, hi => by
    obtain ⟨j, hj, e⟩ := h k (by omega)
    show bt (hrF m p k ||| 1 <<< (m.1 36 (4 * p + k) &&& 31)) i = (anyF (fun h => decide (m.1 36 (4 * p + h) = nI i)) k || decide (m.1 36 (4 * p + k) = nI i))
    rw [b_or, hr_bt hn k (fun h' hh => h h' (by omega)) i hi, e, z_one (by omega) (by omega)]
    congr 1
    refine decide_eq_decide.mpr ?_
    rw [nI_eq (by omega) (by omega)]
    exact ⟨fun q => q.symm, fun q => q.symm⟩
theorem hr_cgk {m m' : Wd} {p : Nat} : ∀ n, (∀ k, k < n → m'.1 36 (4 * p + k) = m.1 36 (4 * p + k)) → hrF m' p n = hrF m p n
  | 0, _ => rfl
  | n + 1, h => by
    show hrF m' p n ||| 1 <<< (m'.1 36 (4 * p + n) &&& 31) = hrF m p n ||| 1 <<< (m.1 36 (4 * p + n) &&& 31)
    rw [hr_cgk n (fun k hk => h k (by omega)), h n (by omega)]
theorem gn_or {m m' : Wd} {p : Nat} {x : Int32} (h : hrS m' p = hrS m p ||| x) : ∀ n, (∀ k, m'.1 34 k = m.1 34 k) → gnF m' p n = gnF m p n ||| x
  | 0, _ => h
  | n + 1, k => by
    show gnF m' p n ||| 1 <<< (m'.1 34 (8 * p + n) &&& 31) = (gnF m p n ||| 1 <<< (m.1 34 (8 * p + n) &&& 31)) ||| x
    rw [gn_or h n k, k, Int32.or_assoc, Int32.or_assoc, Int32.or_comm x]
theorem gn_hr {m : Wd} {p : Nat} : ∀ n, gnF m p n ||| hrS m p = gnF m p n
  | 0 => Int32.or_self
  | n + 1 => by
    show (gnF m p n ||| 1 <<< (m.1 34 (8 * p + n) &&& 31)) ||| hrS m p = gnF m p n ||| 1 <<< (m.1 34 (8 * p + n) &&& 31)
    rw [Int32.or_assoc, Int32.or_comm _ (hrS m p), ← Int32.or_assoc, gn_hr n]
section
variable {w m : Wd} {c p : Nat}
/-- the loop over heirs told -/
theorem zm_heirL (hp4 : p < 4) (h24 : m.1 24 p = nI (nHe m p)) (h5 : nHe m p < 4) {r : Int32} {m5 m3 m6 : Wd} (b5 : f_X12_bad 5 m = some (0, m5)) (b3 : f_X12_bad 3 m = some (0, m3)) (b6 : f_X12_scan (wI (wI m 36 (4 * p + nHe m p) r) 24 p (nI (nHe m p + 1))) = some m6) : OK (X12_readHeir_b34_L (nI p) r 0 m) (fun q => (r = -1 → q = (0, m5)) ∧ (¬ r = -1 → anyF (fun h => decide (m.1 36 (4 * p + h) = r)) (nHe m p) = true → q = (0, m3)) ∧ (¬ r = -1 → anyF (fun h => decide (m.1 36 (4 * p + h) = r)) (nHe m p) = false → q = (1, m6))) := by
  refine lo4 (fun n y1 y2 y3 v => ∃ i, n = nHe m p - i ∧ i ≤ nHe m p ∧ y1 = nI p ∧ y2 = r ∧ y3 = nI i ∧ m = v ∧ (¬ r = -1 → anyF (fun h => decide (m.1 36 (4 * p + h) = r)) i = false)) ?_ fu (nHe m p - 0) (nI p) r 0 m (by rw [fu_eq]; omega) ⟨0, rfl, Nat.zero_le _, rfl, rfl, rfl, rfl, fun _ => rfl⟩
  rintro n k y1 y2 y3 v ⟨i, rfl, hi, rfl, rfl, rfl, rfl, ha⟩ hk
  rw [X12_readHeir_b34]
  refine OK.t (z_inb hp4 (by omega)) ?_
  rw [nI_clamp (n := p) (by omega), h24]
  by_cases c1 : i < nHe m p
  · refine OK.f (nI_ge c1 (by omega)) (OK.i (fun d => ?_) (fun d => ?_))
    · exact hk _ _ _ _ _ (by omega) ⟨i + 1, rfl, c1, rfl, rfl, nI_1 i, rfl, fun q => absurd d q⟩
    · rw [k4, pk_mul, nI_add]
      refine OK.t (z_inb (by omega) (by omega)) ?_
      rw [nI_clamp (by omega)]
      refine OK.i (fun e => ?_) (fun e => ?_)
      · rw [b3, cl_s]
        exact OK.t rfl (OK.s ⟨fun q => absurd q d, fun _ _ => rfl, fun _ q => by rw [anyF_of (g := fun h => decide (m.1 36 (4 * p + h) = y2)) c1 (decide_eq_true e)] at q; cases q⟩)
      · refine hk _ _ _ _ _ (by omega) ⟨i + 1, rfl, c1, rfl, rfl, nI_1 i, rfl, fun q => ?_⟩
        show (anyF (fun h => decide (m.1 36 (4 * p + h) = y2)) i || decide (m.1 36 (4 * p + i) = y2)) = false
        rw [ha q, decide_eq_false e]; rfl
  · have e : i = nHe m p := by omega
    subst e
    refine OK.t (nI_le (Nat.le_refl _) (by omega)) (OK.i (fun d => ?_) (fun d => ?_))
    · rw [b5, cl_s]
      exact OK.t rfl (OK.s ⟨fun _ => rfl, fun q => absurd d q, fun q => absurd d q⟩)
    · refine OK.t (z_inb hp4 (by omega)) ?_
      rw [k4, pk_mul, nI_add]
      refine OK.t (z_inb (by omega) (by omega)) (OK.l (OK.t (z_inb hp4 (by omega)) (OK.t (z_inb hp4 (by omega)) (OK.l ?_))))
      rw [nI_clamp (n := 4 * p + nHe m p) (by omega), wI_g, if_neg (show ¬ (24 = 36 ∧ p = 4 * p + nHe m p) by omega), h24, nI_1, b6, cv_s]
      refine OK.s ?_
      refine ⟨fun q => absurd q d, fun q1 q2 => ?_, fun _ _ => rfl⟩
      rw [ha q1] at q2; cases q2
theorem q_heir (h : GR w m) (hC : gC w m c p) (h4 : nHe m p < 4) (hX : CTX w m p) : ∃ r w', f_X10_known 34 8 (w.1 c 3) w = some (r, w') ∧ FXL PTC PTl w w' ∧ ((∃ i m', r = nI i ∧ i < nPe m ∧ bt (hrS m p) i = false ∧ f_X12_readHeir m = some (1, m') ∧ GR w' m' ∧ PTG m ≤ PTG m' ∧ m'.1 24 p = nI (nHe m p + 1) ∧ m'.1 36 (4 * p + nHe m p) = nI i ∧ FX (fun a k => PTM a k ∨ (a = 24 ∧ k = p) ∨ (a = 36 ∧ k = 4 * p + nHe m p)) m m') ∨ (r = -1 ∧ ∃ m', f_X12_readHeir m = some (0, m') ∧ FT w' m' ∧ FX PTM m m')) := by
  obtain ⟨h49, hp4, h11, hP8, -, -, hN1, -⟩ := hX
  obtain ⟨hc3, hn5, hh, hct⟩ := hC
  have h24 : m.1 24 p = nI (nHe m p) := (hn5.e (by omega)).1
  unfold f_X10_known f_X12_readHeir
  rw [h.kd, h49, lt_s']
  by_cases k1 : m.1 0 5 = 1
  · rw [if_pos k1, if_pos k1, h11]
    obtain ⟨r, u1, u2, hr⟩ := q_find h k1 hN1
    rw [u1, cl_s, u2, cl_s]
    obtain ⟨w5, m5, a5, b5, f5, F5, M5⟩ := q_fail h (k := 5) (by decide)
    obtain ⟨w3, m3, a3, b3, f3, F3, M3⟩ := q_fail h (k := 3) (by decide)
    obtain ⟨w6, m6, a6, b6, G6, p6, -, F6, M6⟩ := q_step ((h.r (a := 36) (k := 4 * p + nHe m p) (v := r) (by omega)).r (a := 24) (k := p) (v := nI (nHe m p + 1)) (by omega))
    rw [PTG_r (by omega), PTG_r (by omega)] at p6
    obtain ⟨q, eq, q1, q2, q3⟩ := zm_heirL hp4 h24 h4 b5 b3 b6
    rw [eq]
    by_cases d : r = -1
    · rw [if_pos d, a5, cv_s, q1 d]
      exact ⟨_, w5, rfl, F5, Or.inr ⟨rfl, m5, rfl, f5, M5⟩⟩
    · rw [if_neg d]
      obtain ⟨i, hi, rfl⟩ := hr.resolve_left d
      rw [hc3, if_bt (show i < 32 by omega)]
      have hb : bt (hrS m p) i = anyF (fun h => decide (m.1 36 (4 * p + h) = nI i)) (nHe m p) := hr_bt hP8 (nHe m p) hh i (by omega)
      cases e : bt (hrS m p) i
      · rw [if_pos rfl, a6, cv_s, q3 d (hb.symm.trans e)]
        refine ⟨_, w6, rfl, F6, Or.inl ⟨i, m6, rfl, hi, e, rfl, G6, p6, ?_, ?_, ?_⟩⟩
        · rw [M6.2 _ _ (by simp only [PTC, PTM, P14, P69, PRD, PRR, and_true, true_and, or_true, true_or, and_self] <;> omega), wI_s]
        · rw [M6.2 _ _ (by simp only [PTC, PTM, P14, P69, PRD, PRR, and_true, true_and, or_true, true_or, and_self] <;> omega), wI_g, if_neg (by omega), wI_s]
        · exact ((FX.w m _ (by simp only [PTC, PTM, P14, P69, PRD, PRR, and_true, true_and, or_true, true_or, and_self] <;> omega)).tr (FX.w _ _ (by simp only [PTC, PTM, P14, P69, PRD, PRR, and_true, true_and, or_true, true_or, and_self] <;> omega))).tr (M6.mo (fun a k q => Or.inl q))
      · rw [if_neg (by decide), a3, cv_s, q2 d (hb.symm.trans e)]
        exact ⟨_, w3, rfl, F3, Or.inr ⟨rfl, m3, rfl, f3, M3⟩⟩
  · rw [if_neg k1, if_neg k1]
    obtain ⟨w5, m5, a5, b5, f5, F5, M5⟩ := q_fail h (k := 1) (by decide)
    rw [a5, cv_s, b5, cl_s, if_pos (show isB 0 = true from rfl)]
    exact ⟨_, w5, rfl, F5, Or.inr ⟨rfl, m5, rfl, f5, M5⟩⟩
/-- between heirs -/
def HRI (w m : Wd) (c p : Nat) : Prop := gA w m c p ∧ gB w m c p ∧ gC w m c p ∧ gD w m c p ∧ gW w m c p ∧ gV w m c p ∧ gE w m c p ∧ gF w m c p ∧ w.1 c 16 ||| w.1 c 3 = gnS m p ∧ bt (m.1 0 69) 4 = true
theorem HRI.fr {w' m' : Wd} (h : HRI w m c p) (hc : 57 ≤ c) (hF : FXL PTC PTl w w') (hM : FX PTM m m') : HRI w' m' c p := by
  obtain ⟨h1, h2, h3, h4, h5, h6, h7, h8, h9, h10⟩ := h
  have eg : gnS m' p = gnS m p := by
    unfold gnS nGi
    rw [hM.2 _ _ (by simp only [PTC, PTM, P14, P69, PRD, PRR, and_true, true_and, or_true, true_or, and_self] <;> omega), gn_cg (hrS_cg (fun k => hM.2 36 k (by simp only [PTC, PTM, P14, P69, PRD, PRR, and_true, true_and, or_true, true_or, and_self] <;> omega)) (hM.2 24 p (by simp only [PTC, PTM, P14, P69, PRD, PRR, and_true, true_and, or_true, true_or, and_self] <;> omega))) _ (fun k _ => hM.2 34 _ (by simp only [PTC, PTM, P14, P69, PRD, PRR, and_true, true_and, or_true, true_or, and_self] <;> omega))]
  refine ⟨h1.fr hF hM ?_ ?_ ?_ ?_, h2.fr hF hM ?_ ?_ ?_, h3.fr hF hM ?_ ?_ ?_ (fun k => ?_), h4.fr hF hM ?_ ?_ ?_ ?_, h5.fr hF hM ?_ ?_, h6.fr hF hM ?_ ?_, h7.fr hF hM ?_ ?_ (fun a k _ _ => ?_) ?_ (fun a k _ => ?_) ?_ ?_, h8.fr hF hM ?_ ?_ ?_ ?_ ?_ ?_, (by rw [hF.1 _ _ (by simp only [PTC, PTM, P14, P69, PRD, PRR, and_true, true_and, or_true, true_or, and_self] <;> omega), hF.1 _ _ (by simp only [PTC, PTM, P14, P69, PRD, PRR, and_true, true_and, or_true, true_or, and_self] <;> omega), eg]; exact h9), (by rw [hM.2 _ _ (by simp only [PTC, PTM, P14, P69, PRD, PRR, and_true, true_and, or_true, true_or, and_self] <;> omega)]; exact h10)⟩
  all_goals (simp only [PTC, PTM, P14, P69, PRD, PRR, and_true, true_and, or_true, true_or, and_self] <;> omega)
theorem HRI.add {w' m' : Wd} (h : HRI w m c p) (hc : 57 ≤ c) (hp4 : p < 4) (hP8 : nPe m ≤ 8) (hF : FXL PTC PTl w w') {i : Nat} (hi : i < nPe m) (hb : bt (hrS m p) i = false) (h4 : nHe m p < 4) (e24 : m'.1 24 p = nI (nHe m p + 1)) (e36 : m'.1 36 (4 * p + nHe m p) = nI i) (hM : FX (fun a k => PTM a k ∨ (a = 24 ∧ k = p) ∨ (a = 36 ∧ k = 4 * p + nHe m p)) m m') : HRI (wI w' c 3 (w.1 c 3 ||| (1 <<< (nI i &&& 31)))) m' c p ∧ nHe m' p = nHe m p + 1 := by
  obtain ⟨h1, h2, h3, h4', h5, h6, h7, h8, h9, h10⟩ := h
  have hFa : FXL (fun a k => PTC a k ∨ (a = c ∧ k = 3)) PTl w (wI w' c 3 (w.1 c 3 ||| (1 <<< (nI i &&& 31)))) := (hF.mo (fun a k q => by simp only [PTC, PTM, P14, P69, PRD, PRR] at q ⊢; omega) (fun a k q => q)).tr (FXL.w _ _ (by simp only [PTC, PTM, P14, P69, PRD, PRR, and_true, true_and, or_true, true_or, and_self] <;> omega))
  have en : nHe m' p = nHe m p + 1 := by
    show (m'.1 24 p).toNatClampNeg = _
    rw [e24, nI_clamp (by omega)]
  have e11 : nPe m' = nPe m := by unfold nPe; rw [hM.2 0 11 (by simp only [PTC, PTM, P14, P69, PRD, PRR, and_true, true_and, or_true, true_or, and_self] <;> omega)]
  have ehr : hrS m' p = hrS m p ||| (1 <<< (nI i &&& 31)) := by
    unfold hrS
    rw [en]
    show hrF m' p (nHe m p) ||| 1 <<< (m'.1 36 (4 * p + nHe m p) &&& 31) = _
    rw [e36, hr_cgk (m := m) _ (fun k hk => hM.2 _ _ (by simp only [PTC, PTM, P14, P69, PRD, PRR, and_true, true_and, or_true, true_or, and_self] <;> omega))]
  have eg : gnS m' p = gnS m p ||| (1 <<< (nI i &&& 31)) := by
    unfold gnS nGi
    rw [hM.2 23 p (by simp only [PTC, PTM, P14, P69, PRD, PRR, and_true, true_and, or_true, true_or, and_self] <;> omega)]
    exact gn_or ehr _ (fun k => hM.2 34 k (by simp only [PTC, PTM, P14, P69, PRD, PRR, and_true, true_and, or_true, true_or, and_self] <;> omega))
  have gCn : gC (wI w' c 3 (w.1 c 3 ||| (1 <<< (nI i &&& 31)))) m' c p := by
    refine ⟨by rw [wI_s, ehr, h3.1], ⟨nHe m p + 1, by omega, e24⟩, fun hh hhn => ?_, ?_⟩
    · rw [en] at hhn
      rw [e11]
      by_cases q : hh = nHe m p
      · rw [q, e36]; exact ⟨i, hi, rfl⟩
      · rw [hM.2 _ _ (by simp only [PTC, PTM, P14, P69, PRD, PRR, and_true, true_and, or_true, true_or, and_self] <;> omega)]; exact h3.2.2.1 hh (by omega)
    · rw [ehr, ct_add (by omega) hb, h3.2.2.2, en]
  refine ⟨⟨h1.fr hFa hM ?_ ?_ ?_ ?_, h2.fr hFa hM ?_ ?_ ?_, gCn, h4'.fr hFa hM ?_ ?_ ?_ ?_, h5.fr hFa hM ?_ ?_, h6.fr hFa hM ?_ ?_, h7.fr hFa hM ?_ ?_ (fun a k _ _ => ?_) ?_ (fun a k _ => ?_) ?_ ?_, h8.f4 hFa hM ?_ ?_ ?_ ?_ ?_ h10, (by rw [wI_g, if_neg (by omega), wI_s, hF.1 _ _ (by simp only [PTC, PTM, P14, P69, PRD, PRR, and_true, true_and, or_true, true_or, and_self] <;> omega), eg, ← h9, Int32.or_assoc]), (by rw [hM.2 _ _ (by simp only [PTC, PTM, P14, P69, PRD, PRR, and_true, true_and, or_true, true_or, and_self] <;> omega)]; exact h10)⟩, en⟩
  all_goals (simp only [PTC, PTM, P14, P69, PRD, PRR, and_true, true_and, or_true, true_or, and_self] <;> omega)
theorem HRI.done (h : HRI w m c p) (hc : 57 ≤ c) : PPR (wI w c 16 (w.1 c 16 ||| w.1 c 3)) m c p := by
  obtain ⟨h1, h2, h3, h4, h5, h6, h7, h8, h9, h10⟩ := h
  have hF : FXL (fun a k => a = c ∧ k = 16) PTl w (wI w c 16 (w.1 c 16 ||| w.1 c 3)) := FXL.w _ _ ⟨rfl, rfl⟩
  have hM : FX PTM m m := FX.rf _ _
  refine ⟨h1.fr hF hM ?_ ?_ ?_ ?_, h2.fr hF hM ?_ ?_ ?_, h3.fr hF hM ?_ ?_ ?_ (fun k => ?_), h4.fr hF hM ?_ ?_ ?_ ?_, h5.fr hF hM ?_ ?_, h6.fr hF hM ?_ ?_, h7.fr hF hM ?_ ?_ (fun a k _ _ => ?_) ?_ (fun a k _ => ?_) ?_ ?_, h8.fr hF hM ?_ ?_ ?_ ?_ ?_ ?_, (by show (wI w c 16 (w.1 c 16 ||| w.1 c 3)).1 c 16 = _; rw [wI_s]; exact h9)⟩
  all_goals (first | omega | (simp only [PTC, PTM, P14, P69, PRD, PRR, and_true, true_and, or_true, true_or, and_self] <;> omega))
theorem fl_restL (h : FLT w) (f : Nat) (y : Int32) : lp (f + 1) (fun _ _ _ => none) (fun k39 => X6_readRest_b39 k39) c y w = some (wI w c 16 (w.1 c 16 ||| w.1 c 3)) := by
  show X6_readRest_b39 (lp f (fun _ _ _ => none) (fun k39 => X6_readRest_b39 k39)) c y w = _
  have e : X6_readRest_b104 c w = some (wI w c 16 (w.1 c 16 ||| w.1 c 3)) := rfl
  rw [X6_readRest_b39, zf_is h, cl_s, if_pos (show (0 : Int32) = 0 from rfl), e]
  by_cases q : 8 ≤ y
  · rw [if_pos q]
  · rw [if_neg q]
theorem q_restL (hc : 57 ≤ c) : ∀ (d f g j : Nat) (w m : Wd), d = 4 - nHe m p → d + 2 ≤ f → d + 1 ≤ g → GR w m → HRI w m c p → CTX w m p → j + 1 ≤ nHe m p → CLA c p w m (lp f (fun _ _ _ => none) (fun k39 => X6_readRest_b39 k39) c (nI j) w) (lp g (fun _ => none) (fun k23 => X12_readRest_b23 k23) m) := by
  intro d
  induction d with
  | zero =>
    intro f g j w m hd hf hg h hR hX hj
    obtain ⟨f, rfl⟩ : ∃ f', f = f' + 1 := ⟨f - 1, by omega⟩
    obtain ⟨f, rfl⟩ : ∃ f', f = f' + 1 := ⟨f - 1, by omega⟩
    obtain ⟨g, rfl⟩ : ∃ g', g = g' + 1 := ⟨g - 1, by omega⟩
    have hp4 := hX.2.1
    have hn := (hR.2.2.1.2.1.e (by omega))
    have hn5 : nHe m p < 5 := hn.2
    have h24 : m.1 24 p = nI (nHe m p) := hn.1
    show CLA c p w m (X6_readRest_b39 (lp (f + 1) (fun _ _ _ => none) (fun k39 => X6_readRest_b39 k39)) c (nI j) w) (X12_readRest_b23 (lp g (fun _ => none) (fun k23 => X12_readRest_b23 k23)) m)
    rw [X6_readRest_b39, X12_readRest_b23, if_neg (show ¬ (8 : Int32) ≤ nI j from nI_ge (a := j) (b := 8) (by omega) (by omega)), zc_isT h (by omega), zm_isT h (by omega), cl_s, cl_s, if_b0, if_b0]
    by_cases c1 : decide (TW m = some (sByt.getD 42 [])) = false
    · rw [if_pos c1, if_pos c1]
      exact ⟨_, m, rfl, FXL.w _ _ (by simp only [PTC, PTM, P14, P69, PRD, PRR, and_true, true_and, or_true, true_or, and_self] <;> omega), FX.rf _ _, Or.inl ⟨rfl, h.c (by omega) (by omega), Nat.le_refl _, hR.done hc⟩⟩
    · rw [if_neg c1, if_neg c1, hX.1, if_pos (z_inb hp4 (by omega)), nI_clamp (n := p) (by omega), h24, hR.2.2.1.1, zc_bc (fun i h8 hi => by
        have := hr_bt hX.2.2.2.1 (nHe m p) hR.2.2.1.2.2.1 i hi
        show bt (hrF m p (nHe m p)) i = false
        rw [this]
        cases ha : anyF (fun h => decide (m.1 36 (4 * p + h) = nI i)) (nHe m p) with
        | false => rfl
        | true =>
          exfalso
          obtain ⟨k, hk, e⟩ := anyF_x ha
          obtain ⟨q, hq, eq⟩ := hR.2.2.1.2.2.1 k hk
          have := of_decide_eq_true e
          rw [eq, nI_eq (by have := hX.2.2.2.1; omega) (by omega)] at this
          have := hX.2.2.2.1
          omega), cl_s, hR.2.2.1.2.2.2]
      have e4 : nHe m p = 4 := by omega
      rw [e4, if_neg (show ¬ nI 4 < 4 by decide), if_pos (show nI 4 = 4 from rfl)]
      obtain ⟨w5, m5, a5, b5, f5, F5, M5⟩ := q_fail h (k := 4) (by decide)
      unfold X6_readRest_b70
      rw [a5, cv_s, zf_step f5.1, cv_s, zf_known f5.1, cl_s, zf_bit, cl_s, lt_s', fl_restL (f5.c (by omega)).1, b5, cl_s, if_pos (show isB 0 = true from rfl)]
      exact ⟨_, m5, rfl, ((PTC_D F5).tr (FXL.w _ _ (by simp only [PTC, PTM, P14, P69, PRD, PRR, and_true, true_and, or_true, true_or, and_self] <;> omega))).tr (FXL.w _ _ (by simp only [PTC, PTM, P14, P69, PRD, PRR, and_true, true_and, or_true, true_or, and_self] <;> omega)), PTM_R M5, Or.inr ⟨rfl, (f5.c (by omega)).c (by omega)⟩⟩
  | succ d ih =>
    intro f g j w m hd hf hg h hR hX hj
    obtain ⟨f, rfl⟩ : ∃ f', f = f' + 1 := ⟨f - 1, by omega⟩
    obtain ⟨f, rfl⟩ : ∃ f', f = f' + 1 := ⟨f - 1, by omega⟩
    obtain ⟨g, rfl⟩ : ∃ g', g = g' + 1 := ⟨g - 1, by omega⟩
    have hp4 := hX.2.1
    have hn := (hR.2.2.1.2.1.e (by omega))
    have hn5 : nHe m p < 4 := by omega
    have h24 : m.1 24 p = nI (nHe m p) := hn.1
    show CLA c p w m (X6_readRest_b39 (lp (f + 1) (fun _ _ _ => none) (fun k39 => X6_readRest_b39 k39)) c (nI j) w) (X12_readRest_b23 (lp g (fun _ => none) (fun k23 => X12_readRest_b23 k23)) m)
    rw [X6_readRest_b39, X12_readRest_b23, if_neg (show ¬ (8 : Int32) ≤ nI j from nI_ge (a := j) (b := 8) (by omega) (by omega)), zc_isT h (by omega), zm_isT h (by omega), cl_s, cl_s, if_b0, if_b0]
    by_cases c1 : decide (TW m = some (sByt.getD 42 [])) = false
    · rw [if_pos c1, if_pos c1]
      exact ⟨_, m, rfl, FXL.w _ _ (by simp only [PTC, PTM, P14, P69, PRD, PRR, and_true, true_and, or_true, true_or, and_self] <;> omega), FX.rf _ _, Or.inl ⟨rfl, h.c (by omega) (by omega), Nat.le_refl _, hR.done hc⟩⟩
    · rw [if_neg c1, if_neg c1, hX.1, if_pos (z_inb hp4 (by omega)), nI_clamp (n := p) (by omega), h24, hR.2.2.1.1, zc_bc (fun i h8 hi => by
        have := hr_bt hX.2.2.2.1 (nHe m p) hR.2.2.1.2.2.1 i hi
        show bt (hrF m p (nHe m p)) i = false
        rw [this]
        cases ha : anyF (fun h => decide (m.1 36 (4 * p + h) = nI i)) (nHe m p) with
        | false => rfl
        | true =>
          exfalso
          obtain ⟨k, hk, e⟩ := anyF_x ha
          obtain ⟨q, hq, eq⟩ := hR.2.2.1.2.2.1 k hk
          have := of_decide_eq_true e
          rw [eq, nI_eq (by have := hX.2.2.2.1; omega) (by omega)] at this
          have := hX.2.2.2.1
          omega), cl_s, hR.2.2.1.2.2.2]
      rw [if_pos (show nI (nHe m p) < 4 from nI_lt (b := 4) (by omega) (by omega)), if_neg (show ¬ nI (nHe m p) = 4 from fun q => by rw [show (4 : Int32) = nI 4 from rfl, nI_eq (by omega) (by omega)] at q; omega)]
      obtain ⟨w', m', e1, e2, hG, hp, -, hF, hM⟩ := q_step h
      unfold X6_readRest_b70
      rw [e1, cv_s, e2, cv_s]
      have hX' := hX.fr hc (PTC_D hF) (PTM_R (p := p) hM)
      have hR' := hR.fr hc hF hM
      have en : nHe m' p = nHe m p := by unfold nHe; rw [hM.2 _ _ (by simp only [PTC, PTM, P14, P69, PRD, PRR, and_true, true_and, or_true, true_or, and_self] <;> omega)]
      obtain ⟨r, w2, u1, hF2, hr⟩ := q_heir hG hR'.2.2.1 (by omega) hX'
      rw [u1, cl_s]
      rcases hr with ⟨i, m2, rfl, hi, hb, u2, hG2, hp2, e24, e36, hM2⟩ | ⟨rfl, m2, u2, hf2, hM2⟩
      · obtain ⟨hR2, en2⟩ := hR'.add hc hp4 hX'.2.2.2.1 hF2 hi hb (by omega) e24 e36 hM2
        rw [zc_bit (by have := hX'.2.2.2.1; omega), cl_s, lt_s', u2, cl_s, if_neg (show ¬ (1 : Int32) = 0 by decide), nI_1]
        have hFa : FXL (PRD c) PTl w (wI w2 c 3 (w'.1 c 3 ||| (1 <<< (nI i &&& 31)))) := ((PTC_D hF).tr (PTC_D hF2)).tr (FXL.w _ _ (by simp only [PTC, PTM, P14, P69, PRD, PRR, and_true, true_and, or_true, true_or, and_self] <;> omega))
        have hMa : FX (PRR p) m m2 := (PTM_R hM).tr (hM2.mo (fun a k q => by simp only [PTM, PRR] at q ⊢; omega))
        exact CLA.tr hFa hMa (by omega) (ih (f + 1) g (j + 1) _ m2 (by omega) (by omega) (by omega) (hG2.c (by omega) (by omega)) hR2 (hX.fr hc hFa hMa) (by omega))
      · rw [zf_bit, cl_s, lt_s', fl_restL (hf2.c (by omega)).1, u2, cl_s, if_pos (show (0 : Int32) = 0 from rfl)]
        exact ⟨_, m2, rfl, (((PTC_D hF).tr (PTC_D hF2)).tr (FXL.w _ _ (by simp only [PTC, PTM, P14, P69, PRD, PRR, and_true, true_and, or_true, true_or, and_self] <;> omega))).tr (FXL.w _ _ (by simp only [PTC, PTM, P14, P69, PRD, PRR, and_true, true_and, or_true, true_or, and_self] <;> omega)), (PTM_R hM).tr (PTM_R hM2), Or.inr ⟨rfl, (hf2.c (by omega)).c (by omega)⟩⟩
/-- the rest -/
theorem q_rest (h : GR w m) (hP : PPR w m c p) (hc : 57 ≤ c) (hX : CTX w m p) : CLA c p w m (cv (f_X6_readRest c w) fun w35 => some w35) (X12_readOnce_b88 (nI p) (nI 4) m) := by
  have hp4 := hX.2.1
  have hP0 := hP
  obtain ⟨h1, h2, h3, h4, h5, h6, h7, h8, h9⟩ := hP
  have hb : bt (w.1 c 14) 4 = bt (m.1 0 69) 4 := h8.1.2.2.2.2.2.2.2.2.1
  unfold X12_readOnce_b88 f_X6_readRest
  rw [if_neg (show ¬ nI 4 = -1 by decide), if_bt1 (show 4 < 32 by omega), show (16 : Int32) = nI (2 ^ 4) from rfl]
  have flr : ∀ u : Wd, FLT u → (cv (cv (f_X10_need 36 u) fun w2 => cl (f_X10_known 34 8 (w2.1 c 3) w2) fun r4 w3 => cl (f_X6_bit r4 w3) fun r6 w5 => lt (wI w5 c 3 ((w2.1 c 3) ||| r6)) fun w7 => X6_readRest_b39_L c 0 w7) fun w35 => some w35) = some (wI (wI u c 3 (u.1 c 3 ||| 0)) c 16 ((wI u c 3 (u.1 c 3 ||| 0)).1 c 16 ||| (wI u c 3 (u.1 c 3 ||| 0)).1 c 3)) := by
    intro u hu
    have hu' : FLT (wI u c 3 (u.1 c 3 ||| 0)) := by
      refine ⟨?_, ?_⟩
      · rw [wI_g, if_neg (by omega)]; exact hu.1
      · rw [wI_g, if_neg (by omega)]; exact hu.2
    rw [zf_need hu, cv_s, zf_known hu, cl_s, zf_bit, cl_s, lt_s']
    have e := fl_restL (c := c) hu' 19999 0
    have e2 : X6_readRest_b39_L c 0 (wI u c 3 (u.1 c 3 ||| 0)) = lp (19999 + 1) (fun _ _ _ => none) (fun k39 => X6_readRest_b39 k39) c 0 (wI u c 3 (u.1 c 3 ||| 0)) := by
      unfold X6_readRest_b39_L
      rw [fu_eq]
    rw [e2, e, cv_s]
  rcases q_once h hc (show 4 < 6 by omega) hb with ⟨hj, w', m', e1, e2, hf, hF, hM⟩ | ⟨hj, w', m', e1, e2, hG, hp, e14, e69, hF, hM⟩
  · rw [if_pos hj, e1, cv_s, flr w' hf.1, e2, cl_s, if_pos (show isB 0 = true from rfl)]
    exact ⟨_, m', rfl, ((hF.mo (fun a k q => by simp only [PTC, PTM, P14, P69, PRD, PRR] at q ⊢; omega) (fun a k q => q)).tr (FXL.w _ _ (by simp only [PTC, PTM, P14, P69, PRD, PRR, and_true, true_and, or_true, true_or, and_self] <;> omega))).tr (FXL.w _ _ (by simp only [PTC, PTM, P14, P69, PRD, PRR, and_true, true_and, or_true, true_or, and_self] <;> omega)), PTM_R hM, Or.inr ⟨rfl, (hf.c (by omega)).c (by omega)⟩⟩
  · have h0 : nHe m p = 0 := by unfold nHe; rw [h8.2 hj]; rfl
    rw [if_neg (by rw [hj]; decide), e1, cv_s, lt_s', if_pos (show nI 4 = 4 from rfl)]
    unfold f_X12_readRest
    rw [e2, cv_s]
    have hM' : FX P69 m m' := hM
    have hPn : HRI w' m' c p := by
      have gFn : gF w' m' c p := gF_or (ib := 4) (jt := 4) h8 (by omega) e14 e69 (fun o ho1 ho2 => by rw [if_neg (by omega), hM.2 _ _ (by simp only [PTC, PTM, P14, P69, PRD, PRR, and_true, true_and, or_true, true_or, and_self] <;> omega)]) (Or.inl rfl)
      have eg : gnS m' p = gnS m p := by
        unfold gnS nGi
        rw [hM.2 _ _ (by simp only [PTC, PTM, P14, P69, PRD, PRR, and_true, true_and, or_true, true_or, and_self] <;> omega), gn_cg (hrS_cg (fun k => hM.2 36 k (by simp only [PTC, PTM, P14, P69, PRD, PRR, and_true, true_and, or_true, true_or, and_self] <;> omega)) (hM.2 24 p (by simp only [PTC, PTM, P14, P69, PRD, PRR, and_true, true_and, or_true, true_or, and_self] <;> omega))) _ (fun k _ => hM.2 34 _ (by simp only [PTC, PTM, P14, P69, PRD, PRR, and_true, true_and, or_true, true_or, and_self] <;> omega))]
      have eg9 : w.1 c 16 = gnS m p := h9
      refine ⟨h1.fr hF hM ?_ ?_ ?_ ?_, h2.fr hF hM ?_ ?_ ?_, h3.fr hF hM ?_ ?_ ?_ (fun k => ?_), h4.fr hF hM ?_ ?_ ?_ ?_, h5.fr hF hM ?_ ?_, h6.fr hF hM ?_ ?_, h7.fr hF hM ?_ ?_ (fun a k _ _ => ?_) ?_ (fun a k _ => ?_) ?_ ?_, gFn, (by rw [hF.1 _ _ (by simp only [PTC, PTM, P14, P69, PRD, PRR, and_true, true_and, or_true, true_or, and_self] <;> omega), hF.1 _ _ (by simp only [PTC, PTM, P14, P69, PRD, PRR, and_true, true_and, or_true, true_or, and_self] <;> omega), eg, eg9, h3.1]; exact gn_hr _), (by rw [e69, b_or, z_one (by omega) (by omega), decide_eq_true rfl, Bool.or_true])⟩
      all_goals (simp only [PTC, PTM, P14, P69, PRD, PRR, and_true, true_and, or_true, true_or, and_self] <;> omega)
    have hFd : FXL (PRD c) PTl w w' := hF.mo (fun a k q => by simp only [PTC, PTM, P14, P69, PRD, PRR] at q ⊢; omega) (fun a k q => q)
    have hMd : FX (PRR p) m m' := hM.mo (fun a k q => by simp only [PTC, PTM, P14, P69, PRD, PRR] at q ⊢; omega)
    have hX' := hX.fr hc hFd hMd
    obtain ⟨w2, m2, u1, hF2, hM2, hr⟩ := q_need hG (show 36 < 47 by omega)
    rcases hr with ⟨u2, hG2, hp2⟩ | ⟨u2, hf2⟩
    · rw [u1, cv_s, u2, cl_s, if_neg (show ¬ (1 : Int32) = 0 by decide)]
      have hX2 := hX'.fr hc (PTC_D hF2) (PTM_R (p := p) hM2)
      have hR2 := hPn.fr hc hF2 hM2
      have n2 : nHe m2 p = nHe m p := by unfold nHe; rw [hM2.2 _ _ (by simp only [PTC, PTM, P14, P69, PRD, PRR, and_true, true_and, or_true, true_or, and_self] <;> omega), hM.2 _ _ (by simp only [PTC, PTM, P14, P69, PRD, PRR, and_true, true_and, or_true, true_or, and_self] <;> omega)]
      obtain ⟨r, w3, x1, hF3, hr3⟩ := q_heir hG2 hR2.2.2.1 (by omega) hX2
      rw [x1, cl_s]
      rcases hr3 with ⟨i, m3, rfl, hi, hbi, x2, hG3, hp3, e24, e36, hM3⟩ | ⟨rfl, m3, x2, hf3, hM3⟩
      · obtain ⟨hR3, en3⟩ := hR2.add hc hp4 hX2.2.2.2.1 hF3 hi hbi (by omega) e24 e36 hM3
        rw [zc_bit (by have := hX2.2.2.2.1; omega), cl_s, lt_s', x2, cl_s, if_neg (show ¬ (1 : Int32) = 0 by decide)]
        have hFa : FXL (PRD c) PTl w (wI w3 c 3 (w2.1 c 3 ||| (1 <<< (nI i &&& 31)))) := ((hFd.tr (PTC_D hF2)).tr (PTC_D hF3)).tr (FXL.w _ _ (by simp only [PTC, PTM, P14, P69, PRD, PRR, and_true, true_and, or_true, true_or, and_self] <;> omega))
        have hMa : FX (PRR p) m m3 := (hMd.tr (PTM_R hM2)).tr (hM3.mo (fun a k q => by simp only [PTM, PRR] at q ⊢; omega))
        have hC := CLA.tr hFa hMa (by omega) (q_restL (p := p) hc (4 - nHe m3 p) fu fu 0 _ m3 rfl (by rw [fu_eq]; omega) (by rw [fu_eq]; omega) (hG3.c (by omega) (by omega)) hR3 (hX.fr hc hFa hMa) (by omega))
        obtain ⟨w9, m9, y1, y2, y3, y4⟩ := hC
        have z1 : X6_readRest_b39_L c 0 (wI w3 c 3 (w2.1 c 3 ||| (1 <<< (nI i &&& 31)))) = some w9 := y1
        rw [z1, cv_s]
        refine ⟨w9, m9, rfl, y2, y3, ?_⟩
        rcases y4 with ⟨y5, y6⟩ | ⟨y5, y6⟩
        · have z2 : X12_readRest_b23_L m3 = some (1, m9) := y5
          rw [z2, cl_s, if_pos (show isB 1 = true from rfl)]
          exact Or.inl ⟨rfl, y6⟩
        · have z2 : X12_readRest_b23_L m3 = some (0, m9) := y5
          rw [z2, cl_s, if_pos (show isB 0 = true from rfl)]
          exact Or.inr ⟨rfl, y6⟩
      · have hfl := flr
        rw [zf_bit, cl_s, lt_s', x2, cl_s, if_pos (show (0 : Int32) = 0 from rfl), cl_s, if_pos (show isB 0 = true from rfl)]
        have e2 : X6_readRest_b39_L c 0 (wI w3 c 3 (w2.1 c 3 ||| 0)) = lp (19999 + 1) (fun _ _ _ => none) (fun k39 => X6_readRest_b39 k39) c 0 (wI w3 c 3 (w2.1 c 3 ||| 0)) := by
          unfold X6_readRest_b39_L
          rw [fu_eq]
        rw [e2, fl_restL (hf3.c (by omega)).1, cv_s]
        exact ⟨_, m3, rfl, (((hFd.tr (PTC_D hF2)).tr (PTC_D hF3)).tr (FXL.w _ _ (by simp only [PTC, PTM, P14, P69, PRD, PRR, and_true, true_and, or_true, true_or, and_self] <;> omega))).tr (FXL.w _ _ (by simp only [PTC, PTM, P14, P69, PRD, PRR, and_true, true_and, or_true, true_or, and_self] <;> omega)), (hMd.tr (PTM_R hM2)).tr (PTM_R hM3), Or.inr ⟨rfl, (hf3.c (by omega)).c (by omega)⟩⟩
    · have e2' := flr w2 hf2.1
      rw [zf_need hf2.1, cv_s] at e2'
      rw [u1, cv_s, e2', u2, cl_s, if_pos (show (0 : Int32) = 0 from rfl), cl_s, if_pos (show isB 0 = true from rfl)]
      exact ⟨_, m2, rfl, ((hFd.tr (PTC_D hF2)).tr (FXL.w _ _ (by simp only [PTC, PTM, P14, P69, PRD, PRR, and_true, true_and, or_true, true_or, and_self] <;> omega))).tr (FXL.w _ _ (by simp only [PTC, PTM, P14, P69, PRD, PRR, and_true, true_and, or_true, true_or, and_self] <;> omega)), hMd.tr (PTM_R hM2), Or.inr ⟨rfl, (hf2.c (by omega)).c (by omega)⟩⟩
end
