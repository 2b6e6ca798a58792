/-! the reference: a way by all laws -/
def FX (P : Nat → Nat → Prop) (w w' : Wd) : Prop := w'.2 = w.2 ∧ ∀ a k, ¬ P a k → w'.1 a k = w.1 a k
theorem FX.rf (P : Nat → Nat → Prop) (w : Wd) : FX P w w := ⟨rfl, fun _ _ _ => rfl⟩
theorem FX.tr {P : Nat → Nat → Prop} {w w1 w2 : Wd} (h : FX P w w1) (k : FX P w1 w2) : FX P w w2 := ⟨k.1.trans h.1, fun a j ha => (k.2 a j ha).trans (h.2 a j ha)⟩
theorem FX.mo {P Q : Nat → Nat → Prop} {w w' : Wd} (h : FX P w w') (f : ∀ a k, P a k → Q a k) : FX Q w w' := ⟨h.1, fun a k q => h.2 a k (fun p => q (f a k p))⟩
theorem FX.w {P : Nat → Nat → Prop} (w : Wd) {o k : Nat} (v : Int32) (h : P o k) : FX P w (wI w o k v) := ⟨rfl, fun a j hn => by rw [wI_g, if_neg (fun e => hn (by rw [e.1, e.2]; exact h))]⟩
theorem FX.c {P : Nat → Nat → Prop} (w : Wd) {o : Nat} (f : Nat → Int32) (h : ∀ k, P o k) : FX P w (wC w o f) := ⟨rfl, fun a j hn => by rw [wC_g, if_neg (fun e => hn (by rw [e]; exact h j))]⟩
theorem TK_i {k : Nat} (h : TK k = true) : (10 ≤ k ∧ k ≤ 19) ∨ k = 49 ∨ k = 50 ∨ k = 75 ∨ k = 80 ∨ k = 81 := by
  simp only [TK, Bool.or_eq_true, Bool.and_eq_true, decide_eq_true_eq, beq_iff_eq] at h
  omega
theorem FX.ot {P : Nat → Nat → Prop} {w w' A : Wd} (h : FX P w w') (hT : tol w = A) (h0 : ∀ k, ((10 ≤ k ∧ k ≤ 19) ∨ k = 49 ∨ k = 50 ∨ k = 75 ∨ k = 80 ∨ k = 81) → ¬ P 0 k) (h1 : ∀ o k, (2 ≤ o ∧ o ≤ 7 ∨ 20 ≤ o ∧ o ≤ 43) → ¬ P o k) : tol w' = A := by
  rw [← hT]
  exact tol_of (fun k hk => h.2 0 k (h0 k (TK_i hk))) (fun o k ho => h.2 o k (h1 o k ho)) (fun o k _ => by rw [h.1])
def PG (a k : Nat) : Prop := (a = 0 ∧ (82 ≤ k ∧ k ≤ 84 ∨ k = 88 ∨ k = 89)) ∨ (45 ≤ a ∧ a ≤ 47)
theorem FM.x {w w' : Wd} (h : FM w w') : FX PG w w' := ⟨h.1, fun a k hn => h.2 a k (fun q => hn (Or.inl ⟨q.1, by omega⟩)) (fun q => hn (Or.inr (by omega)))⟩
theorem FX.gt {w w' A : Wd} (h : FX PG w w') (hT : tol w = A) : tol w' = A := h.ot hT (fun k hk => by unfold PG; omega) (fun o k ho => by unfold PG; omega)
def cnF (A : Wd) (st : Nat → Bool) : Nat → Nat → Bool
  | 0, _ => false
  | p + 1, i => if i = p then (st p && (decide (A.1 27 p = -1) || cnF A st p (A.1 27 p).toNatClampNeg)) else cnF A st p i
def cnS (A : Wd) (st : Nat → Bool) : Nat → Bool := cnF A st (nPa A)
def RU (A : Wd) (l way : Nat) : SS := runS A (gdA A l) (uaA A) l (way % 8) (way / 8)
theorem cnF_hi {A : Wd} {st : Nat → Bool} : ∀ p i, p ≤ i → cnF A st p i = false := by
  intro p
  induction p with
  | zero => intro i _; rfl
  | succ p ih => intro i hi; show (if i = p then _ else cnF A st p i) = false; rw [if_neg (by omega)]; exact ih i (by omega)
section
variable {w A : Wd}
theorem zm_bring (hT : tol w = A) (hI : INV A) {o f l : Nat} (ho : o < nOr A) (hf : f < 8) (hl : l < nLa A) : OK (f_X12_bringAll (nI o) (nI f) (nI l) w) (fun w' => STM w' A (runS A (gdA A l) (uaA A) l f o) ∧ FM w w') := by
  have hI' := hI
  obtain ⟨hN, -, hP, hV, hO⟩ := hI
  have h4 := hN.2.2.2.1.2
  have h3 := hN.2.2.2.2.1.2
  have h6 : nIt A ≤ 6 := hN.2.2.2.2.2.1
  have hor := hN.2.2.2.2.2.2.1.2
  have main : ∀ v0, FM w v0 → STM v0 A s0 → OK (X12_bringAll_b44_L (nI o) (nI f) (nI l) 0 v0) (fun w' => STM w' A (runS A (gdA A l) (uaA A) l f o) ∧ FM w w') := by
    intro v0 hF0 hM0
    refine lo5 (fun n y1 y2 y3 y4 v => ∃ i, n = nIt A - i ∧ i ≤ nIt A ∧ y1 = nI o ∧ y2 = nI f ∧ y3 = nI l ∧ y4 = nI i ∧ FM w v ∧ STM v A (runF A (gdA A l) (uaA A) l f o i)) ?_ fu (nIt A - 0) (nI o) (nI f) (nI l) 0 v0 (by rw [fu_eq]; omega) ⟨0, rfl, Nat.zero_le _, rfl, rfl, rfl, rfl, hF0, hM0⟩
    rintro n k a1 a2 a3 a4 v ⟨i, rfl, hi, rfl, rfl, rfl, rfl, hF, hM⟩ hk
    have hTv := hF.tol hT
    have hS := SI_run hN hV hO (gdA A l) (uaA A) l f ho i hi
    rw [X12_bringAll_b44, zm_items hTv hN, cl_s]
    by_cases hin : i < nIt A
    · have hx := ((hO o ho).1 i hin).e (by omega)
      have hit : itS A o i < nIt A := hx.2
      have hxe : A.1 43 (6 * o + i) = nI (itS A o i) := hx.1
      refine OK.f (nI_ge hin (by omega)) ?_
      rw [k6, pk_mul, nI_add, nI_clamp (by omega), tol_a hTv 43 _ (by omega), hxe, tol_0 hTv 49 rfl, hN.2.2.2.1.1]
      refine OK.t (z_inb (by omega) (by omega)) (OK.l ?_)
      have hstep : runF A (gdA A l) (uaA A) l f o (i + 1) = stepS A (gdA A l) (uaA A) l f (itS A o i) (runF A (gdA A l) (uaA A) l f o i) := rfl
      unfold stepS at hstep
      generalize itS A o i = it at hit hstep ⊢
      by_cases c : it < nPa A
      · rw [if_pos c] at hstep
        refine OK.f (nI_ge c (by omega)) (OK.v ((zm_put hTv hI' hM hS c hl).m ?_))
        rintro v2 ⟨hM2, hF2⟩
        refine hk _ _ _ _ _ _ (by omega) ⟨i + 1, rfl, hin, rfl, rfl, rfl, nI_1 i, hF.tr hF2, ?_⟩
        rw [hstep]; exact hM2
      · rw [if_neg c] at hstep
        have he : it - nPa A < nEv A := by unfold nIt at hit; omega
        refine OK.t (nI_le (by omega) (by omega)) ?_
        rw [pk_sub (by omega), nI_clamp (by omega), tol_a hTv 42 _ (by omega)]
        refine OK.t (z_inb (by omega) (by omega)) ?_
        have go : evSo A (it - nPa A) f = true → OK (X12_bringAll_b122 k (nI o) (nI f) (nI l) (nI i) (nI it) v) (fun w' => STM w' A (runS A (gdA A l) (uaA A) l f o) ∧ FM w w') := by
          intro h
          rw [if_pos h] at hstep
          unfold X12_bringAll_b122
          rw [tol_0 hTv 49 rfl, hN.2.2.2.1.1, pk_sub (by omega)]
          refine OK.v ((zm_ev hTv hI' hM hS he hl).m ?_)
          rintro v2 ⟨hM2, hF2⟩
          refine hk _ _ _ _ _ _ (by omega) ⟨i + 1, rfl, hin, rfl, rfl, rfl, nI_1 i, hF.tr hF2, ?_⟩
          rw [hstep]
          rw [show nPa A + (it - nPa A) = it by omega] at hM2
          exact hM2
        by_cases c1 : A.1 42 (it - nPa A) = -1
        · refine OK.t c1 (go ?_)
          unfold evSo; rw [decide_eq_true c1, Bool.true_or]
        · refine OK.f c1 (OK.t (z_inb (by omega) (by omega)) ?_)
          have hq := ((hV _ he).2.2.1.resolve_left c1).e (by omega)
          rw [hq.1, if_bt1 (by omega)]
          by_cases c2 : bt (nI f) (A.1 42 (it - nPa A)).toNatClampNeg = true
          · refine OK.t c2 (go ?_)
            unfold evSo; rw [c2, Bool.or_true]
          · have hz : evSo A (it - nPa A) f = false := by
              rw [Bool.not_eq_true] at c2
              unfold evSo; rw [c2, decide_eq_false c1, Bool.or_false]
            rw [if_neg (by rw [hz]; decide)] at hstep
            refine OK.f c2 (hk _ _ _ _ _ _ (by omega) ⟨i + 1, rfl, hin, rfl, rfl, rfl, nI_1 i, hF, ?_⟩)
            rw [hstep]; exact hM
    · have e : i = nIt A := by omega
      subst e
      exact OK.t (nI_le (Nat.le_refl _) (by omega)) (OK.s ⟨hM, hF⟩)
  unfold f_X12_bringAll
  refine OK.l (OK.l (OK.l ?_))
  have hF3 : FM w (wI (wI (wI w 0 82 0) 0 83 0) 0 84 0) := ((FM.w0 w (by omega) _).tr (FM.w0 _ (by omega) _)).tr (FM.w0 _ (by omega) _)
  have g2 : (wI (wI (wI w 0 82 0) 0 83 0) 0 84 0).1 0 82 = 0 := by rw [wI_g, if_neg (by omega), wI_g, if_neg (by omega), wI_s]
  have g3 : (wI (wI (wI w 0 82 0) 0 83 0) 0 84 0).1 0 83 = 0 := by rw [wI_g, if_neg (by omega), wI_s]
  have g4 : (wI (wI (wI w 0 82 0) 0 83 0) 0 84 0).1 0 84 = 0 := by rw [wI_s]
  generalize wI (wI (wI w 0 82 0) 0 83 0) 0 84 0 = w3 at hF3 g2 g3 g4 ⊢
  refine lo5 (fun n y1 y2 y3 y4 v => ∃ i, n = nPa A - i ∧ i ≤ nPa A ∧ y1 = nI o ∧ y2 = nI f ∧ y3 = nI l ∧ y4 = nI i ∧ FM w v ∧ v.1 0 82 = 0 ∧ v.1 0 83 = 0 ∧ v.1 0 84 = 0 ∧ ∀ j, j < i → v.1 45 j = -1) ?_ fu (nPa A - 0) (nI o) (nI f) (nI l) 0 w3 (by rw [fu_eq]; omega) ⟨0, rfl, Nat.zero_le _, rfl, rfl, rfl, rfl, hF3, g2, g3, g4, fun j hj => by omega⟩
  rintro n k a1 a2 a3 a4 v ⟨i, rfl, hi, rfl, rfl, rfl, rfl, hF, e2, e3, e4, hu⟩ hk
  have hTv := hF.tol hT
  rw [X12_bringAll_b18, tol_0 hTv 49 rfl, hN.2.2.2.1.1]
  by_cases hin : i < nPa A
  · refine OK.f (nI_ge hin (by omega)) (OK.t (z_inb (by omega) (by omega)) (OK.l ?_))
    rw [nI_clamp (by omega)]
    refine hk _ _ _ _ _ _ (by omega) ⟨i + 1, rfl, hin, rfl, rfl, rfl, nI_1 i, hF.tr (FM.w45 _ _ _), ?_, ?_, ?_, fun j hj => ?_⟩
    · rw [wI_g, if_neg (by omega)]; exact e2
    · rw [wI_g, if_neg (by omega)]; exact e3
    · rw [wI_g, if_neg (by omega)]; exact e4
    · rw [wI_g]
      by_cases e : j = i
      · rw [if_pos ⟨rfl, e⟩]
      · rw [if_neg (fun h => e h.2)]; exact hu j (by omega)
  · have e : i = nPa A := by omega
    subst e
    refine OK.t (nI_le (Nat.le_refl _) (by omega)) (main v hF ⟨?_, ?_, ?_, hu⟩)
    · rw [e2]; exact RB.z
    · rw [e3]; exact RB.z
    · rw [e4]; exact RB.z
theorem zm_count (hT : tol w = A) (hI : INV A) {st : Nat → Bool} (h82 : RB (w.1 0 82) st) : OK (f_X12_counting w) (fun p => RB p.1 (cnS A st) ∧ p.2 = w) := by
  obtain ⟨hN, -, hP, -, -⟩ := hI
  have h4 := hN.2.2.2.1.2
  unfold f_X12_counting
  refine lo3 (fun n y1 y2 v => ∃ i, n = nPa A - i ∧ i ≤ nPa A ∧ RB y1 (cnF A st i) ∧ y2 = nI i ∧ v = w) ?_ fu (nPa A - 0) 0 0 w (by rw [fu_eq]; omega) ⟨0, rfl, Nat.zero_le _, RB.z, rfl, rfl⟩
  rintro n k y a2 v ⟨i, rfl, hi, hy, rfl, rfl⟩ hk
  rw [X12_counting_b4, tol_0 hT 49 rfl, hN.2.2.2.1.1]
  by_cases hin : i < nPa A
  · refine OK.f (nI_ge hin (by omega)) ?_
    rw [if_bt1 (by omega), h82 i (by omega), nI_clamp (by omega), tol_p hT 27 i (by omega) hin]
    have put : (st i && (decide (A.1 27 i = -1) || cnF A st i (A.1 27 i).toNatClampNeg)) = true → OK (X12_counting_b48 k y (nI i) v) (fun p => RB p.1 (cnS A st) ∧ p.2 = v) := by
      intro h
      unfold X12_counting_b48
      refine OK.l (hk _ _ _ _ (by omega) ⟨i + 1, rfl, hin, ?_, nI_1 i, rfl⟩)
      refine (hy.or (RB.one (by omega))).cg (fun j hj => ?_)
      show (cnF A st i j || decide (j = i)) = if j = i then _ else cnF A st i j
      by_cases e : j = i
      · rw [if_pos e, h, decide_eq_true e, Bool.or_true]
      · rw [if_neg e, decide_eq_false e, Bool.or_false]
    have skip : (st i && (decide (A.1 27 i = -1) || cnF A st i (A.1 27 i).toNatClampNeg)) = false → OK (k y (nI i + 1) v) (fun p => RB p.1 (cnS A st) ∧ p.2 = v) := by
      intro h
      refine hk _ _ _ _ (by omega) ⟨i + 1, rfl, hin, hy.cg (fun j hj => ?_), nI_1 i, rfl⟩
      show cnF A st i j = if j = i then _ else cnF A st i j
      by_cases e : j = i
      · rw [if_pos e, h, e, cnF_hi i i (Nat.le_refl i)]
      · rw [if_neg e]
    by_cases c : st i = true
    · refine OK.t c (OK.t (z_inb (by omega) (by omega)) ?_)
      by_cases c1 : A.1 27 i = -1
      · refine OK.t c1 (put ?_)
        rw [c, decide_eq_true c1]; rfl
      · refine OK.f c1 (OK.t (z_inb (by omega) (by omega)) ?_)
        have hq := ((hP i hin).2.2.2.1.resolve_left c1).e (by omega)
        rw [hq.1, if_bt1 (by omega), hy _ (by omega)]
        by_cases c2 : cnF A st i (A.1 27 i).toNatClampNeg = true
        · refine OK.t c2 (put ?_)
          rw [c, c2, Bool.or_true]; rfl
        · refine OK.f c2 (skip ?_)
          rw [Bool.not_eq_true] at c2
          rw [c, c2, decide_eq_false c1]; rfl
    · refine OK.f c (skip ?_)
      rw [Bool.not_eq_true] at c
      rw [c, Bool.false_and]
  · have e : i = nPa A := by omega
    subst e
    exact OK.t (nI_le (Nat.le_refl _) (by omega)) (OK.s ⟨hy, rfl⟩)
/-- a way is gone -/
def GO (w A : Wd) (way : Nat) : Prop := w.1 0 88 = nI (way / 8) ∧ w.1 0 89 = nI (way % 8) ∧ ∀ l, l < nLa A → RB (w.1 46 l) (cnS A (RU A l way).1) ∧ RB (w.1 47 l) (RU A l way).2.2.1
theorem nWy_or {way : Nat} (h : way < nWy A) : way / 8 < nOr A ∧ 0 < nLa A := by
  unfold nWy at h
  split at h
  · omega
  · omega
theorem zm_goWay (hT : tol w = A) (hI : INV A) {way : Nat} (hw : way < nWy A) : OK (f_X12_goWay (nI way) w) (fun w' => GO w' A way ∧ FX PG w w') := by
  have hI' := hI
  obtain ⟨hN, -, hP, -, -⟩ := hI
  have hL := hN.1.2
  have hww := nWy_le hN
  obtain ⟨ho, -⟩ := nWy_or hw
  unfold f_X12_goWay
  rw [k8, pk_div (by omega) (by omega) (by omega), ← pk_div (a := way) (d := 8) (by omega) (by omega) (by omega), pk_rem (by omega) (by omega) (by omega), pk_div (by omega) (by omega) (by omega)]
  refine OK.l (OK.l ?_)
  have hF0 : FX PG w (wI (wI w 0 88 (nI (way / 8))) 0 89 (nI (way % 8))) := (FX.w w _ (by unfold PG; omega)).tr (FX.w _ _ (by unfold PG; omega))
  have g1 : (wI (wI w 0 88 (nI (way / 8))) 0 89 (nI (way % 8))).1 0 88 = nI (way / 8) := by rw [wI_g, if_neg (by omega), wI_s]
  have g2 : (wI (wI w 0 88 (nI (way / 8))) 0 89 (nI (way % 8))).1 0 89 = nI (way % 8) := by rw [wI_s]
  generalize wI (wI w 0 88 (nI (way / 8))) 0 89 (nI (way % 8)) = w0 at hF0 g1 g2 ⊢
  refine lo2 (fun n y v => ∃ i, n = nLa A - i ∧ i ≤ nLa A ∧ y = nI i ∧ FX PG w v ∧ v.1 0 88 = nI (way / 8) ∧ v.1 0 89 = nI (way % 8) ∧ ∀ l, l < i → RB (v.1 46 l) (cnS A (RU A l way).1) ∧ RB (v.1 47 l) (RU A l way).2.2.1) ?_ fu (nLa A - 0) 0 w0 (by rw [fu_eq]; omega) ⟨0, rfl, Nat.zero_le _, rfl, hF0, g1, g2, fun l hl => by omega⟩
  rintro n k y v ⟨i, rfl, hi, rfl, hF, e1, e2, hg⟩ hk
  have hTv := hF.gt hT
  rw [X12_goWay_b18, tol_0 hTv 10 rfl, hN.1.1]
  by_cases hin : i < nLa A
  · refine OK.f (nI_ge hin (by omega)) ?_
    rw [e1, e2]
    refine OK.v ((zm_bring hTv hI' ho (f := way % 8) (by omega) hin).m ?_)
    rintro v1 ⟨hM1, hF1⟩
    have hT1 := hF1.tol hTv
    refine OK.c ((zm_count hT1 hI' hM1.1).m ?_)
    rintro ⟨r, v2⟩ ⟨hr, rfl⟩
    refine OK.t (z_inb (by omega) (by omega)) (OK.l (OK.t (z_inb (by omega) (by omega)) (OK.l ?_)))
    rw [nI_clamp (by omega)]
    refine hk _ _ _ (by omega) ⟨i + 1, rfl, hin, nI_1 i, ((hF.tr hF1.x).tr (FX.w _ _ (by unfold PG; omega))).tr (FX.w _ _ (by unfold PG; omega)), ?_, ?_, fun l hl => ?_⟩
    · rw [wI_g, if_neg (by omega), wI_g, if_neg (by omega), hF1.2 0 88 (by omega) (by omega)]; exact e1
    · rw [wI_g, if_neg (by omega), wI_g, if_neg (by omega), hF1.2 0 89 (by omega) (by omega)]; exact e2
    · rw [wI_g, if_neg (by omega), wI_g, wI_g]
      by_cases e : l = i
      · subst e
        rw [if_pos ⟨rfl, rfl⟩, if_pos ⟨rfl, rfl⟩, wI_g, if_neg (by omega)]
        exact ⟨hr, hM1.2.2.1⟩
      · rw [if_neg (fun h => e h.2), if_neg (fun h => e h.2), wI_g, if_neg (by omega), hF1.2 46 l (by omega) (by omega), hF1.2 47 l (by omega) (by omega)]
        exact hg l (by omega)
  · have e : i = nLa A := by omega
    subst e
    exact OK.t (nI_le (Nat.le_refl _) (by omega)) (OK.s ⟨⟨e1, e2, hg⟩, hF⟩)
end
