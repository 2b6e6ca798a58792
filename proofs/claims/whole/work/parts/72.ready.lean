/-! making ready -/
def PL (s a k : Nat) : Prop := (a = s ∧ 4 ≤ k ∧ k ≤ 7) ∨ a = s + 2
theorem PL_t {s : Nat} (hs : 84 ≤ s) {w w' : Wd} (h : FX (PL s) w w') : TFR w w' := ⟨h.1, fun a k ha => h.2 a k (by unfold PL; omega)⟩
def PRA (w A : Wd) : Prop := ∀ l, l < nLa A → PRS w A (84 + 3 * l) (gdA A l) (uaA A) l
def usF (A : Wd) : Nat → Nat → Bool
  | 0, l => decide (l = lwX A (-1))
  | t + 1, l => usF A t l || decide (l = lwX A (nI t))
def RDY (w A : Wd) : Prop := PRA w A ∧ w.1 8 9 = nI (lwX A (-1)) ∧ RB (w.1 8 10) (usF A (nTh A)) ∧ ∀ t, t < nTh A → w.1 13 t = nI (lwX A (nI t))
def BDP (w : Wd) : Prop := ∃ c, c < 1000000 ∧ w.1 3 6 = nI c ∧ (w.1 8 13 = -1 ∨ ∃ d, d ≤ c ∧ w.1 8 13 = nI d) ∧ (w.1 16 9 = -1 ∨ ∃ d, d ≤ c ∧ w.1 16 9 = nI d)
theorem BDP.fr {w w' : Wd} (h : BDP w) (h1 : w'.1 3 6 = w.1 3 6) (h2 : w'.1 8 13 = w.1 8 13 ∨ w'.1 8 13 = w'.1 3 6 ∨ w'.1 8 13 = -1) (h3 : w'.1 16 9 = w.1 16 9 ∨ w'.1 16 9 = w'.1 3 6 ∨ w'.1 16 9 = -1) : BDP w' := by
  obtain ⟨c, hc, e, a, b⟩ := h
  refine ⟨c, hc, h1.trans e, ?_, ?_⟩
  · rcases h2 with q | q | q
    · rw [q]; exact a
    · exact Or.inr ⟨c, Nat.le_refl _, q.trans (h1.trans e)⟩
    · exact Or.inl q
  · rcases h3 with q | q | q
    · rw [q]; exact b
    · exact Or.inr ⟨c, Nat.le_refl _, q.trans (h1.trans e)⟩
    · exact Or.inl q
def PRP (w A : Wd) : Prop := (w.1 8 13 = w.1 3 6 → RDY w A) ∧ BDP w
def PP (a k : Nat) : Prop := (a = 8 ∧ (k = 9 ∨ k = 10 ∨ k = 13)) ∨ a = 13 ∨ (84 ≤ a ∧ a ≤ 95)
def PQ (a k : Nat) : Prop := (a = 8 ∧ (k = 8 ∨ k = 11 ∨ k = 12)) ∨ (9 ≤ a ∧ a ≤ 11) ∨ a = 14 ∨ a = 15 ∨ (84 ≤ a ∧ a ≤ 95 ∧ ((a % 3 = 0 ∧ (k = 1 ∨ 8 ≤ k ∧ k ≤ 10)) ∨ a % 3 = 1))
def PCS (a _k : Nat) : Prop := (8 ≤ a ∧ a ≤ 15) ∨ (84 ≤ a ∧ a ≤ 95)
def PMS (a k : Nat) : Prop := (a = 0 ∧ (k = 79 ∨ 82 ≤ k ∧ k ≤ 84 ∨ k = 88 ∨ k = 89)) ∨ (45 ≤ a ∧ a ≤ 50)
theorem PP_s {w w' : Wd} (h : FX PP w w') : FX PCS w w' := h.mo (fun a k q => by unfold PP at q; unfold PCS; omega)
theorem PQ_s {w w' : Wd} (h : FX PQ w w') : FX PCS w w' := h.mo (fun a k q => by unfold PQ at q; unfold PCS; omega)
theorem PCS_t {w w' : Wd} (h : FX PCS w w') : TFR w w' := ⟨h.1, fun a k ha => h.2 a k (by unfold PCS; omega)⟩
theorem PS_q {l : Nat} (hl : l < 4) {w w' : Wd} (h : FX (PS (84 + 3 * l)) w w') : FX PQ w w' := h.mo (fun a k q => by unfold PS at q; unfold PQ; omega)
theorem PG_s {w w' : Wd} (h : FX PG w w') : FX PMS w w' := h.mo (fun a k q => by unfold PG at q; unfold PMS; omega)
theorem FX.mt {w w' A : Wd} (h : FX PMS w w') (hT : tol w = A) : tol w' = A := h.ot hT (fun k hk => by unfold PMS; omega) (fun o k ho => by unfold PMS; omega)
theorem RDY.fq {w w' A : Wd} (h : RDY w A) (hN : NUM A) (f : FX PQ w w') : RDY w' A := by
  have hL := hN.1.2
  have h8 := hN.2.2.1.2
  obtain ⟨h1, h2, h3, h4⟩ := h
  refine ⟨fun l hl => (h1 l hl).fr (fun k => ⟨fun hk => f.2 _ _ (by unfold PQ; omega), f.2 _ _ (by unfold PQ; omega)⟩), ?_, ?_, fun t ht => ?_⟩
  · rw [f.2 8 9 (by unfold PQ; omega)]; exact h2
  · rw [f.2 8 10 (by unfold PQ; omega)]; exact h3
  · rw [f.2 13 t (by unfold PQ; omega)]; exact h4 t ht
theorem PRP.q {w w1 w2 A : Wd} (hp : PRP w A) (hN : NUM A) (hr : RDY w1 A) (hc : w1.1 8 13 = w1.1 3 6) (hF1 : FX PP w w1) (hF2 : FX PQ w1 w2) : PRP w2 A := by
  refine ⟨fun _ => hr.fq hN hF2, hp.2.fr ?_ (Or.inr (Or.inl ?_)) (Or.inl ?_)⟩
  · rw [hF2.2 3 6 (by unfold PQ; omega), hF1.2 3 6 (by unfold PP; omega)]
  · rw [hF2.2 8 13 (by unfold PQ; omega), hF2.2 3 6 (by unfold PQ; omega)]; exact hc
  · rw [hF2.2 16 9 (by unfold PQ; omega), hF1.2 16 9 (by unfold PP; omega)]
section
variable {w A : Wd} {s : Nat}
theorem zc_effect (hE : EST w A) (hI : INV A) {e l : Nat} (he : e < nEv A) (hl : l < nLa A) : f_X8_effectOf s (A.1 38 e) (nI l) w = some (nI (effS A l e), w) := by
  obtain ⟨hN, -, -, hV, -⟩ := hI
  obtain ⟨i, hi, ei⟩ := (hV e he).1
  unfold f_X8_effectOf effS
  rw [show (4 : Int32) = nI 4 from rfl, show (5 : Int32) = nI 5 from rfl, show (6 : Int32) = nI 6 from rfl, show (8 : Int32) = nI 8 from rfl]
  simp only [zc_ruleOf hE hN hl (show 4 < 13 by omega), zc_ruleOf hE hN hl (show 5 < 13 by omega), zc_ruleOf hE hN hl (show 6 < 13 by omega), zc_ruleOf hE hN hl (show 8 < 13 by omega), cl_s]
  have q44 : (nI 4 = nI 4) = True := by simp
  have q04 : (nI 0 = nI 4) = False := by decide
  have q14 : (nI 1 = nI 4) = False := by decide
  have q24 : (nI 2 = nI 4) = False := by decide
  have q34 : (nI 3 = nI 4) = False := by decide
  rcases (show i = 0 ∨ i = 1 ∨ i = 2 ∨ i = 3 ∨ i = 4 by omega) with rfl | rfl | rfl | rfl | rfl
  · simp only [ei, ei_0_0, ei_0_1, ei_0_2, ei_0_3, ei_0_4, ei_1_0, ei_1_1, ei_1_2, ei_1_3, ei_1_4, ei_2_0, ei_2_1, ei_2_2, ei_2_3, ei_2_4, ei_3_0, ei_3_1, ei_3_2, ei_3_3, ei_3_4, ei_4_0, ei_4_1, ei_4_2, ei_4_3, ei_4_4, if_true, if_false, q04]
    by_cases r : A.1 2 (13 * l + 4) = 0
    · rw [if_pos r, if_pos r]; rfl
    · rw [if_neg r, if_neg r]; rfl
  · simp only [ei, ei_0_0, ei_0_1, ei_0_2, ei_0_3, ei_0_4, ei_1_0, ei_1_1, ei_1_2, ei_1_3, ei_1_4, ei_2_0, ei_2_1, ei_2_2, ei_2_3, ei_2_4, ei_3_0, ei_3_1, ei_3_2, ei_3_3, ei_3_4, ei_4_0, ei_4_1, ei_4_2, ei_4_3, ei_4_4, if_true, if_false, q14]
    by_cases r : A.1 2 (13 * l + 5) = 0
    · rw [if_pos r, if_pos r]; rfl
    · rw [if_neg r, if_neg r]; rfl
  · simp only [ei, ei_0_0, ei_0_1, ei_0_2, ei_0_3, ei_0_4, ei_1_0, ei_1_1, ei_1_2, ei_1_3, ei_1_4, ei_2_0, ei_2_1, ei_2_2, ei_2_3, ei_2_4, ei_3_0, ei_3_1, ei_3_2, ei_3_3, ei_3_4, ei_4_0, ei_4_1, ei_4_2, ei_4_3, ei_4_4, if_true, if_false, q24]; rfl
  · simp only [ei, ei_0_0, ei_0_1, ei_0_2, ei_0_3, ei_0_4, ei_1_0, ei_1_1, ei_1_2, ei_1_3, ei_1_4, ei_2_0, ei_2_1, ei_2_2, ei_2_3, ei_2_4, ei_3_0, ei_3_1, ei_3_2, ei_3_3, ei_3_4, ei_4_0, ei_4_1, ei_4_2, ei_4_3, ei_4_4, if_true, if_false, q34]
    by_cases r : A.1 2 (13 * l + 6) = 0
    · rw [if_pos r, if_pos r]; rfl
    · rw [if_neg r, if_neg r]; rfl
  · simp only [ei, ei_0_0, ei_0_1, ei_0_2, ei_0_3, ei_0_4, ei_1_0, ei_1_1, ei_1_2, ei_1_3, ei_1_4, ei_2_0, ei_2_1, ei_2_2, ei_2_3, ei_2_4, ei_3_0, ei_3_1, ei_3_2, ei_3_3, ei_3_4, ei_4_0, ei_4_1, ei_4_2, ei_4_3, ei_4_4, if_true, if_false, q44]
    by_cases r : A.1 2 (13 * l + 8) = 0
    · rw [if_pos r, if_pos r]; rfl
    · rw [if_neg r, if_neg r]; rfl
theorem zc_setLaw (hL : TLD w A) (hI : INV A) (hX : NCH A) (hs : 84 ≤ s) {l : Nat} (hl : l < nLa A) : OK (f_X8_setLaw s (nI l) w) (fun w' => PRS w' A s (gdA A l) (uaA A) l ∧ FX (PL s) w w') := by
  have hI' := hI
  obtain ⟨hN, -, hP, -, -⟩ := hI
  have h4 := hN.2.2.2.1.2
  have h3 := hN.2.2.2.2.1.2
  have last : ∀ v, FX (PL s) w v → v.1 s 4 = bI (wkS A l) → v.1 s 5 = bI (decide (A.1 2 (13 * l + 3) = 2)) → (∀ e, e < nEv A → v.1 (s + 2) e = nI (effS A l e)) → v.1 s 6 = 0 → v.1 s 7 = 0 → OK (X8_setLaw_b100_L s (nI l) 0 v) (fun w' => PRS w' A s (gdA A l) (uaA A) l ∧ FX (PL s) w w') := by
    intro v0 hF0 e4 e5 ee e6 e7
    refine lo4 (fun n y0 y1 y3 v => ∃ i, n = nPa A - i ∧ i ≤ nPa A ∧ y0 = s ∧ y1 = nI l ∧ y3 = nI i ∧ FX (PL s) w v ∧ v.1 s 4 = bI (wkS A l) ∧ v.1 s 5 = bI (decide (A.1 2 (13 * l + 3) = 2)) ∧ (∀ e, e < nEv A → v.1 (s + 2) e = nI (effS A l e)) ∧ RB (v.1 s 6) (fun j => decide (j < i) && gdS A j l) ∧ RB (v.1 s 7) (fun j => decide (j < i) && decide (¬ A.1 31 j = 0))) ?_ fu (nPa A - 0) s (nI l) 0 v0 (by rw [fu_eq]; omega) ⟨0, rfl, Nat.zero_le _, rfl, rfl, rfl, hF0, e4, e5, ee, ?_, ?_⟩
    · rintro n k a0 a1 a3 v ⟨i, rfl, hi, rfl, rfl, rfl, hF, e4, e5, ee, h6, h7⟩ hk
      have hLv := hL.fr hN (PL_t hs hF)
      rw [X8_setLaw_b100, hLv.2.1.1, hN.2.2.2.1.1]
      by_cases hin : i < nPa A
      · obtain ⟨⟨-, -, -, -, f4, -⟩, -⟩ := hLv.2.2.2.1 i hin
        refine OK.f (nI_ge hin (by omega)) (OK.t (z_inb (by omega) (by omega)) ?_)
        rw [nI_clamp (by omega), zc_good hLv.1 hLv.2.2.2.1 hN hP hin hl, gd0 hX hN hin, cl_s, if_b0]
        have fin : ∀ t0 : Int32, RB t0 (fun j => decide (j = i) && gdS A i l) → OK (X8_setLaw_b145 k a0 (nI l) (nI i) (57 + 6 * i) t0 (v.1 a0 6) a0 v) (fun w' => PRS w' A a0 (gdA A l) (uaA A) l ∧ FX (PL a0) w w') := by
          intro t0 ht
          unfold X8_setLaw_b145
          refine OK.l ?_
          have hF2 : FX (PL a0) v (wI v a0 6 (v.1 a0 6 ||| t0)) := FX.w v _ (by unfold PL; omega)
          have g6 : RB ((wI v a0 6 (v.1 a0 6 ||| t0)).1 a0 6) (fun j => decide (j < i + 1) && gdS A j l) := by
            rw [wI_s]
            refine (h6.or ht).cg (fun j _ => ?_)
            by_cases e : j = i
            · subst e; rw [decide_eq_false (show ¬ j < j by omega), decide_eq_true (show j < j + 1 by omega), decide_eq_true (show j = j from rfl)]; simp
            · rw [show decide (j < i + 1) = decide (j < i) from decide_eq_decide.mpr (by omega), decide_eq_false e, Bool.false_and, Bool.or_false]
          rw [show (wI v a0 6 (v.1 a0 6 ||| t0)).1 (57 + 6 * i) 4 = A.1 31 i by rw [wI_g, if_neg (by omega)]; exact f4]
          have stp : ∀ x : Int32, RB x (fun j => decide (j = i) && decide (¬ A.1 31 i = 0)) → OK (k a0 (nI l) (nI i + 1) (wI (wI v a0 6 (v.1 a0 6 ||| t0)) a0 7 ((wI v a0 6 (v.1 a0 6 ||| t0)).1 a0 7 ||| x))) (fun w' => PRS w' A a0 (gdA A l) (uaA A) l ∧ FX (PL a0) w w') := by
            intro x hx
            refine hk _ _ _ _ _ (by omega) ⟨i + 1, rfl, hin, rfl, rfl, nI_1 i, (hF.tr hF2).tr (FX.w _ _ (by unfold PL; omega)), ?_, ?_, fun e he => ?_, ?_, ?_⟩
            · rw [wI_g, if_neg (by omega), wI_g, if_neg (by omega)]; exact e4
            · rw [wI_g, if_neg (by omega), wI_g, if_neg (by omega)]; exact e5
            · rw [wI_g, if_neg (by omega), wI_g, if_neg (by omega)]; exact ee e he
            · rw [wI_g, if_neg (by omega)]; exact g6
            · rw [wI_s, wI_g, if_neg (by omega)]
              refine (h7.or hx).cg (fun j _ => ?_)
              by_cases e : j = i
              · subst e; rw [decide_eq_false (show ¬ j < j by omega), decide_eq_true (show j < j + 1 by omega), decide_eq_true (show j = j from rfl)]; simp
              · rw [show decide (j < i + 1) = decide (j < i) from decide_eq_decide.mpr (by omega), decide_eq_false e, Bool.false_and, Bool.or_false]
          by_cases c : A.1 31 i = 0
          · refine OK.t c (OK.l (stp _ (RB.z.cg (fun j _ => ?_))))
            rw [show decide (¬ A.1 31 i = 0) = false from decide_eq_false (fun q => q c), Bool.and_false]
          · refine OK.f c (OK.l (stp _ ((RB.one (by omega)).cg (fun j _ => ?_))))
            rw [decide_eq_true c, Bool.and_true]
        by_cases g : gdS A i l = false
        · refine OK.t g (fin _ (RB.z.cg (fun j _ => ?_)))
          rw [g, Bool.and_false]
        · refine OK.f g (fin _ ((RB.one (by omega)).cg (fun j _ => ?_)))
          rw [Bool.not_eq_false] at g
          rw [g, Bool.and_true]
      · have e : i = nPa A := by omega
        subst e
        exact OK.t (nI_le (Nat.le_refl _) (by omega)) (OK.s ⟨⟨h6, h7, e4, e5, ee⟩, hF⟩)
    · rw [e6]; exact RB.z.cg (fun j _ => by rw [decide_eq_false (by omega), Bool.false_and])
    · rw [e7]; exact RB.z.cg (fun j _ => by rw [decide_eq_false (by omega), Bool.false_and])
  have mid : ∀ v, FX (PL s) w v → v.1 s 4 = bI (wkS A l) → v.1 s 5 = bI (decide (A.1 2 (13 * l + 3) = 2)) → OK (X8_setLaw_b48_L s (nI l) 0 v) (fun w' => PRS w' A s (gdA A l) (uaA A) l ∧ FX (PL s) w w') := by
    intro v0 hF0 e4 e5
    refine lo4 (fun n y0 y1 y3 v => ∃ i, n = nEv A - i ∧ i ≤ nEv A ∧ y0 = s ∧ y1 = nI l ∧ y3 = nI i ∧ FX (PL s) w v ∧ v.1 s 4 = bI (wkS A l) ∧ v.1 s 5 = bI (decide (A.1 2 (13 * l + 3) = 2)) ∧ (∀ e, e < i → v.1 (s + 2) e = nI (effS A l e))) ?_ fu (nEv A - 0) s (nI l) 0 v0 (by rw [fu_eq]; omega) ⟨0, rfl, Nat.zero_le _, rfl, rfl, rfl, hF0, e4, e5, fun e he => by omega⟩
    rintro n k a0 a1 a3 v ⟨i, rfl, hi, rfl, rfl, rfl, hF, e4, e5, ee⟩ hk
    have hLv := hL.fr hN (PL_t hs hF)
    rw [X8_setLaw_b48, hLv.2.1.2, hN.2.2.2.2.1.1]
    by_cases hin : i < nEv A
    · refine OK.f (nI_ge hin (by omega)) (OK.t (z_inb (by omega) (by omega)) ?_)
      rw [nI_clamp (by omega), (hLv.2.2.2.2 i hin).1, zc_effect hLv.1 hI' hin hl, cl_s]
      refine OK.t (z_inb (by omega) (by omega)) (OK.l (hk _ _ _ _ _ (by omega) ⟨i + 1, rfl, hin, rfl, rfl, nI_1 i, hF.tr (FX.w v _ (by unfold PL; omega)), ?_, ?_, fun e he => ?_⟩))
      · rw [wI_g, if_neg (by omega)]; exact e4
      · rw [wI_g, if_neg (by omega)]; exact e5
      · rw [wI_g]
        by_cases q : e = i
        · rw [if_pos ⟨rfl, q⟩, q]
        · rw [if_neg (fun h => q h.2)]; exact ee e (by omega)
    · have e : i = nEv A := by omega
      subst e
      refine OK.t (nI_le (Nat.le_refl _) (by omega)) (OK.l (OK.l (last _ ((hF.tr (FX.w v _ (by unfold PL; omega))).tr (FX.w _ _ (by unfold PL; omega))) ?_ ?_ (fun e he => ?_) ?_ ?_)))
      · rw [wI_g, if_neg (by omega), wI_g, if_neg (by omega)]; exact e4
      · rw [wI_g, if_neg (by omega), wI_g, if_neg (by omega)]; exact e5
      · rw [wI_g, if_neg (by omega), wI_g, if_neg (by omega)]; exact ee e he
      · rw [wI_g, if_neg (by omega), wI_s]
      · rw [wI_s]
  have b24 : OK (X8_setLaw_b24 s (nI l) (bI (wkS A l)) s w) (fun w' => PRS w' A s (gdA A l) (uaA A) l ∧ FX (PL s) w w') := by
    unfold X8_setLaw_b24
    refine OK.t (bI_B _) (OK.l ?_)
    have hF1 : FX (PL s) w (wI w s 4 (bI (wkS A l))) := FX.w w _ (by unfold PL; omega)
    have g4 : (wI w s 4 (bI (wkS A l))).1 s 4 = bI (wkS A l) := wI_s _ _ _ _
    generalize wI w s 4 (bI (wkS A l)) = w1 at hF1 g4 ⊢
    have hL1 := hL.fr hN (PL_t hs hF1)
    rw [k3, zc_ruleOf hL1.1 hN hl (by omega), cl_s]
    by_cases c : A.1 2 (13 * l + 3) = 2
    · refine OK.t c (OK.l (mid _ (hF1.tr (FX.w w1 _ (by unfold PL; omega))) ?_ ?_))
      · rw [wI_g, if_neg (by omega)]; exact g4
      · rw [wI_s, decide_eq_true c]; rfl
    · refine OK.f c (OK.l (mid _ (hF1.tr (FX.w w1 _ (by unfold PL; omega))) ?_ ?_))
      · rw [wI_g, if_neg (by omega)]; exact g4
      · rw [wI_s, decide_eq_false c]; rfl
  unfold f_X8_setLaw
  rw [show (7 : Int32) = nI 7 from rfl, zc_ruleOf hL.1 hN hl (by omega), cl_s]
  unfold wkS at b24
  by_cases c : A.1 2 (13 * l + 7) = 0
  · rw [decide_eq_false (fun q => q c)] at b24
    exact OK.t c b24
  · rw [decide_eq_true c] at b24
    exact OK.f c b24
end
