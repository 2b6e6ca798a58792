/-! goes, how, paid -/
def cnU (A : Wd) (l way : Nat) : Nat → Bool := cnS A (RU A l way).1
def voU (A : Wd) (l way : Nat) : Nat → Bool := (RU A l way).2.2.1
def lwT (A : Wd) (t : Nat) : Nat := lwX A (nI t)
def lwM (A : Wd) : Nat := lwX A (-1)
def tV (A : Wd) (way t i : Nat) : Nat := thV A (lwT A t) (cnU A (lwT A t) way) (voU A (lwT A t) way) (way % 8) (way / 8) t i
def tH (A : Wd) (way t : Nat) : Nat := thH A (lwT A t) (cnU A (lwT A t) way) (voU A (lwT A t) way) (way % 8) (way / 8) t
def pyW (A : Wd) (way : Nat) : List Nat := pyP A (lwM A) (cnU A (lwM A) way) (voU A (lwM A) way) (way % 8) (way / 8) (nIt A)
def mP (A : Wd) (way i : Nat) : Nat := pdS A (pyW A way) i
def mL (A : Wd) (way i : Nat) : Nat := plV A (lwM A) (cnU A (lwM A) way) (voU A (lwM A) way) (way / 8) (thM A - alS A (pyW A way)) i
theorem rh_hi {A : Wd} {l : Nat} {cn vo : Nat → Bool} {o : Nat} : ∀ {n : Nat} {set : Nat → Bool}, rhF A l cn vo o n = some set → ∀ i, nPe A ≤ i → set i = false := by
  intro n
  induction n with
  | zero => intro set h; cases h
  | succ n ih =>
    intro set h
    unfold rhF at h
    split at h
    · cases h
      intro i hi
      unfold hsS
      rw [decide_eq_false (by omega), Bool.false_and]
    · exact ih h
theorem plV_hi {A : Wd} (hPe : PEI A) (h8 : nPe A ≤ 8) {l : Nat} {cn vo : Nat → Bool} {o m i : Nat} (hi : nPe A ≤ i) (hi8 : i < 8) : plV A l cn vo o m i = 0 := by
  unfold plV
  split
  · rename_i set h
    exact eqP_z (rh_hi h i hi)
  · split
    · unfold kvS
      rw [vF_hi _ _ _ _ hi, Nat.add_zero]
      exact if_neg (fun h => by have := (wf_d hPe h8 hi8 h).1; omega)
    · rfl
theorem gv_lt {A : Wd} (hI : INV A) {l : Nat} {cn vo : Nat → Bool} {f o t : Nat} : ∀ {n q : Nat}, gvF A l cn vo f o t n = some q → q < nPe A := by
  intro n
  induction n with
  | zero => intro q h; cases h
  | succ n ih =>
    intro q h
    unfold gvF at h
    split at h
    · rename_i hc
      have hg : ∀ j g, j + g ≤ nGi A (itS A o n) → ∀ q, gfF A l vo f (itS A o n) t j g = some q → q < nPe A := by
        intro j
        induction j with
        | zero => intro g _ q hq; cases hq
        | succ j ihj =>
          intro g hjg q hq
          unfold gfF at hq
          split at hq
          · cases hq
            exact (toS_lt hI hc (by omega)).2
          · exact ihj (g + 1) (by omega) q hq
      unfold oE gi1 at h
      by_cases cc : cn (itS A o n) = true
      · rw [if_pos cc] at h
        cases e : gfF A l vo f (itS A o n) t (nGi A (itS A o n)) 0 with
        | none => rw [e] at h; exact ih h
        | some r => rw [e] at h; cases h; exact hg _ 0 (by omega) _ e
      · rw [if_neg cc] at h; exact ih h
    · exact ih h
theorem thV_hi {A : Wd} (hI : INV A) (hPe : PEI A) {l : Nat} {cn vo : Nat → Bool} {f o t i : Nat} (hi : nPe A ≤ i) (hi8 : i < 8) : thV A l cn vo f o t i = 0 := by
  unfold thV
  split
  · rename_i q h
    have := gv_lt hI h
    rw [if_neg (by omega)]
  · exact plV_hi hPe hI.1.2.1.2 hi hi8
theorem gd_lt {A : Wd} {l : Nat} : ∀ i, gdA A l i = true → i < nPa A := fun i hi => by
  unfold gdA at hi
  rw [Bool.and_eq_true] at hi
  exact of_decide_eq_true hi.1
section
variable {w A : Wd}
theorem zc_wayFor (hL : TLD w A) (hI : INV A) (hr : RDY w A) {way t : Nat} (hw : way < nWy A) (ht : t < nTh A) : OK (f_X7_takeWayFor (nI t) (nI way) w) (fun v => CVd v (84 + 3 * lwT A t) (cnU A (lwT A t) way) (voU A (lwT A t) way) (lwT A t) A ∧ v.1 8 11 = nI (way / 8) ∧ v.1 8 12 = nI (way % 8) ∧ v.1 13 t = nI (lwT A t) ∧ FX PQ w v) := by
  have hN := hI.1
  have hL4 := hN.1.2
  have hT8 := hN.2.2.1.2
  have hww := nWy_le hN
  obtain ⟨ho, h0⟩ := nWy_or hw
  have hl : lwT A t < nLa A := lwX_lt hI.2.1 hN h0 (x := nI t) (Or.inr ⟨t, ht, rfl⟩)
  unfold f_X7_takeWayFor
  rw [zc_setWay (by omega), cv_s]
  have hF1 : FX PQ w (wI (wI w 8 11 (nI (way / 8))) 8 12 (nI (way % 8))) := (FX.w w _ (by unfold PQ; omega)).tr (FX.w _ _ (by unfold PQ; omega))
  have e11 : (wI (wI w 8 11 (nI (way / 8))) 8 12 (nI (way % 8))).1 8 11 = nI (way / 8) := by rw [wI_g, if_neg (by omega), wI_s]
  have e12 : (wI (wI w 8 11 (nI (way / 8))) 8 12 (nI (way % 8))).1 8 12 = nI (way % 8) := wI_s _ _ _ _
  generalize wI (wI w 8 11 (nI (way / 8))) 8 12 (nI (way % 8)) = w1 at hF1 e11 e12 ⊢
  have hr1 := hr.fq hN hF1
  have e13 : w1.1 13 t = nI (lwT A t) := hr1.2.2.2 t ht
  refine OK.t (z_inb (by omega) (by omega)) ?_
  rw [nI_clamp (n := t) (by omega), e13, e11, e12]
  refine OK.t (z_inb (by omega) (by omega)) ?_
  rw [nI_clamp (by omega)]
  refine OK.v ((zc_run (hL.fr hN (PCS_t (PQ_s hF1))) hI (by omega) (hr1.1 _ hl) gd_lt ho (f := way % 8) (by omega)).m ?_)
  rintro v ⟨h1, h2, h3⟩
  have h3q := PS_q (l := lwT A t) (by omega) h3
  refine OK.s ⟨⟨h2, h1.2.2.1, (hr1.1 _ hl).2.2.2.1 ▸ h3.2 _ _ (by unfold PS; omega)⟩, ?_, ?_, ?_, hF1.tr h3q⟩
  · rw [h3.2 _ _ (by unfold PS; omega)]; exact e11
  · rw [h3.2 _ _ (by unfold PS; omega)]; exact e12
  · rw [h3.2 _ _ (by unfold PS; omega)]; exact e13
theorem us_lt (hI : INV A) (h0 : 0 < nLa A) : ∀ n, n ≤ nTh A → ∀ l, usF A n l = true → l < nLa A := by
  intro n
  induction n with
  | zero => intro _ l h; rw [of_decide_eq_true h]; exact lwX_lt hI.2.1 hI.1 h0 (Or.inl rfl)
  | succ n ih =>
    intro hn l h
    have h : (usF A n l || decide (l = lwX A (nI n))) = true := h
    rw [Bool.or_eq_true] at h
    rcases h with h | h
    · exact ih (by omega) l h
    · rw [of_decide_eq_true h]; exact lwX_lt hI.2.1 hI.1 h0 (Or.inr ⟨n, by omega, rfl⟩)
theorem us_t {n t : Nat} : t < n → usF A n (lwT A t) = true := by
  induction n with
  | zero => intro h; omega
  | succ n ih =>
    intro h
    show (usF A n (lwT A t) || decide (lwT A t = lwX A (nI n))) = true
    by_cases e : t = n
    · subst e
      have : decide (lwT A t = lwX A (nI t)) = true := decide_eq_true rfl
      rw [this, Bool.or_true]
    · rw [ih (by omega), Bool.true_or]
theorem us_m : ∀ n, usF A n (lwM A) = true := by
  intro n
  induction n with
  | zero => exact decide_eq_true rfl
  | succ n ih => show (usF A n (lwM A) || _) = true; rw [ih, Bool.true_or]
/-- a way is taken by all laws in use -/
def TKN (w A : Wd) (way : Nat) : Prop := (∀ l, usF A (nTh A) l = true → CVd w (84 + 3 * l) (cnU A l way) (voU A l way) l A) ∧ w.1 8 11 = nI (way / 8) ∧ w.1 8 12 = nI (way % 8)
theorem zc_way (hL : TLD w A) (hI : INV A) (hr : RDY w A) {way : Nat} (hw : way < nWy A) : OK (f_X7_takeWay (nI way) w) (fun v => TKN v A way ∧ FX PQ w v) := by
  have hN := hI.1
  have hL4 := hN.1.2
  have hww := nWy_le hN
  obtain ⟨ho, h0⟩ := nWy_or hw
  unfold f_X7_takeWay
  rw [zc_setWay (by omega), cv_s]
  have hF1 : FX PQ w (wI (wI w 8 11 (nI (way / 8))) 8 12 (nI (way % 8))) := (FX.w w _ (by unfold PQ; omega)).tr (FX.w _ _ (by unfold PQ; omega))
  have e11 : (wI (wI w 8 11 (nI (way / 8))) 8 12 (nI (way % 8))).1 8 11 = nI (way / 8) := by rw [wI_g, if_neg (by omega), wI_s]
  have e12 : (wI (wI w 8 11 (nI (way / 8))) 8 12 (nI (way % 8))).1 8 12 = nI (way % 8) := wI_s _ _ _ _
  generalize wI (wI w 8 11 (nI (way / 8))) 8 12 (nI (way % 8)) = w1 at hF1 e11 e12 ⊢
  refine lo2 (fun n y v => ∃ i, n = 4 - i ∧ i ≤ 4 ∧ y = nI i ∧ FX PQ w v ∧ v.1 8 11 = nI (way / 8) ∧ v.1 8 12 = nI (way % 8) ∧ ∀ l, l < i → usF A (nTh A) l = true → CVd v (84 + 3 * l) (cnU A l way) (voU A l way) l A) ?_ fu (4 - 0) 0 w1 (by rw [fu_eq]; omega) ⟨0, rfl, by omega, rfl, hF1, e11, e12, fun l hl => by omega⟩
  rintro n k y v ⟨i, rfl, hi, rfl, hF, g11, g12, hg⟩ hk
  have hrv := hr.fq hN hF
  rw [X7_takeWay_b7, k4]
  by_cases hin : i < 4
  · refine OK.f (nI_ge hin (by omega)) ?_
    rw [if_bt (by omega), hrv.2.2.1 i (by omega)]
    by_cases c : usF A (nTh A) i = false
    · refine OK.t c (hk _ _ _ (by omega) ⟨i + 1, rfl, hin, nI_1 i, hF, g11, g12, fun l hl hu => ?_⟩)
      by_cases e : l = i
      · rw [e, c] at hu; cases hu
      · exact hg l (by omega) hu
    · rw [Bool.not_eq_false] at c
      have hl := us_lt hI h0 (nTh A) (Nat.le_refl _) i c
      refine OK.f (by rw [c]; decide) (OK.t (z_inb (by omega) (by omega)) ?_)
      rw [nI_clamp (by omega), g11, g12]
      refine OK.v ((zc_run (hL.fr hN (PCS_t (PQ_s hF))) hI (by omega) (hrv.1 _ hl) gd_lt ho (f := way % 8) (by omega)).m ?_)
      rintro v2 ⟨h1, h2, h3⟩
      refine hk _ _ _ (by omega) ⟨i + 1, rfl, hin, nI_1 i, hF.tr (PS_q hin h3), ?_, ?_, fun l hl2 hu => ?_⟩
      · rw [h3.2 _ _ (by unfold PS; omega)]; exact g11
      · rw [h3.2 _ _ (by unfold PS; omega)]; exact g12
      · by_cases e : l = i
        · subst e
          exact ⟨h2, h1.2.2.1, (h3.2 _ _ (by unfold PS; omega)).trans (hrv.1 _ hl).2.2.2.1⟩
        · obtain ⟨q1, q2, q3⟩ := hg l (by omega) hu
          refine ⟨?_, ?_, ?_⟩
          · rw [h3.2 _ _ (by unfold PS; omega)]; exact q1
          · rw [h3.2 _ _ (by unfold PS; omega)]; exact q2
          · rw [h3.2 _ _ (by unfold PS; omega)]; exact q3
  · have e : i = 4 := by omega
    subst e
    refine OK.t (nI_le (Nat.le_refl _) (by omega)) (OK.s ⟨⟨fun l hu => ?_, g11, g12⟩, hF⟩)
    have := us_lt hI h0 (nTh A) (Nat.le_refl _) l hu
    exact hg l (by omega) hu
def gtS (v : Nat → Nat) (i : Nat) : Bool := decide (i < 8) && decide (¬ nI (v i) ≤ 0)
theorem zc_getters {v : Nat → Nat} (hv : PV w 9 v) : OK (f_X7_gettersOfParts w) (fun q => q.2 = w ∧ RB q.1 (gtS v)) := by
  unfold f_X7_gettersOfParts
  refine lo3 (fun n y1 y2 u => ∃ i, n = 8 - i ∧ i ≤ 8 ∧ RB y1 (fun j => decide (j < i) && gtS v j) ∧ y2 = nI i ∧ u = w) ?_ fu (8 - 0) 0 0 w (by rw [fu_eq]; omega) ⟨0, rfl, by omega, RB.z.cg (fun j _ => by rw [decide_eq_false (by omega), Bool.false_and]), rfl, rfl⟩
  rintro n k y a2 u ⟨i, rfl, hi, hy, rfl, rfl⟩ hk
  rw [X7_gettersOfParts_b4, k8]
  by_cases hin : i < 8
  · refine OK.f (nI_ge hin (by omega)) (OK.t (z_inb (by omega) (by omega)) ?_)
    rw [nI_clamp (by omega), hv i hin]
    have hg : gtS v i = decide (¬ nI (v i) ≤ 0) := by unfold gtS; rw [decide_eq_true hin, Bool.true_and]
    by_cases c : nI (v i) ≤ 0
    · refine OK.t c (OK.l (hk _ _ _ _ (by omega) ⟨i + 1, rfl, hin, (hy.or RB.z).cg (fun j _ => ?_), nI_1 i, rfl⟩))
      rw [Bool.or_false]
      by_cases e : j = i
      · rw [e, hg, show decide (¬ nI (v i) ≤ 0) = false from decide_eq_false (fun q => q c), Bool.and_false, Bool.and_false]
      · rw [show decide (j < i + 1) = decide (j < i) from decide_eq_decide.mpr (by omega)]
    · refine OK.f c (OK.l (hk _ _ _ _ (by omega) ⟨i + 1, rfl, hin, (hy.or (RB.one (p := i) (by omega))).cg (fun j _ => ?_), nI_1 i, rfl⟩))
      by_cases e : j = i
      · rw [e, hg, decide_eq_true c, decide_eq_true (show i < i + 1 by omega), decide_eq_true (show i = i from rfl)]; simp
      · rw [show decide (j < i + 1) = decide (j < i) from decide_eq_decide.mpr (by omega), decide_eq_false e, Bool.or_false]
  · have e : i = 8 := by omega
    subst e
    refine OK.t (nI_le (Nat.le_refl _) (by omega)) (OK.s ⟨rfl, hy.cg (fun j _ => ?_)⟩)
    unfold gtS
    by_cases e : j < 8
    · rw [decide_eq_true e, Bool.true_and]
    · rw [decide_eq_false e, Bool.false_and, Bool.false_and]
theorem zm_getters (hT : tol w = A) (hN : NUM A) {v : Nat → Nat} (hv : PV w 48 v) (hz : ∀ i, nPe A ≤ i → i < 8 → v i = 0) : OK (f_X12_whoGets w) (fun q => q.2 = w ∧ RB q.1 (gtS v)) := by
  have h8 := hN.2.1.2
  unfold f_X12_whoGets
  refine lo3 (fun n y1 y2 u => ∃ i, n = nPe A - i ∧ i ≤ nPe A ∧ RB y1 (fun j => decide (j < i) && gtS v j) ∧ y2 = nI i ∧ u = w) ?_ fu (nPe A - 0) 0 0 w (by rw [fu_eq]; omega) ⟨0, rfl, by omega, RB.z.cg (fun j _ => by rw [decide_eq_false (by omega), Bool.false_and]), rfl, rfl⟩
  rintro n k y a2 u ⟨i, rfl, hi, hy, rfl, rfl⟩ hk
  rw [X12_whoGets_b4, tol_0 hT 11 rfl, hN.2.1.1]
  by_cases hin : i < nPe A
  · refine OK.f (nI_ge hin (by omega)) (OK.t (z_inb (by omega) (by omega)) ?_)
    rw [nI_clamp (by omega), hv i (by omega)]
    have hg : gtS v i = decide (¬ nI (v i) ≤ 0) := by unfold gtS; rw [decide_eq_true (show i < 8 by omega), Bool.true_and]
    by_cases c : nI (v i) ≤ 0
    · refine OK.t c (OK.l (hk _ _ _ _ (by omega) ⟨i + 1, rfl, hin, (hy.or RB.z).cg (fun j _ => ?_), nI_1 i, rfl⟩))
      rw [Bool.or_false]
      by_cases e : j = i
      · rw [e, hg, show decide (¬ nI (v i) ≤ 0) = false from decide_eq_false (fun q => q c), Bool.and_false, Bool.and_false]
      · rw [show decide (j < i + 1) = decide (j < i) from decide_eq_decide.mpr (by omega)]
    · refine OK.f c (OK.l (hk _ _ _ _ (by omega) ⟨i + 1, rfl, hin, (hy.or (RB.one (p := i) (by omega))).cg (fun j _ => ?_), nI_1 i, rfl⟩))
      by_cases e : j = i
      · rw [e, hg, decide_eq_true c, decide_eq_true (show i < i + 1 by omega), decide_eq_true (show i = i from rfl)]; simp
      · rw [show decide (j < i + 1) = decide (j < i) from decide_eq_decide.mpr (by omega), decide_eq_false e, Bool.or_false]
  · have e : i = nPe A := by omega
    subst e
    refine OK.t (nI_le (Nat.le_refl _) (by omega)) (OK.s ⟨rfl, hy.cg (fun j _ => ?_)⟩)
    unfold gtS
    by_cases e : j < nPe A
    · rw [decide_eq_true e, Bool.true_and]
    · rw [decide_eq_false e, Bool.false_and]
      by_cases e8 : j < 8
      · rw [hz j (by omega) e8, show decide (¬ nI 0 ≤ 0) = false from by decide, Bool.and_false]
      · rw [decide_eq_false e8, Bool.false_and]
end
theorem PTh_s {w w' : Wd} (h : FX PTh w w') : FX PMS w w' := h.mo (fun a k q => by unfold PTh at q; unfold PMS; omega)
theorem PMo_s {w w' : Wd} (h : FX PMo w w') : FX PMS w w' := h.mo (fun a k q => by unfold PMo at q; unfold PMS; omega)
theorem PO9_q {w w' : Wd} (h : FX (PO 9) w w') : FX PQ w w' := h.mo (fun a k q => by unfold PO at q; unfold PQ; omega)
theorem PMc_q {w w' : Wd} (h : FX PMc w w') : FX PQ w w' := h.mo (fun a k q => by unfold PMc at q; unfold PQ; omega)
section
variable {wc wm A : Wd}
/-- a thing parted in a way, both sides -/
theorem zc_goT (hL : TLD wc A) (hK : KIN wc A) (hI : INV A) (hPe : PEI A) (hr : RDY wc A) {way t : Nat} (hw : way < nWy A) (ht : t < nTh A) : OK (cv (f_X7_takeWayFor (nI t) (nI way) wc) fun w6 => f_X7_partThing (nI t) w6) (fun q => q.1 = nI (tH A way t) ∧ PV q.2 9 (tV A way t) ∧ FX PQ wc q.2) := by
  have hN := hI.1
  obtain ⟨ho, h0⟩ := nWy_or hw
  refine OK.v ((zc_wayFor hL hI hr hw ht).m ?_)
  rintro v ⟨h1, h2, h3, h4, h5⟩
  have hl : lwT A t < nLa A := lwX_lt hI.2.1 hN h0 (x := nI t) (Or.inr ⟨t, ht, rfl⟩)
  refine (zc_thing (hL.fr hN (PCS_t (PQ_s h5))) (hK.fr (PCS_t (PQ_s h5))) hI hPe h1 hl ht h4 ho h2 h3).m ?_
  rintro q ⟨g1, g2, g3⟩
  exact ⟨g1, g2, h5.tr (PO9_q g3)⟩
theorem zm_goT (hI : INV A) (hPe : PEI A) {u : Wd} (hT : tol u = A) {way t : Nat} (hw : way < nWy A) (hG : GO u A way) (ht : t < nTh A) : OK (f_X12_goThing (nI t) u) (fun q => q.1 = nI (tH A way t) ∧ PV q.2 48 (tV A way t) ∧ FX PTh u q.2) := by
  have hN := hI.1
  obtain ⟨ho, h0⟩ := nWy_or hw
  have hl : lwT A t < nLa A := lwX_lt hI.2.1 hN h0 (x := nI t) (Or.inr ⟨t, ht, rfl⟩)
  exact zm_thing hT hI hPe h0 ht (hG.2.2 _ hl) ho hG.1 hG.2.1
theorem q_goes (hL : TLD wc A) (hK : KIN wc A) (hI : INV A) (hPe : PEI A) (hX : NCH A) (hp : PRP wc A) (hT : tol wm = A) (a b : Int32) : QQ wc wm A (f_X11_goes a b wc) (f_X12_goes a b wm) := by
  have hN := hI.1
  have hT8 := hN.2.2.1.2
  have hww := nWy_le hN
  unfold f_X11_goes f_X12_goes
  rw [zc_isThing, zm_isThing hT, hL.1.1.2.2, hN.2.2.1.1, cl_s, cl_s, if_b0, if_b0]
  by_cases h1 : rng a (nI (nTh A)) = false
  · rw [if_pos h1, if_pos h1]; exact QQ.rf hp
  rw [if_neg h1, if_neg h1, zc_isWay hL.1 hL.2.2.1 hN, zm_isWay hT hN, cl_s, cl_s, if_b0, if_b0]
  by_cases h2 : rng b (nI (nWy A)) = false
  · rw [if_pos h2, if_pos h2]; exact QQ.rf hp
  rw [if_neg h2, if_neg h2]
  rw [Bool.not_eq_false] at h1 h2
  obtain ⟨t, ht, rfl⟩ := rng_ex (by omega) h1
  obtain ⟨way, hw, rfl⟩ := rng_ex (by omega) h2
  obtain ⟨ho, h0⟩ := nWy_or hw
  obtain ⟨w1, e1, hr1, hc1, hF1⟩ := zc_ready hL hI hX h0 hp
  have hT1 := PCS_t (PP_s hF1)
  obtain ⟨⟨r2, w2⟩, e2, -, hv2, hF2⟩ := zc_goT (hL.fr hN hT1) (hK.fr hT1) hI hPe hr1 hw ht
  obtain ⟨⟨r3, w3⟩, e3, hw3, hb3⟩ := zc_getters hv2
  dsimp only at hw3 hb3 e3
  subst hw3
  obtain ⟨v2, q2, q3⟩ : ∃ v2, f_X7_takeWayFor (nI t) (nI way) w1 = some v2 ∧ f_X7_partThing (nI t) v2 = some (r2, w3) := by
    cases h : f_X7_takeWayFor (nI t) (nI way) w1 with
    | none => rw [h] at e2; cases e2
    | some v2 => rw [h] at e2; exact ⟨v2, rfl, e2⟩
  obtain ⟨m1, f1, hG, hFm⟩ := zm_goWay hT hI hw
  have hTm := hFm.gt hT
  obtain ⟨⟨s2, m2⟩, f2, -, hvm, hFm2⟩ := zm_goT hI hPe hTm hw hG ht
  dsimp only at hvm hFm2 f2
  obtain ⟨⟨s3, m3⟩, f3, hm3, hb4⟩ := zm_getters (PTh_t hFm2 hTm) hN hvm (fun i hi h8 => thV_hi hI hPe hi h8)
  dsimp only at hm3 hb4 f3
  subst hm3
  rw [e1, cv_s, q2, cv_s, q3, cl_s, e3, cl_s, f1, cv_s, f2, cl_s, f3, cl_s]
  refine ⟨s3, w3, m3, ?_, rfl, (PP_s hF1).tr (PQ_s hF2), hp.q hN hr1 hc1 hF1 hF2, (PG_s hFm).tr (PTh_s hFm2)⟩
  rw [hb3.eq hb4]
theorem q_how (hL : TLD wc A) (hK : KIN wc A) (hI : INV A) (hPe : PEI A) (hX : NCH A) (hp : PRP wc A) (hT : tol wm = A) (a b : Int32) : QQ wc wm A (f_X11_how a b wc) (f_X12_how a b wm) := by
  have hN := hI.1
  have hT8 := hN.2.2.1.2
  have hww := nWy_le hN
  unfold f_X11_how f_X12_how
  rw [zc_isThing, zm_isThing hT, hL.1.1.2.2, hN.2.2.1.1, cl_s, cl_s, if_b0, if_b0]
  by_cases h1 : rng a (nI (nTh A)) = false
  · rw [if_pos h1, if_pos h1]; exact QQ.rf hp
  rw [if_neg h1, if_neg h1, zc_isWay hL.1 hL.2.2.1 hN, zm_isWay hT hN, cl_s, cl_s, if_b0, if_b0]
  by_cases h2 : rng b (nI (nWy A)) = false
  · rw [if_pos h2, if_pos h2]; exact QQ.rf hp
  rw [if_neg h2, if_neg h2]
  rw [Bool.not_eq_false] at h1 h2
  obtain ⟨t, ht, rfl⟩ := rng_ex (by omega) h1
  obtain ⟨way, hw, rfl⟩ := rng_ex (by omega) h2
  obtain ⟨ho, h0⟩ := nWy_or hw
  obtain ⟨w1, e1, hr1, hc1, hF1⟩ := zc_ready hL hI hX h0 hp
  have hT1 := PCS_t (PP_s hF1)
  obtain ⟨⟨r2, w2⟩, e2, hh2, hv2, hF2⟩ := zc_goT (hL.fr hN hT1) (hK.fr hT1) hI hPe hr1 hw ht
  dsimp only at hh2 hF2
  obtain ⟨v2, q2, q3⟩ : ∃ v2, f_X7_takeWayFor (nI t) (nI way) w1 = some v2 ∧ f_X7_partThing (nI t) v2 = some (r2, w2) := by
    cases h : f_X7_takeWayFor (nI t) (nI way) w1 with
    | none => rw [h] at e2; cases e2
    | some v2 => rw [h] at e2; exact ⟨v2, rfl, e2⟩
  obtain ⟨m1, f1, hG, hFm⟩ := zm_goWay hT hI hw
  have hTm := hFm.gt hT
  obtain ⟨⟨s2, m2⟩, f2, hs2, -, hFm2⟩ := zm_goT hI hPe hTm hw hG ht
  dsimp only at hs2 hFm2
  rw [e1, cv_s, q2, cv_s, q3, cl_s, f1, cv_s, f2, cl_s, hh2, hs2]
  exact ⟨_, w2, m2, rfl, rfl, (PP_s hF1).tr (PQ_s hF2), hp.q hN hr1 hc1 hF1 hF2, (PG_s hFm).tr (PTh_s hFm2)⟩
theorem zc_goM (hL : TLD wc A) (hK : KIN wc A) (hI : INV A) (hPe : PEI A) (hr : RDY wc A) {way : Nat} (hw : way < nWy A) (hk : TKN wc A way) : OK (f_X7_partMoney wc) (fun v => PV v 10 (mP A way) ∧ PV v 9 (mL A way) ∧ FX PMc wc v) := by
  have hN := hI.1
  obtain ⟨ho, h0⟩ := nWy_or hw
  have hl : lwM A < nLa A := lwX_lt hI.2.1 hN h0 (Or.inl rfl)
  exact zc_money hL hK hI hPe (hk.1 _ (us_m _)) hl hr.2.1 ho hk.2.1 hk.2.2
theorem zm_goM (hI : INV A) (hPe : PEI A) {u : Wd} (hT : tol u = A) {way : Nat} (hw : way < nWy A) (hG : GO u A way) : OK (f_X12_goMoney u) (fun v => PV v 49 (mP A way) ∧ PV v 48 (fun i => mL A way i + mP A way i) ∧ FX PMo u v) := by
  have hN := hI.1
  obtain ⟨ho, h0⟩ := nWy_or hw
  have hl : lwM A < nLa A := lwX_lt hI.2.1 hN h0 (Or.inl rfl)
  exact zm_money hT hI hPe h0 (hG.2.2 _ hl) ho hG.1 hG.2.1
theorem q_paid (hL : TLD wc A) (hK : KIN wc A) (hI : INV A) (hPe : PEI A) (hX : NCH A) (hp : PRP wc A) (hT : tol wm = A) (a b : Int32) : QQ wc wm A (f_X11_paid a b wc) (f_X12_paid a b wm) := by
  have hN := hI.1
  have h8 := hN.2.1.2
  have hww := nWy_le hN
  unfold f_X11_paid f_X12_paid
  rw [zc_isPerson, zm_isPerson hT, hL.1.1.2.1, hN.2.1.1, cl_s, cl_s, if_b0, if_b0]
  by_cases h1 : rng a (nI (nPe A)) = false
  · rw [if_pos h1, if_pos h1]; exact QQ.rf hp
  rw [if_neg h1, if_neg h1, zc_isWay hL.1 hL.2.2.1 hN, zm_isWay hT hN, cl_s, cl_s, if_b0, if_b0]
  by_cases h2 : rng b (nI (nWy A)) = false
  · rw [if_pos h2, if_pos h2]; exact QQ.rf hp
  rw [if_neg h2, if_neg h2]
  rw [Bool.not_eq_false] at h1 h2
  obtain ⟨p, hpp, rfl⟩ := rng_ex (by omega) h1
  obtain ⟨way, hw, rfl⟩ := rng_ex (by omega) h2
  obtain ⟨ho, h0⟩ := nWy_or hw
  obtain ⟨w1, e1, hr1, hc1, hF1⟩ := zc_ready hL hI hX h0 hp
  have hT1 := PCS_t (PP_s hF1)
  obtain ⟨w2, e2, hk2, hF2⟩ := zc_way (hL.fr hN hT1) hI hr1 hw
  have hT2 := PCS_t (PQ_s hF2)
  obtain ⟨w3, e3, h10, -, hF3⟩ := zc_goM ((hL.fr hN hT1).fr hN hT2) ((hK.fr hT1).fr hT2) hI hPe (hr1.fq hN hF2) hw hk2
  obtain ⟨m1, f1, hG, hFm⟩ := zm_goWay hT hI hw
  obtain ⟨m2, f2, h49, -, hFm2⟩ := zm_goM hI hPe (hFm.gt hT) hw hG
  rw [e1, cv_s, e2, cv_s, e3, cv_s, f1, cv_s, f2, cv_s, z_inb (by omega) (by omega), if_pos rfl, if_pos rfl, nI_clamp (by omega), h10 p (by omega), h49 p (by omega)]
  exact ⟨_, w3, m2, rfl, rfl, ((PP_s hF1).tr (PQ_s hF2)).tr (PQ_s (PMc_q hF3)), hp.q hN hr1 hc1 hF1 (hF2.tr (PMc_q hF3)), (PG_s hFm).tr (PMo_s hFm2)⟩
end
