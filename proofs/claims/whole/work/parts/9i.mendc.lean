/-! a mended paper, at the desk -/
def gM (A : Wd) (l p : Nat) (G : Bool) : Nat → Bool := fun i => if i = p then G else gdA A l i
def uM (A : Wd) (p : Nat) (U : Bool) : Nat → Bool := fun i => if i = p then U else uaA A i
def ruM (A : Wd) (l p : Nat) (G U : Bool) (way : Nat) : SS := runS A (gM A l p G) (uM A p U) l (way % 8) (way / 8)
def vM (A : Wd) (p t : Nat) (G U : Bool) (way i : Nat) : Nat := thV A (lwT A t) (cnS A (ruM A (lwT A t) p G U way).1) (ruM A (lwT A t) p G U way).2.2.1 (way % 8) (way / 8) t i
def cdM (A : Wd) (p : Nat) (L : Bool) (way : Nat) : Prop := L = true → A.1 43 (6 * (way / 8) + (nIt A - 1)) = nI p
def VR (A : Wd) (p t q : Nat) (G U L : Bool) : Prop := (∀ v, v < nWy A → cdM A p L v → vM A p t G U v q = wtS A t) ∧ ∃ v, v < nWy A ∧ cdM A p L v
theorem vM_cg {A : Wd} (hI : INV A) {p t : Nat} {G U : Bool} {a b : Nat} (h : AGW A a b) (ha : a < nWy A) (i : Nat) : vM A p t G U a i = vM A p t G U b i := by
  have ho := (nWy_or ha).1
  unfold vM ruM
  rw [← h.1, run_cg hI h.2 ho]
  unfold thV
  rw [gv_cg hI h.2]
theorem gM_lt {A : Wd} {l p : Nat} {G : Bool} (hp : p < nPa A) : ∀ i, gM A l p G i = true → i < nPa A := fun i hi => by
  unfold gM at hi
  by_cases c : i = p
  · omega
  · rw [if_neg c] at hi; exact gd_lt i hi
theorem thV_31 {A : Wd} (hI : INV A) (hPe : PEI A) {t l : Nat} (ht : t < nTh A) (hl : l < nLa A) {cn vo : Nat → Bool} {f o i : Nat} (hi : i < 8) : thV A l cn vo f o t i < 2 ^ 31 := by
  have hwt := (wt_e hPe ht).2
  unfold thV
  split
  · split <;> omega
  · have := plV_le hPe hI.1.2.1.2 hl (cn := cn) (vo := vo) (o := o) (m := wtS A t) hi
    omega
section
variable {w A : Wd}
theorem zc_wayM (hL : TLD w A) (hI : INV A) {way t p : Nat} {G U : Bool} (hp : p < nPa A) (hr : PRS w A (84 + 3 * lwT A t) (gM A (lwT A t) p G) (uM A p U) (lwT A t)) (he : w.1 13 t = nI (lwT A t)) (hw : way < nWy A) (ht : t < nTh A) : OK (f_X7_takeWayFor (nI t) (nI way) w) (fun v => CVd v (84 + 3 * lwT A t) (cnS A (ruM A (lwT A t) p G U way).1) (ruM A (lwT A t) p G U way).2.2.1 (lwT A t) A ∧ v.1 8 11 = nI (way / 8) ∧ v.1 8 12 = nI (way % 8) ∧ v.1 13 t = nI (lwT A t) ∧ FX PQ w v) := by
  have hN := hI.1
  have hL4 := hN.1.2
  have hT8 := hN.2.2.1.2
  have hww := nWy_le hN
  obtain ⟨ho, h0⟩ := nWy_or hw
  have hl : lwT A t < nLa A := lwX_lt hI.2.1 hN h0 (x := nI t) (Or.inr ⟨t, ht, rfl⟩)
  unfold f_X7_takeWayFor
  rw [zc_setWay (by omega), cv_s]
  have hF1 : FX PQ w (wI (wI w 8 11 (nI (way / 8))) 8 12 (nI (way % 8))) := (FX.w w _ (by unfold PQ; omega)).tr (FX.w _ _ (by unfold PQ; omega))
  have e11 : (wI (wI w 8 11 (nI (way / 8))) 8 12 (nI (way % 8))).1 8 11 = nI (way / 8) := by rw [wI_g, if_neg (by omega), wI_s]
  have e12 : (wI (wI w 8 11 (nI (way / 8))) 8 12 (nI (way % 8))).1 8 12 = nI (way % 8) := wI_s _ _ _ _
  generalize wI (wI w 8 11 (nI (way / 8))) 8 12 (nI (way % 8)) = w1 at hF1 e11 e12 ⊢
  have hr1 : PRS w1 A (84 + 3 * lwT A t) (gM A (lwT A t) p G) (uM A p U) (lwT A t) := hr.fr (fun k => ⟨fun hk => hF1.2 _ _ (by unfold PQ; omega), hF1.2 _ _ (by unfold PQ; omega)⟩)
  have e13 : w1.1 13 t = nI (lwT A t) := (hF1.2 13 t (by unfold PQ; omega)).trans he
  refine OK.t (z_inb (by omega) (by omega)) ?_
  rw [nI_clamp (n := t) (by omega), e13, e11, e12]
  refine OK.t (z_inb (by omega) (by omega)) ?_
  rw [nI_clamp (by omega)]
  refine OK.v ((zc_run (hL.fr hN (PCS_t (PQ_s hF1))) hI (by omega) hr1 (gM_lt hp) ho (f := way % 8) (by omega)).m ?_)
  rintro v ⟨h1, h2, h3⟩
  have h3q := PS_q (l := lwT A t) (by omega) h3
  refine OK.s ⟨⟨h2, h1.2.2.1, hr1.2.2.2.1 ▸ h3.2 _ _ (by unfold PS; omega)⟩, ?_, ?_, ?_, hF1.tr h3q⟩
  · rw [h3.2 _ _ (by unfold PS; omega)]; exact e11
  · rw [h3.2 _ _ (by unfold PS; omega)]; exact e12
  · rw [h3.2 _ _ (by unfold PS; omega)]; exact e13
def ASK3 (w : Wd) (p t q : Nat) : Prop := w.1 28 3 = nI p ∧ w.1 28 4 = nI t ∧ w.1 28 5 = nI q
theorem zc_right (hL : TLD w A) (hK : KIN w A) (hI : INV A) (hPe : PEI A) {p t q : Nat} {G U L : Bool} (hp : p < nPa A) (ht : t < nTh A) (hq : q < nPe A) (h0 : 0 < nLa A) (hA : ASK3 w p t q) (hr : PRS w A (84 + 3 * lwT A t) (gM A (lwT A t) p G) (uM A p U) (lwT A t)) (he : w.1 13 t = nI (lwT A t)) : OK (f_X3_goesRightInAll (bI L) w) (fun r => ((r.1 = 1 ∧ VR A p t q G U L) ∨ (r.1 = 0 ∧ ¬ VR A p t q G U L)) ∧ FX PQ w r.2) := by
  have hN := hI.1
  have hL4 := hN.1.2
  have hP8 := hN.2.1.2
  have hT8 := hN.2.2.1.2
  have h4 := hN.2.2.2.1.2
  have hww := nWy_le hN
  have hit : nIt A ≤ 6 := hN.2.2.2.2.2.1
  have hit1 : 1 ≤ nIt A := by unfold nIt; omega
  have hl : lwT A t < nLa A := lwX_lt hI.2.1 hN h0 (x := nI t) (Or.inr ⟨t, ht, rfl⟩)
  have hwt := wt_e hPe ht
  unfold f_X3_goesRightInAll
  rw [hA.2.1]
  refine OK.t (z_inb (by omega) (by omega)) ?_
  rw [nI_clamp (n := t) (by omega), (hL.1.2.2.2.1 t ht).1, hwt.1]
  refine OK.l ?_
  rw [zc_items hL.2.1 hN, cl_s, show (1 : Int32) = nI 1 from rfl, pk_sub hit1]
  refine OK.l (OK.c ((zc_unused hL hI).m ?_))
  rintro ⟨r, w1⟩ ⟨hU, e⟩
  dsimp only at hU e ⊢
  subst e
  rw [zc_ways hL.1 hL.2.2.1 hN, cl_s]
  refine lo8 (fun m y1 y2 y3 y4 y5 y6 y7 v => ∃ i, m = nWy A - i ∧ i ≤ nWy A ∧ y1 = bI L ∧ y2 = nI (wtS A t) ∧ y3 = nI (nIt A - 1) ∧ y4 = r ∧ y5 = nI (nWy A) ∧ y7 = nI i ∧ FX PQ w1 v ∧ (∀ j, j < i → cdM A p L j → vM A p t G U j q = wtS A t) ∧ ((y6 = 0 ∧ ∀ j, j < i → ¬ cdM A p L j) ∨ (y6 = 1 ∧ ∃ j, j < i ∧ cdM A p L j))) ?_ fu (nWy A - 0) (bI L) (nI (wtS A t)) (nI (nIt A - 1)) r (nI (nWy A)) 0 0 w1 (by rw [fu_eq]; omega) ⟨0, rfl, Nat.zero_le _, rfl, rfl, rfl, rfl, rfl, rfl, FX.rf _ _, fun j hj => by omega, Or.inl ⟨rfl, fun j hj => by omega⟩⟩
  rintro m k y1 y2 y3 y4 y5 y6 y7 v ⟨i, rfl, hi, rfl, rfl, rfl, rfl, rfl, rfl, hF, hv, hy⟩ hk
  rw [X3_goesRightInAll_b50]
  by_cases hin : i < nWy A
  · obtain ⟨ho, -⟩ := nWy_or hin
    have hTv := PCS_t (PQ_s hF)
    have hLv := hL.fr hN hTv
    have hKv := hK.fr hTv
    have hAv : ASK3 v p t q := ⟨(hF.2 _ _ (by unfold PQ; omega)).trans hA.1, (hF.2 _ _ (by unfold PQ; omega)).trans hA.2.1, (hF.2 _ _ (by unfold PQ; omega)).trans hA.2.2⟩
    have hrv : PRS v A (84 + 3 * lwT A t) (gM A (lwT A t) p G) (uM A p U) (lwT A t) := hr.fr (fun k => ⟨fun hk => hF.2 _ _ (by unfold PQ; omega), hF.2 _ _ (by unfold PQ; omega)⟩)
    have hev : v.1 13 t = nI (lwT A t) := (hF.2 13 t (by unfold PQ; omega)).trans he
    refine OK.f (nI_ge hin (by omega)) ?_
    have yes : cdM A p L i → OK (X3_goesRightInAll_b86 k (bI L) (nI (wtS A t)) (nI (nIt A - 1)) y4 (nI (nWy A)) y6 (nI i) 1 v) (fun r => ((r.1 = 1 ∧ VR A p t q G U L) ∨ (r.1 = 0 ∧ ¬ VR A p t q G U L)) ∧ FX PQ w1 r.2) := by
      intro hc
      unfold X3_goesRightInAll_b86
      refine OK.f (by decide) (OK.i (fun hz => ?_) (fun hz => ?_))
      · rw [hAv.2.1]
        refine OK.v ((zc_wayM hLv hI hp hrv hev hin ht).m ?_)
        rintro v1 ⟨hM, g11, g12, g13, hF1⟩
        have hT1 := PCS_t (PQ_s hF1)
        rw [show v1.1 28 4 = nI t from (hF1.2 _ _ (by unfold PQ; omega)).trans hAv.2.1]
        refine OK.c ((zc_thing (hLv.fr hN hT1) (hKv.fr hT1) hI hPe hM hl ht g13 ho g11 g12).m ?_)
        rintro ⟨r2, v2⟩ ⟨-, hpv, hF2⟩
        dsimp only at hpv hF2 ⊢
        have hF3 : FX PQ w1 v2 := (hF.tr hF1).tr (PO9_q hF2)
        rw [show v2.1 28 5 = nI q from (hF3.2 _ _ (by unfold PQ; omega)).trans hA.2.2]
        refine OK.t (z_inb (by omega) (by omega)) ?_
        rw [nI_clamp (n := q) (by omega), hpv q (by omega)]
        have hle : thV A (lwT A t) (cnS A (ruM A (lwT A t) p G U i).1) (ruM A (lwT A t) p G U i).2.2.1 (i % 8) (i / 8) t q < 2 ^ 31 := thV_31 hI hPe ht hl (by omega)
        refine OK.i (fun e => ?_) (fun e => ?_)
        · rw [nI_eq hle (by omega)] at e
          refine hk _ _ _ _ _ _ _ _ _ (by omega) ⟨i + 1, rfl, hin, rfl, rfl, rfl, rfl, rfl, nI_1 i, hF3, fun j hj hjc => ?_, Or.inr ⟨rfl, i, by omega, hc⟩⟩
          by_cases c : j = i
          · subst c; exact e
          · exact hv j (by omega) hjc
        · rw [nI_eq hle (by omega)] at e
          exact OK.s ⟨Or.inr ⟨rfl, fun h => e (h.1 i hin hc)⟩, hF3⟩
      · obtain ⟨v', -, -, hag, hlt⟩ := wy_red hU i
        have hlt := hlt hz
        have hc' : cdM A p L v' := by unfold cdM at hc ⊢; rw [← hag.1]; exact hc
        refine hk _ _ _ _ _ _ _ _ _ (by omega) ⟨i + 1, rfl, hin, rfl, rfl, rfl, rfl, rfl, nI_1 i, hF, fun j hj hjc => ?_, ?_⟩
        · by_cases c : j = i
          · subst c; rw [vM_cg hI hag hin]; exact hv v' hlt hc'
          · exact hv j (by omega) hjc
        · rcases hy with ⟨-, hn⟩ | ⟨e, j, hj, hjc⟩
          · exact absurd hc' (hn v' hlt)
          · exact Or.inr ⟨e, j, by omega, hjc⟩
    have no : ¬ cdM A p L i → OK (X3_goesRightInAll_b86 k (bI L) (nI (wtS A t)) (nI (nIt A - 1)) y4 (nI (nWy A)) y6 (nI i) 0 v) (fun r => ((r.1 = 1 ∧ VR A p t q G U L) ∨ (r.1 = 0 ∧ ¬ VR A p t q G U L)) ∧ FX PQ w1 r.2) := by
      intro hc
      unfold X3_goesRightInAll_b86
      refine OK.t rfl (hk _ _ _ _ _ _ _ _ _ (by omega) ⟨i + 1, rfl, hin, rfl, rfl, rfl, rfl, rfl, nI_1 i, hF, fun j hj hjc => ?_, ?_⟩)
      · by_cases c : j = i
        · subst c; exact absurd hjc hc
        · exact hv j (by omega) hjc
      · rcases hy with ⟨e, hn⟩ | ⟨e, j, hj, hjc⟩
        · refine Or.inl ⟨e, fun j hj => ?_⟩
          by_cases c : j = i
          · subst c; exact hc
          · exact hn j (by omega)
        · exact Or.inr ⟨e, j, by omega, hjc⟩
    rw [if_b0]
    refine OK.i (fun e => yes (fun h => by rw [e] at h; cases h)) (fun e => ?_)
    rw [Bool.not_eq_false] at e
    rw [k8, pk_div (by omega) (by omega) (by omega), zc_itemAt hLv.2.2.1 hN ho (show nIt A - 1 < nIt A by omega), cl_s, hAv.1]
    exact OK.i (fun h => yes (fun _ => h)) (fun h => no (fun hc => h (hc e)))
  · have e : i = nWy A := by omega
    subst e
    refine OK.t (nI_le (Nat.le_refl _) (by omega)) ?_
    rcases hy with ⟨e, hn⟩ | ⟨e, j, hj, hjc⟩
    · subst e
      exact OK.t (by decide) (OK.s ⟨Or.inr ⟨rfl, fun h => by obtain ⟨-, j, hj, hjc⟩ := h; exact hn j hj hjc⟩, hF⟩)
    · subst e
      exact OK.t (by decide) (OK.s ⟨Or.inl ⟨rfl, hv, j, hj, hjc⟩, hF⟩)
end
