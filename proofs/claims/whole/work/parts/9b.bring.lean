/-! the desk's outcomes brought up to date -/
def OWY (w A : Wd) (n : Nat) : Prop := ∀ v, v < n → w.1 17 v = nI (onO A v)
def OUTR (w A : Wd) (cp : Nat) : Prop := OUT w A cp (nWy A) ∧ OWY w A (nWy A)
/-- what the desk keeps of outcomes -/
def OKC (w A : Wd) (cp : Nat) : Prop := RM w cp ∧ (w.1 16 9 = w.1 3 6 → OUTR w A cp)
def PBu (a k : Nat) : Prop := PCS a k ∨ (16 ≤ a ∧ a ≤ 21)
theorem PBu_t {w w' : Wd} (h : FX PBu w w') : TFR w w' := ⟨h.1, fun a k ha => h.2 a k (by unfold PBu PCS; omega)⟩
theorem POu_b {w w' : Wd} (h : FX POu w w') : FX PBu w w' := h.mo (fun a k q => by unfold POu at q; unfold PBu PCS; omega)
theorem PCS_b {w w' : Wd} (h : FX PCS w w') : FX PBu w w' := h.mo (fun a k q => Or.inl q)
theorem PPt_q' {w w' : Wd} (h : FX PPt w w') : FX PCS w w' := PQ_s (PPt_q h)
theorem RDY.fo {w w' A : Wd} (h : RDY w A) (hN : NUM A) (f : ∀ a k, PCS a k → w'.1 a k = w.1 a k) : RDY w' A := by
  have hL4 := hN.1.2
  have f1 : ∀ k, w'.1 8 k = w.1 8 k := fun k => f 8 k (by unfold PCS; omega)
  have f2 : ∀ k, w'.1 13 k = w.1 13 k := fun k => f 13 k (by unfold PCS; omega)
  unfold RDY
  rw [f1, f1]
  refine ⟨fun l hl => ?_, h.2.1, h.2.2.1, fun t ht => by rw [f2]; exact h.2.2.2 t ht⟩
  have g := h.1 l hl
  have fa : ∀ k, w'.1 (84 + 3 * l) k = w.1 (84 + 3 * l) k := fun k => f _ k (by unfold PCS; omega)
  have fb : ∀ k, w'.1 (84 + 3 * l + 2) k = w.1 (84 + 3 * l + 2) k := fun k => f _ k (by unfold PCS; omega)
  unfold PRS at g ⊢
  rw [fa, fa, fa, fa]
  exact ⟨g.1, g.2.1, g.2.2.1, g.2.2.2.1, fun e he => by rw [fb]; exact g.2.2.2.2 e he⟩
section
variable {w A : Wd}
theorem zc_bring (hL : TLD w A) (hK : KIN w A) (hI : INV A) (hPe : PEI A) (hX : NCH A) (hp : PRP w A) {cp : Nat} (hO : OKC w A cp) : OK (f_X5_bringUpToDate cp w) (fun q => OUTR q.1 A q.2 ∧ q.1.1 16 9 = q.1.1 3 6 ∧ PRP q.1 A ∧ FX PBu w q.1 ∧ cp ≤ q.2) := by
  have hN := hI.1
  have hW := nWy_le hN
  unfold f_X5_bringUpToDate
  by_cases h9 : w.1 16 9 = w.1 3 6
  · exact OK.t h9 (OK.s ⟨hO.2 h9, h9, hp, FX.rf _ _, Nat.le_refl _⟩)
  refine OK.f h9 (OK.l ?_)
  rw [zc_fill (by omega), cv_s]
  generalize hw1 : wC (wI w 16 1 0) 21 (fun k => if k < 256 then -1 else (wI w 16 1 0).1 21 k) = w1
  have g : ∀ a k, ¬ a = 21 → ¬ (a = 16 ∧ k = 1) → w1.1 a k = w.1 a k := fun a k h1 h2 => by rw [← hw1, wC_g, if_neg h1, wI_g, if_neg h2]
  have g1 : w1.1 16 1 = 0 := by rw [← hw1, wC_g, if_neg (by omega), wI_g, if_pos ⟨rfl, rfl⟩]
  have g21 : ∀ c, c < 256 → w1.1 21 c = -1 := fun c hc => by rw [← hw1, wC_g, if_pos rfl]; exact if_pos hc
  have f1 : FX PBu w w1 := by
    rw [← hw1]
    exact (FX.w (P := PBu) w _ (by unfold PBu; omega)).tr (FX.c _ _ (fun k => by unfold PBu; omega))
  have hL1 := hL.fr hN (PBu_t f1)
  have hK1 := hK.fr (PBu_t f1)
  have hp1 : PRP w1 A := ⟨fun h => (hp.1 (by rw [g 8 13 (by omega) (by omega), g 3 6 (by omega) (by omega)] at h; exact h)).fo hN (fun a k q => g a k (by unfold PCS at q; omega) (by unfold PCS at q; omega)), hp.2.fr (g 3 6 (by omega) (by omega)) (Or.inl (g 8 13 (by omega) (by omega))) (Or.inl (g 16 9 (by omega) (by omega)))⟩
  have hO1 : OUT w1 A cp 0 := ⟨g1, ⟨(g 16 4 (by omega) (by omega)).trans hO.1.1, hO.1.2⟩, Nat.zero_le _, fun x hx => absurd hx (Nat.not_lt_zero x), g21, fun x hx => absurd hx (Nat.not_lt_zero x)⟩
  rw [zc_ways hL1.1 hL1.2.2.1 hN, cl_s]
  -- the loop over the ways
  have loop : ∀ u, FX PBu w u → OUT u A cp 0 → PRP u A → (0 < nWy A → RDY u A ∧ u.1 8 13 = u.1 3 6) → OK (X5_bringUpToDate_b47 cp (nI (nWy A)) u) (fun q => OUTR q.1 A q.2 ∧ q.1.1 16 9 = q.1.1 3 6 ∧ PRP q.1 A ∧ FX PBu w q.1 ∧ cp ≤ q.2) := by
    intro u hFu hOu hpu hru
    have hLu := hL.fr hN (PBu_t hFu)
    unfold X5_bringUpToDate_b47
    refine OK.c ((zc_unused hLu hI).m (fun r h => ?_))
    obtain ⟨hU, hr2⟩ := h
    rw [hr2]
    generalize r.1 = U at hU ⊢
    unfold X5_bringUpToDate_b57_L
    refine lo5 (fun m y0 y1 y2 y3 x => ∃ v, m = nWy A - v ∧ v ≤ nWy A ∧ y1 = nI (nWy A) ∧ U = y2 ∧ y3 = nI v ∧ FX PBu w x ∧ OUT x A y0 v ∧ OWY x A v ∧ (0 < nWy A → RDY x A ∧ x.1 8 13 = x.1 3 6) ∧ PRP x A ∧ cp ≤ y0) ?_ fu (nWy A - 0) cp (nI (nWy A)) U 0 u (by rw [fu_eq]; omega) ⟨0, rfl, Nat.zero_le _, rfl, rfl, rfl, hFu, hOu, fun v hv => absurd hv (Nat.not_lt_zero v), hru, hpu, Nat.le_refl _⟩
    rintro m k y0 y1 y2 y3 x ⟨v, rfl, hv, rfl, rfl, rfl, hFx, hOx, hWx, hrx, hpx, hcp⟩ hk
    show OK (X5_bringUpToDate_b57 y0 k (nI (nWy A)) U (nI v) x) _
    have hLx := hL.fr hN (PBu_t hFx)
    have hKx := hK.fr (PBu_t hFx)
    rw [X5_bringUpToDate_b57]
    by_cases hin : v < nWy A
    · refine OK.f (nI_ge hin (by omega)) ?_
      obtain ⟨v', e1, e2, e3, e4⟩ := wy_red hU v
      by_cases c : nI v &&& U = 0
      · refine OK.t c (OK.v ((zc_way hLx hI (hrx (by omega)).1 hin).m (fun x1 h1 => ?_)))
        obtain ⟨hTK, hF1⟩ := h1
        have hb1 := PCS_b (PQ_s hF1)
        have hr1 := (hrx (by omega)).1.fq hN hF1
        refine OK.v ((zc_addUp (hLx.fr hN (PBu_t hb1)) (hKx.fr (PBu_t hb1)) hI hPe hr1 hin hTK).m (fun x2 h2 => ?_))
        obtain ⟨hPV, hF2⟩ := h2
        have hb2 := PCS_b (PPt_q' hF2)
        have hr2 := hr1.fq hN (PPt_q hF2)
        have hO2 : OUT x2 A y0 v := hOx.fr (fun a k q => by
          rw [hF2.2 a k (by unfold POu at q; unfold PPt; omega), hF1.2 a k (by unfold POu at q; unfold PQ; omega)])
        refine OK.cm ((zc_numberOf hI hPe (by omega) hO2 hPV).m (fun q h3 => ?_))
        obtain ⟨q1, q2, q3, q4⟩ := h3
        refine OK.t (z_inb (by omega) (by omega)) (OK.l ?_)
        rw [nI_clamp (n := v) (by omega), q1]
        have qf : ∀ a k, ¬ POu a k → ¬ PPt a k → ¬ PQ a k → ¬ a = 17 → (wI q.2.1 17 v (nI (onO A v))).1 a k = x.1 a k := fun a k s1 s2 s3 s4 => by rw [wI_g, if_neg (fun e => s4 e.1), q3.2 a k s1, hF2.2 a k s2, hF1.2 a k s3]
        have hr3 : RDY (wI q.2.1 17 v (nI (onO A v))) A := hr2.fo hN (fun a k s => by
          rw [wI_g, if_neg (by unfold PCS at s; omega), q3.2 a k (by unfold PCS at s; unfold POu; omega)])
        refine hk _ _ _ _ _ _ (by omega) ⟨v + 1, rfl, hin, rfl, rfl, nI_1 v, (((hFx.tr hb1).tr hb2).tr (POu_b q3)).tr (FX.w _ _ (by unfold PBu; omega)), q2.fr (fun a k s => by rw [wI_g, if_neg (by unfold POu at s; omega)]), fun y hy => ?_, fun _ => ⟨hr3, ?_⟩, ⟨fun _ => hr3, hpx.2.fr (qf 3 6 (by unfold POu; omega) (by unfold PPt; omega) (by unfold PQ; omega) (by omega)) (Or.inl (qf 8 13 (by unfold POu; omega) (by unfold PPt; omega) (by unfold PQ; omega) (by omega))) (Or.inl (qf 16 9 (by unfold POu; omega) (by unfold PPt; omega) (by unfold PQ; omega) (by omega)))⟩, Nat.le_trans hcp q4⟩
        · rw [wI_g]
          by_cases e : y = v
          · rw [if_pos ⟨rfl, e⟩, e]
          · rw [if_neg (fun q => e q.2), q3.2 17 y (by unfold POu; omega), hF2.2 17 y (by unfold PPt; omega), hF1.2 17 y (by unfold PQ; omega)]
            exact hWx y (by omega)
        · rw [wI_g, if_neg (by omega), wI_g, if_neg (by omega), q3.2 8 13 (by unfold POu; omega), hF2.2 8 13 (by unfold PPt; omega), hF1.2 8 13 (by unfold PQ; omega), q3.2 3 6 (by unfold POu; omega), hF2.2 3 6 (by unfold PPt; omega), hF1.2 3 6 (by unfold PQ; omega)]
          exact (hrx (by omega)).2
      · have hlt := e4 c
        have hlike := like_cg hI e3 hin
        have hnf : frs A v = false := decide_eq_false (fun h => by
          have := h v' hlt
          rw [like_sy hlike] at this; cases this)
        refine OK.f c ?_
        rw [e1]
        refine OK.t (z_inb (by omega) (by omega)) (OK.t (z_inb (by omega) (by omega)) (OK.l ?_))
        rw [nI_clamp (n := v) (by omega), nI_clamp (n := v') (by omega), hWx v' hlt]
        have fo : ∀ a k, ¬ a = 17 → (wI x 17 v (nI (onO A v'))).1 a k = x.1 a k := fun a k h => by rw [wI_g, if_neg (fun q => h q.1)]
        have hr3 : 0 < nWy A → RDY (wI x 17 v (nI (onO A v'))) A ∧ (wI x 17 v (nI (onO A v'))).1 8 13 = (wI x 17 v (nI (onO A v'))).1 3 6 := fun h => by
          rw [fo 8 13 (by omega), fo 3 6 (by omega)]
          exact ⟨(hrx h).1.fo hN (fun a k s => fo a k (by unfold PCS at s; omega)), (hrx h).2⟩
        refine hk _ _ _ _ _ _ (by omega) ⟨v + 1, rfl, hin, rfl, rfl, nI_1 v, hFx.tr (FX.w _ _ (by unfold PBu; omega)), (hOx.old hnf).fr (fun a k s => fo a k (by unfold POu at s; omega)), fun y hy => ?_, hr3, ⟨fun _ => (hr3 (by omega)).1, hpx.2.fr (fo 3 6 (by omega)) (Or.inl (fo 8 13 (by omega))) (Or.inl (fo 16 9 (by omega)))⟩, hcp⟩
        rw [wI_g]
        by_cases e : y = v
        · rw [if_pos ⟨rfl, e⟩, e, on_cg (like_sy hlike)]
        · rw [if_neg (fun q => e q.2)]
          exact hWx y (by omega)
    · have e : v = nWy A := by omega
      subst e
      refine OK.t (nI_le (Nat.le_refl _) (by omega)) (OK.l (OK.s ?_))
      have fo : ∀ a k, ¬ (a = 16 ∧ k = 9) → (wI x 16 9 (x.1 3 6)).1 a k = x.1 a k := fun a k h => by rw [wI_g, if_neg h]
      refine ⟨⟨hOx.fr (fun a k s => fo a k (by unfold POu at s; omega)), fun y hy => (fo 17 y (by omega)).trans (hWx y hy)⟩, ?_, ⟨fun h => ?_, hpx.2.fr (fo 3 6 (by omega)) (Or.inl (fo 8 13 (by omega))) (Or.inr (Or.inl (by rw [fo 3 6 (by omega), wI_g, if_pos ⟨rfl, rfl⟩])))⟩, hFx.tr (FX.w _ _ (by unfold PBu; omega)), hcp⟩
      · show (wI x 16 9 (x.1 3 6)).1 16 9 = (wI x 16 9 (x.1 3 6)).1 3 6
        rw [fo 3 6 (by omega), wI_g, if_pos ⟨rfl, rfl⟩]
      · rw [fo 8 13 (by omega), fo 3 6 (by omega)] at h
        exact (hpx.1 h).fo hN (fun a k s => fo a k (by unfold PCS at s; omega))
  by_cases hz : nWy A = 0
  · rw [hz]
    refine OK.t (by decide) ?_
    have := loop w1 f1 hO1 hp1 (fun h => by omega)
    rw [hz] at this
    exact this
  · have h0 : 0 < nLa A := by
      unfold nWy at hz
      rcases Nat.eq_zero_or_pos (nLa A) with q | q
      · rw [if_pos q] at hz; omega
      · exact q
    refine OK.f (by rw [z_le, nI_toInt (by omega)]; have : (0 : Int32).toInt = 0 := rfl; omega) (OK.v ((zc_ready hL1 hI hX h0 hp1).m (fun u h => ?_)))
    obtain ⟨hr, hc, hF⟩ := h
    exact loop u (f1.tr (PCS_b (PP_s hF))) (hO1.fr (fun a k s => hF.2 a k (by unfold POu at s; unfold PP; omega))) ⟨fun _ => hr, hp1.2.fr (hF.2 _ _ (by unfold PP; omega)) (Or.inr (Or.inl hc)) (Or.inl (hF.2 _ _ (by unfold PP; omega)))⟩ (fun _ => ⟨hr, hc⟩)
end
