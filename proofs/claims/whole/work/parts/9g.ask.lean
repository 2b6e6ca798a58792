/-! ask: the best question -/
def bQ (V : Int32) (q : Int32) (s : Int32 × Int32) : Int32 × Int32 := if V < s.2 then (q, V) else s
def bF (A : Wd) : Nat → Int32 × Int32
  | 0 => (-1, nI (cnO A (nWy A)))
  | f + 1 => bQ (gR A (yF f)) (nI f) (bF A f)
def bJ (A : Wd) (i : Nat) (s : Int32 × Int32) : Nat → Int32 × Int32
  | 0 => s
  | d + 1 => bQ (gR A (yO A (nI i) (nI (i + 1 + d)))) (nI (10 + 10 * i + (i + 1 + d))) (bJ A i s d)
def bE (A : Wd) : Nat → Int32 × Int32
  | 0 => bF A 3
  | i + 1 => bJ A i (bE A i) (nIt A - (i + 1))
theorem q10 (i j : Nat) : 10 + 10 * nI i + nI j = nI (10 + 10 * i + j) := by
  show nI 10 + nI 10 * nI i + nI j = _
  rw [pk_mul, nI_add, nI_add]
section
variable {w wc wm A : Wd}
theorem zc_best {cp : Nat} (hL : TLD w A) (hI : INV A) (hO : OUTR w A cp) : OK (f_X5_bestQuestion cp w) (fun q => q.1 = (bE A (nIt A)).1 ∧ FX (PO 20) w q.2) := by
  have hN := hI.1
  have h6 : nIt A ≤ 6 := hN.2.2.2.2.2.1
  have at1 : ∀ u, FX (PO 20) w u → TLD u A ∧ OUTR u A cp := fun u h => ⟨hL.fr hN ⟨h.1, fun a k ha => h.2 a k (by unfold PO; omega)⟩, hO.f20 (fun a k ha => h.2 a k ha)⟩
  unfold f_X5_bestQuestion
  refine OK.l ?_
  rw [hO.1.1]
  refine lo4 (fun m y1 y2 y3 u => ∃ f, m = 3 - f ∧ f ≤ 3 ∧ y1 = (bF A f).1 ∧ y2 = (bF A f).2 ∧ y3 = nI f ∧ FX (PO 20) w u) ?_ fu (3 - 0) (-1) (nI (cnO A (nWy A))) 0 w (by rw [fu_eq]; omega) ⟨0, rfl, by omega, rfl, rfl, rfl, FX.rf _ _⟩
  rintro m k y1 y2 y3 u ⟨f, rfl, hf, rfl, rfl, rfl, hF⟩ hk
  obtain ⟨hLu, hOu⟩ := at1 u hF
  rw [X5_bestQuestion_b9]
  by_cases hin : f < 3
  · refine OK.f (nI_ge (b := 3) hin (by omega)) (OK.c ((zc_byFact hLu hI hOu hin).m (fun q h => ?_)))
    obtain ⟨h1, h2⟩ := h
    rw [h1]
    by_cases c : gR A (yF f) < (bF A f).2
    · have e : bF A (f + 1) = (nI f, gR A (yF f)) := if_pos c
      exact OK.f (fun q => by rw [z_le] at q; rw [z_lt] at c; omega) (hk _ _ _ _ _ (by omega) ⟨f + 1, rfl, hin, by rw [e], by rw [e], nI_1 f, hF.tr h2⟩)
    · have e : bF A (f + 1) = bF A f := if_neg c
      exact OK.t (by rw [z_le]; rw [z_lt] at c; omega) (hk _ _ _ _ _ (by omega) ⟨f + 1, rfl, hin, by rw [e], by rw [e], nI_1 f, hF.tr h2⟩)
  · have e : f = 3 := by omega
    subst e
    refine OK.t (by rfl) ?_
    rw [zc_items hLu.2.1 hN, cl_s]
    clear hk
    refine lo5 (fun m y1 y2 y3 y4 u => ∃ i, m = nIt A - i ∧ i ≤ nIt A ∧ y1 = (bE A i).1 ∧ y2 = (bE A i).2 ∧ y3 = nI (nIt A) ∧ y4 = nI i ∧ FX (PO 20) w u) ?_ fu (nIt A - 0) _ _ _ 0 u (by rw [fu_eq]; omega) ⟨0, rfl, by omega, rfl, rfl, rfl, rfl, hF⟩
    clear hF hLu hOu
    rintro m k y1 y2 y3 y4 u ⟨i, rfl, hi, rfl, rfl, rfl, rfl, hF⟩ hk
    rw [X5_bestQuestion_b49]
    by_cases hin2 : i < nIt A
    · refine OK.f (nI_ge hin2 (by omega)) (OK.l ?_)
      rw [nI_1]
      refine lo6 (fun m y1 y2 y3 y4 y5 u => ∃ d, m = (nIt A - (i + 1)) - d ∧ d ≤ nIt A - (i + 1) ∧ y1 = (bJ A i (bE A i) d).1 ∧ y2 = (bJ A i (bE A i) d).2 ∧ y3 = nI (nIt A) ∧ y4 = nI i ∧ y5 = nI (i + 1 + d) ∧ FX (PO 20) w u) ?_ fu ((nIt A - (i + 1)) - 0) _ _ _ (nI i) _ u (by rw [fu_eq]; omega) ⟨0, rfl, by omega, rfl, rfl, rfl, rfl, rfl, hF⟩
      clear hF
      rintro m k2 y1 y2 y3 y4 y5 u ⟨d, rfl, hd, rfl, rfl, rfl, rfl, rfl, hF⟩ hk2
      obtain ⟨hLu, hOu⟩ := at1 u hF
      rw [X5_bestQuestion_b61]
      by_cases hin3 : d < nIt A - (i + 1)
      · refine OK.f (nI_ge (by omega) (by omega)) (OK.c ((zc_byOrder hLu hI hOu (nI i) (nI (i + 1 + d))).m (fun q h => ?_)))
        obtain ⟨h1, h2⟩ := h
        rw [h1, q10]
        by_cases c : gR A (yO A (nI i) (nI (i + 1 + d))) < (bJ A i (bE A i) d).2
        · have e : bJ A i (bE A i) (d + 1) = (nI (10 + 10 * i + (i + 1 + d)), gR A (yO A (nI i) (nI (i + 1 + d)))) := if_pos c
          exact OK.f (fun q => by rw [z_le] at q; rw [z_lt] at c; omega) (OK.l (hk2 _ _ _ _ _ _ _ (by omega) ⟨d + 1, rfl, by omega, by rw [e], by rw [e], rfl, rfl, nI_1 _, hF.tr h2⟩))
        · have e : bJ A i (bE A i) (d + 1) = bJ A i (bE A i) d := if_neg c
          exact OK.t (by rw [z_le]; rw [z_lt] at c; omega) (hk2 _ _ _ _ _ _ _ (by omega) ⟨d + 1, rfl, by omega, by rw [e], by rw [e], rfl, rfl, nI_1 _, hF.tr h2⟩)
      · have e : d = nIt A - (i + 1) := by omega
        subst e
        refine OK.t (nI_le (by omega) (by omega)) ?_
        exact hk _ _ _ _ _ _ (by omega) ⟨i + 1, rfl, hin2, rfl, rfl, rfl, nI_1 i, hF⟩
    · have e : i = nIt A := by omega
      subst e
      exact OK.t (nI_le (Nat.le_refl _) (by omega)) (OK.s ⟨rfl, hF⟩)
def PAk (a k : Nat) : Prop := PRk a k ∨ PAs a k
theorem PAk_t {w' : Wd} (h : FX PAk w w') (hT : tol w = A) : tol w' = A := h.ot hT (fun k hk => by unfold PAk PRk PMS PAs; omega) (fun o k ho => by unfold PAk PRk PMS PAs; omega)
theorem zm_ask (hT : tol w = A) (hI : INV A) (hPe : PEI A) (hc : RKC w A) {s : Nat} (hS : STP w s) (hs : s < 800000) : OK (f_X12_ask w) (fun q => q.1 = (bE A (nIt A)).1 ∧ RKN q.2 A (nWy A) ∧ q.2.1 0 78 = 1 ∧ (∃ t, t ≤ s + 100 ∧ STP q.2 t) ∧ FX PAk w q.2) := by
  have hN := hI.1
  have h6 : nIt A ≤ 6 := hN.2.2.2.2.2.1
  unfold f_X12_ask
  refine OK.v ((zm_reckon hT hI hPe hc).m (fun w1 h => ?_))
  obtain ⟨hR, h78, hF1⟩ := h
  have hT1 := PRk_t hF1 hT
  have hS1 : STP w1 s := ⟨(hF1.2 0 98 (by unfold PRk PMS; omega)).trans hS.1, fun k hk => by rw [hF1.2 53 k (by unfold PRk PMS; omega)]; exact hS.2 k hk⟩
  have at1 : ∀ u, FX PAs w1 u → tol u = A ∧ RKN u A (nWy A) := fun u h => ⟨PAs_t h hT1, hR.fr (fun a k e => h.2 a k (by unfold PAs; omega))⟩
  have fin : ∀ u, FX PAs w1 u → (∃ t, t ≤ s + 100 ∧ STP u t) → OK (some ((bE A (nIt A)).1, u)) (fun q => q.1 = (bE A (nIt A)).1 ∧ RKN q.2 A (nWy A) ∧ q.2.1 0 78 = 1 ∧ (∃ t, t ≤ s + 100 ∧ STP q.2 t) ∧ FX PAk w q.2) := fun u h h2 => OK.s ⟨rfl, (at1 u h).2, by rw [h.2 0 78 (by unfold PAs; omega)]; exact h78, h2, (hF1.mo (fun a k q => Or.inl q)).tr (h.mo (fun a k q => Or.inr q))⟩
  refine OK.l ?_
  rw [hR.2.2]
  refine lo4 (fun m y1 y2 y3 u => ∃ f t, m = 3 - f ∧ f ≤ 3 ∧ y1 = (bF A f).1 ∧ y2 = (bF A f).2 ∧ y3 = nI f ∧ FX PAs w1 u ∧ t ≤ s + 2 * f ∧ STP u t) ?_ fu (3 - 0) (-1) (nI (cnO A (nWy A))) 0 w1 (by rw [fu_eq]; omega) ⟨0, s, rfl, by omega, rfl, rfl, rfl, FX.rf _ _, by omega, hS1⟩
  rintro m k y1 y2 y3 u ⟨f, t, rfl, hf, rfl, rfl, rfl, hF, ht, hSt⟩ hk
  obtain ⟨hTu, hRu⟩ := at1 u hF
  rw [X12_ask_b13]
  by_cases hin : f < 3
  · refine OK.f (nI_ge (b := 3) hin (by omega)) (OK.c ((zm_greater hTu hI hRu hSt (by omega) (x1 := nI f) (x2 := -1) (x3 := -1) (Y := yF f) (Or.inr ⟨f, hin, rfl, rfl⟩)).m (fun q h => ?_)))
    obtain ⟨h1, h2, h3⟩ := h
    rw [h1]
    by_cases c : gR A (yF f) < (bF A f).2
    · have e : bF A (f + 1) = (nI f, gR A (yF f)) := if_pos c
      exact OK.t c (hk _ _ _ _ _ (by omega) ⟨f + 1, t + 2, rfl, hin, by rw [e], by rw [e], nI_1 f, hF.tr h3, by omega, h2⟩)
    · have e : bF A (f + 1) = bF A f := if_neg c
      exact OK.f c (hk _ _ _ _ _ (by omega) ⟨f + 1, t + 2, rfl, hin, by rw [e], by rw [e], nI_1 f, hF.tr h3, by omega, h2⟩)
  · have e : f = 3 := by omega
    subst e
    refine OK.t (by rfl) ?_
    clear hk
    refine lo4 (fun m y1 y2 y4 u => ∃ i t, m = nIt A - i ∧ i ≤ nIt A ∧ y1 = (bE A i).1 ∧ y2 = (bE A i).2 ∧ y4 = nI i ∧ FX PAs w1 u ∧ t ≤ s + 6 + 12 * i ∧ STP u t) ?_ fu (nIt A - 0) _ _ 0 u (by rw [fu_eq]; omega) ⟨0, t, rfl, by omega, rfl, rfl, rfl, hF, by omega, hSt⟩
    clear hF hTu hRu hSt ht
    rintro m k y1 y2 y4 u ⟨i, t, rfl, hi, rfl, rfl, rfl, hF, ht, hSt⟩ hk
    obtain ⟨hTu, hRu⟩ := at1 u hF
    rw [X12_ask_b49, zm_items hTu hN, cl_s]
    by_cases hin2 : i < nIt A
    · refine OK.f (nI_ge hin2 (by omega)) (OK.l ?_)
      rw [nI_1]
      refine lo5 (fun m y1 y2 y4 y5 u => ∃ d t, m = (nIt A - (i + 1)) - d ∧ d ≤ nIt A - (i + 1) ∧ y1 = (bJ A i (bE A i) d).1 ∧ y2 = (bJ A i (bE A i) d).2 ∧ y4 = nI i ∧ y5 = nI (i + 1 + d) ∧ FX PAs w1 u ∧ t ≤ s + 6 + 12 * i + 2 * d ∧ STP u t) ?_ fu ((nIt A - (i + 1)) - 0) _ _ (nI i) _ u (by rw [fu_eq]; omega) ⟨0, t, rfl, by omega, rfl, rfl, rfl, rfl, hF, by omega, hSt⟩
      clear hF hTu hRu hSt ht
      rintro m k2 y1 y2 y4 y5 u ⟨d, t, rfl, hd, rfl, rfl, rfl, rfl, hF, ht, hSt⟩ hk2
      obtain ⟨hTu, hRu⟩ := at1 u hF
      rw [X12_ask_b62, zm_items hTu hN, cl_s]
      by_cases hin3 : d < nIt A - (i + 1)
      · refine OK.f (nI_ge (by omega) (by omega)) (OK.c ((zm_greater hTu hI hRu hSt (by omega) (x1 := -1) (x2 := nI i) (x3 := nI (i + 1 + d)) (Y := yO A (nI i) (nI (i + 1 + d))) (Or.inl ⟨rfl, rfl⟩)).m (fun q h => ?_)))
        obtain ⟨h1, h2, h3⟩ := h
        rw [h1, q10]
        by_cases c : gR A (yO A (nI i) (nI (i + 1 + d))) < (bJ A i (bE A i) d).2
        · have e : bJ A i (bE A i) (d + 1) = (nI (10 + 10 * i + (i + 1 + d)), gR A (yO A (nI i) (nI (i + 1 + d)))) := if_pos c
          exact OK.t c (OK.l (hk2 _ _ _ _ _ _ (by omega) ⟨d + 1, t + 2, rfl, by omega, by rw [e], by rw [e], rfl, nI_1 _, hF.tr h3, by omega, h2⟩))
        · have e : bJ A i (bE A i) (d + 1) = bJ A i (bE A i) d := if_neg c
          exact OK.f c (hk2 _ _ _ _ _ _ (by omega) ⟨d + 1, t + 2, rfl, by omega, by rw [e], by rw [e], rfl, nI_1 _, hF.tr h3, by omega, h2⟩)
      · have e : d = nIt A - (i + 1) := by omega
        subst e
        refine OK.t (nI_le (by omega) (by omega)) ?_
        exact hk _ _ _ _ _ (by omega) ⟨i + 1, t, rfl, hin2, rfl, rfl, nI_1 i, hF, by omega, hSt⟩
    · have e : i = nIt A := by omega
      subst e
      exact OK.t (nI_le (Nat.le_refl _) (by omega)) (fin u hF ⟨t, by omega, hSt⟩)
theorem q_ask (hL : TLD wc A) (hK : KIN wc A) (hI : INV A) (hPe : PEI A) (hX : NCH A) (hp : PRP wc A) {cp : Nat} (hO : OKC wc A cp) (hT : tol wm = A) (hR : RKC wm A) {s : Nat} (hS : STP wm s) (hs : s < 800000) : ∃ r wc1 cp1 wm1, f_X11_ask cp wc = some (r, wc1, cp1) ∧ f_X12_ask wm = some (r, wm1) ∧ FX PBu wc wc1 ∧ PRP wc1 A ∧ OKC wc1 A cp1 ∧ FX PAk wm wm1 ∧ RKC wm1 A ∧ (∃ t, t ≤ s + 100 ∧ STP wm1 t) ∧ cp ≤ cp1 := by
  have hN := hI.1
  unfold f_X11_ask
  obtain ⟨⟨w1, c1⟩, e1, hO1, h9, hp1, hF1, hcp⟩ := zc_bring hL hK hI hPe hX hp hO
  try dsimp only at hO1 hp1 hF1 h9 hcp
  obtain ⟨⟨r2, w2⟩, e2, g1, g2⟩ := zc_best (hL.fr hN (PBu_t hF1)) hI hO1
  obtain ⟨⟨r3, m3⟩, e3, k1, k2, k3, k4, k5⟩ := zm_ask hT hI hPe hR hS hs
  try dsimp only at g1 g2 k1 k2 k3 k4 k5
  rw [e1, cvm_s, e2, cl_s, e3, g1, k1]
  have hO2 : OUTR w2 A c1 := hO1.f20 (fun a k ha => g2.2 a k ha)
  refine ⟨_, w2, c1, m3, rfl, rfl, hF1.tr (g2.mo (fun a k q => by unfold PO at q; unfold PBu; omega)), ⟨fun h => ?_, hp1.2.fr (g2.2 3 6 (by unfold PO; omega)) (Or.inl (g2.2 8 13 (by unfold PO; omega))) (Or.inl (g2.2 16 9 (by unfold PO; omega)))⟩, ⟨hO2.1.2.1, fun _ => hO2⟩, k5, Or.inr ⟨k2, k3⟩, k4, hcp⟩
  have h' : w1.1 8 13 = w1.1 3 6 := by
    rw [g2.2 8 13 (by unfold PO; omega), g2.2 3 6 (by unfold PO; omega)] at h; exact h
  exact (hp1.1 h').fo hN (fun a k q => g2.2 a k (by unfold PCS at q; unfold PO; omega))
end
