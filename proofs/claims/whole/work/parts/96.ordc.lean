/-! orders, the desk -/
def DYc (w : Wd) (P n : Nat) (fD lD : Nat → Nat) : Prop := (w.1 3 3 = nI P ∧ w.1 3 4 = nI (n - P)) ∧ (P ≤ n ∧ n ≤ 6 ∧ P ≤ 4 ∧ n - P ≤ 3) ∧ (∀ i, i < P → w.1 (57 + 6 * i) 0 = nI (fD i) ∧ w.1 (57 + 6 * i) 1 = nI (lD i)) ∧ (∀ i, P ≤ i → i < n → w.1 (81 + (i - P)) 2 = nI (fD i) ∧ w.1 (81 + (i - P)) 3 = nI (lD i)) ∧ ∀ i, i < n → fD i < 10000 ∧ lD i < 10000
def POc (a k : Nat) : Prop := (a = 3 ∧ (k = 5 ∨ k = 6)) ∨ a = 6 ∨ a = 7
theorem DYc.fr {w w' : Wd} {P n : Nat} {fD lD : Nat → Nat} (h : DYc w P n fD lD) (f : FX POc w w') : DYc w' P n fD lD := by
  obtain ⟨⟨a1, a2⟩, a3, a4, a5, a6⟩ := h
  refine ⟨⟨?_, ?_⟩, a3, fun i hi => ?_, fun i h1 h2 => ?_, a6⟩
  · rw [f.2 _ _ (by unfold POc; omega)]; exact a1
  · rw [f.2 _ _ (by unfold POc; omega)]; exact a2
  · rw [f.2 _ _ (by unfold POc; omega), f.2 _ _ (by unfold POc; omega)]; exact a4 i hi
  · rw [f.2 _ _ (by unfold POc; omega), f.2 _ _ (by unfold POc; omega)]; exact a5 i h1 h2
theorem P7_c {w w' : Wd} (h : FX P7 w w') : FX POc w w' := h.mo (fun a k q => Or.inr (Or.inr q))
section
variable {w : Wd} {P n : Nat} {fD lD : Nat → Nat}
theorem zc_itD (h : DYc w P n fD lD) : f_X2_itemsTold w = some (nI n, w) := by
  unfold f_X2_itemsTold
  rw [h.1.1, h.1.2, nI_add, show P + (n - P) = n by have := h.2.1; omega]
theorem zc_fD (h : DYc w P n fD lD) {i : Nat} (hi : i < n) : f_X2_firstDay (nI i) w = some (nI (fD i), w) := by
  obtain ⟨⟨a1, a2⟩, a3, a4, a5, -⟩ := h
  unfold f_X2_firstDay
  rw [a1]
  by_cases c : P ≤ i
  · rw [if_pos (nI_le c (by omega)), pk_sub c, z_inb (by omega) (by omega), if_pos rfl, nI_clamp (by omega), (a5 i c hi).1]
  · rw [if_neg (nI_ge (by omega) (by omega)), z_inb (by omega) (by omega), if_pos rfl, nI_clamp (by omega), (a4 i (by omega)).1]
theorem zc_lD (h : DYc w P n fD lD) {i : Nat} (hi : i < n) : f_X2_lastDay (nI i) w = some (nI (lD i), w) := by
  obtain ⟨⟨a1, a2⟩, a3, a4, a5, -⟩ := h
  unfold f_X2_lastDay
  rw [a1]
  by_cases c : P ≤ i
  · rw [if_pos (nI_le c (by omega)), pk_sub c, z_inb (by omega) (by omega), if_pos rfl, nI_clamp (by omega), (a5 i c hi).2]
  · rw [if_neg (nI_ge (by omega) (by omega)), z_inb (by omega) (by omega), if_pos rfl, nI_clamp (by omega), (a4 i (by omega)).2]
theorem dr_s {t : List Nat} {i : Nat} (h : i < t.length) : t.drop i = gdL t i :: t.drop (i + 1) := by
  rw [List.drop_eq_getElem_cons h]
  congr 1
  unfold gdL
  simp [List.getD, h]
theorem row_lt {t : List Nat} (h : rowB n t = true) : t.length = n ∧ ∀ i, i < n → gdL t i < n := by
  unfold rowB at h
  rw [Bool.and_eq_true, Bool.and_eq_true] at h
  have hl : t.length = n := eq_of_beq h.1.1
  refine ⟨hl, fun i hi => ?_⟩
  have := List.all_eq_true.mp h.1.2 (gdL t i) (by
    unfold gdL
    rw [List.getD_eq_getElem?_getD, List.getElem?_eq_getElem (by omega)]
    exact List.getElem_mem _)
  exact of_decide_eq_true this
theorem zc_has (hD : DYc w P n fD lD) {t : List Nat} (ht : rowB n t = true) (hR : RF w n (gdL t)) : f_X2_hasDays (nI n) w = some (bI (okF fD lD 0 t), w) := by
  obtain ⟨hl, hlt⟩ := row_lt ht
  have hn6 := hD.2.1.2.1
  have key : OK (f_X2_hasDays (nI n) w) (fun q => q = (bI (okF fD lD 0 t), w)) := by
    unfold f_X2_hasDays
    refine lo4 (fun m y1 y2 y3 u => ∃ i day, m = n - i ∧ i ≤ n ∧ y1 = nI n ∧ y2 = nI day ∧ day < 10000 ∧ y3 = nI i ∧ w = u ∧ okF fD lD 0 t = okF fD lD day (t.drop i)) ?_ fu (n - 0) (nI n) 0 0 w (by rw [fu_eq]; omega) ⟨0, 0, rfl, Nat.zero_le _, rfl, rfl, by omega, rfl, rfl, rfl⟩
    rintro m k y1 y2 y3 u ⟨i, day, rfl, hi, rfl, rfl, hd, rfl, rfl, ho⟩ hk
    rw [X2_hasDays_b4]
    by_cases hin : i < n
    · have hg := hlt i hin
      have hds := hD.2.2.2.2 _ hg
      have hs : okF fD lD day (t.drop i) = (decide (max day (fD (gdL t i)) ≤ lD (gdL t i)) && okF fD lD (max day (fD (gdL t i))) (t.drop (i + 1))) := by
        rw [dr_s (by omega)]; rfl
      refine OK.f (nI_ge hin (by omega)) (OK.t (z_inb (by omega) (by omega)) ?_)
      rw [nI_clamp (by omega), hR i hin, zc_fD hD hg, cl_s]
      refine OK.l (OK.t (z_inb (by omega) (by omega)) ?_)
      rw [z_max hd hds.1, hR i hin, zc_lD hD hg, cl_s]
      by_cases c : max day (fD (gdL t i)) ≤ lD (gdL t i)
      · rw [decide_eq_true c, Bool.true_and] at hs
        exact OK.t (nI_le c (by omega)) (hk _ _ _ _ _ (by omega) ⟨i + 1, _, rfl, hin, rfl, rfl, by omega, nI_1 i, rfl, ho.trans hs⟩)
      · rw [decide_eq_false c, Bool.false_and] at hs
        refine OK.f (nI_ge (by omega) (by omega)) (OK.s ?_)
        rw [ho, hs]; rfl
    · have e : i = n := by omega
      subst e
      refine OK.t (nI_le (Nat.le_refl _) (by omega)) (OK.s ?_)
      rw [ho, ← hl, List.drop_length]; rfl
  obtain ⟨q, e, rfl⟩ := key
  exact e
theorem zc_pack (hn6 : n ≤ 6) {t : List Nat} (hR : RF w n (gdL t)) : f_X2_packedRow (nI n) w = some (pkF t n, w) := by
  unfold f_X2_packedRow
  refine up4 (fun i => (nI n, pkF t i, nI i, w)) (fun _ => some (pkF t n, w)) n ?_ ?_ fu 0 (by omega) (by rw [fu_eq]; omega)
  · intro i k hi hk
    dsimp only at hk ⊢
    rw [X2_packedRow_b4, if_neg (nI_ge hi (by omega)), z_inb (by omega) (by omega), if_pos rfl, lt_s', nI_clamp (by omega), hR i hi, k3, pk_mul, nI_1]
    exact hk
  · intro k
    dsimp only
    rw [X2_packedRow_b4, if_pos (nI_le (Nat.le_refl _) (by omega))]
end
def OC (w : Wd) (n : Nat) (L : List (List Nat)) : Prop := w.1 3 5 = nI L.length ∧ ∀ o, o < L.length → w.1 6 o = pkF (L.getD o []) n
theorem tk_s {α : Type} {L : List α} {d : α} {t : Nat} (h : t < L.length) : L.take (t + 1) = L.take t ++ [L.getD t d] := by
  rw [List.take_succ, List.getElem?_eq_getElem h]
  simp [List.getD, h]
theorem zc_orders {w : Wd} {P n : Nat} {fD lD : Nat → Nat} (hD : DYc w P n fD lD) : OK (f_X2_findOrders w) (fun w' => OC w' n (okL fD lD n) ∧ w'.1 3 6 = w.1 3 6 + 1 ∧ FX POc w w') := by
  have hn6 := hD.2.1.2.1
  obtain ⟨h720, hall⟩ := all_ok n (by omega)
  obtain ⟨hch, hne, hhd⟩ := ch_ok n (by omega)
  have hrow : ∀ t, t < (allP n).length → rowB n ((allP n).getD t []) = true := fun t ht => List.all_eq_true.mp hall _ (by
    rw [List.getD_eq_getElem?_getD, List.getElem?_eq_getElem ht]
    exact List.getElem_mem _)
  unfold f_X2_findOrders
  refine OK.l ?_
  have hF0 : FX POc w (wI w 3 6 (w.1 3 6 + 1)) := FX.w w _ (by unfold POc; omega)
  rw [zc_itD (hD.fr hF0), cl_s]
  have main : ∀ v, FX POc w v → v.1 3 6 = w.1 3 6 + 1 → RF v n (fun i => i) → OK (X2_findOrders_b44_L (nI n) 1 0 (wI v 3 5 0)) (fun w' => OC w' n (okL fD lD n) ∧ w'.1 3 6 = w.1 3 6 + 1 ∧ FX POc w w') := by
    intro v hFv h36 hRv
    have hR0 : RF (wI v 3 5 0) n (gdL ((allP n).getD 0 [])) := by
      intro i hi
      have e : (allP n).getD 0 [] = List.range n := by
        rw [← hhd]
        cases allP n <;> rfl
      rw [wI_g, if_neg (by omega), hRv i hi, e]
      congr 1
      unfold gdL
      simp [List.getD, hi]
    refine lo4 (fun m y1 y2 y3 u => ∃ t, m = 721 - t ∧ t ≤ (allP n).length ∧ y1 = nI n ∧ y2 = bI (decide (t < (allP n).length)) ∧ y3 = nI t ∧ FX POc w u ∧ u.1 3 6 = w.1 3 6 + 1 ∧ (t < (allP n).length → RF u n (gdL ((allP n).getD t []))) ∧ OC u n (((allP n).take t).filter (okF fD lD 0))) ?_ fu (721 - 0) (nI n) 1 0 (wI v 3 5 0) (by rw [fu_eq]; omega) ⟨0, rfl, Nat.zero_le _, rfl, by rw [decide_eq_true (by omega)]; rfl, rfl, hFv.tr (FX.w v _ (by unfold POc; omega)), by rw [wI_g, if_neg (by omega)]; exact h36, fun _ => hR0, wI_s _ _ _ _, fun o ho => absurd ho (Nat.not_lt_zero o)⟩
    rintro m k y1 y2 y3 u ⟨t, rfl, ht, rfl, rfl, rfl, hF, hu36, hRu, hO⟩ hk
    rw [X2_findOrders_b44]
    by_cases hin : t < (allP n).length
    · have hDu := hD.fr hF
      have hrw := hrow t hin
      have hRt := hRu hin
      have hlt := row_lt hrw
      refine OK.f (show ¬ (720 : Int32) ≤ nI t from nI_ge (b := 720) (by omega) (by omega)) ?_
      rw [decide_eq_true hin]
      refine OK.f (by decide) ?_
      rw [zc_has hDu hrw hRt, cl_s, if_b0]
      obtain ⟨c1, c2⟩ := ch_at (allP n) t hch
      have step : ∀ u2, FX POc w u2 → u2.1 3 6 = w.1 3 6 + 1 → RF u2 n (gdL ((allP n).getD t [])) → OC u2 n (((allP n).take (t + 1)).filter (okF fD lD 0)) → OK (X2_findOrders_b87 k (nI n) (nI t) u2) (fun w' => OC w' n (okL fD lD n) ∧ w'.1 3 6 = w.1 3 6 + 1 ∧ FX POc w w') := by
        intro u2 hF2 h36b hR2 hO2
        unfold X2_findOrders_b87
        refine OK.c ((zc_step (by omega) hR2 (fun i hi => by have := hlt.2 i hi; omega)).m ?_)
        rintro ⟨r, u3⟩ hu3
        dsimp only at hu3 ⊢
        by_cases e : t + 1 < (allP n).length
        · obtain ⟨g, eg, hg⟩ := c1 e
          rcases hu3 with ⟨q1, -, -⟩ | ⟨g2, q1, rfl, q3, q4⟩
          · rw [eg] at q1; cases q1
          · rw [eg] at q1
            cases q1
            refine hk _ _ _ _ _ (by omega) ⟨t + 1, rfl, by omega, rfl, by rw [decide_eq_true e]; rfl, nI_1 t, hF2.tr (P7_c q4), ?_, fun _ i hi => ?_, ?_⟩
            · rw [q4.2 _ _ (by unfold P7; omega)]; exact h36b
            · rw [q3 i hi, hg i hi]
            · refine ⟨?_, fun o ho => ?_⟩
              · rw [q4.2 _ _ (by unfold P7; omega)]; exact hO2.1
              · rw [q4.2 _ _ (by unfold P7; omega)]; exact hO2.2 o ho
        · have hno := c2 (by omega)
          rcases hu3 with ⟨-, rfl, rfl⟩ | ⟨g2, q1, -, -, -⟩
          · refine hk _ _ _ _ _ (by omega) ⟨t + 1, rfl, by omega, rfl, by rw [decide_eq_false e]; rfl, nI_1 t, hF2, h36b, fun h => absurd h e, hO2⟩
          · rw [hno] at q1; cases q1
      have htk : ((allP n).take (t + 1)).filter (okF fD lD 0) = ((allP n).take t).filter (okF fD lD 0) ++ (if okF fD lD 0 ((allP n).getD t []) = true then [(allP n).getD t []] else []) := by
        rw [tk_s (d := []) hin, List.filter_append]
        congr 1
        rw [List.filter_cons]
        rfl
      have hlen : (((allP n).take t).filter (okF fD lD 0)).length ≤ t := Nat.le_trans (List.length_filter_le _ _) (by rw [List.length_take]; omega)
      by_cases c : okF fD lD 0 ((allP n).getD t []) = false
      · rw [if_neg (show ¬ okF fD lD 0 ((allP n).getD t []) = true by rw [c]; decide), List.append_nil] at htk
        exact OK.t c (step u hF hu36 hRt (by rw [htk]; exact hO))
      · rw [Bool.not_eq_false] at c
        rw [if_pos c] at htk
        refine OK.f (by rw [c]; decide) ?_
        rw [zc_pack (by omega) hRt, cl_s, hO.1]
        refine OK.t (z_inb (by omega) (by omega)) (OK.l (OK.l ?_))
        rw [nI_clamp (by omega)]
        generalize hLt : ((allP n).take t).filter (okF fD lD 0) = Lt at hO htk hlen ⊢
        refine step _ ((hF.tr (FX.w u _ (by unfold POc; omega))).tr (FX.w _ _ (by unfold POc; omega))) ?_ (fun i hi => ?_) ?_
        · rw [wI_g, if_neg (by omega), wI_g, if_neg (by omega)]; exact hu36
        · rw [wI_g, if_neg (by omega), wI_g, if_neg (by omega)]; exact hRt i hi
        · rw [htk]
          refine ⟨?_, fun o ho => ?_⟩
          · rw [wI_s, wI_g, if_neg (by omega), hO.1, List.length_append, List.length_singleton, nI_1]
          · rw [List.length_append, List.length_singleton] at ho
            rw [wI_g, if_neg (by omega), wI_g]
            by_cases e : o = Lt.length
            · rw [if_pos ⟨rfl, e⟩, e, getD_en]
            · rw [if_neg (fun h => e h.2), getD_ap (by omega)]; exact hO.2 o (by omega)
    · have e : t = (allP n).length := by omega
      have hfin : ((allP n).take t).filter (okF fD lD 0) = okL fD lD n := by
        rw [e, List.take_length]; rfl
      rw [hfin] at hO
      refine OK.i (fun _ => OK.s ⟨hO, hu36, hF⟩) (fun _ => OK.t (by rw [decide_eq_false hin]; rfl) (OK.s ⟨hO, hu36, hF⟩))
  have g36 : (wI w 3 6 (w.1 3 6 + 1)).1 3 6 = w.1 3 6 + 1 := wI_s _ _ _ _
  refine lo3 (fun m y1 y2 u => ∃ i, m = n - i ∧ i ≤ n ∧ y1 = nI n ∧ y2 = nI i ∧ FX POc w u ∧ u.1 3 6 = w.1 3 6 + 1 ∧ RF u i (fun i => i)) ?_ fu (n - 0) (nI n) 0 _ (by rw [fu_eq]; omega) ⟨0, rfl, Nat.zero_le _, rfl, rfl, hF0, g36, fun i hi => absurd hi (Nat.not_lt_zero i)⟩
  rintro m k y1 y2 u ⟨i, rfl, hi, rfl, rfl, hF, h36, hR⟩ hk
  rw [X2_findOrders_b17]
  by_cases hin : i < n
  · refine OK.f (nI_ge hin (by omega)) (OK.t (z_inb (by omega) (by omega)) (OK.l (hk _ _ _ _ (by omega) ⟨i + 1, rfl, hin, rfl, nI_1 i, hF.tr (FX.w u _ (by unfold POc; omega)), ?_, fun q hq => ?_⟩)))
    · rw [wI_g, if_neg (by omega)]; exact h36
    · rw [nI_clamp (by omega), wI_g]
      by_cases e : q = i
      · rw [if_pos ⟨rfl, e⟩, e]
      · rw [if_neg (fun h => e h.2)]; exact hR q (by omega)
  · have e : i = n := by omega
    subst e
    exact OK.t (nI_le (Nat.le_refl _) (by omega)) (OK.l (main u hF h36 hR))
/-! orders agree -/
theorem ord_item {w m : Wd} {n : Nat} {fD lD : Nat → Nat} (hn : n ≤ 6) (hc : OC w n (okL fD lD n)) (hm : OW m n (okL fD lD n)) : w.1 3 5 = m.1 0 75 ∧ ∀ o, o < (okL fD lD n).length → ∀ i, i < n → (w.1 6 o >>> (nI (3 * i) &&& 31)) &&& 7 = m.1 43 (6 * o + i) := by
  refine ⟨hc.1.trans hm.1.symm, fun o ho i hi => ?_⟩
  rw [hc.2 o ho, hm.2 o ho i hi]
  have hmem : (okL fD lD n).getD o [] ∈ allP n := by
    have : (okL fD lD n).getD o [] ∈ okL fD lD n := by
      rw [List.getD_eq_getElem?_getD, List.getElem?_eq_getElem ho]
      exact List.getElem_mem _
    exact (List.mem_filter.mp this).1
  have h1 := List.all_eq_true.mp (pk_ok n (by omega)) _ hmem
  exact of_decide_eq_true (List.all_eq_true.mp h1 i (List.mem_range.mpr hi))
