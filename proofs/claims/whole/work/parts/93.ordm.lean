/-! orders, the reference -/
def DYm (w : Wd) (P n : Nat) (fD lD : Nat → Nat) : Prop := (w.1 0 49 = nI P ∧ w.1 0 50 = nI (n - P)) ∧ (P ≤ n ∧ n ≤ 6 ∧ P ≤ 4 ∧ n - P ≤ 3) ∧ (∀ i, i < P → w.1 20 i = nI (fD i) ∧ w.1 21 i = nI (lD i)) ∧ (∀ i, P ≤ i → i < n → w.1 40 (i - P) = nI (fD i) ∧ w.1 41 (i - P) = nI (lD i)) ∧ ∀ i, i < n → fD i < 10000 ∧ lD i < 10000
def POm (a k : Nat) : Prop := (a = 0 ∧ k = 75) ∨ a = 43 ∨ a = 44
def POw (a k : Nat) : Prop := (a = 0 ∧ (k = 75 ∨ k = 78)) ∨ a = 43 ∨ a = 44
theorem POm_w {w w' : Wd} (h : FX POm w w') : FX POw w w' := h.mo (fun a k q => by unfold POm at q; unfold POw; omega)
theorem DYm.fw {w w' : Wd} {P n : Nat} {fD lD : Nat → Nat} (h : DYm w P n fD lD) (f : FX POw w w') : DYm w' P n fD lD := by
  obtain ⟨⟨a1, a2⟩, a3, a4, a5, a6⟩ := h
  refine ⟨⟨?_, ?_⟩, a3, fun i hi => ?_, fun i h1 h2 => ?_, a6⟩
  · rw [f.2 _ _ (by unfold POw; omega)]; exact a1
  · rw [f.2 _ _ (by unfold POw; omega)]; exact a2
  · rw [f.2 _ _ (by unfold POw; omega), f.2 _ _ (by unfold POw; omega)]; exact a4 i hi
  · rw [f.2 _ _ (by unfold POw; omega), f.2 _ _ (by unfold POw; omega)]; exact a5 i h1 h2
theorem DYm.fr {w w' : Wd} {P n : Nat} {fD lD : Nat → Nat} (h : DYm w P n fD lD) (f : FX POm w w') : DYm w' P n fD lD := h.fw (POm_w f)
def OW (w : Wd) (n : Nat) (L : List (List Nat)) : Prop := w.1 0 75 = nI L.length ∧ ∀ o, o < L.length → ∀ i, i < n → w.1 43 (6 * o + i) = nI (gdL (L.getD o []) i)
def RW (w : Wd) (r : List Nat) : Prop := ∀ i, i < r.length → w.1 44 i = nI (gdL r i)
section
variable {w : Wd} {P n : Nat} {fD lD : Nat → Nat}
theorem zm_itD (h : DYm w P n fD lD) : f_X12_items w = some (nI n, w) := by
  unfold f_X12_items
  rw [h.1.1, h.1.2, nI_add, show P + (n - P) = n by have := h.2.1; omega]
theorem zm_fD (h : DYm w P n fD lD) {i : Nat} (hi : i < n) : f_X12_firstOf (nI i) w = some (nI (fD i), w) := by
  obtain ⟨⟨a1, a2⟩, a3, a4, a5, -⟩ := h
  unfold f_X12_firstOf
  rw [a1]
  by_cases c : P ≤ i
  · rw [if_pos (nI_le c (by omega)), pk_sub c, z_inb (by omega) (by omega), if_pos rfl, nI_clamp (by omega), (a5 i c hi).1]
  · rw [if_neg (nI_ge (by omega) (by omega)), z_inb (by omega) (by omega), if_pos rfl, nI_clamp (by omega), (a4 i (by omega)).1]
theorem zm_lD (h : DYm w P n fD lD) {i : Nat} (hi : i < n) : f_X12_lastOf (nI i) w = some (nI (lD i), w) := by
  obtain ⟨⟨a1, a2⟩, a3, a4, a5, -⟩ := h
  unfold f_X12_lastOf
  rw [a1]
  by_cases c : P ≤ i
  · rw [if_pos (nI_le c (by omega)), pk_sub c, z_inb (by omega) (by omega), if_pos rfl, nI_clamp (by omega), (a5 i c hi).2]
  · rw [if_neg (nI_ge (by omega) (by omega)), z_inb (by omega) (by omega), if_pos rfl, nI_clamp (by omega), (a4 i (by omega)).2]
end
theorem of_s (m : Nat) : f_X12_orderFrom_n (m + 1) = X12_orderFrom_body (f_X12_orderFrom_n m) := by
  unfold f_X12_orderFrom_n
  exact lp_succ m _ _
theorem gd_ap {L : List Nat} {x i : Nat} (h : i < L.length) : gdL (L ++ [x]) i = gdL L i := gd_l h
theorem getD_ap {L : List (List Nat)} {r : List Nat} {o : Nat} (h : o < L.length) : (L ++ [r]).getD o [] = L.getD o [] := by
  simp [List.getD, List.getElem?_append_left h]
theorem getD_en {L : List (List Nat)} {r : List Nat} : (L ++ [r]).getD L.length [] = r := by
  simp [List.getD]
theorem z_max {a b : Nat} (ha : a < 10000) (hb : b < 10000) : (if nI a < nI b then nI b else nI a) = nI (max a b) := by
  by_cases c : a < b
  · rw [if_pos (nI_lt c (by omega)), Nat.max_eq_right (by omega)]
  · rw [if_neg (nI_nlt (by omega) (by omega)), Nat.max_eq_left (by omega)]
theorem zm_from {P n : Nat} {fD lD : Nat → Nat} : ∀ (j N : Nat) (r : List Nat) (used : Int32) (day : Nat) (w : Wd) (base : List (List Nat)), j < N → r.length + j = n → (∀ x, x ∈ r → x < n) → RB used (hasB r.reverse) → day < 10000 → DYm w P n fD lD → RW w r → OW w n base → base.length + (cpS fD lD n j r.reverse day).length ≤ 720 → OK (f_X12_orderFrom_n N (nI r.length) used (nI day) w) (fun w' => OW w' n (base ++ (cpS fD lD n j r.reverse day).map (fun t => r ++ t)) ∧ RW w' r ∧ FX POm w w') := by
  intro j
  induction j with
  | zero =>
    intro N r used day w base hN hr hx hu hd hD hR hO hb
    obtain ⟨N, rfl⟩ : ∃ M, N = M + 1 := ⟨N - 1, by omega⟩
    have hr : r.length = n := by omega
    have hn6 := hD.2.1.2.1
    have hb : base.length + 1 ≤ 720 := hb
    rw [of_s]
    unfold X12_orderFrom_body
    rw [zm_itD hD, cl_s, hr]
    refine OK.t rfl ?_
    refine lo3 (fun m y1 y4 u => ∃ i, m = n - i ∧ i ≤ n ∧ y1 = nI n ∧ y4 = nI i ∧ FX POm w u ∧ u.1 0 75 = nI base.length ∧ RW u r ∧ (∀ o, o < base.length → ∀ q, q < n → u.1 43 (6 * o + q) = nI (gdL (base.getD o []) q)) ∧ ∀ q, q < i → u.1 43 (6 * base.length + q) = nI (gdL r q)) ?_ fu (n - 0) (nI n) 0 w (by rw [fu_eq]; omega) ⟨0, rfl, Nat.zero_le _, rfl, rfl, FX.rf _ w, hO.1, hR, hO.2, fun q hq => by omega⟩
    rintro m k y1 y4 u ⟨i, rfl, hi, rfl, rfl, hF, h75, hRu, hou, hq⟩ hk
    rw [X12_orderFrom_b11]
    by_cases hin : i < n
    · refine OK.f (nI_ge hin (by omega)) (OK.t (z_inb (by omega) (by omega)) ?_)
      rw [h75, ix6, nI_clamp (n := 6 * base.length + i) (by omega), nI_clamp (n := i) (by omega), hRu i (by omega)]
      refine OK.t (z_inb (by omega) (by omega)) (OK.l (hk _ _ _ _ (by omega) ⟨i + 1, rfl, hin, rfl, nI_1 i, hF.tr (FX.w u _ (by unfold POm; omega)), ?_, fun q hq2 => ?_, fun o ho q hq2 => ?_, fun q hq2 => ?_⟩))
      · rw [wI_g, if_neg (by omega)]; exact h75
      · rw [wI_g, if_neg (by omega)]; exact hRu q hq2
      · rw [wI_g, if_neg (by omega)]; exact hou o ho q hq2
      · rw [wI_g]
        by_cases e : q = i
        · rw [if_pos ⟨rfl, by omega⟩, e]
        · rw [if_neg (by omega)]; exact hq q (by omega)
    · have e : i = n := by omega
      subst e
      refine OK.t (nI_le (Nat.le_refl _) (by omega)) (OK.l (OK.s ⟨⟨?_, fun o ho q hq2 => ?_⟩, fun q hq2 => ?_, hF.tr (FX.w u _ (by unfold POm; omega))⟩))
      · rw [wI_s, h75, nI_1]
        show _ = nI (base ++ [r ++ []]).length
        rw [List.length_append, List.length_singleton]
      · have ho : o < (base ++ [r ++ []]).length := ho
        rw [List.length_append, List.length_singleton] at ho
        show _ = nI (gdL ((base ++ [r ++ []]).getD o []) q)
        rw [List.append_nil, wI_g, if_neg (by omega)]
        by_cases e : o < base.length
        · rw [getD_ap e]; exact hou o e q hq2
        · rw [show o = base.length by omega, getD_en]; exact hq q hq2
      · rw [wI_g, if_neg (by omega)]; exact hRu q hq2
  | succ j ih =>
    intro N r used day w base hN hr hx hu hd hD hR hO hb
    obtain ⟨N, rfl⟩ : ∃ M, N = M + 1 := ⟨N - 1, by omega⟩
    have hn6 := hD.2.1.2.1
    rw [of_s]
    unfold X12_orderFrom_body
    rw [zm_itD hD, cl_s]
    refine OK.f (fun h => by rw [nI_eq (by omega) (by omega)] at h; omega) ?_
    have hcp : cpS fD lD n (j + 1) r.reverse day = fm (fun i => if hasB r.reverse i = true ∨ ¬ max day (fD i) ≤ lD i then [] else (cpS fD lD n j (i :: r.reverse) (max day (fD i))).map (fun t => i :: t)) n := rfl
    rw [hcp] at hb ⊢
    generalize hg : (fun i => if hasB r.reverse i = true ∨ ¬ max day (fD i) ≤ lD i then [] else (cpS fD lD n j (i :: r.reverse) (max day (fD i))).map (fun t => i :: t)) = g at hb ⊢
    refine lo5 (fun m y1 y2 y3 y4 u => ∃ i, m = n - i ∧ i ≤ n ∧ y1 = nI r.length ∧ y2 = used ∧ y3 = nI day ∧ y4 = nI i ∧ FX POm w u ∧ RW u r ∧ OW u n (base ++ (fm g i).map (fun t => r ++ t))) ?_ fu (n - 0) (nI r.length) used (nI day) 0 w (by rw [fu_eq]; omega) ⟨0, rfl, Nat.zero_le _, rfl, rfl, rfl, rfl, FX.rf _ w, hR, by show OW w n (base ++ []); rw [List.append_nil]; exact hO⟩
    rintro m k y1 y2 y3 y4 u ⟨i, rfl, hi, rfl, rfl, rfl, rfl, hF, hRu, hOu⟩ hk
    have hDu := hD.fr hF
    rw [X12_orderFrom_b59, zm_itD hDu, cl_s]
    by_cases hin : i < n
    · have hds := hD.2.2.2.2 i hin
      have hstep : fm g (i + 1) = fm g i ++ g i := rfl
      have hgi : g i = if hasB r.reverse i = true ∨ ¬ max day (fD i) ≤ lD i then [] else (cpS fD lD n j (i :: r.reverse) (max day (fD i))).map (fun t => i :: t) := by rw [← hg]
      have hlen := fm_len (g := g) n i hin
      refine OK.f (nI_ge hin (by omega)) ?_
      rw [zm_fD hDu hin, cl_s]
      refine OK.l ?_
      rw [z_max hd hds.1, if_bt1 (by omega), hu i (by omega)]
      have skip : g i = [] → ∀ u2, u2 = u → OK (k (nI r.length) y2 (nI day) (nI i + 1) u2) (fun w' => OW w' n (base ++ (fm g n).map (fun t => r ++ t)) ∧ RW w' r ∧ FX POm w w') := by
        intro h u2 e
        subst e
        refine hk _ _ _ _ _ _ (by omega) ⟨i + 1, rfl, hin, rfl, rfl, rfl, nI_1 i, hF, hRu, ?_⟩
        rw [hstep, h, List.append_nil]; exact hOu
      by_cases c : hasB r.reverse i = true
      · refine OK.t c (skip ?_ _ rfl)
        rw [hgi, if_pos (Or.inl c)]
      · refine OK.f c ?_
        rw [zm_lD hDu hin, cl_s]
        by_cases d : max day (fD i) ≤ lD i
        · rw [if_neg (fun h => h.elim c (fun q => q d))] at hgi
          refine OK.t (nI_le d (by omega)) (OK.t (z_inb (by omega) (by omega)) (OK.l ?_))
          rw [nI_clamp (by omega)]
          have hF2 : FX POm u (wI u 44 r.length (nI i)) := FX.w u _ (by unfold POm; omega)
          have hRn : RW (wI u 44 r.length (nI i)) (r ++ [i]) := by
            intro q hq
            rw [List.length_append, List.length_singleton] at hq
            rw [wI_g]
            by_cases e : q = r.length
            · rw [if_pos ⟨rfl, e⟩, e, gd_e]
            · rw [if_neg (fun h => e h.2), gd_ap (by omega)]; exact hRu q (by omega)
          have hOn : OW (wI u 44 r.length (nI i)) n (base ++ (fm g i).map (fun t => r ++ t)) := ⟨by rw [wI_g, if_neg (by omega)]; exact hOu.1, fun o ho q hq => by rw [wI_g, if_neg (by omega)]; exact hOu.2 o ho q hq⟩
          have hrev : (r ++ [i]).reverse = i :: r.reverse := by rw [List.reverse_append]; rfl
          have hlr : (r ++ [i]).length = r.length + 1 := by rw [List.length_append, List.length_singleton]
          have hmx : max day (fD i) < 10000 := by omega
          have hi2 := ih N (r ++ [i]) (y2 ||| 1 <<< (nI i &&& 31)) (max day (fD i)) (wI u 44 r.length (nI i)) (base ++ (fm g i).map (fun t => r ++ t)) (by omega) (by rw [hlr]; omega) (fun x hx2 => by
            rw [List.mem_append, List.mem_singleton] at hx2
            rcases hx2 with h | h
            · exact hx x h
            · omega) (by
            rw [hrev]
            refine (hu.or (RB.one (by omega))).cg (fun q _ => ?_)
            show (r.reverse.contains q || decide (q = i)) = (i :: r.reverse).contains q
            rw [List.contains_cons, Bool.or_comm]
            rfl) hmx (hDu.fr hF2) hRn hOn (by
            rw [hrev, List.length_append, List.length_map]
            have : (g i).length = (cpS fD lD n j (i :: r.reverse) (max day (fD i))).length := by rw [hgi, List.length_map]
            omega)
          rw [nI_1, ← hlr]
          refine OK.v (hi2.m ?_)
          rintro u3 ⟨h1, h2, h3⟩
          rw [hrev] at h1
          refine hk _ _ _ _ _ _ (by omega) ⟨i + 1, rfl, hin, rfl, rfl, rfl, nI_1 i, (hF.tr hF2).tr h3, fun q hq => ?_, ?_⟩
          · have := h2 q (by rw [hlr]; omega)
            rw [gd_ap hq] at this
            exact this
          · have e : base ++ (fm g (i + 1)).map (fun t => r ++ t) = base ++ (fm g i).map (fun t => r ++ t) ++ (cpS fD lD n j (i :: r.reverse) (max day (fD i))).map (fun t => r ++ [i] ++ t) := by
              rw [hstep, hgi, List.map_append, List.map_map, List.append_assoc]
              congr 2
              refine List.map_congr_left (fun t _ => ?_)
              show r ++ i :: t = r ++ [i] ++ t
              rw [List.append_assoc]; rfl
            rw [e]; exact h1
        · refine OK.f (nI_ge (by omega) (by omega)) (skip ?_ _ rfl)
          rw [hgi, if_pos (Or.inr d)]
    · have e : i = n := by omega
      subst e
      exact OK.t (nI_le (Nat.le_refl _) (by omega)) (OK.s ⟨hOu, hRu, hF⟩)
/-- the rows that have days -/
def okL (fD lD : Nat → Nat) (n : Nat) : List (List Nat) := (allP n).filter (okF fD lD 0)
theorem zm_orders {w : Wd} {P n : Nat} {fD lD : Nat → Nat} (hD : DYm w P n fD lD) : OK (f_X12_findOrders w) (fun w' => OW w' n (okL fD lD n) ∧ w'.1 0 78 = 0 ∧ FX POw w w') := by
  have hn6 := hD.2.1.2.1
  unfold f_X12_findOrders
  refine OK.l (OK.l ?_)
  have hF : FX POw w (wI (wI w 0 75 0) 0 78 0) := (FX.w w _ (by unfold POw; omega)).tr (FX.w _ _ (by unfold POw; omega))
  have hcp : cpS fD lD n n [] 0 = okL fD lD n := cp_eq n [] 0
  have h720 : (okL fD lD n).length ≤ 720 := Nat.le_trans (List.length_filter_le _ _) (all_ok n (by omega)).1
  have hO : OW (wI (wI w 0 75 0) 0 78 0) n [] := ⟨by rw [wI_g, if_neg (by omega), wI_s]; rfl, fun o ho => absurd ho (Nat.not_lt_zero o)⟩
  have h := zm_from (P := P) (fD := fD) (lD := lD) n 8 [] 0 0 (wI (wI w 0 75 0) 0 78 0) [] (by omega) (by rw [List.length_nil]; omega) (fun x hx => absurd hx (by simp)) (RB.z.cg (fun i _ => rfl)) (by omega) (hD.fw hF) (fun i hi => absurd hi (Nat.not_lt_zero i)) hO (by show 0 + (cpS fD lD n n [] 0).length ≤ 720; rw [hcp]; omega)
  refine OK.v (h.m ?_)
  rintro w2 ⟨h1, -, h3⟩
  have e : ([] : List (List Nat)) ++ (cpS fD lD n n ([] : List Nat).reverse 0).map (fun t => [] ++ t) = okL fD lD n := by
    show (cpS fD lD n n [] 0).map (fun t => t) = _
    rw [hcp, List.map_id']
  rw [e] at h1
  refine OK.s ⟨h1, ?_, hF.tr (POm_w h3)⟩
  rw [h3.2 _ _ (by unfold POm; omega), wI_s]
