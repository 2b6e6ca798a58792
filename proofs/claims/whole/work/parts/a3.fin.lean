/-! what is told, after the orders were found anew -/
def dsB (n : Nat) (t : List Nat) : Bool := (List.range n).all (fun j => (List.range j).all (fun i => gdL t i != gdL t j))
theorem all_ds : ∀ n, n < 7 → (allP n).all (dsB n) = true := by decide +kernel
theorem ds_e {n : Nat} {t : List Nat} (h : dsB n t = true) {i j : Nat} (hij : i < j) (hj : j < n) : ¬ gdL t i = gdL t j := by
  unfold dsB at h
  rw [List.all_eq_true] at h
  have h1 := h j (List.mem_range.mpr hj)
  rw [List.all_eq_true] at h1
  have h2 := h1 i (List.mem_range.mpr hij)
  exact fun e => by rw [e] at h2; simp at h2
/-- the estate's part of what is told -/
def esA (A : Wd) : Wd := (fun a k => if (a = 0 ∧ ((10 ≤ k ∧ k ≤ 19) ∨ k = 80)) ∨ (2 ≤ a ∧ a ≤ 7) then A.1 a k else 0, fun a k => if 8 ≤ a ∧ a ≤ 10 then A.2 a k else 0)
theorem es_i {A : Wd} {a k : Nat} (h : (a = 0 ∧ ((10 ≤ k ∧ k ≤ 19) ∨ k = 80)) ∨ (2 ≤ a ∧ a ≤ 7)) : (esA A).1 a k = A.1 a k := if_pos h
theorem es_l {A : Wd} {a k : Nat} (h : 8 ≤ a ∧ a ≤ 10) : (esA A).2 a k = A.2 a k := if_pos h
theorem es_eq {A B : Wd} (h1 : ∀ a k, (a = 0 ∧ ((10 ≤ k ∧ k ≤ 19) ∨ k = 80)) ∨ (2 ≤ a ∧ a ≤ 7) → A.1 a k = B.1 a k) (h2 : ∀ a k, 8 ≤ a ∧ a ≤ 10 → A.2 a k = B.2 a k) : esA A = esA B := by
  refine Prod.ext (funext fun a => funext fun k => ?_) (funext fun a => funext fun k => ?_)
  · show (if (a = 0 ∧ ((10 ≤ k ∧ k ≤ 19) ∨ k = 80)) ∨ (2 ≤ a ∧ a ≤ 7) then A.1 a k else 0) = (if (a = 0 ∧ ((10 ≤ k ∧ k ≤ 19) ∨ k = 80)) ∨ (2 ≤ a ∧ a ≤ 7) then B.1 a k else 0)
    by_cases c : (a = 0 ∧ ((10 ≤ k ∧ k ≤ 19) ∨ k = 80)) ∨ (2 ≤ a ∧ a ≤ 7)
    · rw [if_pos c, if_pos c, h1 a k c]
    · rw [if_neg c, if_neg c]
  · show (if 8 ≤ a ∧ a ≤ 10 then A.2 a k else 0) = (if 8 ≤ a ∧ a ≤ 10 then B.2 a k else 0)
    by_cases c : 8 ≤ a ∧ a ≤ 10
    · rw [if_pos c, if_pos c, h2 a k c]
    · rw [if_neg c, if_neg c]
theorem es_r {A B : Wd} (h : esA A = esA B) {a k : Nat} (c : (a = 0 ∧ ((10 ≤ k ∧ k ≤ 19) ∨ k = 80)) ∨ (2 ≤ a ∧ a ≤ 7)) : A.1 a k = B.1 a k := by
  rw [← es_i (A := A) c, h, es_i c]
theorem es_rl {A B : Wd} (h : esA A = esA B) {a k : Nat} (c : 8 ≤ a ∧ a ≤ 10) : A.2 a k = B.2 a k := by
  rw [← es_l (A := A) c, h, es_l c]
theorem st_cg {A B : Wd} (h : esA A = esA B) : ∀ n p, stF A n p = stF B n p := by
  have h1 : ∀ n p, stF (esA A) n p = stF A n p := by
    intro n
    induction n with
    | zero => intro p; rfl
    | succ n ih =>
      intro p
      unfold stF
      simp only [ih]
      rfl
  have h2 : ∀ n p, stF (esA B) n p = stF B n p := by
    intro n
    induction n with
    | zero => intro p; rfl
    | succ n ih =>
      intro p
      unfold stF
      simp only [ih]
      rfl
  intro n p
  rw [← h1, h, h2]
theorem KIN.es {w A B : Wd} (h : esA A = esA B) (hK : KIN w B) : KIN w A := by
  have e : ∀ x, ssS A x = ssS B x := fun x => funext fun k => by
    unfold ssS stS nPe
    rw [st_cg h, es_r h (a := 0) (k := 11) (by omega), es_r h (a := 3) (k := k) (by omega), es_r h (a := 4) (k := k) (by omega)]
  unfold KIN nPe
  rw [e, es_r h (a := 0) (k := 11) (by omega)]
  simp only [e]
  exact hK
theorem LWI.es {A B : Wd} (h : esA A = esA B) (hW : LWI B) : LWI A := by
  have q : LWI (esA B) := hW
  rw [← h] at q; exact q
theorem PEI.es {A B : Wd} (h : esA A = esA B) (hW : PEI B) : PEI A := by
  have q : PEI (esA B) := hW
  rw [← h] at q; exact q
theorem NCH.es {A B : Wd} (h : esA A = esA B) (hW : NCH B) : NCH A := by
  have q : NCH (esA B) := hW
  rw [← h] at q; exact q
theorem EST.es {w A B : Wd} (h : esA A = esA B) (hW : EST w B) : EST w A := by
  have q : EST w (esA B) := hW
  rw [← h] at q; exact q
theorem PAP1.cg {w w' A B : Wd} {c p : Nat} (hA : ∀ a k, 20 ≤ a → a ≤ 37 → A.1 a k = B.1 a k) (hw : ∀ a k, c ≤ a → a ≤ c + 5 → w'.1 a k = w.1 a k) (h : PAP1 w B c p) : PAP1 w' A c p := by
  have hh : hrS A p = hrS B p := hrS_cg (fun k => hA 36 k (by omega) (by omega)) (hA 24 p (by omega) (by omega))
  have hn : nGi A p = nGi B p := by unfold nGi; rw [hA 23 p (by omega) (by omega)]
  have hg : gnS A p = gnS B p := by
    unfold gnS
    rw [hn]
    exact gn_cg hh _ (fun k _ => hA 34 _ (by omega) (by omega))
  unfold PAP1 PIF at h ⊢
  rw [hh, hg, hn]
  simp only [fun k => hw c k (by omega) (by omega), fun k => hw (c + 1) k (by omega) (by omega), fun k => hw (c + 2) k (by omega) (by omega), fun k => hw (c + 3) k (by omega) (by omega), fun k => hw (c + 4) k (by omega) (by omega), fun k => hw (c + 5) k (by omega) (by omega), fun k => hA 20 k (by omega) (by omega), fun k => hA 21 k (by omega) (by omega), fun k => hA 22 k (by omega) (by omega), fun k => hA 23 k (by omega) (by omega), fun k => hA 25 k (by omega) (by omega), fun k => hA 26 k (by omega) (by omega), fun k => hA 27 k (by omega) (by omega), fun k => hA 28 k (by omega) (by omega), fun k => hA 29 k (by omega) (by omega), fun k => hA 30 k (by omega) (by omega), fun k => hA 31 k (by omega) (by omega), fun k => hA 32 k (by omega) (by omega), fun k => hA 33 k (by omega) (by omega), fun k => hA 34 k (by omega) (by omega), fun k => hA 35 k (by omega) (by omega), fun k => hA 37 k (by omega) (by omega)]
  exact h
section
variable {w w' A : Wd}
theorem EST.fg (h : EST w A) (he : ∀ a k, 31 ≤ a → a ≤ 43 → w'.1 a k = w.1 a k) (hl : ∀ a k, 33 ≤ a → a ≤ 37 → w'.2 a k = w.2 a k) : EST w' A := by
  unfold EST at h ⊢
  simp (disch := omega) only [he, hl]
  exact h
end
section
variable {w m B : Wd}
def fDy (B : Wd) (i : Nat) : Nat := if i < nPa B then (B.1 20 i).toNatClampNeg else (B.1 40 (i - nPa B)).toNatClampNeg
def lDy (B : Wd) (i : Nat) : Nat := if i < nPa B then (B.1 21 i).toNatClampNeg else (B.1 41 (i - nPa B)).toNatClampNeg
theorem q_fin (hE : EST w B) (hC : CNT w B) (hP : PAP w B) (hV : EVT w B) (hN : NUM B) (hW : LWI B) (hA : PAPI B) (hI : EVI B) (hT : tol m = B) : ∃ w' m', f_X2_findOrders w = some w' ∧ f_X12_findOrders m = some m' ∧ TLD w' (tol m') ∧ INV (tol m') ∧ esA (tol m') = esA B ∧ (∀ a k, ¬ (a = 0 ∧ k = 75) → ¬ a = 43 → (tol m').1 a k = B.1 a k) ∧ w'.1 3 6 = w.1 3 6 + 1 ∧ m'.1 0 78 = 0 ∧ FX POc w w' ∧ FX POw m m' := by
  have h4 := hN.2.2.2.1
  have h5 := hN.2.2.2.2.1
  have h6 := hN.2.2.2.2.2.1
  have dc : DYc w (nPa B) (nIt B) (fDy B) (lDy B) := by
    refine ⟨⟨hC.1.trans h4.1, hC.2.trans (h5.1.trans (by unfold nIt; rw [show nPa B + nEv B - nPa B = nEv B by omega]))⟩, ⟨by unfold nIt; omega, h6, h4.2, by unfold nIt; omega⟩, fun i hi => ?_, fun i hi1 hi2 => ?_, fun i hi => ?_⟩
    · obtain ⟨⟨a0, a1, -⟩, -⟩ := hP i hi
      have e := (hA i hi).1
      unfold fDy lDy
      rw [if_pos hi, if_pos hi]
      exact ⟨a0.trans (e.2.2.1.e (by omega)).1, a1.trans (e.2.2.2.e (by omega)).1⟩
    · obtain ⟨-, -, a2, a3, -⟩ := hV (i - nPa B) (by unfold nIt at hi2; omega)
      have e := hI (i - nPa B) (by unfold nIt at hi2; omega)
      unfold fDy lDy
      rw [if_neg (by omega), if_neg (by omega)]
      exact ⟨a2.trans (e.2.2.2.1.e (by omega)).1, a3.trans (e.2.2.2.2.e (by omega)).1⟩
    · unfold fDy lDy
      by_cases q : i < nPa B
      · have e := (hA i q).1
        rw [if_pos q, if_pos q]
        exact ⟨(e.2.2.1.e (by omega)).2, (e.2.2.2.e (by omega)).2⟩
      · have e := hI (i - nPa B) (by unfold nIt at hi; omega)
        rw [if_neg q, if_neg q]
        exact ⟨(e.2.2.2.1.e (by omega)).2, (e.2.2.2.2.e (by omega)).2⟩
  have dm : DYm m (nPa B) (nIt B) (fDy B) (lDy B) := by
    refine ⟨⟨(tol_0 hT 49 rfl).trans h4.1, (tol_0 hT 50 rfl).trans (h5.1.trans (by unfold nIt; rw [show nPa B + nEv B - nPa B = nEv B by omega]))⟩, dc.2.1, fun i hi => ?_, fun i hi1 hi2 => ?_, dc.2.2.2.2⟩
    · have e := (hA i hi).1
      unfold fDy lDy
      rw [if_pos hi, if_pos hi, tol_p hT 20 i (by omega) hi, tol_p hT 21 i (by omega) hi]
      exact ⟨(e.2.2.1.e (by omega)).1, (e.2.2.2.e (by omega)).1⟩
    · have e := hI (i - nPa B) (by unfold nIt at hi2; omega)
      unfold fDy lDy
      rw [if_neg (by omega), if_neg (by omega), tol_a hT 40 _ (by omega), tol_a hT 41 _ (by omega)]
      exact ⟨(e.2.2.2.1.e (by omega)).1, (e.2.2.2.2.e (by omega)).1⟩
  obtain ⟨w', e1, hOC, h36, hFc⟩ := zc_orders dc
  obtain ⟨m', e2, hOW, h78, hFm⟩ := zm_orders dm
  obtain ⟨o1, o2⟩ := ord_item h6 hOC hOW
  have tf : ∀ a k, ¬ (a = 0 ∧ k = 75) → ¬ a = 43 → (tol m').1 a k = B.1 a k := by
    intro a k q1 q2
    have hm : tol (wC (wI m' 0 75 (m.1 0 75)) 43 (m.1 43)) = B := by
      refine FX.ot (P := fun a k => (a = 0 ∧ k = 78) ∨ a = 44) (w := m) ⟨?_, fun a k hn => ?_⟩ hT (fun k hk => by omega) (fun o k ho => by omega)
      · exact hFm.1
      · rw [wC_g]
        by_cases c1 : a = 43
        · rw [if_pos c1, c1]
        · rw [if_neg c1, wI_g]
          by_cases c2 : a = 0 ∧ k = 75
          · rw [if_pos c2, c2.1, c2.2]
          · rw [if_neg c2]; exact hFm.2 a k (by unfold POw; omega)
    rw [← hm]
    have hpa : nPa (wC (wI m' 0 75 (m.1 0 75)) 43 (m.1 43)) = nPa m' := by unfold nPa; rw [wC_g, if_neg (by omega), wI_g, if_neg (by omega)]
    have r1 : (wC (wI m' 0 75 (m.1 0 75)) 43 (m.1 43)).1 a k = m'.1 a k := by rw [wC_g, if_neg q2, wI_g, if_neg q1]
    have r0 : a = 0 → (wC (wI m' 0 75 (m.1 0 75)) 43 (m.1 43)).1 0 k = m'.1 0 k := fun e => by rw [wC_g, if_neg (by omega), wI_g, if_neg (by omega)]
    have r80 : (wC (wI m' 0 75 (m.1 0 75)) 43 (m.1 43)).1 0 80 = m'.1 0 80 := by rw [wC_g, if_neg (by omega), wI_g, if_neg (by omega)]
    unfold tol
    dsimp only
    rw [hpa, r1, r80]
    by_cases c : a = 0
    · rw [if_pos c, if_pos c, r0 c]
    · rw [if_neg c, if_neg c]
  have tl : (tol m').2 = B.2 := by
    rw [← hT]
    unfold tol
    dsimp only
    rw [hFm.1]
  have hes : esA (tol m') = esA B := es_eq (fun a k q => tf a k (by omega) (by omega)) (fun a k _ => by rw [tl])
  have npa : nPa (tol m') = nPa B := by unfold nPa; rw [tf 0 49 (by omega) (by omega)]
  have nev : nEv (tol m') = nEv B := by unfold nEv; rw [tf 0 50 (by omega) (by omega)]
  have nit : nIt (tol m') = nIt B := by unfold nIt; rw [npa, nev]
  have a75 : (tol m').1 0 75 = m'.1 0 75 := (tol_0 rfl 75 rfl).symm
  have a43 : ∀ k, (tol m').1 43 k = m'.1 43 k := fun k => (tol_a rfl 43 k (by omega)).symm
  have hlen : (okL (fDy B) (lDy B) (nIt B)).length ≤ 720 := Nat.le_trans (List.length_filter_le _ _) (all_ok (nIt B) (by unfold nIt; omega)).1
  have nor : nOr (tol m') = (okL (fDy B) (lDy B) (nIt B)).length := by
    unfold nOr
    rw [a75, hOW.1, nI_clamp (by omega)]
  have mem : ∀ o, o < (okL (fDy B) (lDy B) (nIt B)).length → rowB (nIt B) ((okL (fDy B) (lDy B) (nIt B)).getD o []) = true ∧ dsB (nIt B) ((okL (fDy B) (lDy B) (nIt B)).getD o []) = true := by
    intro o ho
    have hmm : (okL (fDy B) (lDy B) (nIt B)).getD o [] ∈ allP (nIt B) := by
      have : (okL (fDy B) (lDy B) (nIt B)).getD o [] ∈ okL (fDy B) (lDy B) (nIt B) := by
        rw [List.getD_eq_getElem?_getD, List.getElem?_eq_getElem ho]
        exact List.getElem_mem ho
      exact (List.mem_filter.mp this).1
    exact ⟨List.all_eq_true.mp (all_ok (nIt B) (by unfold nIt; omega)).2 _ hmm, List.all_eq_true.mp (all_ds (nIt B) (by unfold nIt; omega)) _ hmm⟩
  have cw : ∀ a k, 31 ≤ a → w'.1 a k = w.1 a k := fun a k ha => hFc.2 a k (by unfold POc; omega)
  have ew : EST w' B := hE.fg (fun a k h1 h2 => cw a k h1) (fun a k _ _ => by rw [hFc.1])
  refine ⟨w', m', e1, e2, ⟨ew.es hes, ⟨?_, ?_⟩, ⟨?_, ?_⟩, ?_, ?_⟩, ⟨?_, hW.es hes, ?_, ?_, ?_⟩, hes, tf, h36, h78, hFc, hFm⟩
  · rw [hFc.2 3 3 (by unfold POc; omega), tf 0 49 (by omega) (by omega)]; exact hC.1
  · rw [hFc.2 3 4 (by unfold POc; omega), tf 0 50 (by omega) (by omega)]; exact hC.2
  · rw [a75]; exact o1
  · intro o ho i hi
    rw [nor] at ho
    rw [nit] at hi
    rw [a43]; exact o2 o ho i hi
  · intro p hp
    rw [npa] at hp
    exact PAP1.cg (fun a k h1 h2 => tf a k (by omega) (by omega)) (fun a k h1 h2 => cw a k (by omega)) (hP p hp)
  · intro e he
    rw [nev] at he
    obtain ⟨a1, a2, a3, a4, a5⟩ := hV e he
    rw [cw _ _ (by omega), cw _ _ (by omega), cw _ _ (by omega), cw _ _ (by omega), cw _ _ (by omega), tf 38 e (by omega) (by omega), tf 39 e (by omega) (by omega), tf 40 e (by omega) (by omega), tf 41 e (by omega) (by omega), tf 42 e (by omega) (by omega)]
    exact ⟨a1, a2, a3, a4, a5⟩
  · unfold NUM
    rw [npa, nev, nor, a75]
    unfold nLa nPe nTh
    rw [tf 0 10 (by omega) (by omega), tf 0 11 (by omega) (by omega), tf 0 12 (by omega) (by omega), tf 0 49 (by omega) (by omega), tf 0 50 (by omega) (by omega)]
    exact ⟨hN.1, hN.2.1, hN.2.2.1, hN.2.2.2.1, hN.2.2.2.2.1, hN.2.2.2.2.2.1, ⟨hOW.1, hlen⟩, trivial⟩
  · intro p hp
    rw [npa] at hp
    have := hA p hp
    unfold PAPg nGi nHe nPe nTh at this ⊢
    simp only [fun k => tf 20 k (by omega) (by omega), fun k => tf 21 k (by omega) (by omega), fun k => tf 22 k (by omega) (by omega), fun k => tf 23 k (by omega) (by omega), fun k => tf 24 k (by omega) (by omega), fun k => tf 25 k (by omega) (by omega), fun k => tf 26 k (by omega) (by omega), fun k => tf 27 k (by omega) (by omega), fun k => tf 32 k (by omega) (by omega), fun k => tf 33 k (by omega) (by omega), fun k => tf 34 k (by omega) (by omega), fun k => tf 35 k (by omega) (by omega), fun k => tf 36 k (by omega) (by omega), fun k => tf 37 k (by omega) (by omega), tf 0 11 (by omega) (by omega), tf 0 12 (by omega) (by omega)]
    refine ⟨this.1, this.2.1, this.2.2.1, this.2.2.2.1, this.2.2.2.2.1, this.2.2.2.2.2.1, fun o ho1 ho2 => ?_⟩
    rw [tf o p (by omega) (by omega)]
    exact this.2.2.2.2.2.2 o ho1 ho2
  · intro e he
    rw [nev] at he
    have := hI e he
    rw [npa, tf 38 e (by omega) (by omega), tf 39 e (by omega) (by omega), tf 40 e (by omega) (by omega), tf 41 e (by omega) (by omega), tf 42 e (by omega) (by omega)]
    exact this
  · intro o ho
    rw [nor] at ho
    obtain ⟨r1, r2⟩ := mem o ho
    have rl := row_lt r1
    rw [nit]
    refine ⟨fun i hi => ?_, fun i j hij hj => ?_⟩
    · rw [a43, hOW.2 o ho i hi]
      exact ⟨_, rl.2 i hi, rfl⟩
    · rw [a43, a43, hOW.2 o ho i (by omega), hOW.2 o ho j hj]
      have b1 := rl.2 i (by omega)
      have b2 := rl.2 j hj
      have h66 : nIt B ≤ 6 := h6
      rw [nI_eq (by omega) (by omega)]
      exact ds_e r2 hij hj
end
