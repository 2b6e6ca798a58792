/-! the reference's verdict -/
section
variable {w A : Wd}
def VB (A : Wd) (p t q : Nat) (L : Bool) : Prop := (∀ v, v < nWy A → cdM A p L v → tV A v t q = wtS A t) ∧ ∃ v, v < nWy A ∧ cdM A p L v
theorem zm_goesTo (hT : tol w = A) (hI : INV A) (hPe : PEI A) {p t q : Nat} (hp : p < nPa A) (ht : t < nTh A) (hq : q < nPe A) (L : Bool) : OK (f_X12_goesTo (nI t) (nI q) (if L = true then nI p else -1) w) (fun r => ((r.1 = 1 ∧ VB A p t q L) ∨ (r.1 = 0 ∧ ¬ VB A p t q L)) ∧ FX PMS w r.2) := by
  have hN := hI.1
  have hP8 := hN.2.1.2
  have hT8 := hN.2.2.1.2
  have h4 := hN.2.2.2.1.2
  have hww := nWy_le hN
  have hor := hN.2.2.2.2.2.2.1.2
  have hit : nIt A ≤ 6 := hN.2.2.2.2.2.1
  have hit1 : 1 ≤ nIt A := by unfold nIt; omega
  have hwt := wt_e hPe ht
  unfold f_X12_goesTo
  refine lo6 (fun m y1 y2 y3 y4 y5 v => ∃ i, m = nWy A - i ∧ i ≤ nWy A ∧ y1 = nI t ∧ y2 = nI q ∧ y3 = (if L = true then nI p else -1) ∧ y5 = nI i ∧ FX PMS w v ∧ (∀ j, j < i → cdM A p L j → tV A j t q = wtS A t) ∧ ((y4 = 0 ∧ ∀ j, j < i → ¬ cdM A p L j) ∨ (y4 = 1 ∧ ∃ j, j < i ∧ cdM A p L j))) ?_ fu (nWy A - 0) (nI t) (nI q) (if L = true then nI p else -1) 0 0 w (by rw [fu_eq]; omega) ⟨0, rfl, Nat.zero_le _, rfl, rfl, rfl, rfl, FX.rf _ _, fun j hj => by omega, Or.inl ⟨rfl, fun j hj => by omega⟩⟩
  rintro m k y1 y2 y3 y4 y5 v ⟨i, rfl, hi, rfl, rfl, e3, rfl, hF, hv, hy⟩ hk
  have hTv := hF.mt hT
  rw [X12_goesTo_b6, zm_ways hTv hN, cl_s]
  by_cases hin : i < nWy A
  · obtain ⟨ho, h0⟩ := nWy_or hin
    have hl : lwT A t < nLa A := lwX_lt hI.2.1 hN h0 (x := nI t) (Or.inr ⟨t, ht, rfl⟩)
    refine OK.f (nI_ge hin (by omega)) ?_
    have yes : cdM A p L i → OK (X12_goesTo_b47 k (nI t) (nI q) y3 (nI i) v) (fun r => ((r.1 = 1 ∧ VB A p t q L) ∨ (r.1 = 0 ∧ ¬ VB A p t q L)) ∧ FX PMS w r.2) := by
      intro hc
      unfold X12_goesTo_b47
      refine OK.v ((zm_goWay hTv hI hin).m ?_)
      rintro v1 ⟨hG, hF1⟩
      have hT1 := hF1.gt hTv
      refine OK.c ((zm_goT hI hPe hT1 hin hG ht).m ?_)
      rintro ⟨r2, v2⟩ ⟨-, hpv, hF2⟩
      dsimp only at hpv hF2 ⊢
      have hT2 := PTh_t hF2 hT1
      have hF3 : FX PMS w v2 := (hF.tr (PG_s hF1)).tr (PTh_s hF2)
      refine OK.t (z_inb (by omega) (by omega)) (OK.t (z_inb (by omega) (by omega)) ?_)
      rw [nI_clamp (n := q) (by omega), nI_clamp (n := t) (by omega), hpv q (by omega), tol_a hT2 5 t (by omega), hwt.1]
      have hle : tV A i t q < 2 ^ 31 := thV_31 hI hPe ht hl (by omega)
      refine OK.i (fun e => ?_) (fun e => ?_)
      · rw [nI_eq hle (by omega)] at e
        refine hk _ _ _ _ _ _ _ (by omega) ⟨i + 1, rfl, hin, rfl, rfl, e3, nI_1 i, hF3, fun j hj hjc => ?_, Or.inr ⟨rfl, i, by omega, hc⟩⟩
        by_cases c : j = i
        · subst c; exact e
        · exact hv j (by omega) hjc
      · rw [nI_eq hle (by omega)] at e
        exact OK.s ⟨Or.inr ⟨rfl, fun h => e (h.1 i hin hc)⟩, hF3⟩
    rw [e3]
    by_cases eL : L = true
    · rw [if_pos eL] at e3 ⊢
      refine OK.f (nI_n1 (by omega)) ?_
      rw [zm_items hTv hN, cl_s, k8, pk_div (by omega) (by omega) (by omega), k6, pk_mul, nI_add, show (1 : Int32) = nI 1 from rfl, pk_sub (by omega)]
      refine OK.t (z_inb (by omega) (by omega)) ?_
      rw [nI_clamp (by omega), tol_a hTv 43 _ (by omega), show 6 * (i / 8) + nIt A - 1 = 6 * (i / 8) + (nIt A - 1) by omega]
      rw [← e3]
      refine OK.i (fun h => yes (fun _ => h.trans e3)) (fun h => ?_)
      have hc : ¬ cdM A p L i := fun hc => h ((hc eL).trans e3.symm)
      refine hk _ _ _ _ _ _ _ (by omega) ⟨i + 1, rfl, hin, rfl, rfl, by rw [if_pos eL]; exact e3, nI_1 i, hF, fun j hj hjc => ?_, ?_⟩
      · by_cases c : j = i
        · subst c; exact absurd hjc hc
        · exact hv j (by omega) hjc
      · rcases hy with ⟨e, hn⟩ | ⟨e, j, hj, hjc⟩
        · refine Or.inl ⟨e, fun j hj => ?_⟩
          by_cases c : j = i
          · subst c; exact hc
          · exact hn j (by omega)
        · exact Or.inr ⟨e, j, by omega, hjc⟩
    · rw [if_neg eL] at e3 ⊢
      refine OK.t rfl ?_
      rw [← e3]
      exact yes (fun h => absurd h eL)
  · have e : i = nWy A := by omega
    subst e
    refine OK.t (nI_le (Nat.le_refl _) (by omega)) ?_
    rcases hy with ⟨e, hn⟩ | ⟨e, j, hj, hjc⟩
    · subst e
      exact OK.t (by decide) (OK.s ⟨Or.inr ⟨rfl, fun h => by obtain ⟨-, j, hj, hjc⟩ := h; exact hn j hj hjc⟩, hF⟩)
    · subst e
      exact OK.t (by decide) (OK.s ⟨Or.inl ⟨rfl, hv, j, hj, hjc⟩, hF⟩)
theorem md_w (hT : tol w = A) (hN : NUM A) {p : Nat} (hp : p < nPa A) (ch : Int32) (a b c d e : Int32) (ha : a = (mdA A p ch).1 30 p) (hb : b = (mdA A p ch).1 28 p) (hc : c = (mdA A p ch).1 29 p) (hd : d = (mdA A p ch).1 31 p) (he : e = (mdA A p ch).1 0 81) : tol (wI (wI (wI (wI (wI (wI w 30 p a) 28 p b) 29 p c) 31 p d) 0 80 (nI p)) 0 81 e) = mdA A p ch := by
  have h4 := hN.2.2.2.1.2
  have hpw : p < nPa w := by rw [tol_pa hT]; exact hp
  have n1 : ∀ (u : Wd) o x, 28 ≤ o → p < nPa u → p < nPa (wI u o p x) := fun u o x ho h => by unfold nPa at h ⊢; rw [wI_g, if_neg (by omega)]; exact h
  have p1 := n1 w 30 a (by omega) hpw
  have p2 := n1 _ 28 b (by omega) p1
  have p3 := n1 _ 29 c (by omega) p2
  rw [tol_8081 _ (nI_n1 (by omega)), tol_f _ (by omega) p3, tol_f _ (by omega) p2, tol_f _ (by omega) p1, tol_f _ (by omega) hpw, hT]
  refine Prod.ext (funext fun x => funext fun y => ?_) rfl
  rw [wI_g, wI_g, wI_g, wI_g, wI_g, wI_g]
  by_cases q1 : x = 0 ∧ y = 81
  · rw [if_pos q1, he, q1.1, q1.2]
  rw [if_neg q1]
  by_cases q2 : x = 0 ∧ y = 80
  · rw [if_pos q2, q2.1, q2.2, md_80]
  rw [if_neg q2]
  by_cases q3 : x = 31 ∧ y = p
  · rw [if_pos q3, hd, q3.1, q3.2]
  rw [if_neg q3]
  by_cases q4 : x = 29 ∧ y = p
  · rw [if_pos q4, hc, q4.1, q4.2]
  rw [if_neg q4]
  by_cases q5 : x = 28 ∧ y = p
  · rw [if_pos q5, hb, q5.1, q5.2]
  rw [if_neg q5]
  by_cases q6 : x = 30 ∧ y = p
  · rw [if_pos q6, ha, q6.1, q6.2]
  rw [if_neg q6, md_o _ _ (by omega)]
theorem zm_isMended (hT : tol w = A) (hI : INV A) (hPe : PEI A) (hX : NCH A) {p t q c : Nat} (hp : p < nPa A) (ht : t < nTh A) (hq : q < nPe A) (hc : c < 64) : OK (f_X12_isMended (nI p) (nI t) (nI q) (nI c) w) (fun r => ((r.1 = 1 ∧ VC A p t q (nI c)) ∨ (r.1 = 0 ∧ ¬ VC A p t q (nI c))) ∧ FX PM1 w r.2) := by
  have hN := hI.1
  have h4 := hN.2.2.2.1.2
  have h01 := (hI.2.2.1 p hp).2.2.2.2.2.2
  have hVB : VB (mdA A p (nI c)) p t q (LC (nI c)) ↔ VC A p t q (nI c) := by
    unfold VB VC VR
    rw [md_wy]
    constructor
    · rintro ⟨h1, h2⟩
      exact ⟨fun v hv hcd => (md_tV hN hX hp hc t v q).symm.trans (h1 v hv hcd), h2⟩
    · rintro ⟨h1, h2⟩
      exact ⟨fun v hv hcd => (md_tV hN hX hp hc t v q).trans (h1 v hv hcd), h2⟩
  have h156 : ∀ wM, tol wM = mdA A p (nI c) → FX (fun a k => (28 ≤ a ∧ a ≤ 31 ∧ k = p) ∨ (a = 0 ∧ (k = 80 ∨ k = 81))) w wM → ∀ t0, t0 = (if LC (nI c) = true then nI p else -1) → OK (X12_isMended_b156 (nI p) (A.1 30 p) (A.1 28 p) (A.1 29 p) (A.1 31 p) t0 (nI q) (nI t) wM) (fun r => ((r.1 = 1 ∧ VC A p t q (nI c)) ∨ (r.1 = 0 ∧ ¬ VC A p t q (nI c))) ∧ FX PM1 w r.2) := by
    rintro wM hTM hFM t0 rfl
    unfold X12_isMended_b156
    refine OK.c ((zm_goesTo hTM (md_inv hI _) (md_pei hPe _) (p := p) (by rw [md_nPa]; exact hp) ht hq (LC (nI c))).m ?_)
    rintro ⟨r, v⟩ ⟨hr, hF⟩
    dsimp only at hr hF ⊢
    rw [hVB] at hr
    refine OK.l (OK.t (z_inb (by omega) (by omega)) ?_)
    rw [nI_clamp (n := p) (by omega)]
    refine OK.l (OK.t (z_inb (by omega) (by omega)) (OK.l (OK.t (z_inb (by omega) (by omega)) (OK.l (OK.t (z_inb (by omega) (by omega)) (OK.l (OK.t ?_ (OK.s ⟨hr, ?_⟩))))))))
    · rcases hr with ⟨rfl, -⟩ | ⟨rfl, -⟩ <;> decide
    rw [nar_01 (h01 30 (by omega) (by omega)), nar_01 (h01 28 (by omega) (by omega)), nar_01 (h01 29 (by omega) (by omega)), nar_01 (h01 31 (by omega) (by omega))]
    refine ⟨?_, fun a k hn => ?_⟩
    · show v.2 = w.2
      rw [hF.1, hFM.1]
    · rw [wI_g, wI_g, wI_g, wI_g, wI_g]
      by_cases q3 : a = 31 ∧ k = p
      · rw [if_pos q3, q3.1, q3.2, tol_p hT 31 p (by omega) hp]
      rw [if_neg q3]
      by_cases q4 : a = 29 ∧ k = p
      · rw [if_pos q4, q4.1, q4.2, tol_p hT 29 p (by omega) hp]
      rw [if_neg q4]
      by_cases q5 : a = 28 ∧ k = p
      · rw [if_pos q5, q5.1, q5.2, tol_p hT 28 p (by omega) hp]
      rw [if_neg q5]
      by_cases q6 : a = 30 ∧ k = p
      · rw [if_pos q6, q6.1, q6.2, tol_p hT 30 p (by omega) hp]
      rw [if_neg q6]
      by_cases q7 : a = 0 ∧ k = 80
      · rw [if_pos q7, q7.1, q7.2, tol_0 hT 80 rfl]; exact hX.symm
      rw [if_neg q7, hF.2 a k (fun h => hn (Or.inl h)), hFM.2 a k (by unfold PM1 at hn; omega)]
  have h124 : ∀ d u, d = (mdA A p (nI c)).1 31 p → u = wI (wI (wI w 30 p ((mdA A p (nI c)).1 30 p)) 28 p ((mdA A p (nI c)).1 28 p)) 29 p ((mdA A p (nI c)).1 29 p) → OK (X12_isMended_b124 (nI p) (nI t) (nI q) (nI c) (A.1 30 p) (A.1 28 p) (A.1 29 p) (A.1 31 p) d (nI p) u) (fun r => ((r.1 = 1 ∧ VC A p t q (nI c)) ∨ (r.1 = 0 ∧ ¬ VC A p t q (nI c))) ∧ FX PM1 w r.2) := by
    rintro d u rfl rfl
    unfold X12_isMended_b124
    refine OK.t (z_inb (by omega) (by omega)) ?_
    rw [nI_clamp (n := p) (by omega)]
    refine OK.l (OK.l (OK.l ?_))
    rw [md_31, nar_b, ← md_31]
    have hTM := md_w hT hN hp (nI c) _ _ _ _ ((nI c >>> (3 &&& 31)) &&& 1) rfl rfl rfl rfl md_81.symm
    have hFM : FX (fun a k => (28 ≤ a ∧ a ≤ 31 ∧ k = p) ∨ (a = 0 ∧ (k = 80 ∨ k = 81))) w (wI (wI (wI (wI (wI (wI w 30 p ((mdA A p (nI c)).1 30 p)) 28 p ((mdA A p (nI c)).1 28 p)) 29 p ((mdA A p (nI c)).1 29 p)) 31 p ((mdA A p (nI c)).1 31 p)) 0 80 (nI p)) 0 81 ((nI c >>> (3 &&& 31)) &&& 1)) :=
      (((((FX.w w _ (by omega)).tr (FX.w _ _ (by omega))).tr (FX.w _ _ (by omega))).tr (FX.w _ _ (by omega))).tr (FX.w _ _ (by omega))).tr (FX.w _ _ (by omega))
    refine OK.i (fun e => h156 _ hTM hFM _ ?_) (fun e => h156 _ hTM hFM _ ?_)
    · rw [if_neg]; unfold LC; rw [decide_eq_false (fun h => h e)]; decide
    · rw [if_pos]; exact decide_eq_true e
  have h100 : ∀ d u, d = (mdA A p (nI c)).1 29 p → u = wI (wI w 30 p ((mdA A p (nI c)).1 30 p)) 28 p ((mdA A p (nI c)).1 28 p) → OK (X12_isMended_b100 (nI p) (nI t) (nI q) (nI c) (A.1 30 p) (A.1 28 p) (A.1 29 p) (A.1 31 p) d (nI p) u) (fun r => ((r.1 = 1 ∧ VC A p t q (nI c)) ∨ (r.1 = 0 ∧ ¬ VC A p t q (nI c))) ∧ FX PM1 w r.2) := by
    rintro d u rfl rfl
    unfold X12_isMended_b100
    refine OK.t (z_inb (by omega) (by omega)) ?_
    rw [nI_clamp (n := p) (by omega)]
    refine OK.l ?_
    rw [md_29, nar_b, ← md_29]
    refine OK.i (fun e => OK.i (fun e2 => h124 _ _ ?_ rfl) (fun e2 => h124 _ _ ?_ rfl)) (fun e => h124 _ _ ?_ rfl)
    · rw [md_31, decide_eq_false (fun h => h e), decide_eq_false (fun h => h e2)]; rfl
    · rw [md_31, decide_eq_false (fun h => h e), decide_eq_true e2]; rfl
    · rw [md_31, decide_eq_true e]; rfl
  have h77 : ∀ d u, d = (mdA A p (nI c)).1 28 p → u = wI w 30 p ((mdA A p (nI c)).1 30 p) → OK (X12_isMended_b77 (nI p) (nI t) (nI q) (nI c) (A.1 30 p) (A.1 28 p) (A.1 29 p) (A.1 31 p) d (nI p) u) (fun r => ((r.1 = 1 ∧ VC A p t q (nI c)) ∨ (r.1 = 0 ∧ ¬ VC A p t q (nI c))) ∧ FX PM1 w r.2) := by
    rintro d u rfl rfl
    unfold X12_isMended_b77
    refine OK.t (z_inb (by omega) (by omega)) ?_
    rw [nI_clamp (n := p) (by omega)]
    refine OK.l ?_
    rw [md_28, nar_b, ← md_28]
    refine OK.i (fun e => h100 _ _ ?_ rfl) (fun e => OK.i (fun e2 => h100 _ _ ?_ rfl) (fun e2 => h100 _ _ ?_ rfl))
    · rw [md_29, decide_eq_false (fun h => h e)]; rfl
    · rw [md_29, decide_eq_true e, decide_eq_true e2]; rfl
    · rw [md_29, decide_eq_true e, decide_eq_false e2]; rfl
  have h54 : ∀ d, d = (mdA A p (nI c)).1 30 p → OK (X12_isMended_b54 (nI p) (nI t) (nI q) (nI c) (A.1 30 p) (A.1 28 p) (A.1 29 p) (A.1 31 p) d (nI p) w) (fun r => ((r.1 = 1 ∧ VC A p t q (nI c)) ∨ (r.1 = 0 ∧ ¬ VC A p t q (nI c))) ∧ FX PM1 w r.2) := by
    rintro d rfl
    unfold X12_isMended_b54
    refine OK.t (z_inb (by omega) (by omega)) ?_
    rw [nI_clamp (n := p) (by omega)]
    refine OK.l ?_
    rw [md_30, nar_b, ← md_30]
    refine OK.i (fun e => OK.i (fun e2 => h77 _ _ ?_ rfl) (fun e2 => h77 _ _ ?_ rfl)) (fun e => h77 _ _ ?_ rfl)
    · rw [md_28, decide_eq_false (fun h => h e), decide_eq_false (fun h => h e2)]; rfl
    · rw [md_28, decide_eq_false (fun h => h e), decide_eq_true e2]; rfl
    · rw [md_28, decide_eq_true e]; rfl
  unfold f_X12_isMended
  rw [nI_clamp (n := p) (by omega), tol_p hT 30 p (by omega) hp, tol_p hT 28 p (by omega) hp, tol_p hT 29 p (by omega) hp, tol_p hT 31 p (by omega) hp]
  refine OK.t (z_inb (by omega) (by omega)) (OK.l (OK.t (z_inb (by omega) (by omega)) (OK.l (OK.t (z_inb (by omega) (by omega)) (OK.l (OK.t (z_inb (by omega) (by omega)) (OK.l ?_)))))))
  refine OK.i (fun e => OK.i (fun e2 => h54 _ ?_) (fun e2 => h54 _ ?_)) (fun e => h54 _ ?_)
  · rw [md_30, decide_eq_false (fun h => h e), decide_eq_false (fun h => h e2)]; rfl
  · rw [md_30, decide_eq_false (fun h => h e), decide_eq_true e2]; rfl
  · rw [md_30, decide_eq_true e]; rfl
end
