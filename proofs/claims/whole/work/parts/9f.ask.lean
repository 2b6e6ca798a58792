/-! ask: unlike outcomes by an answer -/
def snO (A : Wd) (Y : Nat → Bool) (b : Bool) (i o : Nat) : Bool := anyF (fun v => decide (Y v = b ∧ onO A v = o)) i
def uC (A : Wd) (Y : Nat → Bool) (b : Bool) : Nat := fb_ct (snO A Y b (nWy A)) (cnO A (nWy A))
def gR (A : Wd) (Y : Nat → Bool) : Int32 := if nI (uC A Y true) < nI (uC A Y false) then nI (uC A Y false) else nI (uC A Y true)
def yF (f v : Nat) : Bool := bt (nI v) f
def yO (A : Wd) (a b : Int32) (v : Nat) : Bool := ahS A (v / 8) a b
theorem sn_s {A : Wd} {Y : Nat → Bool} {b : Bool} {i o : Nat} : snO A Y b (i + 1) o = (snO A Y b i o || decide (Y i = b ∧ onO A i = o)) := rfl
theorem sn_n {A : Wd} {Y : Nat → Bool} {b : Bool} {i : Nat} (h : ¬ Y i = b) (o : Nat) : snO A Y b (i + 1) o = snO A Y b i o := by rw [sn_s, decide_eq_false (fun q => h q.1), Bool.or_false]
theorem sn_y {A : Wd} {Y : Nat → Bool} {b : Bool} {i : Nat} (h : Y i = b) (o : Nat) : snO A Y b (i + 1) o = if o = onO A i then true else snO A Y b i o := by
  rw [sn_s]
  by_cases e : o = onO A i
  · rw [if_pos e, decide_eq_true ⟨h, e.symm⟩, Bool.or_true]
  · rw [if_neg e, decide_eq_false (fun q => e q.2.symm), Bool.or_false]
def md (x y : Bool) : Nat := (if x then 1 else 0) + (if y then 2 else 0)
theorem md_1 : ∀ x y, nI (md x y) ||| 1 = nI (md true y) := by decide
theorem md_2 : ∀ x y, nI (md x y) ||| 2 = nI (md x true) := by decide
theorem md_lo : ∀ x y, nI (md x y) &&& 1 = bI x := by decide
theorem md_hi : ∀ x y, nI (md x y) >>> ((1 : Int32) &&& 31) = bI y := by decide
theorem OUT.f20 {w w' A : Wd} {cp n : Nat} (h : OUT w A cp n) (f : ∀ a k, ¬ a = 20 → w'.1 a k = w.1 a k) : OUT w' A cp n := by
  refine ⟨?_, ⟨?_, h.2.1.2⟩, h.2.2.1, fun x hx hf p hp => ?_, fun c hc => ?_, fun x hx hf => ?_⟩
  · rw [f 16 1 (by omega)]; exact h.1
  · rw [f 16 4 (by omega)]; exact h.2.1.1
  · rw [f 18 _ (by omega)]; exact h.2.2.2.1 x hx hf p hp
  · rw [f 21 _ (by omega)]; exact h.2.2.2.2.1 c hc
  · rw [f 19 _ (by omega)]; exact h.2.2.2.2.2 x hx hf
theorem OUTR.f20 {w w' A : Wd} {cp : Nat} (h : OUTR w A cp) (f : ∀ a k, ¬ a = 20 → w'.1 a k = w.1 a k) : OUTR w' A cp := ⟨h.1.f20 f, fun v hv => (f 17 v (by omega)).trans (h.2 v hv)⟩
/-- what the desk has marked -/
def MRK (w A : Wd) (Y : Nat → Bool) (i : Nat) : Prop := ∀ o, o < cnO A (nWy A) → w.1 20 o = nI (md (snO A Y true i o) (snO A Y false i o))
section
variable {w A : Wd}
theorem zc_greater {cp : Nat} {Y : Nat → Bool} (hN : NUM A) (hO : OUTR w A cp) (hM : MRK w A Y (nWy A)) : f_X5_greaterOfAnswers cp w = some (gR A Y, w) := by
  have hW := nWy_le hN
  have hcl := cn_le (A := A) (nWy A)
  have hcp := hO.1.2.1.2
  unfold CAP at hcp
  have hsz := hO.1.2.2.1
  have key : OK (f_X5_greaterOfAnswers cp w) (fun q => q = (gR A Y, w)) := by
    unfold f_X5_greaterOfAnswers
    refine lo4 (fun m y1 y2 y3 u => ∃ o, m = cnO A (nWy A) - o ∧ o ≤ cnO A (nWy A) ∧ y1 = nI (fb_ct (snO A Y true (nWy A)) o) ∧ y2 = nI (fb_ct (snO A Y false (nWy A)) o) ∧ y3 = nI o ∧ w = u) ?_ fu (cnO A (nWy A) - 0) 0 0 0 w (by rw [fu_eq]; omega) ⟨0, rfl, Nat.zero_le _, rfl, rfl, rfl, rfl⟩
    rintro m k y1 y2 y3 u ⟨o, rfl, ho, rfl, rfl, rfl, rfl⟩ hk
    rw [X5_greaterOfAnswers_b6, hO.1.1]
    by_cases hin : o < cnO A (nWy A)
    · refine OK.f (nI_ge hin (by omega)) (OK.t (z_inb (by omega) (by omega)) (OK.l (OK.t (z_inb (by omega) (by omega)) (OK.l ?_))))
      rw [nI_clamp (n := o) (by omega), hM o hin, md_lo, md_hi]
      refine hk _ _ _ _ _ (by omega) ⟨o + 1, rfl, hin, ?_, ?_, nI_1 o, rfl⟩
      · rw [fb_ct_succ]
        cases snO A Y true (nWy A) o
        · show _ + nI 0 = _; rw [nI_add]; rfl
        · show _ + nI 1 = _; rw [nI_add]; rfl
      · rw [fb_ct_succ]
        cases snO A Y false (nWy A) o
        · show _ + nI 0 = _; rw [nI_add]; rfl
        · show _ + nI 1 = _; rw [nI_add]; rfl
    · have e : o = cnO A (nWy A) := by omega
      subst e
      exact OK.t (nI_le (Nat.le_refl _) (by omega)) (OK.s rfl)
  obtain ⟨q, e, rfl⟩ := key
  exact e
theorem mk_0 {cp : Nat} {Y : Nat → Bool} (hO : OUTR w A cp) : MRK (wC w 20 (fun k => if k < cp then 0 else w.1 20 k)) A Y 0 := fun o ho => by
  have hsz := hO.1.2.2.1
  rw [wC_g, if_pos rfl]
  show (if o < cp then (0 : Int32) else _) = _
  rw [if_pos (by omega)]; rfl
theorem mk_s {Y : Nat → Bool} {i : Nat} (hM : MRK w A Y i) (hi : i < nWy A) : MRK (wI w 20 (onO A i) (w.1 20 (onO A i) ||| (if Y i = true then 1 else 2))) A Y (i + 1) := fun o ho => by
  rw [wI_g]
  cases hY : Y i
  · rw [sn_n (by rw [hY]; decide), sn_y hY, if_neg (show ¬ (false = true) by decide)]
    by_cases e : o = onO A i
    · rw [if_pos ⟨rfl, e⟩, if_pos e, ← e, hM o ho, md_2]
    · rw [if_neg (fun q => e q.2), if_neg e]; exact hM o ho
  · rw [sn_n (b := false) (by rw [hY]; decide), sn_y hY, if_pos (show (true = true) from rfl)]
    by_cases e : o = onO A i
    · rw [if_pos ⟨rfl, e⟩, if_pos e, ← e, hM o ho, md_1]
    · rw [if_neg (fun q => e q.2), if_neg e]; exact hM o ho
theorem FX20 (P : Nat → Nat → Prop) (hP : ∀ k, P 20 k) {w' : Wd} (h : FX (PO 20) w w') : FX P w w' := h.mo (fun a k q => by unfold PO at q; rw [q]; exact hP k)
theorem zc_byFact {cp : Nat} (hL : TLD w A) (hI : INV A) (hO : OUTR w A cp) {f : Nat} (hf : f < 3) : OK (f_X5_unlikeByFact cp (nI f) w) (fun q => q.1 = gR A (yF f) ∧ FX (PO 20) w q.2) := by
  have hN := hI.1
  have hW := nWy_le hN
  have hcl := cn_le (A := A) (nWy A)
  have hcp := hO.1.2.1.2
  unfold CAP at hcp
  have hsz := hO.1.2.2.1
  unfold f_X5_unlikeByFact
  rw [zc_fill (by omega), cv_s]
  have hM0 := mk_0 (Y := yF f) hO
  have hF0 : FX (PO 20) w (wC w 20 (fun k => if k < cp then 0 else w.1 20 k)) := FX.c _ _ (fun k => rfl)
  generalize wC w 20 (fun k => if k < cp then 0 else w.1 20 k) = w1 at hM0 hF0 ⊢
  have at1 : ∀ u, FX (PO 20) w u → TLD u A ∧ OUTR u A cp := fun u h => ⟨hL.fr hN ⟨h.1, fun a k ha => h.2 a k (by unfold PO; omega)⟩, hO.f20 (fun a k ha => h.2 a k ha)⟩
  obtain ⟨hL1, hO1⟩ := at1 w1 hF0
  rw [zc_ways hL1.1 hL1.2.2.1 hN, cl_s]
  refine lo4 (fun m y1 y2 y3 u => ∃ i, m = nWy A - i ∧ i ≤ nWy A ∧ y1 = nI f ∧ y2 = nI (nWy A) ∧ y3 = nI i ∧ FX (PO 20) w u ∧ MRK u A (yF f) i) ?_ fu (nWy A - 0) (nI f) (nI (nWy A)) 0 w1 (by rw [fu_eq]; omega) ⟨0, rfl, Nat.zero_le _, rfl, rfl, rfl, hF0, hM0⟩
  rintro m k y1 y2 y3 u ⟨i, rfl, hi, rfl, rfl, rfl, hF, hM⟩ hk
  obtain ⟨hLu, hOu⟩ := at1 u hF
  rw [X5_unlikeByFact_b18]
  by_cases hin : i < nWy A
  · have o1 := on_lt (A := A) hin
    have hm := mk_s hM hin
    refine OK.f (nI_ge hin (by omega)) (OK.t (z_inb (by omega) (by omega)) ?_)
    rw [nI_clamp (n := i) (by omega), hOu.2 i hin, nI_clamp (n := onO A i) (by omega), if_bt (by omega)]
    refine OK.t (z_inb (by omega) (by omega)) ?_
    by_cases c : bt (nI i) f = false
    · rw [if_neg (show ¬ yF f i = true by unfold yF; rw [c]; decide)] at hm
      exact OK.t c (OK.t (z_inb (by omega) (by omega)) (OK.l (hk _ _ _ _ _ (by omega) ⟨i + 1, rfl, hin, rfl, rfl, nI_1 i, hF.tr (FX.w _ _ rfl), hm⟩)))
    · rw [if_pos (show yF f i = true by unfold yF; rw [Bool.not_eq_false] at c; exact c)] at hm
      exact OK.f c (OK.t (z_inb (by omega) (by omega)) (OK.l (hk _ _ _ _ _ (by omega) ⟨i + 1, rfl, hin, rfl, rfl, nI_1 i, hF.tr (FX.w _ _ rfl), hm⟩)))
  · have e : i = nWy A := by omega
    subst e
    refine OK.t (nI_le (Nat.le_refl _) (by omega)) ?_
    rw [zc_greater hN hOu hM, cl_s]
    exact OK.s ⟨rfl, hF⟩
theorem zc_byOrder {cp : Nat} (hL : TLD w A) (hI : INV A) (hO : OUTR w A cp) (a b : Int32) : OK (f_X5_unlikeByOrder cp a b w) (fun q => q.1 = gR A (yO A a b) ∧ FX (PO 20) w q.2) := by
  have hN := hI.1
  have hW := nWy_le hN
  have hcl := cn_le (A := A) (nWy A)
  have hcp := hO.1.2.1.2
  unfold CAP at hcp
  have hsz := hO.1.2.2.1
  unfold f_X5_unlikeByOrder
  rw [zc_fill (by omega), cv_s]
  have hM0 := mk_0 (Y := yO A a b) hO
  have hF0 : FX (PO 20) w (wC w 20 (fun k => if k < cp then 0 else w.1 20 k)) := FX.c _ _ (fun k => rfl)
  generalize wC w 20 (fun k => if k < cp then 0 else w.1 20 k) = w1 at hM0 hF0 ⊢
  have at1 : ∀ u, FX (PO 20) w u → TLD u A ∧ OUTR u A cp := fun u h => ⟨hL.fr hN ⟨h.1, fun a k ha => h.2 a k (by unfold PO; omega)⟩, hO.f20 (fun a k ha => h.2 a k ha)⟩
  obtain ⟨hL1, hO1⟩ := at1 w1 hF0
  rw [zc_ways hL1.1 hL1.2.2.1 hN, cl_s]
  refine lo6 (fun m y1 y2 y3 y4 y5 u => ∃ i, m = nWy A - i ∧ i ≤ nWy A ∧ a = y1 ∧ b = y2 ∧ y3 = nI (nWy A) ∧ y5 = nI i ∧ (¬ i % 8 = 0 → y4 = if yO A a b i = true then 1 else 2) ∧ FX (PO 20) w u ∧ MRK u A (yO A a b) i) ?_ fu (nWy A - 0) a b (nI (nWy A)) 0 0 w1 (by rw [fu_eq]; omega) ⟨0, rfl, Nat.zero_le _, rfl, rfl, rfl, rfl, fun h => absurd rfl h, hF0, hM0⟩
  rintro m k y1 y2 y3 y4 y5 u ⟨i, rfl, hi, rfl, rfl, rfl, rfl, h4, hF, hM⟩ hk
  obtain ⟨hLu, hOu⟩ := at1 u hF
  rw [X5_unlikeByOrder_b22]
  by_cases hin : i < nWy A
  · have o1 := on_lt (A := A) hin
    have hm := mk_s hM hin
    obtain ⟨ho, -⟩ := nWy_or hin
    have b60 : OK (X5_unlikeByOrder_b60 cp k a b (nI (nWy A)) (if yO A a b i = true then 1 else 2) (nI i) u) (fun q => q.1 = gR A (yO A a b) ∧ FX (PO 20) w q.2) := by
      unfold X5_unlikeByOrder_b60
      rw [nI_clamp (n := i) (by omega), hOu.2 i hin, nI_clamp (n := onO A i) (by omega)]
      refine OK.t (z_inb (by omega) (by omega)) (OK.t (z_inb (by omega) (by omega)) (OK.t (z_inb (by omega) (by omega)) (OK.l (hk _ _ _ _ _ _ _ (by omega) ⟨i + 1, rfl, hin, rfl, rfl, rfl, nI_1 i, fun h => ?_, hF.tr (FX.w _ _ rfl), hm⟩))))
      have e : yO A a b (i + 1) = yO A a b i := by unfold yO; rw [show (i + 1) / 8 = i / 8 by omega]
      rw [e]
    refine OK.f (nI_ge hin (by omega)) ?_
    have e8 : nI i - nI i / 8 * 8 = nI (i % 8) := by
      rw [k8, pk_div (by omega) (by omega) (by omega), pk_mul, pk_sub (by omega)]
      congr 1; omega
    rw [e8]
    by_cases c : i % 8 = 0
    · rw [c]
      refine OK.t rfl ?_
      rw [k8, pk_div (by omega) (by omega) (by omega), zc_isAhead hLu.2.2.1 hLu.2.1 hN ho, cl_s, if_b0]
      by_cases d : ahS A (i / 8) a b = false
      · rw [if_neg (show ¬ yO A a b i = true by unfold yO; rw [d]; decide)] at b60
        exact OK.t d b60
      · rw [if_pos (show yO A a b i = true by unfold yO; rw [Bool.not_eq_false] at d; exact d)] at b60
        exact OK.f d b60
    · refine OK.f (nz_i c (by omega)) ?_
      rw [h4 c]
      exact b60
  · have e : i = nWy A := by omega
    subst e
    refine OK.t (nI_le (Nat.le_refl _) (by omega)) ?_
    rw [zc_greater hN hOu hM, cl_s]
    exact OK.s ⟨rfl, hF⟩
/-! the reference's stamps -/
def STP (w : Wd) (s : Nat) : Prop := w.1 0 98 = nI s ∧ ∀ k, k < 5760 → ∃ t, t ≤ s ∧ w.1 53 k = nI t
def PAs (a k : Nat) : Prop := a = 53 ∨ (a = 0 ∧ k = 98)
theorem PAs_t {w' : Wd} (h : FX PAs w w') (hT : tol w = A) : tol w' = A := h.ot hT (fun k hk => by unfold PAs; omega) (fun o k ho => by unfold PAs; omega)
theorem zm_unlike (hT : tol w = A) (hI : INV A) (hR : RKN w A (nWy A)) {s : Nat} (hS : STP w s) (hs : s < 1000000) {x1 x2 x3 : Int32} {Y : Nat → Bool} (hY : (x1 = -1 ∧ Y = yO A x2 x3) ∨ ∃ f, f < 3 ∧ x1 = nI f ∧ Y = yF f) (b : Bool) : OK (f_X12_unlike x1 x2 x3 (bI b) w) (fun q => q.1 = nI (uC A Y b) ∧ STP q.2 (s + 1) ∧ FX PAs w q.2) := by
  have hN := hI.1
  have hW := nWy_le hN
  have hcl := cn_le (A := A) (nWy A)
  unfold f_X12_unlike
  refine OK.l ?_
  rw [hS.1, nI_1]
  refine lo7 (fun m y1 y2 y3 y4 y5 y6 u => ∃ i, m = nWy A - i ∧ i ≤ nWy A ∧ x1 = y1 ∧ x2 = y2 ∧ x3 = y3 ∧ y4 = bI b ∧ y5 = nI (fb_ct (snO A Y b i) (cnO A (nWy A))) ∧ y6 = nI i ∧ FX PAs w u ∧ u.1 0 98 = nI (s + 1) ∧ ∀ o, o < 5760 → ∃ t, t ≤ s + 1 ∧ u.1 53 o = nI t ∧ (t = s + 1 ↔ snO A Y b i o = true)) ?_ fu (nWy A - 0) x1 x2 x3 (bI b) 0 0 _ (by rw [fu_eq]; omega) ⟨0, rfl, Nat.zero_le _, rfl, rfl, rfl, rfl, ?_, rfl, FX.w _ _ (by unfold PAs; omega), by rw [wI_g, if_pos ⟨rfl, rfl⟩], fun o ho => ?_⟩
  · rintro m k y1 y2 y3 y4 y5 y6 u ⟨i, rfl, hi, rfl, rfl, rfl, rfl, rfl, rfl, hF, h98, hst⟩ hk
    have hTu := PAs_t hF hT
    rw [X12_unlike_b16, zm_ways hTu hN, cl_s]
    by_cases hin : i < nWy A
    · obtain ⟨ho, -⟩ := nWy_or hin
      have o1 := on_lt (A := A) hin
      have h52 : u.1 52 i = nI (onO A i) := (hF.2 52 i (by unfold PAs; omega)).trans (hR.2.1 i hin)
      have b59 : OK (X12_unlike_b59 k x1 x2 x3 (bI b) (nI (fb_ct (snO A Y b i) (cnO A (nWy A)))) (nI i) (bI (Y i)) u) (fun q => q.1 = nI (uC A Y b) ∧ STP q.2 (s + 1) ∧ FX PAs w q.2) := by
        unfold X12_unlike_b59
        by_cases c : Y i = b
        · refine OK.t (by rw [c]) (OK.t (z_inb (by omega) (by omega)) ?_)
          rw [nI_clamp (n := i) (by omega), h52, nI_clamp (n := onO A i) (by omega), h98]
          refine OK.t (z_inb (by omega) (by omega)) ?_
          obtain ⟨t, t1, t2, t3⟩ := hst (onO A i) (by omega)
          rw [t2]
          by_cases d : t = s + 1
          · have hsn := t3.mp d
            have he : ∀ o, snO A Y b (i + 1) o = snO A Y b i o := fun o => by
              rw [sn_y c]
              by_cases e : o = onO A i
              · rw [if_pos e, e, hsn]
              · rw [if_neg e]
            refine OK.t (by rw [d]) (hk _ _ _ _ _ _ _ _ (by omega) ⟨i + 1, rfl, hin, rfl, rfl, rfl, rfl, ?_, nI_1 i, hF, h98, fun o ho => ?_⟩)
            · rw [fb_ct_cong (fun o _ => (he o).symm)]
            · rw [he]; exact hst o ho
          · have hsn : snO A Y b i (onO A i) = false := by
              cases q : snO A Y b i (onO A i)
              · rfl
              · exact absurd (t3.mpr q) d
            refine OK.f (fun q => d ((nI_eq (by omega) (by omega)).mp q)) (OK.t (z_inb (by omega) (by omega)) (OK.t (z_inb (by omega) (by omega)) (OK.l (hk _ _ _ _ _ _ _ _ (by omega) ⟨i + 1, rfl, hin, rfl, rfl, rfl, rfl, ?_, nI_1 i, hF.tr (FX.w _ _ (by unfold PAs; omega)), ?_, fun o ho => ?_⟩))))
            · rw [nI_1]
              have h1 := fb_ct_upd (snO A Y b i) true o1
              rw [hsn, if_neg (by decide), if_pos rfl] at h1
              rw [fb_ct_cong (p := snO A Y b (i + 1)) (q := fun o => if o = onO A i then true else snO A Y b i o) (fun o _ => sn_y c o)]
              congr 1
              omega
            · rw [wI_g, if_neg (by omega)]; exact h98
            · rw [wI_g, sn_y c]
              by_cases e : o = onO A i
              · rw [if_pos ⟨rfl, e⟩, if_pos e]
                exact ⟨s + 1, Nat.le_refl _, rfl, by simp⟩
              · rw [if_neg (fun q => e q.2), if_neg e]; exact hst o ho
        · have he : ∀ o, snO A Y b (i + 1) o = snO A Y b i o := fun o => sn_n c o
          refine OK.f (fun q => c ?_) (hk _ _ _ _ _ _ _ _ (by omega) ⟨i + 1, rfl, hin, rfl, rfl, rfl, rfl, ?_, nI_1 i, hF, h98, fun o ho => ?_⟩)
          · revert q; cases Y i <;> cases b <;> decide
          · rw [fb_ct_cong (fun o _ => (he o).symm)]
          · rw [he]; exact hst o ho
      refine OK.f (nI_ge hin (by omega)) ?_
      rcases hY with ⟨e1, e2⟩ | ⟨f, hf, e1, e2⟩
      · refine OK.t e1 ?_
        rw [k8, pk_div (by omega) (by omega) (by omega), zm_isAhead hTu hN ho, cl_s]
        rw [e2] at b59 ⊢
        exact b59
      · rw [e1]
        refine OK.f (nI_n1 (by omega)) ?_
        rw [if_bt1 (by omega)]
        rw [e1] at b59
        by_cases c : bt (nI i) f = true
        · have : bI (Y i) = 1 := by rw [e2]; show bI (bt (nI i) f) = 1; rw [c]; rfl
          rw [this] at b59
          exact OK.t c b59
        · have : bI (Y i) = 0 := by rw [e2]; show bI (bt (nI i) f) = 0; rw [Bool.not_eq_true] at c; rw [c]; rfl
          rw [this] at b59
          exact OK.f c b59
    · have e : i = nWy A := by omega
      subst e
      refine OK.t (nI_le (Nat.le_refl _) (by omega)) (OK.s ⟨rfl, ⟨h98, fun k hk => ?_⟩, hF⟩)
      obtain ⟨t, t1, t2, -⟩ := hst k hk
      exact ⟨t, t1, t2⟩
  · have : fb_ct (snO A Y b 0) (cnO A (nWy A)) = 0 := fb_ct_zero.mpr (fun _ _ => rfl)
    rw [this]; rfl
  · obtain ⟨t, t1, t2⟩ := hS.2 o ho
    rw [wI_g, if_neg (by omega)]
    refine ⟨t, by omega, t2, ?_⟩
    constructor
    · intro h; omega
    · intro h; cases h
theorem zm_greater (hT : tol w = A) (hI : INV A) (hR : RKN w A (nWy A)) {s : Nat} (hS : STP w s) (hs : s < 900000) {x1 x2 x3 : Int32} {Y : Nat → Bool} (hY : (x1 = -1 ∧ Y = yO A x2 x3) ∨ ∃ f, f < 3 ∧ x1 = nI f ∧ Y = yF f) : OK (f_X12_greater x1 x2 x3 w) (fun q => q.1 = gR A Y ∧ STP q.2 (s + 2) ∧ FX PAs w q.2) := by
  unfold f_X12_greater
  refine OK.c ((zm_unlike hT hI hR hS (by omega) hY true).m (fun q h => ?_))
  obtain ⟨h1, h2, h3⟩ := h
  refine OK.c ((zm_unlike (PAs_t h3 hT) hI (hR.fr (fun a k e => h3.2 a k (by unfold PAs; omega))) h2 (by omega) hY false).m (fun q2 h => ?_))
  obtain ⟨g1, g2, g3⟩ := h
  refine OK.s ⟨?_, g2, h3.tr g3⟩
  rw [h1, g1]; rfl
end
