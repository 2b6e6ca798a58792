/-! least and greatest over all ways -/
def MIN (n : Nat) (F : Nat → Nat) (m : Nat) : Prop := (∃ v, v < n ∧ F v = m) ∧ ∀ v, v < n → m ≤ F v
def MAX (n : Nat) (F : Nat → Nat) (m : Nat) : Prop := (∃ v, v < n ∧ F v = m) ∧ ∀ v, v < n → F v ≤ m
theorem MIN.eq {n : Nat} {F : Nat → Nat} {a b : Nat} (h : MIN n F a) (k : MIN n F b) : a = b := by
  obtain ⟨⟨x, hx, e1⟩, h2⟩ := h
  obtain ⟨⟨y, hy, e2⟩, k2⟩ := k
  have := h2 y hy
  have := k2 x hx
  omega
theorem MAX.eq {n : Nat} {F : Nat → Nat} {a b : Nat} (h : MAX n F a) (k : MAX n F b) : a = b := by
  obtain ⟨⟨x, hx, e1⟩, h2⟩ := h
  obtain ⟨⟨y, hy, e2⟩, k2⟩ := k
  have := h2 y hy
  have := k2 x hx
  omega
theorem MIN.st {n : Nat} {F : Nat → Nat} {a : Nat} (h : MIN n F a) : MIN (n + 1) F (if F n < a then F n else a) := by
  obtain ⟨⟨x, hx, e1⟩, h2⟩ := h
  by_cases c : F n < a
  · rw [if_pos c]
    refine ⟨⟨n, by omega, rfl⟩, fun v hv => ?_⟩
    by_cases e : v = n
    · rw [e]; exact Nat.le_refl _
    · have := h2 v (by omega); omega
  · rw [if_neg c]
    refine ⟨⟨x, by omega, e1⟩, fun v hv => ?_⟩
    by_cases e : v = n
    · rw [e]; omega
    · exact h2 v (by omega)
theorem MAX.st {n : Nat} {F : Nat → Nat} {a : Nat} (h : MAX n F a) : MAX (n + 1) F (if F n ≤ a then a else F n) := by
  obtain ⟨⟨x, hx, e1⟩, h2⟩ := h
  by_cases c : F n ≤ a
  · rw [if_pos c]
    refine ⟨⟨x, by omega, e1⟩, fun v hv => ?_⟩
    by_cases e : v = n
    · rw [e]; omega
    · exact h2 v (by omega)
  · rw [if_neg c]
    refine ⟨⟨n, by omega, rfl⟩, fun v hv => ?_⟩
    by_cases e : v = n
    · rw [e]; exact Nat.le_refl _
    · have := h2 v (by omega); omega
theorem MIN.one (F : Nat → Nat) : MIN 1 F (F 0) := ⟨⟨0, by omega, rfl⟩, fun v hv => by rw [show v = 0 by omega]; exact Nat.le_refl _⟩
theorem MAX.one (F : Nat → Nat) : MAX 1 F (F 0) := ⟨⟨0, by omega, rfl⟩, fun v hv => by rw [show v = 0 by omega]; exact Nat.le_refl _⟩
/-- the first way of an outcome -/
theorem kth_o {A : Wd} {n o : Nat} (h : o < cnO A n) : ∃ x, x < n ∧ frs A x = true ∧ cnO A x = o := by
  unfold cnO at h
  obtain ⟨x, h1, h2, h3⟩ := fb_ct_kth h
  exact ⟨x, h1, h2, h3⟩
def fxO (A : Wd) (F : Nat → Nat) (n o m : Nat) : Prop := ∃ x, x < n ∧ frs A x = true ∧ cnO A x = o ∧ F x = m
theorem min_o {A : Wd} {n : Nat} {F G : Nat → Nat} (hF : ∀ a b, a < n → b < n → likeS A a b = true → F a = F b) (hG : ∀ x, x < n → frs A x = true → G (cnO A x) = F x) {m : Nat} (h : MIN (cnO A n) G m) : MIN n F m := by
  obtain ⟨⟨o, ho, e⟩, h2⟩ := h
  obtain ⟨x, h3, h4, h5⟩ := kth_o ho
  refine ⟨⟨x, h3, by rw [← hG x h3 h4, h5, e]⟩, fun v hv => ?_⟩
  have hr := rp_le (A := A) v
  rw [← hF _ _ (by omega) hv (rp_like v), ← hG _ (by omega) (rp_first v)]
  exact h2 _ (on_lt hv)
theorem max_o {A : Wd} {n : Nat} {F G : Nat → Nat} (hF : ∀ a b, a < n → b < n → likeS A a b = true → F a = F b) (hG : ∀ x, x < n → frs A x = true → G (cnO A x) = F x) {m : Nat} (h : MAX (cnO A n) G m) : MAX n F m := by
  obtain ⟨⟨o, ho, e⟩, h2⟩ := h
  obtain ⟨x, h3, h4, h5⟩ := kth_o ho
  refine ⟨⟨x, h3, by rw [← hG x h3 h4, h5, e]⟩, fun v hv => ?_⟩
  have hr := rp_le (A := A) v
  rw [← hF _ _ (by omega) hv (rp_like v), ← hG _ (by omega) (rp_first v)]
  exact h2 _ (on_lt hv)
theorem cn_pos {A : Wd} {n : Nat} (h : 0 < n) : 0 < cnO A n := by
  have : frs A 0 = true := decide_eq_true (fun u hu => absurd hu (Nat.not_lt_zero u))
  exact Nat.lt_of_le_of_lt (Nat.zero_le _) (cn_lt h this)
/-- what a set of people gets by a way -/
def fS (A : Wd) (set : Int32) (n v : Nat) : Nat := fb_sm (fun p => if bt set p = true then sumS A v p else 0) n
theorem fS_lt {A : Wd} (hI : INV A) (hPe : PEI A) {v : Nat} (hv : v < nWy A) (set : Int32) {n : Nat} (hn : n ≤ 8) : fS A set n v ≤ 1600000000 := by
  have := fb_sm_bound (f := fun p => if bt set p = true then sumS A v p else 0) (c := 200000000) (n := n) (fun p hp => by
    have := sum_lt hI hPe hv (i := p) (by omega)
    show (if bt set p = true then sumS A v p else 0) ≤ _
    split <;> omega)
  exact Nat.le_trans this (Nat.le_trans (Nat.mul_le_mul_right _ hn) (by decide))
theorem sI_inj {A : Wd} (hI : INV A) (hPe : PEI A) {a b p : Nat} (ha : a < nWy A) (hb : b < nWy A) (hp : p < 8) (h : sI A a p = sI A b p) : sumS A a p = sumS A b p := by
  have h1 := sum_lt hI hPe ha hp
  have h2 := sum_lt hI hPe hb hp
  unfold sI at h
  exact (nI_eq (by omega) (by omega)).mp h
theorem fS_cg {A : Wd} (hI : INV A) (hPe : PEI A) (set : Int32) {a b : Nat} (ha : a < nWy A) (hb : b < nWy A) (h : likeS A a b = true) : fS A set 8 a = fS A set 8 b := fb_sm_cong (fun p hp => by
  show (if bt set p = true then sumS A a p else 0) = (if bt set p = true then sumS A b p else 0)
  rw [sI_inj hI hPe ha hb hp (like_8 hI hPe h hp)])
theorem fS_8 {A : Wd} (hI : INV A) (hPe : PEI A) (set : Int32) (v : Nat) : fS A set (nPe A) v = fS A set 8 v := by
  have h8 := hI.1.2.1.2
  unfold fS
  obtain ⟨d, hd⟩ : ∃ d, 8 = nPe A + d := ⟨8 - nPe A, by omega⟩
  rw [hd, fb_sm_split, sm_0 (f := fun k => if bt set (nPe A + k) = true then sumS A v (nPe A + k) else 0) (fun k hk => by
    show (if bt set (nPe A + k) = true then sumS A v (nPe A + k) else 0) = 0
    rw [sum_hi hI hPe (by omega) (by omega)]; split <;> rfl), Nat.add_zero]
theorem fS_1 {A : Wd} {p : Nat} (hp : p < 8) (v : Nat) : fS A (1 <<< (nI p &&& 31)) 8 v = sumS A v p := by
  unfold fS
  have e : fb_sm (fun q => if bt (1 <<< (nI p &&& 31)) q = true then sumS A v q else 0) 8 = fb_sm (fun k => if p = k then sumS A v k else 0) 8 := fb_sm_cong (fun q hq => by
    show (if bt (1 <<< (nI p &&& 31)) q = true then _ else _) = _
    rw [z_one (by omega) (by omega)]
    by_cases c : p = q
    · rw [if_pos (decide_eq_true c.symm), if_pos c]
    · rw [if_neg (by rw [decide_eq_false (fun q => c q.symm)]; decide), if_neg c])
  rw [e, sm_one, if_pos hp]
/-- what stands in an outcome's row -/
def gO (w : Wd) (set : Int32) (n o : Nat) : Nat := fb_sm (fun p => if bt set p = true then (w.1 18 (8 * o + p)).toNatClampNeg else 0) n
theorem row_e {w A : Wd} {cp : Nat} (hI : INV A) (hPe : PEI A) (hO : OUTR w A cp) {o p : Nat} (ho : o < cnO A (nWy A)) (hp : p < 8) : w.1 18 (8 * o + p) = nI (w.1 18 (8 * o + p)).toNatClampNeg ∧ (w.1 18 (8 * o + p)).toNatClampNeg < 200000000 := by
  obtain ⟨x, h1, h2, h3⟩ := kth_o ho
  have := hO.1.2.2.2.1 x h1 h2 p hp
  rw [h3] at this
  have hl := sum_lt hI hPe h1 hp
  rw [this]
  unfold sI
  rw [nI_clamp (by omega)]
  exact ⟨rfl, hl⟩
theorem gO_e {w A : Wd} {cp : Nat} (hI : INV A) (hPe : PEI A) (hO : OUTR w A cp) (set : Int32) {x : Nat} (hx : x < nWy A) (hf : frs A x = true) : gO w set 8 (cnO A x) = fS A set 8 x := fb_sm_cong (fun p hp => by
  have hl := sum_lt hI hPe hx hp
  show (if bt set p = true then (w.1 18 (8 * cnO A x + p)).toNatClampNeg else 0) = _
  rw [hO.1.2.2.2.1 x hx hf p hp]
  unfold sI
  rw [nI_clamp (by omega)])
section
variable {w A : Wd}
theorem zc_least {cp : Nat} (hI : INV A) (hPe : PEI A) (hO : OUTR w A cp) (hn : 0 < nWy A) (set : Int32) : OK (f_X5_leastOf cp set w) (fun q => (∃ m, q.1 = nI m ∧ MIN (nWy A) (fS A set 8) m) ∧ q.2 = w) := by
  have hN := hI.1
  have hW := nWy_le hN
  have hcl := cn_le (A := A) (nWy A)
  have hcp := hO.1.2.1.2
  unfold CAP at hcp
  have hc0 := cn_pos (A := A) hn
  have hsz := hO.1.2.2.1
  have gb : ∀ o, o < cnO A (nWy A) → gO w set 8 o ≤ 1600000000 := fun o ho => by
    obtain ⟨x, h1, h2, h3⟩ := kth_o ho
    rw [← h3, gO_e hI hPe hO set h1 h2]
    exact fS_lt hI hPe h1 set (Nat.le_refl _)
  unfold f_X5_leastOf
  refine lo4 (fun m y1 y2 y3 u => ∃ o, m = cnO A (nWy A) - o ∧ o ≤ cnO A (nWy A) ∧ set = y1 ∧ y3 = nI o ∧ w = u ∧ (o = 0 ∨ ∃ mm, y2 = nI mm ∧ MIN o (gO w set 8) mm)) ?_ fu (cnO A (nWy A) - 0) set 0 0 w (by rw [fu_eq]; omega) ⟨0, rfl, Nat.zero_le _, rfl, rfl, rfl, Or.inl rfl⟩
  rintro m k y1 y2 y3 u ⟨o, rfl, ho, rfl, rfl, rfl, hm⟩ hk
  rw [X5_leastOf_b4, hO.1.1]
  by_cases hin : o < cnO A (nWy A)
  · refine OK.f (nI_ge hin (by omega)) ?_
    refine lo6 (fun m z1 z2 z3 z4 z5 u => ∃ i, m = 8 - i ∧ i ≤ 8 ∧ set = z1 ∧ y2 = z2 ∧ z3 = nI o ∧ z4 = nI (gO w set i o) ∧ z5 = nI i ∧ w = u) ?_ fu (8 - 0) set y2 (nI o) 0 0 w (by rw [fu_eq]; omega) ⟨0, rfl, Nat.zero_le _, rfl, rfl, rfl, rfl, rfl, rfl⟩
    rintro m k2 z1 z2 z3 z4 z5 u ⟨i, rfl, hi, rfl, rfl, rfl, rfl, rfl, rfl⟩ hk2
    rw [X5_leastOf_b18]
    by_cases hi8 : i < 8
    · refine OK.f (nI_ge (b := 8) hi8 (by omega)) ?_
      rw [if_bt (by omega)]
      by_cases c : bt set i = false
      · refine OK.t c (hk2 _ _ _ _ _ _ _ (by omega) ⟨i + 1, rfl, hi8, rfl, rfl, rfl, ?_, nI_1 i, rfl⟩)
        show _ = nI (gO w set i o + if bt set i = true then _ else 0)
        rw [if_neg (by rw [c]; decide), Nat.add_zero]
      · have c' : bt set i = true := by rw [Bool.not_eq_false] at c; exact c
        refine OK.f c ?_
        rw [i8x]
        refine OK.t (z_inb (by omega) (by omega)) (OK.l (hk2 _ _ _ _ _ _ _ (by omega) ⟨i + 1, rfl, hi8, rfl, rfl, rfl, ?_, nI_1 i, rfl⟩))
        rw [nI_clamp (n := 8 * o + i) (by omega)]
        show _ = nI (gO w set i o + if bt set i = true then _ else 0)
        rw [if_pos c', (row_e hI hPe hO hin hi8).1, nI_add, ← (row_e hI hPe hO hin hi8).1]
    · have e : i = 8 := by omega
      subst e
      have hb := gb o hin
      refine OK.t (by rfl) ?_
      by_cases c : o = 0
      · subst c
        exact OK.t rfl (hk _ _ _ _ _ (by omega) ⟨1, rfl, hin, rfl, rfl, rfl, Or.inr ⟨_, rfl, MIN.one _⟩⟩)
      · refine OK.f (fun q => c ((nI_eq (by omega) (by omega)).mp q)) (OK.l ?_)
        obtain ⟨mm, e1, e2⟩ := hm.resolve_left c
        obtain ⟨x, hx, hxe⟩ := e2.1
        have hbx := gb x (by omega)
        rw [e1]
        refine hk _ _ _ _ _ (by omega) ⟨o + 1, rfl, hin, rfl, nI_1 o, rfl, Or.inr ⟨_, ?_, e2.st⟩⟩
        by_cases q : gO w set 8 o < mm
        · rw [if_pos q, if_pos (nI_lt q (by omega))]
        · rw [if_neg q, if_neg (fun h => by rw [z_lt, nI_toInt (by omega), nI_toInt (by omega)] at h; omega)]
  · have e : o = cnO A (nWy A) := by omega
    subst e
    refine OK.t (nI_le (Nat.le_refl _) (by omega)) (OK.s ⟨?_, rfl⟩)
    obtain ⟨mm, e1, e2⟩ := hm.resolve_left (by omega)
    exact ⟨mm, e1, min_o (fun a b ha hb hl => fS_cg hI hPe set ha hb hl) (fun x hx hf => gO_e hI hPe hO set hx hf) e2⟩
theorem zc_greatest {cp : Nat} (hI : INV A) (hPe : PEI A) (hO : OUTR w A cp) (hn : 0 < nWy A) {p : Nat} (hp : p < 8) : OK (f_X5_greatestOf cp (nI p) w) (fun q => (∃ m, q.1 = nI m ∧ MAX (nWy A) (fun v => sumS A v p) m) ∧ q.2 = w) := by
  have hN := hI.1
  have hW := nWy_le hN
  have hcl := cn_le (A := A) (nWy A)
  have hcp := hO.1.2.1.2
  unfold CAP at hcp
  have hc0 := cn_pos (A := A) hn
  have hsz := hO.1.2.2.1
  unfold f_X5_greatestOf
  refine lo4 (fun m y1 y2 y3 u => ∃ o, m = cnO A (nWy A) - o ∧ o ≤ cnO A (nWy A) ∧ y1 = nI p ∧ y3 = nI o ∧ w = u ∧ ((o = 0 ∧ y2 = nI 0) ∨ ∃ mm, y2 = nI mm ∧ MAX o (fun o => (w.1 18 (8 * o + p)).toNatClampNeg) mm)) ?_ fu (cnO A (nWy A) - 0) (nI p) 0 0 w (by rw [fu_eq]; omega) ⟨0, rfl, Nat.zero_le _, rfl, rfl, rfl, Or.inl ⟨rfl, rfl⟩⟩
  rintro m k y1 y2 y3 u ⟨o, rfl, ho, rfl, rfl, rfl, hm⟩ hk
  rw [X5_greatestOf_b4, hO.1.1]
  by_cases hin : o < cnO A (nWy A)
  · refine OK.f (nI_ge hin (by omega)) ?_
    obtain ⟨r1, r2⟩ := row_e hI hPe hO hin hp
    rw [i8x]
    refine OK.t (z_inb (by omega) (by omega)) (OK.l ?_)
    rw [nI_clamp (n := 8 * o + p) (by omega), r1]
    refine hk _ _ _ _ _ (by omega) ⟨o + 1, rfl, hin, rfl, nI_1 o, rfl, Or.inr ?_⟩
    rcases hm with ⟨e1, e2⟩ | ⟨mm, e1, e2⟩
    · subst e1
      refine ⟨(w.1 18 (8 * 0 + p)).toNatClampNeg, ?_, MAX.one _⟩
      rw [e2]
      by_cases q : (w.1 18 (8 * 0 + p)).toNatClampNeg = 0
      · rw [q]; rfl
      · rw [if_pos (nI_lt (by omega) (by omega))]
    · obtain ⟨x, hx, hxe⟩ := e2.1
      have hbx := (row_e hI hPe hO (o := x) (by omega) hp).2
      have hst := e2.st
      refine ⟨_, ?_, hst⟩
      try dsimp only at hxe ⊢
      rw [e1]
      by_cases q : (w.1 18 (8 * o + p)).toNatClampNeg ≤ mm
      · rw [if_pos q, if_neg (fun h => by rw [z_lt, nI_toInt (by omega), nI_toInt (by omega)] at h; omega)]
      · rw [if_neg q, if_pos (nI_lt (by omega) (by omega))]
  · have e : o = cnO A (nWy A) := by omega
    subst e
    refine OK.t (nI_le (Nat.le_refl _) (by omega)) (OK.s ⟨?_, rfl⟩)
    rcases hm with ⟨e1, e2⟩ | ⟨mm, e1, e2⟩
    · omega
    · refine ⟨mm, e1, max_o (fun a b ha hb hl => sI_inj hI hPe ha hb hp (like_8 hI hPe hl hp)) (fun x hx hf => ?_) e2⟩
      have hl := sum_lt hI hPe hx hp
      show (w.1 18 (8 * cnO A x + p)).toNatClampNeg = _
      rw [hO.1.2.2.2.1 x hx hf p hp]
      unfold sI
      rw [nI_clamp (by omega)]
/-! the reference's -/
theorem zm_sumOf (hT : tol w = A) (hI : INV A) (hPe : PEI A) (hR : RKN w A (nWy A)) (set : Int32) {v : Nat} (hv : v < nWy A) : f_X12_sumOf set (nI v) w = some (nI (fS A set 8 v), w) := by
  have hN := hI.1
  have h8 := hN.2.1.2
  have hW := nWy_le hN
  have key : OK (f_X12_sumOf set (nI v) w) (fun q => q = (nI (fS A set 8 v), w)) := by
    unfold f_X12_sumOf
    refine lo5 (fun m y1 y2 y3 y4 u => ∃ i, m = nPe A - i ∧ i ≤ nPe A ∧ set = y1 ∧ y2 = nI v ∧ y3 = nI (fS A set i v) ∧ y4 = nI i ∧ w = u) ?_ fu (nPe A - 0) set (nI v) 0 0 w (by rw [fu_eq]; omega) ⟨0, rfl, Nat.zero_le _, rfl, rfl, rfl, rfl, rfl⟩
    rintro m k y1 y2 y3 y4 u ⟨i, rfl, hi, rfl, rfl, rfl, rfl, rfl⟩ hk
    rw [X12_sumOf_b5, tol_0 hT 11 rfl, hN.2.1.1]
    by_cases hin : i < nPe A
    · refine OK.f (nI_ge hin (by omega)) ?_
      rw [if_bt1 (by omega)]
      by_cases c : bt set i = true
      · refine OK.t c ?_
        rw [ix8]
        refine OK.t (z_inb (by omega) (by omega)) (OK.l (hk _ _ _ _ _ _ (by omega) ⟨i + 1, rfl, hin, rfl, rfl, ?_, nI_1 i, rfl⟩))
        rw [nI_clamp (n := 8 * v + i) (by omega), hR.1 v hv i hin]
        show _ = nI (fS A set i v + if bt set i = true then sumS A v i else 0)
        unfold sI
        rw [if_pos c, nI_add]
      · refine OK.f c (OK.l (hk _ _ _ _ _ _ (by omega) ⟨i + 1, rfl, hin, rfl, rfl, ?_, nI_1 i, rfl⟩))
        show nI (fS A set i v) + nI 0 = nI (fS A set i v + if bt set i = true then sumS A v i else 0)
        rw [if_neg c, nI_add]
    · have e : i = nPe A := by omega
      subst e
      refine OK.t (nI_le (Nat.le_refl _) (by omega)) (OK.s ?_)
      rw [fS_8 hI hPe]
  obtain ⟨q, e, rfl⟩ := key
  exact e
def RKC (w A : Wd) : Prop := w.1 0 78 = 0 ∨ RKN w A (nWy A) ∧ w.1 0 78 = 1
theorem zm_least (hT : tol w = A) (hI : INV A) (hPe : PEI A) (hc : RKC w A) (set : Int32) : OK (f_X12_leastOf set w) (fun q => ((nWy A = 0 ∧ q.1 = -1) ∨ ∃ m, q.1 = nI m ∧ MIN (nWy A) (fS A set 8) m) ∧ RKN q.2 A (nWy A) ∧ q.2.1 0 78 = 1 ∧ FX PRk w q.2) := by
  have hN := hI.1
  have hW := nWy_le hN
  unfold f_X12_leastOf
  refine OK.v ((zm_reckon hT hI hPe hc).m (fun w1 h => ?_))
  obtain ⟨hR, h78, hF⟩ := h
  have hT1 := PRk_t hF hT
  refine lo4 (fun m y1 y2 y3 u => ∃ i, m = nWy A - i ∧ i ≤ nWy A ∧ set = y1 ∧ y3 = nI i ∧ w1 = u ∧ ((i = 0 ∧ y2 = -1) ∨ ∃ mm, y2 = nI mm ∧ MIN i (fS A set 8) mm)) ?_ fu (nWy A - 0) set (-1) 0 w1 (by rw [fu_eq]; omega) ⟨0, rfl, Nat.zero_le _, rfl, rfl, rfl, Or.inl ⟨rfl, rfl⟩⟩
  rintro m k y1 y2 y3 u ⟨i, rfl, hi, rfl, rfl, rfl, hm⟩ hk
  rw [X12_leastOf_b8, zm_ways hT1 hN, cl_s]
  by_cases hin : i < nWy A
  · refine OK.f (nI_ge hin (by omega)) ?_
    have hb := fS_lt hI hPe hin set (Nat.le_refl 8)
    rcases hm with ⟨e1, e2⟩ | ⟨mm, e1, e2⟩
    · subst e1
      refine OK.t e2 ?_
      rw [zm_sumOf hT1 hI hPe hR set hin, cl_s]
      exact hk _ _ _ _ _ (by omega) ⟨1, rfl, hin, rfl, rfl, rfl, Or.inr ⟨_, rfl, MIN.one _⟩⟩
    · obtain ⟨x, hx, hxe⟩ := e2.1
      have hbx := fS_lt hI hPe (show x < nWy A by omega) set (Nat.le_refl 8)
      rw [e1]
      refine OK.f (nI_n1 (by omega)) ?_
      rw [zm_sumOf hT1 hI hPe hR set hin, cl_s]
      refine OK.l (hk _ _ _ _ _ (by omega) ⟨i + 1, rfl, hin, rfl, nI_1 i, rfl, Or.inr ⟨_, ?_, e2.st⟩⟩)
      by_cases q : fS A set 8 i < mm
      · rw [if_pos q, if_pos (nI_lt q (by omega))]
      · rw [if_neg q, if_neg (fun h => q ((nI_ltI (by omega) (by omega)).mp h))]
  · have e : i = nWy A := by omega
    subst e
    refine OK.t (nI_le (Nat.le_refl _) (by omega)) (OK.s ⟨?_, hR, h78, hF⟩)
    rcases hm with ⟨e1, e2⟩ | ⟨mm, e1, e2⟩
    · exact Or.inl ⟨e1, e2⟩
    · exact Or.inr ⟨mm, e1, e2⟩
end
