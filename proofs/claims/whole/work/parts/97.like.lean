/-! outcomes: like and unlike ways, numbered as they first come -/
def sI (A : Wd) (v p : Nat) : Int32 := nI (sumS A v p)
def likeS (A : Wd) (a b : Nat) : Bool := decide (∀ p, p < nPe A → sI A a p = sI A b p)
def frs (A : Wd) (v : Nat) : Bool := decide (∀ u, u < v → likeS A u v = false)
def cnO (A : Wd) (n : Nat) : Nat := fb_ct (frs A) n
def rpF (A : Wd) (v : Nat) : Nat → Nat
  | 0 => 0
  | k + 1 => if likeS A (rpF A v k) v = true then rpF A v k else k + 1
def rpO (A : Wd) (v : Nat) : Nat := rpF A v v
def onO (A : Wd) (v : Nat) : Nat := cnO A (rpO A v)
section
variable {A : Wd}
theorem like_rf (a : Nat) : likeS A a a = true := decide_eq_true (fun _ _ => rfl)
theorem like_sy {a b : Nat} (h : likeS A a b = true) : likeS A b a = true := decide_eq_true (fun p hp => (of_decide_eq_true h p hp).symm)
theorem like_tr {a b c : Nat} (h : likeS A a b = true) (k : likeS A b c = true) : likeS A a c = true := decide_eq_true (fun p hp => (of_decide_eq_true h p hp).trans (of_decide_eq_true k p hp))
theorem rp_pr (v : Nat) : ∀ k, rpF A v k ≤ k ∧ (likeS A (rpF A v k) v = true ∨ rpF A v k = k) ∧ ∀ u, u < rpF A v k → likeS A u v = false := by
  intro k
  induction k with
  | zero => exact ⟨Nat.le_refl _, Or.inr rfl, fun u hu => absurd hu (Nat.not_lt_zero u)⟩
  | succ k ih =>
    obtain ⟨i1, i2, i3⟩ := ih
    unfold rpF
    by_cases c : likeS A (rpF A v k) v = true
    · rw [if_pos c]; exact ⟨by omega, Or.inl c, i3⟩
    · rw [if_neg c]
      refine ⟨Nat.le_refl _, Or.inr rfl, fun u hu => ?_⟩
      have e : rpF A v k = k := i2.resolve_left c
      rw [e] at i3 c
      by_cases q : u = k
      · rw [q]; cases h : likeS A k v
        · rfl
        · exact absurd h c
      · exact i3 u (by omega)
theorem rp_le (v : Nat) : rpO A v ≤ v := (rp_pr v v).1
theorem rp_like (v : Nat) : likeS A (rpO A v) v = true := by
  rcases (rp_pr (A := A) v v).2.1 with h | h
  · exact h
  · unfold rpO; rw [h]; exact like_rf v
theorem rp_first (v : Nat) : frs A (rpO A v) = true := decide_eq_true (fun u hu => by
  cases h : likeS A u (rpO A v)
  · rfl
  · have := (rp_pr (A := A) v v).2.2 u hu
    rw [like_tr h (rp_like v)] at this
    cases this)
theorem rp_eq {u v : Nat} (h : likeS A u v = true) (hf : frs A u = true) (huv : u ≤ v) : rpO A v = u := by
  have h1 := (rp_pr (A := A) v v).2.2
  rcases Nat.lt_trichotomy (rpO A v) u with c | c | c
  · have := of_decide_eq_true hf (rpO A v) c
    rw [like_tr (rp_like v) (like_sy h)] at this
    cases this
  · exact c
  · have := h1 u c
    rw [h] at this
    cases this
theorem rp_cg {u v : Nat} (h : likeS A u v = true) : rpO A u = rpO A v := by
  rcases Nat.le_total u v with c | c
  · exact (rp_eq (like_tr (rp_like u) h) (rp_first u) (Nat.le_trans (rp_le u) c)).symm
  · exact rp_eq (like_tr (rp_like v) (like_sy h)) (rp_first v) (Nat.le_trans (rp_le v) c)
theorem on_cg {u v : Nat} (h : likeS A u v = true) : onO A u = onO A v := by unfold onO; rw [rp_cg h]
theorem on_f {v : Nat} (h : frs A v = true) : onO A v = cnO A v := by unfold onO; rw [rp_eq (like_rf v) h (Nat.le_refl _)]
theorem on_lt {v n : Nat} (h : v < n) : onO A v < cnO A n := by
  unfold onO cnO
  have h1 := rp_le (A := A) v
  have h2 := fb_ct_mono (frs A) (show rpO A v + 1 ≤ n by omega)
  rw [fb_ct_succ, if_pos (rp_first v)] at h2
  omega
theorem cn_s (v : Nat) : cnO A (v + 1) = cnO A v + if frs A v then 1 else 0 := rfl
theorem cn_le (n : Nat) : cnO A n ≤ n := fb_ct_le _ n
/-- unlike outcomes have unlike numbers -/
theorem on_inj {u v : Nat} (h : onO A u = onO A v) : likeS A u v = true := by
  unfold onO cnO at h
  have e : rpO A u = rpO A v := fb_ct_kth_one (rp_first u) (rp_first v) h
  have h1 := rp_like (A := A) u
  rw [e] at h1
  exact like_tr (like_sy h1) (rp_like v)
end
/-! the reference's hash -/
def hF (A : Wd) (v : Nat) : Nat → Int32
  | 0 => 17
  | p + 1 => 31 * hF A v p + sI A v p
def hX (h : Int32) : Int32 := (h ^^^ ((h.toUInt32 >>> (Int32.toUInt32 15 &&& Int32.toUInt32 31)).toInt32)) &&& 16383
def hpO (A : Wd) (v : Nat) : Nat := (hX (hF A v (nPe A))).toNatClampNeg
theorem hX_e (h : Int32) : hX h = nI (hX h).toNatClampNeg ∧ (hX h).toNatClampNeg < 16384 := by
  obtain ⟨j, hj, e⟩ := pk_andE (h ^^^ ((h.toUInt32 >>> (Int32.toUInt32 15 &&& Int32.toUInt32 31)).toInt32)) (m := 16383) 14 (by decide)
  unfold hX
  rw [e, nI_clamp (by omega)]
  exact ⟨rfl, by omega⟩
theorem hF_cg {A : Wd} {u v : Nat} (h : likeS A u v = true) : hpO A u = hpO A v := by
  have : ∀ p, p ≤ nPe A → hF A u p = hF A v p := by
    intro p
    induction p with
    | zero => intro _; rfl
    | succ p ih => intro hp; show 31 * hF A u p + sI A u p = 31 * hF A v p + sI A v p; rw [ih (by omega), of_decide_eq_true h p (by omega)]
  unfold hpO
  rw [this _ (Nat.le_refl _)]
/-! the reference's table -/
def TBL (w A : Wd) (n : Nat) : Prop := (∀ k, k < 16384 → w.1 54 k = -1 ∨ ∃ u, u < n ∧ frs A u = true ∧ w.1 54 k = nI u) ∧ (∀ u, u < n → frs A u = true → ∃ d, d < 16384 ∧ w.1 54 ((hpO A u + d) % 16384) = nI u ∧ ∀ e, e < d → ¬ w.1 54 ((hpO A u + e) % 16384) = -1) ∧ (∀ k k', k < 16384 → k' < 16384 → w.1 54 k = w.1 54 k' → ¬ w.1 54 k = -1 → k = k')
def SMS (w A : Wd) (n : Nat) : Prop := ∀ v, v < n → ∀ p, p < nPe A → w.1 51 (8 * v + p) = sI A v p
section
variable {w A : Wd}
theorem tbl_free {n : Nat} (hT : TBL w A n) (hn : n ≤ 5760) (h : Nat) : ∃ d, d < 16384 ∧ w.1 54 ((h + d) % 16384) = -1 := by
  refine Classical.byContradiction (fun hc => ?_)
  have hall : ∀ d, d < 16384 → ¬ w.1 54 ((h + d) % 16384) = -1 := fun d hd e => hc ⟨d, hd, e⟩
  have hu : ∀ d, d < 16384 → ∃ u, u < n ∧ w.1 54 ((h + d) % 16384) = nI u := fun d hd => by
    rcases hT.1 ((h + d) % 16384) (Nat.mod_lt _ (by omega)) with e | ⟨u, h1, -, h3⟩
    · exact absurd e (hall d hd)
    · exact ⟨u, h1, h3⟩
  have := fb_holes n 16384 (fun d => (w.1 54 ((h + d) % 16384)).toNatClampNeg) (fun d hd => by
    obtain ⟨u, h1, h2⟩ := hu d hd
    try dsimp only
    rw [h2, nI_clamp (by omega)]; exact h1) (fun i j hij hj e => by
    obtain ⟨u, h1, h2⟩ := hu i (by omega)
    obtain ⟨u', h1', h2'⟩ := hu j hj
    try dsimp only at e
    rw [h2, h2', nI_clamp (by omega), nI_clamp (by omega)] at e
    have := hT.2.2 ((h + i) % 16384) ((h + j) % 16384) (Nat.mod_lt _ (by omega)) (Nat.mod_lt _ (by omega)) (by rw [h2, h2', e]) (hall i (by omega))
    omega)
  omega
theorem zm_like (hT : tol w = A) (hN : NUM A) {n a b : Nat} (hS : SMS w A n) (ha : a < n) (hb : b < n) (hn : n ≤ 5760) : f_X12_isLike (nI a) (nI b) w = some (bI (likeS A a b), w) := by
  have h8 := hN.2.1.2
  have key : OK (f_X12_isLike (nI a) (nI b) w) (fun q => q = (bI (likeS A a b), w)) := by
    unfold f_X12_isLike
    refine lo4 (fun m y1 y2 y3 u => ∃ i, m = nPe A - i ∧ i ≤ nPe A ∧ y1 = nI a ∧ y2 = nI b ∧ y3 = nI i ∧ w = u ∧ ∀ p, p < i → sI A a p = sI A b p) ?_ fu (nPe A - 0) (nI a) (nI b) 0 w (by rw [fu_eq]; omega) ⟨0, rfl, Nat.zero_le _, rfl, rfl, rfl, rfl, fun p hp => absurd hp (Nat.not_lt_zero p)⟩
    rintro m k y1 y2 y3 u ⟨i, rfl, hi, rfl, rfl, rfl, rfl, hl⟩ hk
    rw [X12_isLike_b2, tol_0 hT 11 rfl, hN.2.1.1]
    by_cases hin : i < nPe A
    · refine OK.f (nI_ge hin (by omega)) ?_
      rw [ix8, ix8]
      refine OK.t (z_inb (by omega) (by omega)) (OK.t (z_inb (by omega) (by omega)) ?_)
      rw [nI_clamp (n := 8 * a + i) (by omega), nI_clamp (n := 8 * b + i) (by omega), hS a ha i hin, hS b hb i hin]
      by_cases c : sI A a i = sI A b i
      · refine OK.t c (hk _ _ _ _ _ (by omega) ⟨i + 1, rfl, hin, rfl, rfl, nI_1 i, rfl, fun p hp => ?_⟩)
        by_cases e : p = i
        · rw [e]; exact c
        · exact hl p (by omega)
      · refine OK.f c (OK.s ?_)
        rw [show likeS A a b = false from decide_eq_false (fun h => c (h i hin))]; rfl
    · have e : i = nPe A := by omega
      subst e
      refine OK.t (nI_le (Nat.le_refl _) (by omega)) (OK.s ?_)
      rw [show likeS A a b = true from decide_eq_true hl]; rfl
  obtain ⟨q, e, rfl⟩ := key
  exact e
/-- where a way's outcome stands, or would stand, in the table -/
theorem zm_probe (hT : tol w = A) (hN : NUM A) {v : Nat} (hv : v < 5760) (hS : SMS w A (v + 1)) (hB : TBL w A v) {R : Wd → Prop} (hR : ∀ d, d < 16384 → (∀ e, e < d → ¬ w.1 54 ((hpO A v + e) % 16384) = -1) → ((frs A v = true ∧ w.1 54 ((hpO A v + d) % 16384) = -1) ∨ (frs A v = false ∧ w.1 54 ((hpO A v + d) % 16384) = nI (rpO A v))) → OK (X12_nameOutcome_b82 (nI v) (nI ((hpO A v + d) % 16384)) w) R) : OK (X12_nameOutcome_b47_L (nI v) (nI (hpO A v)) w) R := by
  obtain ⟨D, hD, hDe⟩ := tbl_free hB (by omega) (hpO A v)
  have hp : hpO A v < 16384 := (hX_e _).2
  refine lo3 (fun m y1 y3 u => ∃ d, m = 16384 - d ∧ d ≤ D ∧ y1 = nI v ∧ y3 = nI ((hpO A v + d) % 16384) ∧ w = u ∧ ∀ e, e < d → ∃ x, x < v ∧ frs A x = true ∧ w.1 54 ((hpO A v + e) % 16384) = nI x ∧ likeS A x v = false) ?_ fu (16384 - 0) (nI v) (nI (hpO A v)) w (by rw [fu_eq]; omega) ⟨0, rfl, Nat.zero_le _, rfl, by rw [Nat.add_zero, Nat.mod_eq_of_lt hp], rfl, fun e he => absurd he (Nat.not_lt_zero e)⟩
  rintro m k y1 y3 u ⟨d, rfl, hd, rfl, rfl, rfl, hpre⟩ hk
  have hpos := Nat.mod_lt (hpO A v + d) (show 0 < 16384 by omega)
  have hne : ∀ e, e < d → ¬ w.1 54 ((hpO A v + e) % 16384) = -1 := fun e he q => by
    obtain ⟨x, hx, -, h3, -⟩ := hpre e he
    rw [h3] at q
    exact nI_n1 (by omega) q
  rw [X12_nameOutcome_b47, nI_clamp (by omega)]
  refine OK.t (z_inb (by omega) (by omega)) ?_
  rcases hB.1 _ hpos with c | ⟨x, hx, hfx, ex⟩
  · -- a free place: the way's outcome is new
    have hnew : frs A v = true := by
      refine decide_eq_true (fun y hy => ?_)
      cases hl : likeS A y v
      · rfl
      · have hr := rp_le (A := A) y
        have hlr : likeS A (rpO A y) v = true := like_tr (rp_like y) hl
        obtain ⟨d2, hd2, e2, hb2⟩ := hB.2.1 (rpO A y) (by omega) (rp_first y)
        rw [hF_cg hlr] at e2 hb2
        rcases Nat.lt_trichotomy d2 d with q | q | q
        · obtain ⟨z, hz, -, h3, h4⟩ := hpre d2 q
          rw [e2, nI_eq (by omega) (by omega)] at h3
          rw [← h3, hlr] at h4
          cases h4
        · rw [q, c] at e2
          exact absurd e2.symm (nI_n1 (by omega))
        · exact absurd c (hb2 d q)
    exact OK.t c (hR d (by omega) hne (Or.inl ⟨hnew, c⟩))
  · rw [ex]
    refine OK.f (nI_n1 (by omega)) (OK.t (z_inb (by omega) (by omega)) ?_)
    rw [zm_like hT hN hS (a := x) (b := v) (by omega) (by omega) (by omega), cl_s, if_b0]
    by_cases hl : likeS A x v = false
    · have hdD : d < D := by
        rcases Nat.lt_or_ge d D with q | q
        · exact q
        · have : d = D := by omega
          rw [this, hDe] at ex
          exact absurd ex.symm (nI_n1 (by omega))
      refine OK.t hl (OK.l (hk _ _ _ _ (by omega) ⟨d + 1, rfl, hdD, rfl, ?_, rfl, fun e he => ?_⟩))
      · rw [nI_1, pk_andN (by omega) 14 (by decide)]
        congr 1
        show ((hpO A v + d) % 16384 + 1) % 16384 = _
        omega
      · by_cases q : e = d
        · rw [q]; exact ⟨x, hx, hfx, ex, hl⟩
        · exact hpre e (by omega)
    · rw [Bool.not_eq_false] at hl
      have hnf : frs A v = false := decide_eq_false (fun h => by
        have := h x hx
        rw [hl] at this; cases this)
      refine OK.f (by rw [hl]; decide) (hR d (by omega) hne (Or.inr ⟨hnf, ?_⟩))
      rw [ex, rp_eq hl hfx (by omega)]
end
