/-! how great a sum can be -/
theorem plV_le {A : Wd} (hPe : PEI A) (h8 : nPe A ≤ 8) {l : Nat} (hl : l < nLa A) {cn vo : Nat → Bool} {o m i : Nat} (hi : i < 8) : plV A l cn vo o m i ≤ 512 * m := by
  unfold plV
  split
  · rename_i set h
    have := eqP_le (rh_8 h8 h).2 (m := m) (i := i)
    omega
  · split
    · rw [← pass_kv hPe h8 l m hi]
      have h1 := ps_le h8 (P := fun i => if i < 8 then p0S A l m i else 0) (M := 2 * m) (fun i => by
        have hle := hrs_le hPe (m := m) hl
        show (if i < 8 then p0S A l m i else 0) ≤ 2 * m
        split
        · unfold p0S
          have := eqP_le (ss_8 h8 (of := -1)) (m := m - hrsS A l m) (i := i)
          split <;> omega
        · omega) (nPe A) i
      have h2 : 2 ^ nPe A ≤ 2 ^ 8 := Nat.pow_le_pow_right (by omega) h8
      have h3 : 2 ^ nPe A * (2 * m) ≤ 2 ^ 8 * (2 * m) := Nat.mul_le_mul_right _ h2
      have h4 : 2 ^ 8 * (2 * m) = 512 * m := by omega
      omega
    · omega
theorem sum_lt {A : Wd} (hI : INV A) (hPe : PEI A) {way i : Nat} (hw : way < nWy A) (hi : i < 8) : sumS A way i < 200000000 := by
  have hN := hI.1
  have h8 := hN.2.1.2
  have hT8 := hN.2.2.1.2
  obtain ⟨ho, h0⟩ := nWy_or hw
  have hm1 : (A.1 0 14).toNatClampNeg < 100000 := (hPe.2.2.2.1.e (by omega)).2
  have hlM : lwM A < nLa A := lwX_lt hI.2.1 hN h0 (x := -1) (Or.inl rfl)
  have h1 : mL A way i ≤ 512 * (thM A - alS A (pyW A way)) := plV_le hPe h8 hlM hi
  have h2 : thM A - alS A (pyW A way) ≤ 100000 := by unfold thM; omega
  have h3 : mP A way i ≤ 3300000 := by
    unfold mP pdS pdF
    have hlen : (pyW A way).length ≤ 32 := py_32 hI ho
    have hPY : PYL A (pyW A way) := py_PYL _
    have := fb_sm_bound (f := fun k => if toS A (gdL (pyW A way) k) = i then amS A (pyW A way) k else 0) (c := 100000) (n := (pyW A way).length) (fun k hk => by
      have hp := (pm_e hI hPY hk).2.2.1
      have ha : amS A (pyW A way) k ≤ 100000 := by
        unfold amS
        have ho : owS A (pyW A way) k ≤ 99999 := by
          unfold owS
          split
          · exact hp
          · rename_i c
            have hle : pmS A (gdL (pyW A way) k) * thM A / alS A (pyW A way) ≤ pmS A (gdL (pyW A way) k) := by
              have hpos : 0 < alS A (pyW A way) := by omega
              refine Nat.div_le_of_le_mul ?_
              rw [Nat.mul_comm (alS A (pyW A way))]
              exact Nat.mul_le_mul_left _ (by omega)
            omega
        split <;> omega
      split <;> omega)
    have h4 : (pyW A way).length * 100000 ≤ 32 * 100000 := Nat.mul_le_mul_right _ hlen
    omega
  have h4 : smT A way (nTh A) i ≤ 8 * 5200000 := by
    unfold smT
    have := fb_sm_bound (f := fun t => tV A way t i) (c := 5200000) (n := nTh A) (fun t ht => by
      obtain ⟨v, h5, h6, h7⟩ := hPe.2.2.1 t ht
      have hwt : wtS A t ≤ 9999 := by unfold wtS; rw [h7, nI_clamp (by omega)]; omega
      have hl : lwT A t < nLa A := lwX_lt hI.2.1 hN h0 (x := nI t) (Or.inr ⟨t, ht, rfl⟩)
      show tV A way t i ≤ _
      unfold tV thV
      split
      · split <;> omega
      · have := plV_le hPe h8 hl (cn := cnU A (lwT A t) way) (vo := voU A (lwT A t) way) (o := way / 8) (m := wtS A t) hi
        omega)
    exact Nat.le_trans this (Nat.mul_le_mul_right _ hT8)
  unfold sumS
  omega
theorem sum_hi {A : Wd} (hI : INV A) (hPe : PEI A) {way i : Nat} (hi : nPe A ≤ i) (hi8 : i < 8) : sumS A way i = 0 := by
  have h8 := hI.1.2.1.2
  unfold sumS mP mL smT
  rw [plV_hi hPe h8 hi hi8]
  have h1 : pdS A (pyW A way) i = 0 := pd_hi hI (py_PYL _) hi _ (Nat.le_refl _)
  have h2 : fb_sm (fun t => tV A way t i) (nTh A) = 0 := sm_0 (fun t _ => by show tV A way t i = 0; unfold tV; exact thV_hi hI hPe hi hi8)
  rw [h1, h2]
theorem like_8 {A : Wd} (hI : INV A) (hPe : PEI A) {a b : Nat} (h : likeS A a b = true) {p : Nat} (hp : p < 8) : sI A a p = sI A b p := by
  rcases Nat.lt_or_ge p (nPe A) with q | q
  · exact of_decide_eq_true h p q
  · unfold sI; rw [sum_hi hI hPe q hp, sum_hi hI hPe q hp]
theorem like_i {A : Wd} (h8 : nPe A ≤ 8) {a b : Nat} (h : ∀ p, p < 8 → sI A a p = sI A b p) : likeS A a b = true := decide_eq_true (fun p hp => h p (by omega))
/-! the desk's hash and chains -/
def hcF (A : Wd) (v : Nat) : Nat → Int32
  | 0 => 0
  | p + 1 => hcF A v p * 31 + sI A v p
def hcX (h : Int32) : Int32 := ((h ^^^ ((h.toUInt32 >>> (Int32.toUInt32 8 &&& Int32.toUInt32 31)).toInt32)) ^^^ ((h.toUInt32 >>> (Int32.toUInt32 16 &&& Int32.toUInt32 31)).toInt32)) &&& 255
def hcO (A : Wd) (v : Nat) : Nat := (hcX (hcF A v 8)).toNatClampNeg
theorem hcX_e (h : Int32) : hcX h = nI (hcX h).toNatClampNeg ∧ (hcX h).toNatClampNeg < 256 := by
  obtain ⟨j, hj, e⟩ := pk_andE ((h ^^^ ((h.toUInt32 >>> (Int32.toUInt32 8 &&& Int32.toUInt32 31)).toInt32)) ^^^ ((h.toUInt32 >>> (Int32.toUInt32 16 &&& Int32.toUInt32 31)).toInt32)) (m := 255) 8 (by decide)
  unfold hcX
  rw [e, nI_clamp (by omega)]
  exact ⟨rfl, by omega⟩
theorem hc_cg {A : Wd} (hI : INV A) (hPe : PEI A) {u v : Nat} (h : likeS A u v = true) : hcO A u = hcO A v := by
  have : ∀ p, p ≤ 8 → hcF A u p = hcF A v p := by
    intro p
    induction p with
    | zero => intro _; rfl
    | succ p ih => intro hp; show hcF A u p * 31 + sI A u p = hcF A v p * 31 + sI A v p; rw [ih (by omega), like_8 hI hPe h (by omega)]
  unfold hcO
  rw [this _ (Nat.le_refl _)]
def ltO (A : Wd) (c : Nat) : Nat → Int32
  | 0 => -1
  | n + 1 => if frs A n = true ∧ hcO A n = c then nI (cnO A n) else ltO A c n
theorem lt_pr {A : Wd} {c : Nat} : ∀ m, (ltO A c m = -1 ∧ ∀ x, x < m → frs A x = true → ¬ hcO A x = c) ∨ (∃ x, x < m ∧ frs A x = true ∧ hcO A x = c ∧ ltO A c m = nI (cnO A x) ∧ ∀ y, x < y → y < m → frs A y = true → ¬ hcO A y = c) := by
  intro m
  induction m with
  | zero => exact Or.inl ⟨rfl, fun x hx => absurd hx (Nat.not_lt_zero x)⟩
  | succ m ih =>
    by_cases q : frs A m = true ∧ hcO A m = c
    · exact Or.inr ⟨m, by omega, q.1, q.2, if_pos q, fun y h1 h2 => by omega⟩
    · have e : ltO A c (m + 1) = ltO A c m := if_neg q
      rw [e]
      rcases ih with ⟨h1, h2⟩ | ⟨x, h1, h2, h3, h4, h5⟩
      · refine Or.inl ⟨h1, fun x hx hf hc => ?_⟩
        by_cases g : x = m
        · rw [g] at hf hc; exact q ⟨hf, hc⟩
        · exact h2 x (by omega) hf hc
      · refine Or.inr ⟨x, by omega, h2, h3, h4, fun y h6 h7 hf hc => ?_⟩
        by_cases g : y = m
        · rw [g] at hf hc; exact q ⟨hf, hc⟩
        · exact h5 y h6 (by omega) hf hc
def CAP (cp : Nat) : Prop := cp = 32 ∨ cp = 64 ∨ cp = 128 ∨ cp = 256 ∨ cp = 512 ∨ cp = 1024 ∨ cp = 2048 ∨ cp = 4096 ∨ cp = 8192
def RM (w : Wd) (cp : Nat) : Prop := w.1 16 4 = nI cp ∧ CAP cp
def OUT (w A : Wd) (cp n : Nat) : Prop := w.1 16 1 = nI (cnO A n) ∧ RM w cp ∧ cnO A n ≤ cp ∧ (∀ x, x < n → frs A x = true → ∀ p, p < 8 → w.1 18 (8 * cnO A x + p) = sI A x p) ∧ (∀ c, c < 256 → w.1 21 c = ltO A c n) ∧ (∀ x, x < n → frs A x = true → w.1 19 (cnO A x) = ltO A (hcO A x) x)
def POu (a k : Nat) : Prop := (a = 16 ∧ (k = 1 ∨ k = 4)) ∨ (18 ≤ a ∧ a ≤ 21)
theorem OUT.fr {w w' A : Wd} {cp n : Nat} (h : OUT w A cp n) (f : ∀ a k, POu a k → w'.1 a k = w.1 a k) : OUT w' A cp n := by
  refine ⟨?_, ⟨?_, h.2.1.2⟩, h.2.2.1, fun x hx hf p hp => ?_, fun c hc => ?_, fun x hx hf => ?_⟩
  · rw [f 16 1 (by unfold POu; omega)]; exact h.1
  · rw [f 16 4 (by unfold POu; omega)]; exact h.2.1.1
  · rw [f 18 _ (by unfold POu; omega)]; exact h.2.2.2.1 x hx hf p hp
  · rw [f 21 _ (by unfold POu; omega)]; exact h.2.2.2.2.1 c hc
  · rw [f 19 _ (by unfold POu; omega)]; exact h.2.2.2.2.2 x hx hf
theorem OUT.old {w A : Wd} {cp v : Nat} (h : OUT w A cp v) (hf : frs A v = false) : OUT w A cp (v + 1) := by
  have ec : cnO A (v + 1) = cnO A v := by rw [cn_s, hf]; rfl
  have el : ∀ c, ltO A c (v + 1) = ltO A c v := fun c => if_neg (fun q => by rw [hf] at q; cases q.1)
  have ho : ∀ x, x < v + 1 → frs A x = true → x < v := fun x hx hfx => by
    rcases Nat.lt_or_ge x v with q | q
    · exact q
    · have : x = v := by omega
      rw [this, hf] at hfx; cases hfx
  refine ⟨by rw [ec]; exact h.1, h.2.1, by rw [ec]; exact h.2.2.1, fun x hx hfx => h.2.2.2.1 x (ho x hx hfx) hfx, fun c hc => by rw [el]; exact h.2.2.2.2.1 c hc, fun x hx hfx => h.2.2.2.2.2 x (ho x hx hfx) hfx⟩
theorem cn_lt {A : Wd} {x v : Nat} (h : x < v) (hf : frs A x = true) : cnO A x < cnO A v := by
  have := fb_ct_mono (frs A) (show x + 1 ≤ v by omega)
  rw [fb_ct_succ, if_pos hf] at this
  unfold cnO; omega
theorem OK.cm {α β : Type} {x : Option (α × Wd × Nat)} {f : α → Wd → Nat → Option β} {P : β → Prop} (h : OK x (fun p => OK (f p.1 p.2.1 p.2.2) P)) : OK (clm x f) P := by
  obtain ⟨⟨a, w, c⟩, e, p⟩ := h; subst e; exact p
theorem OK.vm {β : Type} {x : Option (Wd × Nat)} {f : Wd → Nat → Option β} {P : β → Prop} (h : OK x (fun p => OK (f p.1 p.2) P)) : OK (cvm x f) P := by
  obtain ⟨⟨w, c⟩, e, p⟩ := h; subst e; exact p
theorem i8x (o i : Nat) : nI o * 8 + nI i = nI (8 * o + i) := by rw [k8, pk_mul, nI_add, Nat.mul_comm]
section
variable {w A : Wd}
theorem zc_addB {cp v : Nat} (hv : v < 5760) (hf : frs A v = true) (h1 : w.1 16 1 = nI (cnO A v)) (hR : RM w cp) (hlt : cnO A v < cp) (h18 : ∀ x, x < v → frs A x = true → ∀ p, p < 8 → w.1 18 (8 * cnO A x + p) = sI A x p) (h21 : ∀ c, c < 256 → w.1 21 c = ltO A c v) (h19 : ∀ x, x < v → frs A x = true → w.1 19 (cnO A x) = ltO A (hcO A x) x) (hP : ∀ p, p < 8 → w.1 11 p = sI A v p) : OK (X5_addBody cp (nI (hcO A v)) w) (fun q => q.1 = nI (cnO A v) ∧ OUT q.2.1 A q.2.2 (v + 1) ∧ FX POu w q.2.1 ∧ cp ≤ q.2.2) := by
  have hcp : cp ≤ 8192 := by have := hR.2; unfold CAP at this; omega
  have hc : hcO A v < 256 := (hcX_e _).2
  have hcv := cn_le (A := A) v
  unfold X5_addBody
  rw [h1, k8, pk_mul]
  have e8 : Int32.toNatClampNeg (nI (cnO A v * 8)) = cnO A v * 8 := nI_clamp (by omega)
  have e88 : Int32.toNatClampNeg (nI 8) = 8 := rfl
  have e80 : Int32.toNatClampNeg 0 = 0 := rfl
  refine OK.t (decide_eq_true ⟨by decide, ?_, by decide, ?_, ?_⟩) (OK.l ?_)
  · intro q; rw [z_lt, nI_toInt (by omega)] at q; have : (0 : Int32).toInt = 0 := rfl; omega
  · rw [e80, e88]; omega
  · rw [e8, e88]; omega
  rw [e8, e88, e80]
  generalize hw1 : wC w 18 (va_cpy (w.1 11) (w.1 18) 0 (cnO A v * 8) 8) = w1
  have g : ∀ a k, ¬ a = 18 → w1.1 a k = w.1 a k := fun a k ha => by rw [← hw1, wC_g, if_neg ha]
  have g18 : ∀ k, w1.1 18 k = if cnO A v * 8 ≤ k ∧ k < cnO A v * 8 + 8 then w.1 11 (0 + (k - cnO A v * 8)) else w.1 18 k := fun k => by rw [← hw1, wC_g, if_pos rfl]; rfl
  have gl : w1.2 = w.2 := by rw [← hw1]; rfl
  rw [g 16 1 (by omega), h1, nI_clamp (n := hcO A v) (by omega), g 21 _ (by omega), nI_clamp (n := cnO A v) (by omega)]
  refine OK.t (z_inb (by omega) (by omega)) (OK.t (z_inb (by omega) (by omega)) (OK.l (OK.t (z_inb (by omega) (by omega)) (OK.l (OK.l (OK.s ?_))))))
  have e16 : (wI (wI w1 19 (cnO A v) (w.1 21 (hcO A v))) 21 (hcO A v) ((wI w1 19 (cnO A v) (w.1 21 (hcO A v))).1 16 1)).1 16 1 = nI (cnO A v) := by
    rw [wI_g, if_neg (by omega), wI_g, if_neg (by omega), g 16 1 (by omega), h1]
  have e16' : (wI w1 19 (cnO A v) (w.1 21 (hcO A v))).1 16 1 = nI (cnO A v) := by
    rw [wI_g, if_neg (by omega), g 16 1 (by omega), h1]
  rw [e16, e16', nI_1]
  refine ⟨by show (wI _ 16 1 _).1 16 1 - nI 1 = _; rw [wI_g, if_pos ⟨rfl, rfl⟩, pk_sub (by omega)]; rfl, ⟨?_, ⟨?_, hR.2⟩, ?_, fun x hx hfx p hp => ?_, fun c hc2 => ?_, fun x hx hfx => ?_⟩, ?_⟩
  · simp only [wI_g]
    rw [if_pos ⟨trivial, trivial⟩, cn_s, if_pos hf]
  · simp only [wI_g]
    rw [if_neg (by omega), if_neg (by omega), if_neg (by omega), g 16 4 (by omega)]; exact hR.1
  · show _ ≤ cp
    rw [cn_s, if_pos hf]; omega
  · simp only [wI_g]
    rw [if_neg (by omega), if_neg (by omega), if_neg (by omega), g18]
    by_cases c : x = v
    · rw [c, if_pos (by omega), show 0 + (8 * cnO A v + p - cnO A v * 8) = p by omega]; exact hP p hp
    · have hxv : x < v := by omega
      have := cn_lt hxv hfx
      rw [if_neg (by omega)]; exact h18 x hxv hfx p hp
  · simp only [wI_g]
    rw [if_neg (by omega)]
    show _ = if frs A v = true ∧ hcO A v = c then nI (cnO A v) else ltO A c v
    by_cases e : c = hcO A v
    · rw [if_pos ⟨trivial, e⟩, if_pos ⟨hf, e.symm⟩]
    · rw [if_neg (fun q => e q.2), if_neg (by omega), if_neg (fun q => e q.2.symm), g 21 _ (by omega)]; exact h21 c hc2
  · simp only [wI_g]
    rw [if_neg (by omega), if_neg (by omega)]
    by_cases c : x = v
    · rw [c, if_pos ⟨trivial, rfl⟩]; exact h21 _ hc
    · have hxv : x < v := by omega
      have := cn_lt hxv hfx
      rw [if_neg (by omega), g 19 _ (by omega)]; exact h19 x hxv hfx
  · refine ⟨?_, Nat.le_refl _⟩
    have f1 : FX POu w w1 := ⟨gl, fun a k hn => g a k (fun e => hn (by unfold POu; omega))⟩
    exact ((f1.tr (FX.w _ _ (by unfold POu; omega))).tr (FX.w _ _ (by unfold POu; omega))).tr (FX.w _ _ (by unfold POu; omega))
theorem zc_addRow {cp v : Nat} (hv : v < 5760) (hf : frs A v = true) (hO : OUT w A cp v) (hP : ∀ p, p < 8 → w.1 11 p = sI A v p) : OK (f_X5_addRow cp (nI (hcO A v)) w) (fun q => q.1 = nI (cnO A v) ∧ OUT q.2.1 A q.2.2 (v + 1) ∧ FX POu w q.2.1 ∧ cp ≤ q.2.2) := by
  obtain ⟨h1, hR, hle, h18, h21, h19⟩ := hO
  have hcp := hR.2
  unfold CAP at hcp
  have hcv := cn_le (A := A) v
  unfold f_X5_addRow
  rw [h1, hR.1]
  by_cases c : cnO A v < cp
  · exact OK.t (by rw [z_lt, nI_toInt (by omega), nI_toInt (by omega)]; omega) (zc_addB hv hf h1 hR c h18 h21 h19 hP)
  · refine OK.f (by rw [z_lt, nI_toInt (by omega), nI_toInt (by omega)]; omega) (OK.l ?_)
    have e2 : nI cp * 2 = nI (2 * cp) := by show nI cp * nI 2 = _; rw [pk_mul, Nat.mul_comm]
    rw [e2]
    refine OK.t ⟨by rw [wI_g, if_pos ⟨rfl, rfl⟩]; rfl, by omega, by omega⟩ ?_
    have g : ∀ a k, ¬ (a = 16 ∧ k = 4) → (a < 18 ∨ 20 < a) → (grW cp (wI w 16 4 (nI (2 * cp)))).1 a k = w.1 a k := fun a k h2 h3 => by
      show (if a = 18 then _ else if a = 19 then _ else if a = 20 then _ else (wI w 16 4 (nI (2 * cp))).1 a) k = _
      rw [if_neg (by omega), if_neg (by omega), if_neg (by omega), wI_g, if_neg h2]
    have g18 : ∀ k, k < 8 * cp → (grW cp (wI w 16 4 (nI (2 * cp)))).1 18 k = w.1 18 k := fun k hk => by
      show (if 0 ≤ k ∧ k < 0 + 8 * cp then (wI w 16 4 (nI (2 * cp))).1 18 (0 + (k - 0)) else 0) = _
      rw [if_pos ⟨by omega, by omega⟩, wI_g, if_neg (by omega), show 0 + (k - 0) = k by omega]
    have g19 : ∀ k, k < cp → (grW cp (wI w 16 4 (nI (2 * cp)))).1 19 k = w.1 19 k := fun k hk => by
      show (if 0 ≤ k ∧ k < 0 + cp then (wI w 16 4 (nI (2 * cp))).1 19 (0 + (k - 0)) else 0) = _
      rw [if_pos ⟨by omega, by omega⟩, wI_g, if_neg (by omega), show 0 + (k - 0) = k by omega]
    have f1 : FX POu w (grW cp (wI w 16 4 (nI (2 * cp)))) := ⟨rfl, fun a k hn => g a k (fun e => hn (by unfold POu; omega)) (by unfold POu at hn; omega)⟩
    have g4 : (grW cp (wI w 16 4 (nI (2 * cp)))).1 16 4 = nI (2 * cp) := by
      have : ∀ a, a < 18 → (grW cp (wI w 16 4 (nI (2 * cp)))).1 a = (wI w 16 4 (nI (2 * cp))).1 a := fun a ha => by
        show (if a = 18 then _ else if a = 19 then _ else if a = 20 then _ else (wI w 16 4 (nI (2 * cp))).1 a) = _
        rw [if_neg (by omega), if_neg (by omega), if_neg (by omega)]
      rw [this 16 (by omega), wI_g, if_pos ⟨rfl, rfl⟩]
    refine (zc_addB (cp := 2 * cp) hv hf ((g 16 1 (by omega) (by omega)).trans h1) ⟨g4, by unfold CAP; omega⟩ (by omega) (fun x hx hfx p hp => ?_) (fun c hc => (g 21 c (by omega) (by omega)).trans (h21 c hc)) (fun x hx hfx => ?_) (fun p hp => (g 11 p (by omega) (by omega)).trans (hP p hp))).m (fun q h => ⟨h.1, h.2.1, f1.tr h.2.2.1, by have := h.2.2.2; omega⟩)
    · have := cn_lt hx hfx
      rw [g18 _ (by omega)]; exact h18 x hx hfx p hp
    · have := cn_lt hx hfx
      rw [g19 _ (by omega)]; exact h19 x hx hfx
theorem zc_isRow {cp x v n : Nat} (hI : INV A) (hPe : PEI A) (hO : OUT w A cp n) (hx : x < n) (hf : frs A x = true) (hP : ∀ p, p < 8 → w.1 11 p = sI A v p) : f_X5_isRow cp (nI (cnO A x)) w = some (bI (likeS A x v), w) := by
  have hcp := hO.2.1.2
  unfold CAP at hcp
  have hlt := cn_lt hx hf
  have hle := hO.2.2.1
  have key : OK (f_X5_isRow cp (nI (cnO A x)) w) (fun q => q = (bI (likeS A x v), w)) := by
    unfold f_X5_isRow
    refine lo3 (fun m y1 y3 u => ∃ i, m = 8 - i ∧ i ≤ 8 ∧ y1 = nI (cnO A x) ∧ y3 = nI i ∧ w = u ∧ ∀ p, p < i → sI A x p = sI A v p) ?_ fu (8 - 0) (nI (cnO A x)) 0 w (by rw [fu_eq]; omega) ⟨0, rfl, Nat.zero_le _, rfl, rfl, rfl, fun p hp => absurd hp (Nat.not_lt_zero p)⟩
    rintro m k y1 y3 u ⟨i, rfl, hi, rfl, rfl, rfl, hl⟩ hk
    rw [X5_isRow_b2, i8x]
    by_cases hin : i < 8
    · refine OK.f (nI_ge (b := 8) hin (by omega)) (OK.t (z_inb (by omega) (by omega)) (OK.t (z_inb (by omega) (by omega)) ?_))
      rw [nI_clamp (n := 8 * cnO A x + i) (by omega), nI_clamp (n := i) (by omega), hO.2.2.2.1 x hx hf i hin, hP i hin]
      by_cases c : sI A x i = sI A v i
      · refine OK.t c (hk _ _ _ _ (by omega) ⟨i + 1, rfl, hin, rfl, nI_1 i, rfl, fun p hp => ?_⟩)
        by_cases e : p = i
        · rw [e]; exact c
        · exact hl p (by omega)
      · refine OK.f c (OK.s ?_)
        cases h : likeS A x v
        · rfl
        · exact absurd (like_8 hI hPe h hin) c
    · have e : i = 8 := by omega
      subst e
      refine OK.t (by rfl) (OK.s ?_)
      rw [like_i hI.1.2.1.2 hl]; rfl
  obtain ⟨q, e, rfl⟩ := key
  exact e
theorem zc_numberOf {cp v : Nat} (hI : INV A) (hPe : PEI A) (hv : v < 5760) (hO : OUT w A cp v) (hP : ∀ p, p < 8 → w.1 11 p = sI A v p) : OK (f_X5_numberOf cp w) (fun q => q.1 = nI (onO A v) ∧ OUT q.2.1 A q.2.2 (v + 1) ∧ FX POu w q.2.1 ∧ cp ≤ q.2.2) := by
  have hcp := hO.2.1.2
  unfold CAP at hcp
  have hle := hO.2.2.1
  have hcv := cn_le (A := A) v
  have hc : hcO A v < 256 := (hcX_e _).2
  have hnew : (∀ x, x < v → frs A x = true → hcO A x = hcO A v → likeS A x v = false) → OK (X5_numberOf_b89 cp (nI (hcO A v)) w) (fun q => q.1 = nI (onO A v) ∧ OUT q.2.1 A q.2.2 (v + 1) ∧ FX POu w q.2.1 ∧ cp ≤ q.2.2) := by
    intro h
    have hf : frs A v = true := decide_eq_true (fun u hu => by
      cases q : likeS A u v
      · rfl
      · have h1 : likeS A (rpO A u) v = true := like_tr (rp_like u) q
        have := h (rpO A u) (Nat.lt_of_le_of_lt (rp_le u) hu) (rp_first u) (hc_cg hI hPe h1)
        rw [h1] at this; cases this)
    unfold X5_numberOf_b89
    refine OK.cm ((zc_addRow hv hf hO hP).m (fun q h => OK.s ?_))
    rw [on_f hf]; exact h
  unfold f_X5_numberOf X5_numberOf_b4_L
  refine lo4 (fun m y0 y2 y3 u => ∃ i, m = 8 - i ∧ i ≤ 8 ∧ cp = y0 ∧ y2 = hcF A v i ∧ y3 = nI i ∧ w = u) ?_ fu (8 - 0) cp 0 0 w (by rw [fu_eq]; omega) ⟨0, rfl, Nat.zero_le _, rfl, rfl, rfl, rfl⟩
  rintro m k y0 y2 y3 u ⟨i, rfl, hi, rfl, rfl, rfl, rfl⟩ hk
  show OK (X5_numberOf_b4 cp k (hcF A v i) (nI i) w) _
  rw [X5_numberOf_b4]
  by_cases hin : i < 8
  · refine OK.f (nI_ge (b := 8) hin (by omega)) (OK.t (z_inb (by omega) (by omega)) (OK.l ?_))
    rw [nI_clamp (n := i) (by omega), hP i hin]
    exact hk _ _ _ _ _ (by omega) ⟨i + 1, rfl, hin, rfl, rfl, nI_1 i, rfl⟩
  · have e : i = 8 := by omega
    subst e
    refine OK.t (by rfl) (OK.l ?_)
    have e2 : (((hcF A v 8 ^^^ (((hcF A v 8).toUInt32 >>> (Int32.toUInt32 8 &&& Int32.toUInt32 31)).toInt32)) ^^^ (((hcF A v 8).toUInt32 >>> (Int32.toUInt32 16 &&& Int32.toUInt32 31)).toInt32)) &&& 255) = nI (hcO A v) := (hcX_e _).1
    rw [e2]
    refine OK.t (z_inb (by omega) (by omega)) (OK.l ?_)
    rw [nI_clamp (n := hcO A v) (by omega), hO.2.2.2.2.1 _ hc]
    unfold X5_numberOf_b51_L
    clear hk
    refine lo5 (fun m y0 y2 y3 y4 u => ∃ t s, m = t ∧ t ≤ v ∧ cp = y0 ∧ y2 = nI (hcO A v) ∧ y3 = ltO A (hcO A v) t ∧ y4 = nI s ∧ s + cnO A t ≤ cnO A v ∧ w = u ∧ ∀ x, t ≤ x → x < v → frs A x = true → hcO A x = hcO A v → likeS A x v = false) ?_ fu v cp (nI (hcO A v)) _ 0 w (by rw [fu_eq]; omega) ⟨v, 0, rfl, Nat.le_refl _, rfl, rfl, rfl, rfl, by omega, rfl, fun x h1 h2 => by omega⟩
    rintro m k y0 y2 y3 y4 u ⟨t, s, rfl, ht, rfl, rfl, rfl, rfl, hs, rfl, hno⟩ hk
    show OK (X5_numberOf_b51 cp k (nI (hcO A v)) (ltO A (hcO A v) m) (nI s) w) _
    rw [X5_numberOf_b51, hO.1]
    rcases lt_pr (A := A) (c := hcO A v) m with ⟨h1, h2⟩ | ⟨x, h1, h2, h3, h4, h5⟩
    · have hn := hnew (fun x hx hf hcx => by
        rcases Nat.lt_or_ge x m with q | q
        · exact absurd hcx (h2 x q hf)
        · exact hno x q hx hf hcx)
      rw [h1]
      exact OK.i (fun _ => hn) (fun _ => OK.t rfl hn)
    · have hx := cn_lt h1 h2
      have hxv : x < v := by omega
      rw [h4]
      refine OK.f (nI_ge (by omega) (by omega)) (OK.f (nI_n1 (by omega)) ?_)
      rw [zc_isRow hI hPe hO hxv h2 hP, cl_s, if_b0]
      by_cases c : likeS A x v = false
      · refine OK.t c (OK.t (z_inb (by omega) (by omega)) (OK.l ?_))
        rw [nI_clamp (n := cnO A x) (by omega), hO.2.2.2.2.2 x hxv h2, h3]
        refine hk _ _ _ _ _ _ h1 ⟨x, s + 1, rfl, by omega, rfl, rfl, rfl, nI_1 s, by omega, rfl, fun y g1 g2 gf gc => ?_⟩
        by_cases e : y = x
        · rw [e]; exact c
        · rcases Nat.lt_or_ge y m with q | q
          · exact absurd gc (h5 y (by omega) q gf)
          · exact hno y q g2 gf gc
      · rw [Bool.not_eq_false] at c
        refine OK.f (by rw [c]; decide) (OK.s ?_)
        have hnf : frs A v = false := decide_eq_false (fun h => by
          have := h x hxv
          rw [c] at this; cases this)
        refine ⟨?_, hO.old hnf, FX.rf _ _, Nat.le_refl _⟩
        rw [← on_cg c, on_f h2]
end
