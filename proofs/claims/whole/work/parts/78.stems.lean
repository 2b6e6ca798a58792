/-! stems -/
def anyF (g : Nat → Bool) : Nat → Bool
  | 0 => false
  | n + 1 => anyF g n || g n
theorem anyF_cg {g h : Nat → Bool} : ∀ n, (∀ k, k < n → g k = h k) → anyF g n = anyF h n := by
  intro n
  induction n with
  | zero => intro _; rfl
  | succ n ih => intro e; show (anyF g n || g n) = (anyF h n || h n); rw [ih (fun k hk => e k (by omega)), e n (by omega)]
theorem anyF_mo {g : Nat → Bool} {m : Nat} (h : anyF g m = true) : ∀ n, m ≤ n → anyF g n = true := by
  intro n
  induction n with
  | zero => intro hn; rw [show m = 0 by omega] at h; exact h
  | succ n ih =>
    intro hn
    by_cases e : m = n + 1
    · rw [← e]; exact h
    · show (anyF g n || g n) = true
      rw [ih (by omega), Bool.true_or]
theorem anyF_no {g : Nat → Bool} : ∀ n, (∀ k, k < n → g k = false) → anyF g n = false := by
  intro n
  induction n with
  | zero => intro _; rfl
  | succ n ih => intro e; show (anyF g n || g n) = false; rw [ih (fun k hk => e k (by omega)), e n (by omega)]; rfl
def stF (A : Wd) : Nat → Nat → Bool
  | 0, _ => false
  | f + 1, p => !ddS A p || anyF (fun k => decide (p < k) && (decide (A.1 4 k = nI p) && stF A f k)) (nPe A)
theorem stF_st {A : Wd} : ∀ f g p, nPe A - p < f → nPe A - p < g → stF A f p = stF A g p := by
  intro f
  induction f with
  | zero => intro g p h; omega
  | succ f ih =>
    intro g p h h2
    obtain ⟨g, rfl⟩ : ∃ g', g = g' + 1 := ⟨g - 1, by omega⟩
    show (!ddS A p || anyF _ (nPe A)) = (!ddS A p || anyF _ (nPe A))
    congr 1
    refine anyF_cg _ (fun k hk => ?_)
    by_cases c : p < k
    · rw [ih g k (by omega) (by omega)]
    · rw [decide_eq_false c, Bool.false_and, Bool.false_and]
def stS (A : Wd) (p : Nat) : Bool := stF A 9 p
def ssS (A : Wd) (of : Int32) (k : Nat) : Bool := decide (k < nPe A) && ((if of = -1 then decide (A.1 3 k = 1) else decide (A.1 4 k = of)) && stS A k)
theorem ss_lt {A : Wd} {of : Int32} {k : Nat} (h : ssS A of k = true) : k < nPe A := by
  unfold ssS at h
  rw [Bool.and_eq_true] at h
  exact of_decide_eq_true h.1
theorem ss_kin {A : Wd} (hPe : PEI A) (h8 : nPe A ≤ 8) {p k : Nat} (hp : p < nPe A) (h : ssS A (nI p) k = true) : p < k := by
  have hk := ss_lt h
  unfold ssS at h
  rw [Bool.and_eq_true, Bool.and_eq_true, if_neg (nI_n1 (by omega))] at h
  have e := of_decide_eq_true h.2.1
  rcases (hPe.1 k hk).2.2.1 with q | ⟨j, hj, q⟩
  · rw [q] at e; exact absurd e.symm (nI_n1 (by omega))
  · rw [q, nI_eq (by omega) (by omega)] at e; omega
section
variable {w A : Wd}
theorem zm_stem (hT : tol w = A) (hN : NUM A) : ∀ n p, p < nPe A → nPe A - p < n → f_X12_isStem_n n (nI p) w = some (bI (stF A n p), w) := by
  have h8 := hN.2.1.2
  intro n
  induction n with
  | zero => intro p _ h; omega
  | succ n ih =>
    intro p hp hn
    show X12_isStem_body (f_X12_isStem_n n) (nI p) w = _
    have loop : ∀ b : Bool, b = !ddS A p → X12_isStem_b14 (f_X12_isStem_n n) (nI p) (bI b) w = some (bI (stF A (n + 1) p), w) := by
      intro b hb
      unfold X12_isStem_b14
      rw [lt_s', nI_1]
      have hg : ∀ k, k ≤ p + 1 → anyF (fun k => decide (p < k) && (decide (A.1 4 k = nI p) && stF A n k)) k = false := fun k hk => anyF_no k (fun j hj => by rw [decide_eq_false (by omega), Bool.false_and])
      have hfin : stF A (n + 1) p = (b || anyF (fun k => decide (p < k) && (decide (A.1 4 k = nI p) && stF A n k)) (nPe A)) := by rw [hb]; rfl
      have key : OK (X12_isStem_b19_L (f_X12_isStem_n n) (nI p) (bI b) (nI (p + 1)) w) (fun q => q = (bI (stF A (n + 1) p), w)) := by
        refine lo4 (fun m y1 y2 y3 v => ∃ k, m = nPe A - k ∧ p + 1 ≤ k ∧ k ≤ nPe A ∧ y1 = nI p ∧ y2 = bI (b || anyF (fun k => decide (p < k) && (decide (A.1 4 k = nI p) && stF A n k)) k) ∧ y3 = nI k ∧ v = w) ?_ fu (nPe A - (p + 1)) (nI p) (bI b) (nI (p + 1)) w (by rw [fu_eq]; omega) ⟨p + 1, rfl, Nat.le_refl _, hp, rfl, by rw [hg _ (Nat.le_refl _), Bool.or_false], rfl, rfl⟩
        rintro m k' a1 a2 a3 v ⟨k, rfl, hk1, hk2, rfl, rfl, rfl, rfl⟩ hk
        rw [X12_isStem_b19, tol_0 hT 11 rfl, hN.2.1.1]
        by_cases hin : k < nPe A
        · refine OK.f (nI_ge hin (by omega)) ?_
          rw [if_b0]
          by_cases c : (b || anyF (fun k => decide (p < k) && (decide (A.1 4 k = nI p) && stF A n k)) k) = false
          · refine OK.t c (OK.t (z_inb (by omega) (by omega)) ?_)
            rw [nI_clamp (by omega), tol_a hT 4 k (by omega)]
            have hs : (b || anyF (fun k => decide (p < k) && (decide (A.1 4 k = nI p) && stF A n k)) (k + 1)) = (decide (A.1 4 k = nI p) && stF A n k) := by
              show (b || (anyF (fun k => decide (p < k) && (decide (A.1 4 k = nI p) && stF A n k)) k || (decide (p < k) && (decide (A.1 4 k = nI p) && stF A n k)))) = _
              rw [← Bool.or_assoc, c, Bool.false_or, decide_eq_true (by omega), Bool.true_and]
            by_cases c2 : A.1 4 k = nI p
            · refine OK.t c2 ?_
              rw [ih k hin (by omega), cl_s, if_b0]
              rw [decide_eq_true c2, Bool.true_and] at hs
              by_cases c3 : stF A n k = false
              · refine OK.t c3 (hk _ _ _ _ _ (by omega) ⟨k + 1, rfl, by omega, hin, rfl, ?_, nI_1 k, rfl⟩)
                rw [hs, c3]; rfl
              · rw [Bool.not_eq_false] at c3
                refine OK.f (by rw [c3]; decide) (hk _ _ _ _ _ (by omega) ⟨k + 1, rfl, by omega, hin, rfl, ?_, nI_1 k, rfl⟩)
                rw [hs, c3]; rfl
            · refine OK.f c2 (hk _ _ _ _ _ (by omega) ⟨k + 1, rfl, by omega, hin, rfl, ?_, nI_1 k, rfl⟩)
              rw [hs, decide_eq_false c2]; rfl
          · rw [Bool.not_eq_false] at c
            refine OK.f (by rw [c]; decide) (OK.t (bI_B _) (OK.s ?_))
            rw [hfin, c]
            rw [Bool.or_eq_true] at c
            rcases c with c | c
            · rw [c, Bool.true_or]
            · rw [anyF_mo c (nPe A) (by omega), Bool.or_true]
        · have e : k = nPe A := by omega
          subst e
          refine OK.t (nI_le (Nat.le_refl _) (by omega)) (OK.t (bI_B _) (OK.s ?_))
          rw [hfin]
      obtain ⟨q, e, rfl⟩ := key
      exact e
    unfold X12_isStem_body
    rw [z_inb (by omega) (by omega), if_pos rfl, nI_clamp (by omega), tol_a hT 7 p (by omega)]
    by_cases c : A.1 7 p = 0
    · rw [if_pos c]
      exact loop true (by unfold ddS; rw [decide_eq_false (fun q => q c)]; rfl)
    · rw [if_neg c]
      exact loop false (by unfold ddS; rw [decide_eq_true c]; rfl)
theorem zm_stemOf (hT : tol w = A) (hN : NUM A) {of : Int32} {k : Nat} (hk : k < nPe A) : f_X12_isStemOf (nI k) of w = some (bI (ssS A of k), w) := by
  have h8 := hN.2.1.2
  have hb : X12_isStemOf_b28 (nI k) w = some (bI (stS A k), w) := by
    unfold X12_isStemOf_b28
    rw [show f_X12_isStem = f_X12_isStem_n 9 from rfl, zm_stem hT hN 9 k hk (by omega), cl_s, if_b0]
    unfold stS
    cases stF A 9 k <;> rfl
  unfold f_X12_isStemOf ssS
  rw [decide_eq_true hk, Bool.true_and, z_inb (by omega) (by omega), nI_clamp (by omega), tol_a hT 3 k (by omega), tol_a hT 4 k (by omega), hb]
  by_cases c : of = -1
  · rw [if_pos c, if_pos c, if_pos rfl]
    by_cases c2 : A.1 3 k = 1
    · rw [if_pos c2, decide_eq_true c2, Bool.true_and]
    · rw [if_neg c2, decide_eq_false c2, Bool.false_and]; rfl
  · rw [if_neg c, if_neg c, if_pos rfl]
    by_cases c2 : A.1 4 k = of
    · rw [if_pos c2, decide_eq_true c2, Bool.true_and]
    · rw [if_neg c2, decide_eq_false c2, Bool.false_and]; rfl
end
def vG (A : Wd) (rec : Nat → Nat → Nat → Nat) (of : Int32) (m i k : Nat) : Nat := if ssS A of k = true then (if ddS A k = true then rec k (eqP (ssS A of) m k) i else if i = k then eqP (ssS A of) m k else 0) else 0
def vF (A : Wd) : Nat → Int32 → Nat → Nat → Nat
  | 0, _, _, _ => 0
  | f + 1, of, m, i => fb_sm (vG A (fun k a j => vF A f (nI k) a j) of m i) (nPe A)
theorem eqP_le {set : Nat → Bool} (hs : ∀ i, set i = true → i < 8) {m i : Nat} : eqP set m i ≤ m := by
  unfold eqP
  by_cases c : set i = true
  · rw [if_pos c]
    have hi := hs i c
    have hpos : 0 < fb_ct set 8 := fb_ct_pos.mpr ⟨i, hi, c⟩
    have h1 : fb_ct set i + 1 ≤ fb_ct set 8 := by
      have h := fb_ct_mono set (show i + 1 ≤ 8 by omega)
      rw [fb_ct_succ, if_pos c] at h
      exact h
    have h2 := Nat.div_add_mod m (fb_ct set 8)
    have h3 := Nat.mod_lt m hpos
    have h4 : m / fb_ct set 8 ≤ fb_ct set 8 * (m / fb_ct set 8) := Nat.le_mul_of_pos_left _ hpos
    split
    · omega
    · omega
  · rw [if_neg c]; omega
theorem ss_8 {A : Wd} (h8 : nPe A ≤ 8) {of : Int32} : ∀ i, ssS A of i = true → i < 8 := fun i h => by have := ss_lt h; omega
