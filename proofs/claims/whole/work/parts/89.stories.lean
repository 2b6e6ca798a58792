/-! stories -/
def NMR (x y : Int32) : Prop := (∃ k, k < 4 ∧ y = nI k ∧ x = nI k) ∨ (∃ e, e < 3 ∧ y = nI (10 + e) ∧ x = nI (16 + e))
def STI (A m : Wd) : Prop := (m.1 0 99 = nI (nSt m) ∧ nSt m ≤ 8) ∧ ∀ s, s < nSt m → NN (m.1 55 s) (nPe A) ∧ (m.1 56 s = -1 ∨ NN (m.1 56 s) 3) ∧ (¬ m.1 56 s = -1 → m.1 57 s = 0 ∨ m.1 57 s = 1)
def STO (w m : Wd) : Prop := w.1 22 0 = m.1 0 99 ∧ ∀ s, s < nSt m → w.1 23 s = m.1 55 s ∧ w.1 24 s = m.1 56 s ∧ (¬ m.1 56 s = -1 → w.1 25 s = m.1 57 s) ∧ (m.1 56 s = -1 → NMR (w.1 26 s) (m.1 58 s) ∧ NMR (w.1 27 s) (m.1 59 s))
def itm (A : Wd) (y : Int32) : Int32 := if 10 ≤ y then (A.1 0 49 + y) - 10 else y
def trS (A m : Wd) (s way : Nat) : Bool := if m.1 56 s = -1 then ahS A (way / 8) (itm A (m.1 58 s)) (itm A (m.1 59 s)) else decide (bI (bt (nI way) (m.1 56 s).toNatClampNeg) = m.1 57 s)
def lieS (A m : Wd) (way s : Nat) : Bool := decide (s < nSt m) && !trS A m s way
section
variable {w m A : Wd}
theorem zc_now (hC : CNT w A) (hN : NUM A) {x y : Int32} (h : NMR x y) : f_X9_itemNow x w = some (itm A y, w) := by
  have h4 := hN.2.2.2.1.2
  unfold f_X9_itemNow itm
  rw [hC.1, hN.2.2.2.1.1]
  rcases h with ⟨k, hk, rfl, rfl⟩ | ⟨e, he, rfl, rfl⟩
  · rw [if_neg (show ¬ (16 : Int32) ≤ nI k from nI_ge (b := 16) (by omega) (by omega)), if_neg (show ¬ (10 : Int32) ≤ nI k from nI_ge (b := 10) (by omega) (by omega))]
  · rw [if_pos (show (16 : Int32) ≤ nI (16 + e) from nI_le (a := 16) (by omega) (by omega)), if_pos (show (10 : Int32) ≤ nI (10 + e) from nI_le (a := 10) (by omega) (by omega)), nI_add, nI_add, show (16 : Int32) = nI 16 from rfl, show (10 : Int32) = nI 10 from rfl, pk_sub (by omega), pk_sub (by omega), show nPa A + (16 + e) - 16 = nPa A + (10 + e) - 10 by omega]
theorem zm_now (hT : tol w = A) (y : Int32) : f_X12_itemOf y w = some (itm A y, w) := by
  unfold f_X12_itemOf itm
  rw [tol_0 hT 49 rfl]
  by_cases c : 10 ≤ y
  · rw [if_pos c, if_pos c]
  · rw [if_neg c, if_neg c]
theorem zc_true (hO : ORD w A) (hC : CNT w A) (hN : NUM A) (hS : STO w m) (hI : STI A m) {s way : Nat} (hs : s < nSt m) (hw : way < nWy A) : f_X9_isTrue (nI s) (nI way) w = some (bI (trS A m s way), w) := by
  have h8 := hI.1.2
  have hww := nWy_le hN
  obtain ⟨ho, -⟩ := nWy_or hw
  obtain ⟨-, e1, e2, e3⟩ := hS.2 s hs
  unfold f_X9_isTrue trS
  rw [z_inb (by omega) (by omega), if_pos rfl, nI_clamp (by omega), e1]
  by_cases c : m.1 56 s = -1
  · obtain ⟨g1, g2⟩ := e3 c
    rw [if_pos c, if_pos c, if_pos rfl, zc_now hC hN g1, cl_s, if_pos rfl, zc_now hC hN g2, cl_s, k8, pk_div (by omega) (by omega) (by omega), zc_isAhead hO hC hN ho, cl_s, if_pos (bI_B _)]
  · obtain ⟨q, hq, e⟩ := (hI.2 s hs).2.1.resolve_left c
    rw [if_neg c, if_neg c, if_pos rfl, if_pos rfl, e2 c, e, z_bit (by omega), nI_clamp (by omega)]
    by_cases h : bI (bt (nI way) q) = m.1 57 s
    · rw [if_pos h, decide_eq_true h]; rfl
    · rw [if_neg h, decide_eq_false h]; rfl
theorem zm_true (hT : tol w = A) (hN : NUM A) (hI : STI A w) {s way : Nat} (hs : s < nSt w) (hw : way < nWy A) : f_X12_isTrue (nI s) (nI way) w = some (bI (trS A w s way), w) := by
  have h8 := hI.1.2
  have hww := nWy_le hN
  obtain ⟨ho, -⟩ := nWy_or hw
  unfold f_X12_isTrue trS
  rw [z_inb (by omega) (by omega), if_pos rfl, nI_clamp (by omega)]
  by_cases c : w.1 56 s = -1
  · rw [if_pos c, if_pos c, if_pos rfl, zm_now hT, cl_s, if_pos rfl, zm_now hT, cl_s, k8, pk_div (by omega) (by omega) (by omega), zm_isAhead hT hN ho, cl_s, if_pos (bI_B _)]
  · obtain ⟨q, hq, e⟩ := (hI.2 s hs).2.1.resolve_left c
    rw [if_neg c, if_neg c, if_pos rfl, if_pos rfl, e, z_bit (by omega), nI_clamp (by omega)]
    by_cases h : bI (bt (nI way) q) = w.1 57 s
    · rw [if_pos h, decide_eq_true h]; rfl
    · rw [if_neg h, decide_eq_false h]; rfl
theorem lie_s (i j : Nat) (way : Nat) (b : Bool) (hb : b = lieS A m way i) : (decide (j < i) && lieS A m way j || (decide (j = i) && b)) = (decide (j < i + 1) && lieS A m way j) := by
  by_cases e : j = i
  · rw [e, hb, decide_eq_false (show ¬ i < i by omega), decide_eq_true (show i < i + 1 by omega), decide_eq_true (show i = i from rfl)]; simp
  · rw [show decide (j < i + 1) = decide (j < i) from decide_eq_decide.mpr (by omega), decide_eq_false e, Bool.false_and, Bool.or_false]
theorem zc_false (hO : ORD w A) (hC : CNT w A) (hN : NUM A) (hS : STO w m) (hI : STI A m) {way : Nat} (hw : way < nWy A) : OK (f_X9_falseIn (nI way) w) (fun q => q.2 = w ∧ RB q.1 (lieS A m way)) := by
  have h8 := hI.1.2
  unfold f_X9_falseIn
  refine lo4 (fun n y1 y2 y3 u => ∃ i, n = nSt m - i ∧ i ≤ nSt m ∧ y1 = nI way ∧ RB y2 (fun j => decide (j < i) && lieS A m way j) ∧ y3 = nI i ∧ u = w) ?_ fu (nSt m - 0) (nI way) 0 0 w (by rw [fu_eq]; omega) ⟨0, rfl, Nat.zero_le _, rfl, RB.z.cg (fun j _ => by rw [decide_eq_false (by omega), Bool.false_and]), rfl, rfl⟩
  rintro n k a1 y a3 u ⟨i, rfl, hi, rfl, hy, rfl, rfl⟩ hk
  rw [X9_falseIn_b4, hS.1, hI.1.1]
  by_cases hin : i < nSt m
  · refine OK.f (nI_ge hin (by omega)) ?_
    rw [zc_true hO hC hN hS hI hin hw, cl_s, if_b0]
    have hl : lieS A m way i = !trS A m i way := by unfold lieS; rw [decide_eq_true hin, Bool.true_and]
    by_cases c : trS A m i way = false
    · refine OK.t c (OK.l (hk _ _ _ _ _ (by omega) ⟨i + 1, rfl, hin, rfl, (hy.or (RB.one (p := i) (by omega))).cg (fun j _ => ?_), nI_1 i, rfl⟩))
      rw [← lie_s i j way true (by rw [hl, c]; rfl), Bool.and_true]
    · refine OK.f c (OK.l (hk _ _ _ _ _ (by omega) ⟨i + 1, rfl, hin, rfl, (hy.or RB.z).cg (fun j _ => ?_), nI_1 i, rfl⟩))
      rw [Bool.not_eq_false] at c
      rw [← lie_s i j way false (by rw [hl, c]; rfl), Bool.and_false]
  · have e : i = nSt m := by omega
    subst e
    refine OK.t (nI_le (Nat.le_refl _) (by omega)) (OK.s ⟨rfl, hy.cg (fun j _ => ?_)⟩)
    unfold lieS
    cases decide (j < nSt m) <;> rfl
theorem zm_false (hT : tol w = A) (hN : NUM A) (hI : STI A w) {way : Nat} (hw : way < nWy A) : OK (f_X12_falseIn (nI way) w) (fun q => q.2 = w ∧ RB q.1 (lieS A w way)) := by
  have h8 := hI.1.2
  unfold f_X12_falseIn
  refine lo4 (fun n y1 y2 y3 u => ∃ i, n = nSt w - i ∧ i ≤ nSt w ∧ y1 = nI way ∧ RB y2 (fun j => decide (j < i) && lieS A w way j) ∧ y3 = nI i ∧ w = u) ?_ fu (nSt w - 0) (nI way) 0 0 w (by rw [fu_eq]; omega) ⟨0, rfl, Nat.zero_le _, rfl, RB.z.cg (fun j _ => by rw [decide_eq_false (by omega), Bool.false_and]), rfl, rfl⟩
  rintro n k a1 y a3 u ⟨i, rfl, hi, rfl, hy, rfl, rfl⟩ hk
  rw [X12_falseIn_b4, hI.1.1]
  by_cases hin : i < nSt w
  · refine OK.f (nI_ge hin (by omega)) ?_
    rw [zm_true hT hN hI hin hw, cl_s, if_b0]
    have hl : lieS A w way i = !trS A w i way := by unfold lieS; rw [decide_eq_true hin, Bool.true_and]
    by_cases c : trS A w i way = false
    · refine OK.t c (OK.l (hk _ _ _ _ _ (by omega) ⟨i + 1, rfl, hin, rfl, (hy.or (RB.one (p := i) (by omega))).cg (fun j _ => ?_), nI_1 i, rfl⟩))
      rw [← lie_s i j way true (by rw [hl, c]; rfl), Bool.and_true]
    · refine OK.f c (OK.l (hk _ _ _ _ _ (by omega) ⟨i + 1, rfl, hin, rfl, (hy.or RB.z).cg (fun j _ => ?_), nI_1 i, rfl⟩))
      rw [Bool.not_eq_false] at c
      rw [← lie_s i j way false (by rw [hl, c]; rfl), Bool.and_false]
  · have e : i = nSt w := by omega
    subst e
    refine OK.t (nI_le (Nat.le_refl _) (by omega)) (OK.s ⟨rfl, hy.cg (fun j _ => ?_)⟩)
    unfold lieS
    cases decide (j < nSt w) <;> rfl
/-! how many bits, by the reference -/
def pcN (k : Nat) : Nat := fb_ct (bt (nI k)) 8
theorem pc_step : ∀ k, k < 256 → ¬ k = 0 → (nI k &&& (nI k - 1) = nI (k &&& (k - 1)) ∧ pcN (k &&& (k - 1)) + 1 = pcN k) ∧ (k &&& (k - 1)) < k := by decide +kernel
theorem zm_bits {x : Int32} (h : ∀ i, 8 ≤ i → i < 32 → bt x i = false) (w : Wd) : f_X12_bits x w = some (nI (fb_ct (bt x) 8), w) := by
  obtain ⟨k, hk, rfl⟩ := z_small h
  have key : OK (f_X12_bits (nI k) w) (fun q => q = (nI (pcN k), w)) := by
    unfold f_X12_bits
    refine lo3 (fun n y1 y2 u => n < 256 ∧ y2 = nI n ∧ (∃ c, y1 = nI c ∧ c + pcN n = pcN k) ∧ u = w) ?_ fu k 0 (nI k) w (by rw [fu_eq]; omega) ⟨hk, rfl, ⟨0, rfl, Nat.zero_add _⟩, rfl⟩
    rintro n kk y1 y2 u ⟨hn, rfl, ⟨c, rfl, hc⟩, rfl⟩ hkk
    rw [X12_bits_b4]
    by_cases e : n = 0
    · subst e
      refine OK.t rfl (OK.s ?_)
      have : pcN 0 = 0 := by decide
      rw [← hc, this, Nat.add_zero]
    · obtain ⟨⟨s1, s2⟩, s3⟩ := pc_step n hn e
      refine OK.f (nI_ne0 (by omega) (by omega)) (OK.l ?_)
      rw [s1]
      exact hkk _ _ _ _ s3 ⟨by omega, rfl, ⟨c + 1, nI_1 c, by omega⟩, rfl⟩
  obtain ⟨q, e, rfl⟩ := key
  exact e
end
theorem lie_8 {A m : Wd} (hI : STI A m) {x : Int32} {way : Nat} (h : RB x (lieS A m way)) : (∀ i, 8 ≤ i → i < 32 → bt x i = false) ∧ fb_ct (bt x) 8 = fb_ct (lieS A m way) 8 := by
  have h8 := hI.1.2
  refine ⟨fun i h1 h2 => ?_, fb_ct_cong (fun k hk => h k (by omega))⟩
  rw [h i h2]
  unfold lieS
  rw [decide_eq_false (by omega), Bool.false_and]
/-! the ways with fewest lies -/
abbrev WG : Type := Nat × (Nat → Bool) × Nat
def wgF (A m : Wd) : Nat → WG
  | 0 => (9, fun _ => false, 0)
  | v + 1 => if fb_ct (lieS A m v) 8 < (wgF A m v).1 then (fb_ct (lieS A m v) 8, lieS A m v, 1) else if fb_ct (lieS A m v) 8 = (wgF A m v).1 then ((wgF A m v).1, fun i => (wgF A m v).2.1 i && lieS A m v i, (wgF A m v).2.2 + 1) else wgF A m v
theorem wg_le {A m : Wd} : ∀ v, (wgF A m v).1 ≤ 9 ∧ (wgF A m v).2.2 ≤ v := by
  intro v
  induction v with
  | zero => exact ⟨Nat.le_refl _, Nat.le_refl _⟩
  | succ v ih =>
    have h8 := fb_ct_le (lieS A m v) 8
    unfold wgF
    split
    · exact ⟨by show fb_ct (lieS A m v) 8 ≤ 9; omega, by show 1 ≤ v + 1; omega⟩
    · split
      · exact ⟨ih.1, by show (wgF A m v).2.2 + 1 ≤ v + 1; omega⟩
      · exact ⟨ih.1, by omega⟩
section
variable {wc wm A : Wd}
def PW22 (a k : Nat) : Prop := a = 22 ∧ 1 ≤ k ∧ k ≤ 3
theorem PW_t {w w' : Wd} (h : FX PW22 w w') : TFR w w' := ⟨h.1, fun a k ha => h.2 a k (by unfold PW22; omega)⟩
theorem STO.fr {w w' m : Wd} (h : STO w m) (f : ∀ a k, (a = 22 ∧ k = 0) ∨ 23 ≤ a ∧ a ≤ 27 → w'.1 a k = w.1 a k) : STO w' m := by
  refine ⟨(f 22 0 (by omega)).trans h.1, fun s hs => ?_⟩
  rw [f 23 s (by omega), f 24 s (by omega), f 25 s (by omega), f 26 s (by omega), f 27 s (by omega)]
  exact h.2 s hs
theorem q_stories (hL : TLD wc A) (hN : NUM A) (hS : STO wc wm) (hI : STI A wm) (hT : tol wm = A) (a : Int32) : ∃ r wc1, f_X11_stories a wc = some (r, wc1) ∧ f_X12_stories a wm = some (r, wm) ∧ FX PW22 wc wc1 := by
  have hww := nWy_le hN
  unfold f_X11_stories f_X12_stories
  rw [zc_ways hL.1 hL.2.2.1 hN, zm_ways hT hN, cl_s, cl_s]
  by_cases h0 : nWy A = 0
  · rw [h0, if_pos (by rfl), if_pos (by rfl)]; exact ⟨_, wc, rfl, rfl, FX.rf _ _⟩
  rw [if_neg (nI_ne0 (by omega) (by omega)), if_neg (nI_ne0 (by omega) (by omega)), m_in, cl_s, if_b0]
  have z0 : (0 : Int64).toInt = 0 := rfl
  have z2 : (2 : Int64).toInt = 2 := rfl
  have y0 : (0 : Int32).toInt = 0 := rfl
  have y2 : (2 : Int32).toInt = 2 := rfl
  rw [z0, z2]
  by_cases hb : 0 ≤ a.toInt ∧ a.toInt ≤ 2
  · rw [decide_eq_true hb, if_neg (show ¬ a < 0 by rw [z_lt, y0]; omega), if_pos (show a ≤ 2 by rw [z_le, y2]; omega), if_neg (by decide)]
    -- the desk
    have hc : OK (f_X9_weigh wc) (fun v => v.1 22 1 = nI (wgF A wm (nWy A)).1 ∧ RB (v.1 22 2) (wgF A wm (nWy A)).2.1 ∧ v.1 22 3 = nI (wgF A wm (nWy A)).2.2 ∧ FX PW22 wc v) := by
      unfold f_X9_weigh
      refine OK.l (OK.l (OK.l ?_))
      have hF : FX PW22 wc (wI (wI (wI wc 22 1 9) 22 2 0) 22 3 0) := ((FX.w wc _ (by unfold PW22; omega)).tr (FX.w _ _ (by unfold PW22; omega))).tr (FX.w _ _ (by unfold PW22; omega))
      have g1 : (wI (wI (wI wc 22 1 9) 22 2 0) 22 3 0).1 22 1 = nI 9 := by rw [wI_g, if_neg (by omega), wI_g, if_neg (by omega), wI_s]; rfl
      have g2 : RB ((wI (wI (wI wc 22 1 9) 22 2 0) 22 3 0).1 22 2) (fun _ => false) := by rw [wI_g, if_neg (by omega), wI_s]; exact RB.z
      have g3 : (wI (wI (wI wc 22 1 9) 22 2 0) 22 3 0).1 22 3 = nI 0 := by rw [wI_s]; rfl
      generalize wI (wI (wI wc 22 1 9) 22 2 0) 22 3 0 = w3 at hF g1 g2 g3 ⊢
      have hL3 := hL.fr hN (PW_t hF)
      rw [zc_ways hL3.1 hL3.2.2.1 hN, cl_s]
      refine lo3 (fun n y1 y2 v => ∃ i, n = nWy A - i ∧ i ≤ nWy A ∧ y1 = nI (nWy A) ∧ y2 = nI i ∧ FX PW22 wc v ∧ v.1 22 1 = nI (wgF A wm i).1 ∧ RB (v.1 22 2) (wgF A wm i).2.1 ∧ v.1 22 3 = nI (wgF A wm i).2.2) ?_ fu (nWy A - 0) (nI (nWy A)) 0 w3 (by rw [fu_eq]; omega) ⟨0, rfl, Nat.zero_le _, rfl, rfl, hF, g1, g2, g3⟩
      rintro n k y1 y2 v ⟨i, rfl, hi, rfl, rfl, hFv, e1, e2, e3⟩ hk
      have hLv := hL.fr hN (PW_t hFv)
      have hSv : STO v wm := hS.fr (fun a k h => hFv.2 a k (by unfold PW22; omega))
      have hwl := wg_le (A := A) (m := wm) i
      rw [X9_weigh_b26]
      by_cases hin : i < nWy A
      · refine OK.f (nI_ge hin (by omega)) (OK.c ((zc_false hLv.2.2.1 hLv.2.1 hN hSv hI hin).m ?_))
        rintro ⟨x, v2⟩ ⟨rfl, hx⟩
        dsimp only at hx ⊢
        obtain ⟨x8, xc⟩ := lie_8 hI hx
        have hc8 := fb_ct_le (lieS A wm i) 8
        rw [zc_bc x8, cl_s, xc, e1]
        have hst : wgF A wm (i + 1) = if fb_ct (lieS A wm i) 8 < (wgF A wm i).1 then (fb_ct (lieS A wm i) 8, lieS A wm i, 1) else if fb_ct (lieS A wm i) 8 = (wgF A wm i).1 then ((wgF A wm i).1, fun j => (wgF A wm i).2.1 j && lieS A wm i j, (wgF A wm i).2.2 + 1) else wgF A wm i := rfl
        by_cases c1 : fb_ct (lieS A wm i) 8 < (wgF A wm i).1
        · rw [if_pos c1] at hst
          refine OK.f (nI_ge c1 (by omega)) (OK.l (OK.l (OK.l (hk _ _ _ _ (by omega) ⟨i + 1, rfl, hin, rfl, nI_1 i, ((hFv.tr (FX.w v2 _ (by unfold PW22; omega))).tr (FX.w _ _ (by unfold PW22; omega))).tr (FX.w _ _ (by unfold PW22; omega)), ?_, ?_, ?_⟩))))
          · rw [hst, wI_g, if_neg (by omega), wI_g, if_neg (by omega), wI_s]
          · rw [hst, wI_g, if_neg (by omega), wI_s]; exact hx
          · rw [hst, wI_s]; rfl
        · rw [if_neg c1] at hst
          refine OK.t (nI_le (by omega) (by omega)) ?_
          by_cases c2 : fb_ct (lieS A wm i) 8 = (wgF A wm i).1
          · rw [if_pos c2] at hst
            refine OK.t (by rw [c2]) (OK.l (OK.l (hk _ _ _ _ (by omega) ⟨i + 1, rfl, hin, rfl, nI_1 i, (hFv.tr (FX.w v2 _ (by unfold PW22; omega))).tr (FX.w _ _ (by unfold PW22; omega)), ?_, ?_, ?_⟩)))
            · rw [hst, wI_g, if_neg (by omega), wI_g, if_neg (by omega)]; exact e1
            · rw [hst, wI_g, if_neg (by omega), wI_s]; exact e2.and hx
            · rw [hst, wI_s, wI_g, if_neg (by omega), e3, nI_1]
          · rw [if_neg c2] at hst
            refine OK.f (fun h => c2 ((nI_eq (by omega) (by omega)).mp h)) (hk _ _ _ _ (by omega) ⟨i + 1, rfl, hin, rfl, nI_1 i, hFv, ?_, ?_, ?_⟩)
            · rw [hst]; exact e1
            · rw [hst]; exact e2
            · rw [hst]; exact e3
      · have e : i = nWy A := by omega
        subst e
        exact OK.t (nI_le (Nat.le_refl _) (by omega)) (OK.s ⟨e1, e2, e3, hFv⟩)
    obtain ⟨v, ev, f1, f2, f3, hF⟩ := hc
    -- the reference
    have hm : X12_stories_b32_L a 9 0 0 0 wm = some (if a = 0 then v.1 22 1 else if a = 1 then v.1 22 2 else v.1 22 3, wm) := by
      have key : OK (X12_stories_b32_L a 9 0 0 0 wm) (fun q => q = (if a = 0 then v.1 22 1 else if a = 1 then v.1 22 2 else v.1 22 3, wm)) := by
        refine lo6 (fun n y1 y2 y3 y4 y5 u => ∃ i, n = nWy A - i ∧ i ≤ nWy A ∧ y1 = a ∧ y2 = nI (wgF A wm i).1 ∧ y3 = nI (wgF A wm i).2.2 ∧ RB y4 (wgF A wm i).2.1 ∧ y5 = nI i ∧ wm = u) ?_ fu (nWy A - 0) a 9 0 0 0 wm (by rw [fu_eq]; omega) ⟨0, rfl, Nat.zero_le _, rfl, rfl, rfl, RB.z, rfl, rfl⟩
        rintro n k y1 y2 y3 y4 y5 u ⟨i, rfl, hi, rfl, rfl, rfl, hy4, rfl, rfl⟩ hk
        have hwl := wg_le (A := A) (m := wm) i
        rw [X12_stories_b32, zm_ways hT hN, cl_s]
        by_cases hin : i < nWy A
        · refine OK.f (nI_ge hin (by omega)) (OK.c ((zm_false hT hN hI hin).m ?_))
          rintro ⟨x, v2⟩ ⟨hv2, hx⟩
          dsimp only at hv2 hx ⊢
          have hv3 := hv2.symm
          subst hv3
          obtain ⟨x8, xc⟩ := lie_8 hI hx
          have hc8 := fb_ct_le (lieS A wm i) 8
          rw [zm_bits x8, cl_s, xc]
          have hst : wgF A wm (i + 1) = if fb_ct (lieS A wm i) 8 < (wgF A wm i).1 then (fb_ct (lieS A wm i) 8, lieS A wm i, 1) else if fb_ct (lieS A wm i) 8 = (wgF A wm i).1 then ((wgF A wm i).1, fun j => (wgF A wm i).2.1 j && lieS A wm i j, (wgF A wm i).2.2 + 1) else wgF A wm i := rfl
          unfold X12_stories_b81
          by_cases c1 : fb_ct (lieS A wm i) 8 < (wgF A wm i).1
          · rw [if_pos c1] at hst
            refine OK.t (nI_le (by omega) (by omega)) (OK.f (nI_ge c1 (by omega)) (OK.f (nI_ge c1 (by omega)) (hk _ _ _ _ _ _ _ (by omega) ⟨i + 1, rfl, hin, rfl, ?_, ?_, ?_, nI_1 i, rfl⟩)))
            · rw [hst]
            · rw [hst]; rfl
            · rw [hst]; exact hx
          · rw [if_neg c1] at hst
            by_cases c2 : fb_ct (lieS A wm i) 8 = (wgF A wm i).1
            · rw [if_pos c2] at hst
              refine OK.t (by rw [c2]; exact nI_le (Nat.le_refl _) (by omega)) (OK.t (by rw [c2]; exact nI_le (Nat.le_refl _) (by omega)) (OK.t (by rw [c2]; exact nI_le (Nat.le_refl _) (by omega)) (OK.l (hk _ _ _ _ _ _ _ (by omega) ⟨i + 1, rfl, hin, rfl, ?_, ?_, ?_, nI_1 i, rfl⟩))))
              · rw [hst, c2]
              · rw [hst, nI_1]
              · rw [hst]; exact hy4.and hx
            · rw [if_neg c2] at hst
              refine OK.f (nI_ge (by omega) (by omega)) (hk _ _ _ _ _ _ _ (by omega) ⟨i + 1, rfl, hin, rfl, ?_, ?_, ?_, nI_1 i, rfl⟩)
              · rw [hst]
              · rw [hst]
              · rw [hst]; exact hy4
        · have e : i = nWy A := by omega
          subst e
          refine OK.t (nI_le (Nat.le_refl _) (by omega)) ?_
          rw [f1, f3, f2.eq hy4]
          by_cases q0 : y1 = 0
          · rw [if_pos q0, if_pos q0]; exact OK.s rfl
          · rw [if_neg q0, if_neg q0]
            by_cases q1 : y1 = 1
            · rw [if_pos q1, if_pos q1]; exact OK.s rfl
            · rw [if_neg q1, if_neg q1]; exact OK.s rfl
      obtain ⟨q, e, rfl⟩ := key
      exact e
    rw [ev, cv_s, hm]
    refine ⟨_, v, ?_, rfl, hF⟩
    by_cases q0 : a = 0
    · rw [if_pos q0, if_pos q0]
    · rw [if_neg q0, if_neg q0]
      by_cases q1 : a = 1
      · rw [if_pos q1, if_pos q1]
      · rw [if_neg q1, if_neg q1]
  · rw [decide_eq_false hb, if_pos rfl]
    by_cases h1 : a < 0
    · rw [if_pos h1]; exact ⟨_, wc, rfl, rfl, FX.rf _ _⟩
    · rw [if_neg h1, if_neg (fun h => hb (by rw [z_lt, y0] at h1; rw [z_le, y2] at h; omega))]
      exact ⟨_, wc, rfl, rfl, FX.rf _ _⟩
end
