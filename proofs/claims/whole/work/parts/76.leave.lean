/-! the reference: leaving the rest -/
section
variable {w A : Wd}
theorem zm_heirsIn (hT : tol w = A) (hI : INV A) {l p : Nat} {cn vo : Nat → Bool} (hM : MV' w cn vo l) (hl : l < nLa A) (hp : p < nPa A) : OK (f_X12_heirsIn (nI p) (nI l) w) (fun q => q.2 = w ∧ RB q.1 (hsS A l vo p)) := by
  have hN := hI.1
  have h4 := hN.2.2.2.1.2
  have h8 := hN.2.1.2
  unfold f_X12_heirsIn
  refine lo5 (fun n y1 y2 y3 y4 v => ∃ i, n = nPe A - i ∧ i ≤ nPe A ∧ y1 = nI p ∧ y2 = nI l ∧ RB y3 (fun who => decide (who < i) && hsS A l vo p who) ∧ y4 = nI i ∧ v = w) ?_ fu (nPe A - 0) (nI p) (nI l) 0 0 w (by rw [fu_eq]; omega) ⟨0, rfl, Nat.zero_le _, rfl, rfl, RB.z.cg (fun j _ => ?_), rfl, rfl⟩
  · rintro n k a1 a2 y a4 v ⟨i, rfl, hi, rfl, rfl, hy, rfl, rfl⟩ hk
    rw [X12_heirsIn_b5, tol_0 hT 11 rfl, hN.2.1.1]
    by_cases hin : i < nPe A
    · refine OK.f (nI_ge hin (by omega)) ?_
      rw [zm_heirs hT hN hI.2.2.1 hp, cl_s, if_bt1 (by omega)]
      have skip : hsS A l vo p i = false → OK (k (nI p) (nI l) y (nI i + 1) v) (fun q => q.2 = v ∧ RB q.1 (hsS A l vo p)) := by
        intro h
        refine hk _ _ _ _ _ _ (by omega) ⟨i + 1, rfl, hin, rfl, rfl, hy.cg (fun j _ => ?_), nI_1 i, rfl⟩
        by_cases e : j = i
        · rw [e, h, Bool.and_false, Bool.and_false]
        · rw [show decide (j < i + 1) = decide (j < i) from decide_eq_decide.mpr (by omega)]
      have hdef : hsS A l vo p i = (bt (hrS A p) i && !ddS A i && !vdS A l vo p i) := by unfold hsS; rw [decide_eq_true hin, Bool.true_and]
      by_cases c : bt (hrS A p) i = true
      · refine OK.t c (OK.t (z_inb (by omega) (by omega)) ?_)
        rw [nI_clamp (by omega), tol_a hT 7 _ (by omega)]
        by_cases c2 : A.1 7 i = 0
        · refine OK.t c2 ?_
          have hd : ddS A i = false := decide_eq_false (fun q => q c2)
          rw [zm_void hT hI hM hl hp hin, cl_s, if_b0]
          by_cases c3 : vdS A l vo p i = false
          · refine OK.t c3 (OK.l (hk _ _ _ _ _ _ (by omega) ⟨i + 1, rfl, hin, rfl, rfl, ?_, nI_1 i, rfl⟩))
            refine (hy.or (RB.one (p := i) (by omega))).cg (fun j _ => ?_)
            by_cases e : j = i
            · rw [e, hdef, c, hd, c3, decide_eq_true (show i < i + 1 by omega), decide_eq_true (show i = i from rfl)]; simp
            · rw [show decide (j < i + 1) = decide (j < i) from decide_eq_decide.mpr (by omega), decide_eq_false e, Bool.or_false]
          · refine OK.f c3 (skip ?_)
            rw [Bool.not_eq_false] at c3
            rw [hdef, c3]; simp
        · refine OK.f c2 (skip ?_)
          have hd : ddS A i = true := decide_eq_true c2
          rw [hdef, hd]; simp
      · refine OK.f c (skip ?_)
        rw [Bool.not_eq_true] at c
        rw [hdef, c]; simp
    · have e : i = nPe A := by omega
      subst e
      refine OK.t (nI_le (Nat.le_refl _) (by omega)) (OK.s ⟨rfl, hy.cg (fun j _ => ?_)⟩)
      unfold hsS
      by_cases e : j < nPe A
      · rw [decide_eq_true e]; simp
      · rw [decide_eq_false e]; simp
  · rw [decide_eq_false (by omega), Bool.false_and]
theorem zm_leaveTo (hT : tol w = A) (hN : NUM A) {x : Int32} {set : Nat → Bool} (hx : RB x set) (hs : ∀ i, set i = true → i < nPe A) {m : Nat} (hm : m < 1000000000) (h0 : ¬ fb_ct set 8 = 0) {v : Nat → Nat} (hv : PV w 48 v) {y7 : Int32} (hy7 : y7 = nI (m % fb_ct set 8)) : OK (X12_leave_b112_L (nI m) x (nI (fb_ct set 8)) y7 0 w) (fun q => q.1 = 1 ∧ PV q.2 48 (fun i => v i + eqP set m i) ∧ FX (PO 48) w q.2) := by
  have h8 := hN.2.1.2
  have hc8 := fb_ct_le set 8
  have hn0 : ¬ nI (fb_ct set 8) = 0 := nI_ne0 (by omega) (by omega)
  have hmod : m % fb_ct set 8 < fb_ct set 8 := Nat.mod_lt _ (by omega)
  subst hy7
  refine lo6 (fun n y1 y5 y6 y7 y8 u => ∃ i, n = nPe A - i ∧ i ≤ nPe A ∧ y1 = nI m ∧ y5 = x ∧ y6 = nI (fb_ct set 8) ∧ y7.toInt = ((m % fb_ct set 8 : Nat) : Int) - (fb_ct set i : Nat) ∧ y8 = nI i ∧ FX (PO 48) w u ∧ ∀ j, j < 8 → u.1 48 j = nI (v j + if j < i then eqP set m j else 0)) ?_ fu (nPe A - 0) (nI m) x (nI (fb_ct set 8)) (nI (m % fb_ct set 8)) 0 w (by rw [fu_eq]; omega) ⟨0, rfl, by omega, rfl, rfl, rfl, ?_, rfl, FX.rf _ w, fun j hj => ?_⟩
  · rintro n k a1 a5 a6 y a8 u ⟨i, rfl, hi, rfl, rfl, rfl, hy, rfl, hF, hu⟩ hk
    have hTu : tol u = A := hF.ot hT (fun k _ => by unfold PO; omega) (fun o k _ => by unfold PO; omega)
    rw [X12_leave_b112, tol_0 hTu 11 rfl, hN.2.1.1]
    have hci := fb_ct_le set i
    by_cases hin : i < nPe A
    · refine OK.f (nI_ge hin (by omega)) ?_
      rw [if_bt (by omega), hx i (by omega)]
      by_cases c : set i = false
      · refine OK.t c (hk _ _ _ _ _ _ _ (by omega) ⟨i + 1, rfl, hin, rfl, rfl, rfl, ?_, nI_1 i, hF, fun j hj => ?_⟩)
        · rw [hy, show fb_ct set (i + 1) = fb_ct set i by rw [fb_ct_succ, c]; rfl]
        · rw [hu j hj]
          by_cases e : j = i
          · subst e
            have : eqP set m j = 0 := by unfold eqP; rw [c, if_neg (by decide)]
            rw [if_neg (by omega), if_pos (by omega), this]
          · by_cases h : j < i
            · rw [if_pos h, if_pos (by omega)]
            · rw [if_neg h, if_neg (by omega)]
      · rw [Bool.not_eq_false] at c
        refine OK.f (by rw [c]; decide) (OK.t (z_inb (by omega) (by omega)) (OK.f hn0 ?_))
        rw [nI_clamp (by omega), hu i (by omega), if_neg (show ¬ i < i by omega), Nat.add_zero, pk_div (by omega) (by omega) (by omega)]
        have hy1 := z_m1 (y := y) (by rw [hy]; omega)
        have hcs : fb_ct set (i + 1) = fb_ct set i + 1 := by rw [fb_ct_succ, c]; rfl
        have stp : ∀ (t0 : Int32) (b : Nat), t0 = nI b → m / fb_ct set 8 + b = eqP set m i → OK (X12_leave_b156 k (nI m) a5 (nI (fb_ct set 8)) y (nI i) t0 (nI (m / fb_ct set 8)) (nI (v i)) (nI i) u) (fun q => q.1 = 1 ∧ PV q.2 48 (fun i => v i + eqP set m i) ∧ FX (PO 48) w q.2) := by
          intro t0 b ht hb
          unfold X12_leave_b156
          refine OK.t (z_inb (by omega) (by omega)) (OK.l ?_)
          rw [nI_clamp (by omega), ht, nI_add, nI_add, hb]
          refine hk _ _ _ _ _ _ _ (by omega) ⟨i + 1, rfl, hin, rfl, rfl, rfl, ?_, nI_1 i, hF.tr (FX.w u _ rfl), fun j hj => ?_⟩
          · rw [hy1, hy, hcs]; omega
          · rw [wI_g]
            by_cases e : j = i
            · rw [if_pos ⟨rfl, e⟩, e, if_pos (by omega)]
            · rw [if_neg (fun h => e h.2), hu j hj]
              by_cases h : j < i
              · rw [if_pos h, if_pos (by omega)]
              · rw [if_neg h, if_neg (by omega)]
        by_cases c2 : fb_ct set i < m % fb_ct set 8
        · refine OK.f (by rw [z_le0, hy]; omega) (stp 1 1 rfl ?_)
          unfold eqP; rw [if_pos c, if_pos c2]
        · refine OK.t (by rw [z_le0, hy]; omega) (stp 0 0 rfl ?_)
          unfold eqP; rw [if_pos c, if_neg c2]
    · have e : i = nPe A := by omega
      subst e
      refine OK.t (nI_le (Nat.le_refl _) (by omega)) (OK.s ⟨rfl, fun j hj => ?_, hF⟩)
      rw [hu j hj]
      by_cases e : j < nPe A
      · rw [if_pos e]
      · have hz : set j = false := by
          cases q : set j
          · rfl
          · exact absurd (hs j q) e
        have : eqP set m j = 0 := by unfold eqP; rw [hz, if_neg (by decide)]
        dsimp only
        rw [if_neg e, this]
  · rw [nI_toInt (by omega)]; show _ = _ - ((0 : Nat) : Int); omega
  · rw [if_neg (by omega), Nat.add_zero]; exact hv j hj
end
