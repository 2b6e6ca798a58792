/-! settle -/
-- PTC PTM PTk PTm
def BADs (A m : Wd) (P s : Nat) : Prop := ∀ a, MIN (nWy A) (fS A (nI s) 8) a → ofS m s P < a
def RSs (A m : Wd) (P : Nat) (r : Int32) : Prop := (∃ s, 1 ≤ s ∧ s < 2 ^ P ∧ r = nI s ∧ BADs A m P s ∧ ∀ x, 1 ≤ x → x < s → ¬ BADs A m P x) ∨ (r = 0 ∧ ∀ x, 1 ≤ x → x < 2 ^ P → ¬ BADs A m P x)
theorem RSs.un {A m : Wd} {P : Nat} (hP : P ≤ 8) {r t : Int32} (h : RSs A m P r) (k : RSs A m P t) : r = t := by
  rcases h with ⟨s, a1, a2, rfl, a4, a5⟩ | ⟨rfl, a⟩
  · rcases k with ⟨x, b1, b2, rfl, b4, b5⟩ | ⟨-, b⟩
    · rcases Nat.lt_trichotomy s x with q | q | q
      · exact absurd a4 (b5 s a1 q)
      · rw [q]
      · exact absurd b4 (a5 x b1 q)
    · exact absurd a4 (b s a1 a2)
  · rcases k with ⟨x, b1, b2, rfl, b4, b5⟩ | ⟨rfl, b⟩
    · exact absurd b4 (a x b1 b2)
    · rfl
section
variable {w m A : Wd}
theorem zc_setL {cp P : Nat} (hI : INV A) (hPe : PEI A) (hO : OUTR w A cp) (hn : 0 < nWy A) (hP : P ≤ 8) (h : ∀ k, k < P → w.1 30 k = m.1 60 k ∧ NN (m.1 60 k) 100000) : OK (X11_settle_b56_L cp (nI (2 ^ P)) 1 w) (fun q => RSs A m P q.1 ∧ q.2.1 = w ∧ q.2.2 = cp) := by
  have h256 : 2 ^ P ≤ 256 := Nat.pow_le_pow_right (show 0 < 2 by omega) hP
  have hp1 : 1 ≤ 2 ^ P := Nat.one_le_two_pow
  unfold X11_settle_b56_L
  refine lo4 (fun n y0 y2 y3 v => ∃ s, n = 2 ^ P - s ∧ 1 ≤ s ∧ s ≤ 2 ^ P ∧ cp = y0 ∧ y2 = nI (2 ^ P) ∧ y3 = nI s ∧ w = v ∧ ∀ x, 1 ≤ x → x < s → ¬ BADs A m P x) ?_ fu (2 ^ P - 1) cp (nI (2 ^ P)) 1 w (by rw [fu_eq]; omega) ⟨1, rfl, by omega, hp1, rfl, rfl, rfl, rfl, fun x h1 h2 => by omega⟩
  rintro n k y0 y2 y3 v ⟨s, rfl, hs1, hs2, rfl, rfl, rfl, rfl, hb⟩ hk
  show OK (X11_settle_b56 cp k (nI (2 ^ P)) (nI s) w) _
  rw [X11_settle_b56]
  by_cases c : s < 2 ^ P
  · refine OK.f (nI_ge c (by omega)) ?_
    obtain ⟨⟨r, w1⟩, e1, ⟨a, ea, hmin⟩, ew⟩ := zc_least hI hPe hO hn (nI s)
    dsimp only at ea ew
    subst ew
    have hb1 := ofS_lt (m := m) (s := s) hP (fun k hk => (h k hk).2) P (Nat.le_refl _)
    have ha : a ≤ 1600000000 := by
      obtain ⟨⟨v, hv, e⟩, -⟩ := hmin
      rw [← e]; exact fS_lt hI hPe hv _ (by omega)
    rw [e1, cl_s, zc_offTo hP c h, cl_s, ea]
    by_cases q : a ≤ ofS m s P
    · refine OK.t (nI_le q (by omega)) ?_
      rw [nI_1]
      refine hk _ _ _ _ _ (by omega) ⟨s + 1, rfl, by omega, c, rfl, rfl, rfl, rfl, fun x h1 h2 => ?_⟩
      by_cases e : x = s
      · rw [e]; exact fun hbad => by have := hbad a hmin; omega
      · exact hb x h1 (by omega)
    · refine OK.f (nI_ge (by omega) (by omega)) (OK.s ⟨Or.inl ⟨s, hs1, c, rfl, fun x hx => ?_, hb⟩, rfl, rfl⟩)
      rw [hx.eq hmin]; omega
  · have e : s = 2 ^ P := by omega
    subst e
    exact OK.t (nI_le (Nat.le_refl _) (by omega)) (OK.s ⟨Or.inr ⟨rfl, hb⟩, rfl, rfl⟩)
theorem zm_setL {P : Nat} (hT : tol m = A) (hI : INV A) (hPe : PEI A) (hR : RKC m A) (hn : 0 < nWy A) (hPP : nPe A = P) (h : ∀ k, k < P → NN (m.1 60 k) 100000) : OK (X12_settle_b92_L 1 m) (fun q => RSs A m P q.1 ∧ FX PRk m q.2 ∧ RKC q.2 A) := by
  have hP : P ≤ 8 := by have := hI.1.2.1.2; omega
  have h256 : 2 ^ P ≤ 256 := Nat.pow_le_pow_right (show 0 < 2 by omega) hP
  have hp1 : 1 ≤ 2 ^ P := Nat.one_le_two_pow
  refine lo2 (fun n y4 v => ∃ s, n = 2 ^ P - s ∧ 1 ≤ s ∧ s ≤ 2 ^ P ∧ y4 = nI s ∧ FX PRk m v ∧ RKC v A ∧ ∀ x, 1 ≤ x → x < s → ¬ BADs A m P x) ?_ fu (2 ^ P - 1) 1 m (by rw [fu_eq]; omega) ⟨1, rfl, by omega, hp1, rfl, FX.rf _ _, hR, fun x h1 h2 => by omega⟩
  rintro n k y4 v ⟨s, rfl, hs1, hs2, rfl, hF, hRv, hb⟩ hk
  have hTv := PRk_t hF hT
  have e11 : v.1 0 11 = nI P := by rw [tol_0 hTv 11 rfl, hI.1.2.1.1, hPP]
  have e60 : ∀ k, v.1 60 k = m.1 60 k := fun k => hF.2 60 k (by unfold PRk PMS; omega)
  rw [X12_settle_b92, e11, (sh_pe P hP).1]
  by_cases c : s < 2 ^ P
  · refine OK.f (nI_ge c (by omega)) ?_
    have hb1 := fun i hi => ofS_lt (m := m) (s := s) hP h i hi
    refine lo4 (fun n y4 y5 y6 u => ∃ i, n = P - i ∧ i ≤ P ∧ y4 = nI s ∧ y5 = nI (ofS m s i) ∧ y6 = nI i ∧ v = u) ?_ fu (P - 0) (nI s) 0 0 v (by rw [fu_eq]; omega) ⟨0, rfl, Nat.zero_le _, rfl, rfl, rfl, rfl⟩
    rintro n k2 y4 y5 y6 u ⟨i, rfl, hi, rfl, rfl, rfl, rfl⟩ hk2
    rw [X12_settle_b109, e11]
    by_cases ci : i < P
    · refine OK.f (nI_ge ci (by omega)) ?_
      have e := (h i ci).e (by omega)
      rw [if_bt1 (show i < 32 by omega), nI_clamp (n := i) (by omega), e60, e.1]
      cases hbt : bt (nI s) i
      · refine OK.f (by decide) (OK.l (hk2 _ _ _ _ _ (by omega) ⟨i + 1, rfl, ci, rfl, ?_, nI_1 i, rfl⟩))
        rw [Int32.add_zero]
        show _ = nI (ofS m s i + (if bt (nI s) i = true then (m.1 60 i).toNatClampNeg else 0))
        rw [hbt, if_neg (by decide)]; rfl
      · refine OK.t rfl (OK.t (z_inb (by omega) (by omega)) (OK.l (hk2 _ _ _ _ _ (by omega) ⟨i + 1, rfl, ci, rfl, ?_, nI_1 i, rfl⟩)))
        rw [nI_add]
        show _ = nI (ofS m s i + (if bt (nI s) i = true then (m.1 60 i).toNatClampNeg else 0))
        rw [hbt, if_pos rfl]
    · have ee : i = P := by omega
      subst ee
      refine OK.t (nI_le (Nat.le_refl _) (by omega)) ?_
      have hbb := hb1 i (Nat.le_refl _)
      obtain ⟨⟨r, v1⟩, e1, g1, hR1, h78, hF1⟩ := zm_least hTv hI hPe hRv (nI s)
      dsimp only at g1 hR1 h78 hF1
      obtain ⟨a, ea, hmin⟩ := g1.resolve_left (fun q => by omega)
      have ha : a ≤ 1600000000 := by
        obtain ⟨⟨x, hx, e⟩, -⟩ := hmin
        rw [← e]; exact fS_lt hI hPe hx _ (by omega)
      rw [e1, cl_s, ea]
      by_cases q : a ≤ ofS m s i
      · refine OK.t (nI_le q (by omega)) ?_
        rw [nI_1]
        refine hk _ _ _ (by omega) ⟨s + 1, rfl, by omega, c, rfl, hF.tr hF1, Or.inr ⟨hR1, h78⟩, fun x h1 h2 => ?_⟩
        by_cases e : x = s
        · rw [e]; exact fun hbad => by have := hbad a hmin; omega
        · exact hb x h1 (by omega)
      · refine OK.f (nI_ge (by omega) (by omega)) (OK.s ⟨Or.inl ⟨s, hs1, c, rfl, fun x hx => ?_, hb⟩, hF.tr hF1, Or.inr ⟨hR1, h78⟩⟩)
        rw [hx.eq hmin]; omega
  · have e : s = 2 ^ P := by omega
    subst e
    exact OK.t (nI_le (Nat.le_refl _) (by omega)) (OK.s ⟨Or.inr ⟨rfl, hb⟩, hF, hRv⟩)
end
