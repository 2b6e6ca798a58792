/-! the reference reckons: a number for each way's outcome -/
theorem TBL.fr {w w' A : Wd} {n : Nat} (h : TBL w A n) (f : ∀ k, w'.1 54 k = w.1 54 k) : TBL w' A n := by
  unfold TBL
  simp only [f]
  exact h
theorem SMS.fr {w w' A : Wd} {n : Nat} (h : SMS w A n) (f : ∀ k, w'.1 51 k = w.1 51 k) : SMS w' A n := fun v hv p hp => (f _).trans (h v hv p hp)
theorem tbl_old {w A : Wd} {v : Nat} (h : TBL w A v) (hf : frs A v = false) : TBL w A (v + 1) := by
  refine ⟨fun k hk => ?_, fun u hu hfu => ?_, h.2.2⟩
  · rcases h.1 k hk with e | ⟨u, h1, h2, h3⟩
    · exact Or.inl e
    · exact Or.inr ⟨u, by omega, h2, h3⟩
  · refine h.2.1 u ?_ hfu
    rcases Nat.lt_or_ge u v with q | q
    · exact q
    · have : u = v := by omega
      rw [this, hf] at hfu; cases hfu
theorem tbl_new {w w' A : Wd} {v d : Nat} (h : TBL w A v) (hv : v < 5760) (hf : frs A v = true) (hd : d < 16384) (hne : ∀ e, e < d → ¬ w.1 54 ((hpO A v + e) % 16384) = -1) (hfree : w.1 54 ((hpO A v + d) % 16384) = -1) (hw : ∀ k, w'.1 54 k = if k = (hpO A v + d) % 16384 then nI v else w.1 54 k) : TBL w' A (v + 1) := by
  have hpos := Nat.mod_lt (hpO A v + d) (show 0 < 16384 by omega)
  have nv : ¬ nI v = -1 := nI_n1 (by omega)
  refine ⟨fun k hk => ?_, fun u hu hfu => ?_, fun k k' hk hk' he hn => ?_⟩
  · rw [hw]
    by_cases c : k = (hpO A v + d) % 16384
    · rw [if_pos c]; exact Or.inr ⟨v, by omega, hf, rfl⟩
    · rw [if_neg c]
      rcases h.1 k hk with e | ⟨u, h1, h2, h3⟩
      · exact Or.inl e
      · exact Or.inr ⟨u, by omega, h2, h3⟩
  · by_cases c : u = v
    · subst c
      refine ⟨d, hd, by rw [hw, if_pos rfl], fun e he => ?_⟩
      rw [hw]
      by_cases q : (hpO A u + e) % 16384 = (hpO A u + d) % 16384
      · rw [if_pos q]; exact nv
      · rw [if_neg q]; exact hne e he
    · obtain ⟨d2, h1, h2, h3⟩ := h.2.1 u (by omega) hfu
      refine ⟨d2, h1, ?_, fun e he => ?_⟩
      · rw [hw]
        by_cases q : (hpO A u + d2) % 16384 = (hpO A v + d) % 16384
        · rw [q, hfree] at h2; exact absurd h2.symm (nI_n1 (by omega))
        · rw [if_neg q]; exact h2
      · rw [hw]
        by_cases q : (hpO A u + e) % 16384 = (hpO A v + d) % 16384
        · rw [if_pos q]; exact nv
        · rw [if_neg q]; exact h3 e he
  · have old : ∀ j, j < 16384 → ¬ w.1 54 j = nI v := fun j hj e => by
      rcases h.1 j hj with q | ⟨u, h1, -, h3⟩
      · rw [q] at e; exact nv e.symm
      · rw [h3, nI_eq (by omega) (by omega)] at e; omega
    rw [hw, hw] at he
    rw [hw] at hn
    by_cases c : k = (hpO A v + d) % 16384
    · by_cases c' : k' = (hpO A v + d) % 16384
      · rw [c, c']
      · rw [if_pos c, if_neg c'] at he
        exact absurd he.symm (old k' hk')
    · by_cases c' : k' = (hpO A v + d) % 16384
      · rw [if_neg c, if_pos c'] at he
        exact absurd he (old k hk)
      · rw [if_neg c, if_neg c'] at he
        rw [if_neg c] at hn
        exact h.2.2 k k' hk hk' he hn
/-- what has been reckoned of the first n ways -/
def RKN (w A : Wd) (n : Nat) : Prop := SMS w A n ∧ (∀ v, v < n → w.1 52 v = nI (onO A v)) ∧ w.1 0 97 = nI (cnO A n)
theorem RKN.fr {w w' A : Wd} {n : Nat} (h : RKN w A n) (f : ∀ a k, a = 51 ∨ a = 52 ∨ (a = 0 ∧ k = 97) → w'.1 a k = w.1 a k) : RKN w' A n := ⟨h.1.fr (fun k => f _ _ (by omega)), fun v hv => (f _ _ (by omega)).trans (h.2.1 v hv), (f _ _ (by omega)).trans h.2.2⟩
def PNm (a k : Nat) : Prop := a = 52 ∨ a = 54 ∨ (a = 0 ∧ k = 97)
def PRk (a k : Nat) : Prop := PMS a k ∨ ((51 ≤ a ∧ a ≤ 52) ∨ a = 54) ∨ (a = 0 ∧ (k = 78 ∨ k = 97))
theorem PRk_t {w w' A : Wd} (h : FX PRk w w') (hT : tol w = A) : tol w' = A := h.ot hT (fun k hk => by unfold PRk PMS; omega) (fun o k ho => by unfold PRk PMS; omega)
section
variable {w A : Wd}
theorem zm_nmO (hT : tol w = A) (hN : NUM A) {v : Nat} (hv : v < 5760) (hS : SMS w A (v + 1)) (hB : TBL w A v) (h2 : ∀ u, u < v → w.1 52 u = nI (onO A u)) (h3 : w.1 0 97 = nI (cnO A v)) : OK (f_X12_nameOutcome (nI v) w) (fun w' => TBL w' A (v + 1) ∧ RKN w' A (v + 1) ∧ FX PNm w w') := by
  have h8 := hN.2.1.2
  unfold f_X12_nameOutcome
  refine lo4 (fun m y1 y2 y3 u => ∃ i, m = nPe A - i ∧ i ≤ nPe A ∧ y1 = nI v ∧ y2 = hF A v i ∧ y3 = nI i ∧ w = u) ?_ fu (nPe A - 0) (nI v) 17 0 w (by rw [fu_eq]; omega) ⟨0, rfl, Nat.zero_le _, rfl, rfl, rfl, rfl⟩
  rintro m k y1 y2 y3 u ⟨i, rfl, hi, rfl, rfl, rfl, rfl⟩ hk
  rw [X12_nameOutcome_b5, tol_0 hT 11 rfl, hN.2.1.1]
  by_cases hin : i < nPe A
  · refine OK.f (nI_ge hin (by omega)) ?_
    rw [ix8]
    refine OK.t (z_inb (by omega) (by omega)) (OK.l ?_)
    rw [nI_clamp (n := 8 * v + i) (by omega), hS v (by omega) i hin]
    exact hk _ _ _ _ _ (by omega) ⟨i + 1, rfl, hin, rfl, rfl, nI_1 i, rfl⟩
  · have e : i = nPe A := by omega
    subst e
    refine OK.t (nI_le (Nat.le_refl _) (by omega)) (OK.l ?_)
    have e2 : ((hF A v (nPe A) ^^^ (((hF A v (nPe A)).toUInt32 >>> (Int32.toUInt32 15 &&& Int32.toUInt32 31)).toInt32)) &&& 16383) = nI (hpO A v) := (hX_e _).1
    rw [e2]
    refine zm_probe hT hN hv hS hB (fun d hd hne hor => ?_)
    have hpos := Nat.mod_lt (hpO A v + d) (show 0 < 16384 by omega)
    unfold X12_nameOutcome_b82
    rw [nI_clamp (n := (hpO A v + d) % 16384) (by omega), nI_clamp (n := v) (by omega)]
    refine OK.t (z_inb (by omega) (by omega)) ?_
    rcases hor with ⟨hf, hfree⟩ | ⟨hf, hold⟩
    · refine OK.t hfree (OK.t (z_inb (by omega) (by omega)) (OK.l (OK.t (z_inb (by omega) (by omega)) (OK.l (OK.l (OK.s ?_))))))
      have g97 : w.1 0 97 + 1 = nI (cnO A (v + 1)) := by rw [h3, nI_1, cn_s, if_pos hf]
      refine ⟨tbl_new hB hv hf hd hne hfree (fun k => ?_), ⟨?_, fun u hu => ?_, ?_⟩, ?_⟩
      · simp only [wI_g]
        rw [if_neg (by omega), if_neg (by omega)]
        by_cases c : k = (hpO A v + d) % 16384
        · rw [if_pos ⟨trivial, c⟩, if_pos c]
        · rw [if_neg (fun q => c q.2), if_neg c]
      · refine hS.fr (fun k => ?_)
        simp only [wI_g]
        rw [if_neg (by omega), if_neg (by omega), if_neg (by omega)]
      · simp only [wI_g]
        rw [if_neg (by omega), if_neg (show ¬ (0 = 54 ∧ 97 = (hpO A v + d) % 16384) by omega)]
        by_cases c : u = v
        · rw [if_pos ⟨trivial, c⟩, h3, c, on_f hf]
        · rw [if_neg (fun q => c q.2), if_neg (by omega)]; exact h2 u (by omega)
      · simp only [wI_g]
        rw [if_pos ⟨trivial, trivial⟩, if_neg (by omega), if_neg (by omega)]; exact g97
      · exact ((FX.w w _ (by unfold PNm; omega)).tr (FX.w _ _ (by unfold PNm; omega))).tr (FX.w _ _ (by unfold PNm; omega))
    · have hr := rp_le (A := A) v
      have hlt : rpO A v < v := by
        rcases Nat.lt_or_ge (rpO A v) v with q | q
        · exact q
        · have e : rpO A v = v := by omega
          have := rp_first (A := A) v
          rw [e, hf] at this; cases this
      rw [hold]
      refine OK.f (nI_n1 (by omega)) (OK.t (z_inb (by omega) (by omega)) (OK.t (z_inb (by omega) (by omega)) (OK.t (z_inb (by omega) (by omega)) (OK.l (OK.s ?_)))))
      rw [nI_clamp (n := rpO A v) (by omega), h2 _ hlt]
      refine ⟨(tbl_old hB hf).fr (fun k => ?_), ⟨?_, fun u hu => ?_, ?_⟩, FX.w _ _ (by unfold PNm; omega)⟩
      · rw [wI_g, if_neg (by omega)]
      · refine hS.fr (fun k => ?_)
        rw [wI_g, if_neg (by omega)]
      · rw [wI_g]
        by_cases c : u = v
        · rw [if_pos ⟨rfl, c⟩, c, on_cg (rp_like v)]
        · rw [if_neg (fun q => c q.2)]; exact h2 u (by omega)
      · rw [wI_g, if_neg (by omega), h3, cn_s, hf]; rfl
/-- the reference's reckoning -/
theorem zm_reckon (hT : tol w = A) (hI : INV A) (hPe : PEI A) (hc : w.1 0 78 = 0 ∨ RKN w A (nWy A) ∧ w.1 0 78 = 1) : OK (f_X12_reckon w) (fun v => RKN v A (nWy A) ∧ v.1 0 78 = 1 ∧ FX PRk w v) := by
  have hN := hI.1
  have h8 := hN.2.1.2
  have hW := nWy_le hN
  unfold f_X12_reckon
  by_cases h78 : w.1 0 78 = 0
  · refine OK.t h78 (OK.l (OK.l ?_))
    refine lo2 (fun m y1 u => ∃ i, m = 16384 - i ∧ i ≤ 16384 ∧ y1 = nI i ∧ (∀ k, k < i → u.1 54 k = -1) ∧ u.1 0 97 = 0 ∧ u.1 0 78 = 1 ∧ FX PRk w u) ?_ fu (16384 - 0) 0 _ (by rw [fu_eq]; omega) ⟨0, rfl, Nat.zero_le _, rfl, fun k hk => absurd hk (Nat.not_lt_zero k), by simp only [wI_g]; rfl, by simp only [wI_g]; rfl, (FX.w w _ (by unfold PRk; omega)).tr (FX.w _ _ (by unfold PRk; omega))⟩
    rintro m k y1 u ⟨i, rfl, hi, rfl, ht, h97, h781, hfx⟩ hk
    rw [X12_reckon_b20]
    by_cases hin : i < 16384
    · refine OK.f (nI_ge (b := 16384) hin (by omega)) (OK.t (z_inb hin (by omega)) (OK.l ?_))
      rw [nI_clamp (by omega)]
      refine hk _ _ _ (by omega) ⟨i + 1, rfl, hin, nI_1 i, fun j hj => ?_, by rw [wI_g, if_neg (by omega)]; exact h97, by rw [wI_g, if_neg (by omega)]; exact h781, hfx.tr (FX.w _ _ (by unfold PRk; omega))⟩
      rw [wI_g]
      by_cases c : j = i
      · rw [if_pos ⟨rfl, c⟩]
      · rw [if_neg (fun q => c q.2)]; exact ht j (by omega)
    · have e : i = 16384 := by omega
      subst e
      refine OK.t (by rfl) ?_
      refine lo2 (fun m y1 u => ∃ v, m = nWy A - v ∧ v ≤ nWy A ∧ y1 = nI v ∧ TBL u A v ∧ RKN u A v ∧ u.1 0 78 = 1 ∧ FX PRk w u) ?_ fu (nWy A - 0) 0 _ (by rw [fu_eq]; omega) ⟨0, rfl, Nat.zero_le _, rfl, ⟨fun k hk => Or.inl (ht k hk), fun u hu => absurd hu (Nat.not_lt_zero u), fun k k' hk hk' _ hn => absurd (ht k hk) hn⟩, ⟨fun v hv => absurd hv (Nat.not_lt_zero v), fun v hv => absurd hv (Nat.not_lt_zero v), h97⟩, h781, hfx⟩
      clear hk ht h97 h781 hfx
      rintro m k y1 u ⟨v, rfl, hv, rfl, hB, hR, h781, hfx⟩ hk
      have hTu := PRk_t hfx hT
      rw [X12_reckon_b42, zm_ways hTu hN, cl_s]
      by_cases hin : v < nWy A
      · refine OK.f (nI_ge hin (by omega)) (OK.v ((zm_sumWay hTu hI hPe hin).m (fun u1 h1 => ?_)))
        obtain ⟨hs, hf1⟩ := h1
        have hT1 := PSw_t hf1 hTu
        have q51 : ∀ a k, ¬ PSw v a k → u1.1 a k = u.1 a k := hf1.2
        have hS1 : SMS u1 A (v + 1) := fun x hx p hp => by
          by_cases c : x = v
          · rw [c]; exact hs p hp
          · rw [q51 51 _ (by unfold PSw PMS; omega)]; exact hR.1 x (by omega) p hp
        refine OK.v ((zm_nmO hT1 hN (by omega) hS1 (hB.fr (fun k => q51 54 k (by unfold PSw PMS; omega))) (fun x hx => (q51 52 x (by unfold PSw PMS; omega)).trans (hR.2.1 x hx)) ((q51 0 97 (by unfold PSw PMS; omega)).trans hR.2.2)).m (fun u2 h2 => ?_))
        obtain ⟨hB2, hR2, hf2⟩ := h2
        refine hk _ _ _ (by omega) ⟨v + 1, rfl, hin, nI_1 v, hB2, hR2, ?_, (hfx.tr (hf1.mo (fun a k q => q.elim Or.inl (fun h => Or.inr (Or.inl (by omega)))))).tr (hf2.mo (fun a k q => by unfold PNm at q; unfold PRk; omega))⟩
        rw [hf2.2 0 78 (by unfold PNm; omega), q51 0 78 (by unfold PSw PMS; omega)]; exact h781
      · have e : v = nWy A := by omega
        subst e
        exact OK.t (nI_le (Nat.le_refl _) (by omega)) (OK.s ⟨hR, h781, hfx⟩)
  · refine OK.f h78 (OK.s ?_)
    rcases hc with c | c
    · exact absurd c h78
    · exact ⟨c.1, c.2, FX.rf _ _⟩
end
