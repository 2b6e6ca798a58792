/-! reading in step -/
theorem lg_e {a b : Int64} : lg_cmp a b = 0 ↔ a = b := by
  have h1 : lg_cmp a b < 0 ↔ a < b := lg_cmp_lt a b
  have h2 : 0 < lg_cmp a b ↔ b < a := lg_cmp_gt a b
  rw [Int64.lt_iff_toInt_lt] at h1 h2
  rw [z_lt] at h1 h2
  have e0 : (0 : Int32).toInt = 0 := rfl
  rw [← Int32.toInt_inj, ← Int64.toInt_inj]
  omega
def PTG (wm : Wd) : Nat := (wm.1 0 4).toNatClampNeg
def tkW (b : Nat → Int32) (f k : Nat) : List Int32 := (List.range k).map (fun j => b (f + j))
def TW (wm : Wd) : Option (List Int32) := if wm.1 0 5 = 1 then some (tkW (wm.1 1) (wm.1 0 3).toNatClampNeg ((wm.1 0 4).toNatClampNeg - (wm.1 0 3).toNatClampNeg)) else none
def RT (w wm : Wd) : Prop := ∃ n f e, n ≤ 900 ∧ f ≤ e ∧ e ≤ n ∧ w.1 2 = wm.1 1 ∧ (∀ j, bRg (wm.1 1 j)) ∧ w.1 1 1 = nI n ∧ wm.1 0 2 = nI n ∧ w.1 1 7 = nI f ∧ wm.1 0 3 = nI f ∧ w.1 1 8 = nI e ∧ wm.1 0 4 = nI e ∧ w.1 1 2 = wm.1 0 5 ∧ w.1 1 4 = 0 ∧ (wm.1 0 5 = 2 → w.1 1 6 = wm.1 0 6 ∧ NN (wm.1 0 6) 100000) ∧ (wm.1 0 5 = 1 → w.2 1 3 = nmF (wm.1 1) f (e - f) ∧ ∀ j, f ≤ j → j < e → sml (wm.1 1 j) = true) ∧ (wm.1 0 5 = 0 ∨ f < e)
def GR (w wm : Wd) : Prop := RT w wm ∧ w.1 1 5 = -1 ∧ wm.1 0 8 = 0 ∧ wm.1 0 9 = -1
def FLT (w : Wd) : Prop := ¬ w.1 1 4 = 0 ∧ w.1 1 2 = 4
def FT (w wm : Wd) : Prop := FLT w ∧ w.1 1 4 = wm.1 0 8 ∧ w.1 1 5 = wm.1 0 9
def PTC (a k : Nat) : Prop := a = 1 ∧ (k = 2 ∨ 4 ≤ k ∧ k ≤ 8)
def PTM (a k : Nat) : Prop := a = 0 ∧ 3 ≤ k ∧ k ≤ 9
theorem PTk_C {w w' : Wd} (h : FXL PTk PTl w w') : FXL PTC PTl w w' := h.mo (fun a k q => by unfold PTk at q; unfold PTC; omega) (fun a k q => q)
theorem PTm_M {w w' : Wd} (h : FX PTm w w') : FX PTM w w' := h.mo (fun a k q => by unfold PTm at q; unfold PTM; omega)
theorem tkE_ge {b : Nat → Int32} {n f : Nat} (hf : f ≤ n) : f ≤ tkE b n f ∧ tkE b n f ≤ n ∧ (tkK b n f = 0 ∨ f < tkE b n f) := by
  have h1 := rn_ge sml b hf
  have h2 := rn_ge dgt b hf
  unfold tkE tkK
  by_cases c1 : f < rnE sml b n f
  · rw [if_pos c1]; exact ⟨by omega, by omega, Or.inr c1⟩
  · rw [if_neg c1, if_neg c1]
    by_cases c2 : f < rnE dgt b n f
    · rw [if_pos c2]; exact ⟨by omega, by omega, Or.inr c2⟩
    · rw [if_neg c2, if_neg c2]
      by_cases c3 : f < n
      · rw [if_pos c3]; exact ⟨by omega, by omega, Or.inr (by omega)⟩
      · rw [if_neg c3, if_neg c3]; exact ⟨by omega, by omega, Or.inl rfl⟩
theorem tkK_1 {b : Nat → Int32} {n f : Nat} (h : tkK b n f = 1) : tkE b n f = rnE sml b n f := by
  unfold tkK at h
  unfold tkE
  by_cases c1 : f < rnE sml b n f
  · rw [if_pos c1]
  · rw [if_neg c1] at h
    by_cases c2 : f < rnE dgt b n f
    · rw [if_pos c2] at h
      split at h <;> exact absurd h (by decide)
    · rw [if_neg c2] at h
      split at h
      · split at h <;> exact absurd h (by decide)
      · exact absurd h (by decide)
theorem tkK_2 {b : Nat → Int32} {n f : Nat} (h : tkK b n f = 2) : tkE b n f = rnE dgt b n f ∧ tkE b n f - f ≤ 5 := by
  unfold tkK at h
  unfold tkE
  by_cases c1 : f < rnE sml b n f
  · rw [if_pos c1] at h
    split at h <;> exact absurd h (by decide)
  · rw [if_neg c1] at h ⊢
    by_cases c2 : f < rnE dgt b n f
    · rw [if_pos c2] at h ⊢
      by_cases c3 : rnE dgt b n f - f ≤ 5
      · exact ⟨rfl, c3⟩
      · rw [if_neg c3] at h; exact absurd h (by decide)
    · rw [if_neg c2] at h
      split at h
      · split at h <;> exact absurd h (by decide)
      · exact absurd h (by decide)
theorem vl_nn {b : Nat → Int32} {f : Nat} : ∀ k, k ≤ 5 → (∀ j, j < k → dgt (b (f + j)) = true) → ∃ v, v < 10 ^ k ∧ vlF b f k = nI v
  | 0, _, _ => ⟨0, by omega, rfl⟩
  | k + 1, hk, h => by
    obtain ⟨v, hv, e⟩ := vl_nn k (by omega) (fun j hj => h j (by omega))
    have hd := dgt_pos (h k (by omega))
    obtain ⟨d, hd9, ed⟩ : ∃ d, d < 10 ∧ b (f + k) = nI (48 + d) := by
      refine ⟨((b (f + k)).toInt - 48).toNat, by omega, ?_⟩
      apply Int32.toInt_inj.mp
      rw [nI_toInt (by omega)]
      omega
    have h10 : (10 : Nat) ^ (k + 1) = 10 ^ k * 10 := Nat.pow_succ 10 k
    have hp : (10 : Nat) ^ k ≤ 10 ^ 4 := Nat.pow_le_pow_right (by omega) (by omega)
    refine ⟨v * 10 + d, by rw [h10]; omega, ?_⟩
    show vlF b f k * 10 + (b (f + k) - 48) = _
    rw [e, ed, show (48 : Int32) = nI 48 from rfl, pk_sub (by omega), show (10 : Int32) = nI 10 from rfl, pk_mul, nI_add, show 48 + d - 48 = d by omega]
section
variable {w wm : Wd}
theorem q_tok {n s : Nat} (hn9 : n ≤ 900) (hsn : s ≤ n) (hB : w.1 2 = wm.1 1) (hR : ∀ j, bRg (wm.1 1 j)) (h1 : w.1 1 1 = nI n) (h2 : wm.1 0 2 = nI n) (h3 : w.1 1 8 = nI s) (h4 : wm.1 0 4 = nI s) (h0 : w.1 1 4 = 0) : ∃ w' wm', f_X10_step w = some w' ∧ f_X12_scan wm = some wm' ∧ RT w' wm' ∧ s ≤ PTG wm' ∧ (wm'.1 0 5 = 0 ∨ s < PTG wm') ∧ FXL PTk PTl w w' ∧ FX PTm wm wm' := by
  obtain ⟨w', e1, a7, a8, a2, a6, a3, aF⟩ := zc_tok h1 hn9 h3 hsn h0
  obtain ⟨wm', e2, b3, b4, b5, b6, bF⟩ := zm_tok h2 hn9 h4 hsn (fun k _ => hR k)
  rw [hB] at a7 a8 a2 a6 a3
  have hf := rn_ge blnk (wm.1 1) hsn
  have hfe : tkF (wm.1 1) n s = rnE blnk (wm.1 1) n s := rfl
  have he := tkE_ge (b := wm.1 1) (n := n) (f := tkF (wm.1 1) n s) (by omega)
  have hPG : PTG wm' = tkE (wm.1 1) n (tkF (wm.1 1) n s) := by unfold PTG; rw [b4, nI_clamp (by omega)]
  have hb1 : wm'.1 1 = wm.1 1 := funext fun k => bF.2 1 k (by unfold PTm; omega)
  refine ⟨w', wm', e1, e2, ⟨n, tkF (wm.1 1) n s, tkE (wm.1 1) n (tkF (wm.1 1) n s), hn9, he.1, he.2.1, ?_, ?_, ?_, ?_, a7, b3, a8, b4, a2.trans b5.symm, ?_, fun q => ?_, fun q => ?_, ?_⟩, by omega, ?_, aF, bF⟩
  · rw [hb1, ← hB]; exact funext fun k => aF.1 2 k (by unfold PTk; omega)
  · rw [hb1]; exact hR
  · exact (aF.1 1 1 (by unfold PTk; omega)).trans h1
  · exact (bF.2 0 2 (by unfold PTm; omega)).trans h2
  · exact (aF.1 1 4 (by unfold PTk; omega)).trans h0
  · rw [a6 ((a2.trans b5.symm).trans q), b6 q]
    refine ⟨rfl, ?_⟩
    obtain ⟨k1, k2⟩ := tkK_2 (b5.symm.trans q)
    obtain ⟨v, hv, e⟩ := vl_nn (b := wm.1 1) (f := tkF (wm.1 1) n s) (tkE (wm.1 1) n (tkF (wm.1 1) n s) - tkF (wm.1 1) n s) k2 (fun j hj => by
      rw [k1] at hj
      exact rn_all (n := n) (s := tkF (wm.1 1) n s) (by omega) (by omega))
    exact ⟨v, Nat.lt_of_lt_of_le hv (Nat.pow_le_pow_right (by omega) k2), e⟩
  · rw [hb1]
    refine ⟨a3 ((a2.trans b5.symm).trans q), fun j j1 j2 => ?_⟩
    rw [tkK_1 (b5.symm.trans q)] at j2
    exact rn_all j1 j2
  · rw [b5]; exact he.2.2
  · rw [b5, hPG]
    rcases he.2.2 with h | h
    · exact Or.inl h
    · exact Or.inr (by omega)
theorem q_step (h : GR w wm) : ∃ w' wm', f_X10_step w = some w' ∧ f_X12_scan wm = some wm' ∧ GR w' wm' ∧ PTG wm ≤ PTG wm' ∧ (wm'.1 0 5 = 0 ∨ PTG wm < PTG wm') ∧ FXL PTC PTl w w' ∧ FX PTM wm wm' := by
  obtain ⟨⟨n, f, e, h1, h2, h3, h4, h5, h6, h7, h8, h9, h10, h11, h12, h13, -⟩, g1, g2, g3⟩ := h
  obtain ⟨w', wm', e1, e2, hr, p1, p2, hF, hM⟩ := q_tok h1 h3 h4 h5 h6 h7 h10 h11 h13
  have hPG : PTG wm = e := by unfold PTG; rw [h11, nI_clamp (by omega)]
  refine ⟨w', wm', e1, e2, ⟨hr, ?_, ?_, ?_⟩, by omega, by rw [hPG]; exact p2, PTk_C hF, PTm_M hM⟩
  · exact (hF.1 1 5 (by unfold PTk; omega)).trans g1
  · exact (hM.2 0 8 (by unfold PTm; omega)).trans g2
  · exact (hM.2 0 9 (by unfold PTm; omega)).trans g3
theorem q_fail (h : GR w wm) {k : Int32} (hk : ¬ k = 0) : ∃ w' wm', f_X10_fail k w = some w' ∧ f_X12_bad k wm = some (0, wm') ∧ FT w' wm' ∧ FXL PTC PTl w w' ∧ FX PTM wm wm' := by
  obtain ⟨⟨n, f, e, h1, h2, h3, h4, h5, h6, h7, h8, h9, h10, h11, h12, h13, -⟩, g1, g2, g3⟩ := h
  refine ⟨wI (wI (wI w 1 4 k) 1 5 (nI f)) 1 2 4, wI (wI wm 0 8 k) 0 9 (nI f), ?_, ?_, ⟨⟨?_, ?_⟩, ?_, ?_⟩, ?_, ?_⟩
  · unfold f_X10_fail
    rw [if_pos h13, lt_s', lt_s', lt_s', wI_g, if_neg (by omega), h8]
  · unfold f_X12_bad
    rw [lt_s', lt_s', wI_g, if_neg (by omega), h9]
  · rw [wI_g, if_neg (by omega), wI_g, if_neg (by omega), wI_s]; exact hk
  · rw [wI_s]
  · rw [wI_g, if_neg (by omega), wI_g, if_neg (by omega), wI_s, wI_g, if_neg (by omega), wI_s]
  · rw [wI_g, if_neg (by omega), wI_s, wI_s]
  · exact ((FXL.w w _ (by unfold PTC; omega)).tr (FXL.w _ _ (by unfold PTC; omega))).tr (FXL.w _ _ (by unfold PTC; omega))
  · exact (FX.w wm _ (by unfold PTM; omega)).tr (FX.w _ _ (by unfold PTM; omega))
/-! words -/
theorem tkW_len (b : Nat → Int32) (f k : Nat) : (tkW b f k).length = k := by unfold tkW; rw [List.length_map, List.length_range]
theorem tkW_get {b : Nat → Int32} {f k i : Nat} (h : i < k) : (tkW b f k).getD i 0 = b (f + i) := by
  unfold tkW
  rw [List.getD_eq_getElem?_getD, List.getElem?_map, List.getElem?_range h]; rfl
theorem sL_all : ∀ s, s < 47 → sLen.getD s 0 = (sByt.getD s []).length ∧ (sByt.getD s []).length < 9 := by decide
theorem ext_D {L M : List Int32} (h : L.length = M.length) (e : ∀ i, i < L.length → L.getD i 0 = M.getD i 0) : L = M := by
  refine List.ext_getElem h (fun i h1 h2 => ?_)
  have := e i h1
  rw [List.getD_eq_getElem?_getD, List.getD_eq_getElem?_getD, List.getElem?_eq_getElem h1, List.getElem?_eq_getElem h2] at this
  exact this
theorem zc_isT (h : GR w wm) {s : Nat} (hs : s < 47) : f_X10_is s w = some (bI (decide (TW wm = some (sByt.getD s []))), w) := by
  obtain ⟨⟨n, f, e, h1, h2, h3, h4, h5, h6, h7, h8, h9, h10, h11, h12, h13, -⟩, g1, g2, g3⟩ := h
  obtain ⟨l1, l2⟩ := sL_all s hs
  have lo : OK (X10_is_b28_L s 0 w) (fun q => (e - f = (sByt.getD s []).length) → q = (bI (decide (tkW (wm.1 1) f (e - f) = sByt.getD s [])), w)) → e - f = (sByt.getD s []).length → X10_is_b28_L s 0 w = some (bI (decide (tkW (wm.1 1) f (e - f) = sByt.getD s [])), w) := by
    rintro ⟨q, e1, e2⟩ hl
    rw [e1, e2 hl]
  unfold f_X10_is
  rw [h12, h8, h10, l1]
  unfold TW
  rw [h11, h9, nI_clamp (by omega), nI_clamp (by omega)]
  by_cases c : wm.1 0 5 = 1
  · rw [if_pos c, if_pos c, pk_sub h2]
    by_cases d : e - f = (sByt.getD s []).length
    · rw [if_pos (show nI (e - f) = Int32.ofNat (sByt.getD s []).length by rw [d]; rfl)]
      rw [lo ?_ d]
      · simp
      · refine lo3 (fun m y1 y2 v => ∃ j, m = (e - f) - j ∧ j ≤ e - f ∧ y1 = s ∧ y2 = nI j ∧ w = v ∧ ∀ i, i < j → wm.1 1 (f + i) = (sByt.getD s []).getD i 0) ?_ fu (e - f - 0) s 0 w (by rw [fu_eq]; omega) ⟨0, rfl, Nat.zero_le _, rfl, rfl, rfl, fun i hi => by omega⟩
        rintro m k y1 y2 v ⟨j, rfl, hj, rfl, rfl, rfl, hm⟩ hk
        rw [X10_is_b28, l1, h8, h4]
        by_cases cj : j < e - f
        · refine OK.f (by rw [← d]; exact nI_ge cj (by omega)) ?_
          rw [nI_add]
          refine OK.t (z_inb (by omega) (by omega)) (OK.t (z_inb (by omega) (by omega)) ?_)
          rw [nI_clamp (by omega), nI_clamp (by omega)]
          refine OK.i (fun q => hk _ _ _ _ (by omega) ⟨j + 1, rfl, cj, rfl, nI_1 j, rfl, fun i hi => ?_⟩) (fun q => OK.s (fun _ => ?_))
          · by_cases ci : i = j
            · rw [ci]; exact q
            · exact hm i (by omega)
          · rw [decide_eq_false]; · rfl
            intro hE
            refine q ?_
            rw [← hE, tkW_get cj]
        · refine OK.t (by rw [← d]; exact nI_le (by omega) (by omega)) (OK.s (fun _ => ?_))
          rw [decide_eq_true]; · rfl
          refine ext_D (by rw [tkW_len]; exact d) (fun i hi => ?_)
          rw [tkW_len] at hi
          rw [tkW_get hi]; exact hm i (by omega)
    · rw [if_neg (show ¬ nI (e - f) = Int32.ofNat (sByt.getD s []).length from fun q => d ((nI_eq (by omega) (by omega)).mp q)), decide_eq_false]
      · rfl
      · intro hE
        have := congrArg List.length (Option.some.inj hE)
        rw [tkW_len] at this
        exact d this
  · rw [if_neg c, if_neg c, decide_eq_false (by simp)]; rfl
theorem zm_isT (h : GR w wm) {s : Nat} (hs : s < 47) : f_X12_is s wm = some (bI (decide (TW wm = some (sByt.getD s []))), wm) := by
  obtain ⟨⟨n, f, e, h1, h2, h3, h4, h5, h6, h7, h8, h9, h10, h11, h12, h13, -⟩, g1, g2, g3⟩ := h
  obtain ⟨l1, l2⟩ := sL_all s hs
  have z0 : X12_is_b32_L s 0 0 wm = some (0, wm) := by
    have hz : OK (X12_is_b32_L s 0 0 wm) (fun q => q = (0, wm)) := by
      refine lo4 (fun m y1 y2 y3 v => y2 = 0 ∧ wm = v) ?_ fu 0 s 0 0 wm (by rw [fu_eq]; omega) ⟨rfl, rfl⟩
      rintro m k y1 y2 y3 v ⟨rfl, rfl⟩ hk
      rw [X12_is_b32]
      exact OK.i (fun _ => OK.t rfl (OK.s rfl)) (fun _ => OK.t rfl (OK.t rfl (OK.s rfl)))
    obtain ⟨q, e1, rfl⟩ := hz
    exact e1
  have lo : OK (X12_is_b32_L s 1 0 wm) (fun q => (e - f = (sByt.getD s []).length) → q = (bI (decide (tkW (wm.1 1) f (e - f) = sByt.getD s [])), wm)) → e - f = (sByt.getD s []).length → X12_is_b32_L s 1 0 wm = some (bI (decide (tkW (wm.1 1) f (e - f) = sByt.getD s [])), wm) := by
    rintro ⟨q, e1, e2⟩ hl
    rw [e1, e2 hl]
  unfold f_X12_is
  rw [h11, h9, l1, z0]
  unfold TW
  rw [h11, h9, nI_clamp (by omega), nI_clamp (by omega)]
  by_cases c : wm.1 0 5 = 1
  · rw [if_pos c, if_pos c, pk_sub h2]
    by_cases d : e - f = (sByt.getD s []).length
    · rw [if_pos (show nI (e - f) = Int32.ofNat (sByt.getD s []).length by rw [d]; rfl)]
      rw [lo ?_ d]
      · simp
      · refine lo4 (fun m y1 y2 y3 v => ∃ j, m = (e - f) - j ∧ j ≤ e - f ∧ y1 = s ∧ y3 = nI j ∧ wm = v ∧ ((y2 = 1 ∧ ∀ i, i < j → wm.1 1 (f + i) = (sByt.getD s []).getD i 0) ∨ (y2 = 0 ∧ ¬ tkW (wm.1 1) f (e - f) = sByt.getD s []))) ?_ fu (e - f - 0) s 1 0 wm (by rw [fu_eq]; omega) ⟨0, rfl, Nat.zero_le _, rfl, rfl, rfl, Or.inl ⟨rfl, fun i hi => by omega⟩⟩
        rintro m k y1 y2 y3 v ⟨j, rfl, hj, rfl, rfl, rfl, hm⟩ hk
        rw [X12_is_b32, l1, h9]
        rcases hm with ⟨rfl, hm⟩ | ⟨rfl, hm⟩
        · by_cases cj : j < e - f
          · refine OK.f (by rw [← d]; exact nI_ge cj (by omega)) (OK.f (by decide) ?_)
            rw [nI_add]
            refine OK.t (z_inb (by omega) (by omega)) (OK.t (z_inb (by omega) (by omega)) ?_)
            rw [nI_clamp (by omega), nI_clamp (by omega)]
            refine OK.i (fun q => hk _ _ _ _ _ (by omega) ⟨j + 1, rfl, cj, rfl, nI_1 j, rfl, Or.inl ⟨rfl, fun i hi => ?_⟩⟩) (fun q => hk _ _ _ _ _ (by omega) ⟨j + 1, rfl, cj, rfl, nI_1 j, rfl, Or.inr ⟨rfl, fun hE => ?_⟩⟩)
            · by_cases ci : i = j
              · rw [ci]; exact q
              · exact hm i (by omega)
            · refine q ?_
              rw [← hE, tkW_get cj]
          · refine OK.t (by rw [← d]; exact nI_le (by omega) (by omega)) (OK.t (by decide) (OK.s (fun _ => ?_)))
            rw [decide_eq_true]; · rfl
            refine ext_D (by rw [tkW_len]; exact d) (fun i hi => ?_)
            rw [tkW_len] at hi
            rw [tkW_get hi]; exact hm i (by omega)
        · refine OK.i (fun _ => OK.t (by decide) (OK.s (fun _ => ?_))) (fun _ => OK.t rfl (OK.t (by decide) (OK.s (fun _ => ?_))))
          · rw [decide_eq_false hm]; rfl
          · rw [decide_eq_false hm]; rfl
    · rw [if_neg (show ¬ nI (e - f) = Int32.ofNat (sByt.getD s []).length from fun q => d ((nI_eq (by omega) (by omega)).mp q)), decide_eq_false]
      · rfl
      · intro hE
        have := congrArg List.length (Option.some.inj hE)
        rw [tkW_len] at this
        exact d this
  · rw [if_neg c, if_neg c, decide_eq_false (by simp)]; rfl
end
/-! behind a fault nothing is read -/
section
variable {w : Wd}
theorem zf_fail (h : FLT w) (k : Int32) : f_X10_fail k w = some w := by unfold f_X10_fail; rw [if_neg h.1]
theorem zf_step (h : FLT w) : f_X10_step w = some w := by unfold f_X10_step; rw [if_neg h.1]
theorem zf_is (h : FLT w) (s : Nat) : f_X10_is s w = some (0, w) := by unfold f_X10_is; rw [h.2, if_neg (by decide)]
theorem zf_passes (h : FLT w) (s : Nat) : f_X10_passes s w = some (0, w) := by unfold f_X10_passes; rw [zf_is h, cl_s, if_pos rfl]
theorem zf_need (h : FLT w) (s : Nat) : f_X10_need s w = some w := by unfold f_X10_need; rw [zf_is h, cl_s, if_pos rfl, zf_fail h, cv_s]
theorem zf_number (h : FLT w) (a b : Int32) : f_X10_number a b w = some (a, w) := by unfold f_X10_number; rw [h.2, if_neg (by decide), zf_fail h, cv_s]
theorem zf_known (h : FLT w) (o n : Nat) (x : Int32) : f_X10_known o n x w = some (-1, w) := by unfold f_X10_known; rw [h.2, if_neg (by decide), zf_fail h, cv_s]
theorem zf_failed (h : FLT w) : f_X10_hasFailed w = some (1, w) := by unfold f_X10_hasFailed; rw [if_neg h.1]
theorem zf_goesOn (h : FLT w) : f_X10_goesOn w = some (0, w) := by unfold f_X10_goesOn; rw [if_neg h.1]
theorem zf_newName (h : FLT w) (o n : Nat) : f_X10_hasNewName o n w = some (0, w) := by unfold f_X10_hasNewName X10_hasNewName_b33; rw [h.2, if_neg (by decide), zf_fail h, cv_s, zf_failed h, cl_s, if_neg (by decide)]
theorem zf_paperNumber (h : FLT w) (a b : Int32) : f_X10_paperNumber a b w = some (-1, w) := by
  unfold f_X10_paperNumber X10_paperNumber_b32
  rw [h.2, if_neg (by decide), zf_number h, cl_s, zf_failed h, cl_s, if_neg (by decide)]
theorem zf_chosen (h : FLT w) (a b c d : Nat) : f_X10_chosen a b c d w = some (0, w) := by
  unfold f_X10_chosen X10_chosen_b59
  rw [zf_is h, cl_s, if_pos rfl, zf_is h, cl_s, if_pos rfl, zf_is h, cl_s, if_pos rfl, zf_is h, cl_s, if_pos rfl, zf_fail h, cv_s, zf_step h, cv_s]
theorem zf_mark (h : FLT w) : f_X10_needMark w = some w := by unfold f_X10_needMark; rw [h.2, if_neg (by decide), zf_fail h, cv_s]
theorem zf_bit (w : Wd) : f_X6_bit (-1) w = some (0, w) := by unfold f_X6_bit; rw [if_neg (by decide)]
theorem zc_bit {i : Nat} (hi : i < 2 ^ 31) (w : Wd) : f_X6_bit (nI i) w = some (1 <<< (nI i &&& 31), w) := by
  unfold f_X6_bit; rw [if_pos (show (0 : Int32) ≤ nI i by rw [z_le, nI_toInt hi]; show (0 : Int) ≤ _; omega)]
end
