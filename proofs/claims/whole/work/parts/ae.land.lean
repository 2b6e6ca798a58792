/-! a land -/
-- PTC PTM PED PEM PLw PLm
def PLw (L a k : Nat) : Prop := PTC a k ∨ (a = 45 ∧ k = 1) ∨ (a = 51 ∧ 13 * L ≤ k ∧ k < 13 * L + 13)
def PLl (L a k : Nat) : Prop := PTl a k ∨ (a = 46 ∧ k = L)
def PLm (L a k : Nat) : Prop := PTM a k ∨ (a = 0 ∧ k = 26) ∨ (a = 14 ∧ 13 * L ≤ k ∧ k < 13 * L + 13)
def PLn (L a k : Nat) : Prop := a = 11 ∧ k = L
def unt (k : Nat) : Int32 := if k = 0 then 2 else if k = 9 then 50 else 0
def wU (m : Wd) (a L i : Nat) : Wd := wC m a (fun k => if 13 * L ≤ k ∧ k < 13 * L + i then unt (k - 13 * L) else m.1 a k)
theorem wU_0 (m : Wd) (a L : Nat) : wU m a L 0 = m := by
  unfold wU
  refine Prod.ext (funext fun b => funext fun k => ?_) rfl
  rw [wC_g]
  by_cases c : b = a
  · rw [if_pos c, if_neg (by omega), c]
  · rw [if_neg c]
theorem wU_s (m : Wd) (a L i : Nat) : wI (wU m a L i) a (13 * L + i) (unt i) = wU m a L (i + 1) := by
  unfold wU
  refine Prod.ext (funext fun b => funext fun k => ?_) rfl
  rw [wI_g, wC_g, wC_g]
  by_cases c : b = a
  · rw [if_pos c, if_pos c]
    by_cases d : k = 13 * L + i
    · rw [if_pos ⟨c, d⟩, if_pos (by omega), d, show 13 * L + i - 13 * L = i by omega]
    · rw [if_neg (fun q => d q.2)]
      by_cases e : 13 * L ≤ k ∧ k < 13 * L + i
      · rw [if_pos e, if_pos (by omega)]
      · rw [if_neg e, if_neg (by omega)]
  · rw [if_neg (fun q => c q.1), if_neg c, if_neg c]
theorem wU_fx (m : Wd) (a L i : Nat) : FX (fun b k => b = a ∧ 13 * L ≤ k ∧ k < 13 * L + i) m (wU m a L i) := by
  refine ⟨rfl, fun b k hn => ?_⟩
  unfold wU
  rw [wC_g]
  by_cases c : b = a
  · rw [if_pos c, if_neg (by omega), c]
  · rw [if_neg c]
theorem wU_g (m : Wd) (a L i k : Nat) (h : k < i) : (wU m a L i).1 a (13 * L + k) = unt k := by
  unfold wU
  rw [wC_g, if_pos rfl, if_pos (by omega), show 13 * L + k - 13 * L = k by omega]
section
variable {w m : Wd}
theorem zc_unt {L : Nat} (hL : L < 4) : OK (f_X0_setUntoldRules (nI L) w) (fun u => (∀ k, k < 13 → u.1 51 (13 * L + k) = unt k) ∧ FX (fun a k => a = 51 ∧ 13 * L ≤ k ∧ k < 13 * L + 13) w u) := by
  unfold f_X0_setUntoldRules
  rw [show (13 : Int32) = nI 13 from rfl, pk_mul]
  refine OK.l ?_
  refine lo3 (fun n y2 y3 v => ∃ i, n = 13 - i ∧ i ≤ 13 ∧ y2 = nI (L * 13) ∧ y3 = nI i ∧ (∀ k, k < i → v.1 51 (13 * L + k) = 0) ∧ FX (fun a k => a = 51 ∧ 13 * L ≤ k ∧ k < 13 * L + 13) w v) ?_ fu (13 - 0) (nI (L * 13)) 0 w (by rw [fu_eq]; omega) ⟨0, rfl, by omega, rfl, rfl, fun k hk => by omega, FX.rf _ _⟩
  rintro n k y2 y3 v ⟨i, rfl, hi, rfl, rfl, h0, hF⟩ hk
  rw [X0_setUntoldRules_b7]
  by_cases c : i < 13
  · refine OK.f (nI_ge (b := 13) c (by omega)) ?_
    rw [nI_add]
    refine OK.t (z_inb (show L * 13 + i < 52 by omega) (by omega)) (OK.l (hk _ _ _ _ (by omega) ⟨i + 1, rfl, c, rfl, nI_1 i, fun k hk => ?_, hF.tr (FX.w _ _ ⟨rfl, by rw [nI_clamp (by omega)]; omega, by rw [nI_clamp (by omega)]; omega⟩)⟩))
    rw [nI_clamp (by omega), wI_g]
    by_cases q : k = i
    · rw [if_pos ⟨rfl, by omega⟩]
    · rw [if_neg (by omega)]; exact h0 k (by omega)
  · have e : i = 13 := by omega
    subst e
    refine OK.t (nI_le (a := 13) (b := 13) (by omega) (by omega)) ?_
    rw [show (0 : Int32) = nI 0 from rfl, show (9 : Int32) = nI 9 from rfl, nI_add, nI_add]
    refine OK.t (z_inb (show L * 13 + 0 < 52 by omega) (by omega)) (OK.l (OK.t (z_inb (show L * 13 + 9 < 52 by omega) (by omega)) (OK.l (OK.s ⟨fun k hk => ?_, ?_⟩))))
    · rw [nI_clamp (by omega), nI_clamp (by omega), wI_g, wI_g]
      unfold unt
      by_cases q9 : k = 9
      · rw [if_pos ⟨rfl, by omega⟩, if_neg (by omega), if_pos q9]
      · rw [if_neg (by omega), if_neg q9]
        by_cases q0 : k = 0
        · rw [if_pos ⟨rfl, by omega⟩, if_pos q0]
        · rw [if_neg (by omega), if_neg q0]; exact h0 k hk
    · exact (hF.tr (FX.w _ _ ⟨rfl, by rw [nI_clamp (by omega)]; omega, by rw [nI_clamp (by omega)]; omega⟩)).tr (FX.w _ _ ⟨rfl, by rw [nI_clamp (by omega)]; omega, by rw [nI_clamp (by omega)]; omega⟩)
theorem zm_unt {L : Nat} (hL : L < 4) (h26 : m.1 0 26 = nI L) : X12_readLand_b37_L 0 m = (cl (f_X12_ruleAt (wU m 14 L 13)) fun r5 w4 => X12_readLand_b90_L 0 r5 w4) := by
  have e26 : ∀ i, (wU m 14 L i).1 0 26 = nI L := fun i => by rw [(wU_fx m 14 L i).2 0 26 (by omega)]; exact h26
  have h0 := up2 (B := fun k37 => X12_readLand_b37 k37) (z := fun _ _ => none) (fun i => (nI i, wU m 14 L i)) (fun _ => (cl (f_X12_ruleAt (wU m 14 L 13)) fun r5 w4 => X12_readLand_b90_L 0 r5 w4)) 13 ?_ ?_ fu 0 (by omega) (by rw [fu_eq]; omega)
  · dsimp only at h0
    rw [wU_0] at h0
    exact h0
  · intro i k hi hk
    dsimp only at hk ⊢
    rw [X12_readLand_b37, if_neg (show ¬ (13 : Int32) ≤ nI i from nI_ge (a := i) (b := 13) hi (by omega)), e26, show (13 : Int32) = nI 13 from rfl, pk_mul, nI_add, if_pos (z_inb (show 13 * L + i < 52 by omega) (by omega)), if_pos (z_inb (show 13 * L + i < 52 by omega) (by omega)), if_pos (z_inb (show 13 * L + i < 52 by omega) (by omega)), nI_clamp (by omega), lt_s', lt_s', lt_s', nI_1]
    rw [← wU_s] at hk
    unfold unt at hk
    by_cases q0 : i = 0
    · rw [if_pos q0] at hk
      rw [if_pos (show nI i = 0 by rw [q0]; rfl)]; exact hk
    · rw [if_neg q0] at hk
      rw [if_neg (show ¬ nI i = 0 from fun q => q0 ((nI_eq (b := 0) (by omega) (by omega)).mp q))]
      by_cases q9 : i = 9
      · rw [if_pos q9] at hk
        rw [if_pos (show nI i = 9 by rw [q9]; rfl)]; exact hk
      · rw [if_neg q9] at hk
        rw [if_neg (show ¬ nI i = 9 from fun q => q9 ((nI_eq (b := 9) (by omega) (by omega)).mp q))]; exact hk
  · intro k
    dsimp only
    rw [X12_readLand_b37, if_pos (show (13 : Int32) ≤ nI 13 by decide)]
theorem fl_landL (h : FLT w) (f : Nat) (x y z : Int32) : lp (f + 1) (fun _ _ _ _ => none) (fun k53 => X0_readLand_b53 k53) x y z w = some w := by
  show X0_readLand_b53 (lp f (fun _ _ _ _ => none) (fun k53 => X0_readLand_b53 k53)) x y z w = _
  rw [X0_readLand_b53, h.2, if_neg (show ¬ (4 : Int32) = 1 by decide)]
  by_cases q : 13 < z
  · rw [if_pos q]
  · rw [if_neg q]
/-- what holds of a land's rules while they are read -/
def LRU (w m : Wd) (L : Nat) : Prop := (∀ k, k < 13 → w.1 51 (13 * L + k) = m.1 14 (13 * L + k)) ∧ NN (m.1 14 (13 * L + 11)) 4 ∧ (NN (m.1 14 (13 * L + 12)) 4 ∧ ¬ m.1 14 (13 * L + 12) = 1) ∧ NN (m.1 14 (13 * L + 9)) 101 ∧ NN (m.1 14 (13 * L + 10)) 91
theorem LRU.wr {w' m' : Wd} {L k : Nat} {v : Int32} (h : LRU w m L) (hF : FXL PTC PTl w w') (hM : FX PTM m m') (hk : k < 13) (hv : VLR k v) : LRU (wI w' 51 (13 * L + k) v) (wI m' 14 (13 * L + k) v) L := by
  obtain ⟨h1, h2, h3, h4, h5⟩ := h
  have em : ∀ i, (wI m' 14 (13 * L + k) v).1 14 (13 * L + i) = if i = k then v else m.1 14 (13 * L + i) := fun i => by
    rw [wI_g]
    by_cases q : i = k
    · rw [if_pos ⟨rfl, by omega⟩, if_pos q]
    · rw [if_neg (by omega), if_neg q, hM.2 _ _ (by simp only [PLw, PLm, PED, PEM, PTC, PTM, and_true, true_and, or_true, true_or, and_self] <;> omega)]
  refine ⟨fun i hi => ?_, ?_, ?_, ?_, ?_⟩
  · rw [em, wI_g]
    by_cases q : i = k
    · rw [if_pos ⟨rfl, by omega⟩, if_pos q]
    · rw [if_neg (by omega), if_neg q, hF.1 _ _ (by simp only [PLw, PLm, PED, PEM, PTC, PTM, and_true, true_and, or_true, true_or, and_self] <;> omega)]; exact h1 i hi
  · rw [em]
    by_cases q : 11 = k
    · rw [if_pos q]; exact hv.1 q.symm
    · rw [if_neg q]; exact h2
  · rw [em]
    by_cases q : 12 = k
    · rw [if_pos q]; exact hv.2.1 q.symm
    · rw [if_neg q]; exact h3
  · rw [em]
    by_cases q : 9 = k
    · rw [if_pos q]; exact hv.2.2.1 q.symm
    · rw [if_neg q]; exact h4
  · rw [em]
    by_cases q : 10 = k
    · rw [if_pos q]; exact hv.2.2.2 q.symm
    · rw [if_neg q]; exact h5
end
