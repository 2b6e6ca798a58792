/-! rules -/
-- PTC PTM PED PEM
section
variable {w m : Wd}
theorem zm_s7 (h : GR w m) {m' : Wd} (e : f_X12_scan m = some m') : m'.1 0 7 = m.1 0 7 := by
  obtain ⟨⟨n, f, ee, k1, k2, k3, k4, k5, k6, k7, k8, k9, k10, k11, k12, k13, -⟩, g1, g2, g3⟩ := h
  obtain ⟨v, u1, -, -, -, -, u2⟩ := zm_tok k7 k1 k11 k3 (fun k _ => k5 k)
  rw [e] at u1
  cases u1
  exact u2.2 0 7 (by unfold PTm; omega)
theorem zc_failw (h : GR w m) (k : Int32) : f_X10_fail k w = some (wI (wI (wI w 1 4 k) 1 5 (m.1 0 3)) 1 2 4) := by
  obtain ⟨⟨n, f, e, h1, h2, h3, h4, h5, h6, h7, h8, h9, h10, h11, h12, h13, -⟩, -⟩ := h
  unfold f_X10_fail
  rw [if_pos h13, lt_s', lt_s', lt_s', wI_g, if_neg (by omega), h8, h9]
theorem zf_rule (h : FLT w) : f_X0_ruleNamed w = some (-1, w) := by
  unfold f_X0_ruleNamed
  simp only [zf_is h, cl_s, if_true]
theorem q_rnam (h : GR w m) : ∃ r, f_X0_ruleNamed w = some (r, w) ∧ f_X12_ruleAt m = some (r, m) ∧ (r = -1 ∨ (NN r 13 ∧ m.1 0 5 = 1)) := by
  unfold f_X0_ruleNamed f_X12_ruleAt
  by_cases n1 : TW m = some (sByt.getD 1 [])
  · refine ⟨nI 0, ?_, ?_, Or.inr ⟨⟨0, by omega, rfl⟩, ?_⟩⟩
    · rw [zcY h (show 1 < 47 by omega) n1, cl_s, i10]; rfl
    · rw [zmY h (show 1 < 47 by omega) n1, cl_s, i10]; rfl
    · unfold TW at n1
      by_cases q : m.1 0 5 = 1
      · exact q
      · rw [if_neg q] at n1; cases n1
  by_cases n2 : TW m = some (sByt.getD 2 [])
  · refine ⟨nI 1, ?_, ?_, Or.inr ⟨⟨1, by omega, rfl⟩, ?_⟩⟩
    · rw [zcN h (show 1 < 47 by omega) n1, cl_s, i01, zcY h (show 2 < 47 by omega) n2, cl_s, i10]; rfl
    · rw [zmN h (show 1 < 47 by omega) n1, cl_s, i01, zmY h (show 2 < 47 by omega) n2, cl_s, i10]; rfl
    · unfold TW at n2
      by_cases q : m.1 0 5 = 1
      · exact q
      · rw [if_neg q] at n2; cases n2
  by_cases n3 : TW m = some (sByt.getD 3 [])
  · refine ⟨nI 2, ?_, ?_, Or.inr ⟨⟨2, by omega, rfl⟩, ?_⟩⟩
    · rw [zcN h (show 1 < 47 by omega) n1, cl_s, i01, zcN h (show 2 < 47 by omega) n2, cl_s, i01, zcY h (show 3 < 47 by omega) n3, cl_s, i10]; rfl
    · rw [zmN h (show 1 < 47 by omega) n1, cl_s, i01, zmN h (show 2 < 47 by omega) n2, cl_s, i01, zmY h (show 3 < 47 by omega) n3, cl_s, i10]; rfl
    · unfold TW at n3
      by_cases q : m.1 0 5 = 1
      · exact q
      · rw [if_neg q] at n3; cases n3
  by_cases n4 : TW m = some (sByt.getD 4 [])
  · refine ⟨nI 3, ?_, ?_, Or.inr ⟨⟨3, by omega, rfl⟩, ?_⟩⟩
    · rw [zcN h (show 1 < 47 by omega) n1, cl_s, i01, zcN h (show 2 < 47 by omega) n2, cl_s, i01, zcN h (show 3 < 47 by omega) n3, cl_s, i01, zcY h (show 4 < 47 by omega) n4, cl_s, i10]; rfl
    · rw [zmN h (show 1 < 47 by omega) n1, cl_s, i01, zmN h (show 2 < 47 by omega) n2, cl_s, i01, zmN h (show 3 < 47 by omega) n3, cl_s, i01, zmY h (show 4 < 47 by omega) n4, cl_s, i10]; rfl
    · unfold TW at n4
      by_cases q : m.1 0 5 = 1
      · exact q
      · rw [if_neg q] at n4; cases n4
  by_cases n5 : TW m = some (sByt.getD 5 [])
  · refine ⟨nI 4, ?_, ?_, Or.inr ⟨⟨4, by omega, rfl⟩, ?_⟩⟩
    · rw [zcN h (show 1 < 47 by omega) n1, cl_s, i01, zcN h (show 2 < 47 by omega) n2, cl_s, i01, zcN h (show 3 < 47 by omega) n3, cl_s, i01, zcN h (show 4 < 47 by omega) n4, cl_s, i01, zcY h (show 5 < 47 by omega) n5, cl_s, i10]; rfl
    · rw [zmN h (show 1 < 47 by omega) n1, cl_s, i01, zmN h (show 2 < 47 by omega) n2, cl_s, i01, zmN h (show 3 < 47 by omega) n3, cl_s, i01, zmN h (show 4 < 47 by omega) n4, cl_s, i01, zmY h (show 5 < 47 by omega) n5, cl_s, i10]; rfl
    · unfold TW at n5
      by_cases q : m.1 0 5 = 1
      · exact q
      · rw [if_neg q] at n5; cases n5
  by_cases n6 : TW m = some (sByt.getD 6 [])
  · refine ⟨nI 5, ?_, ?_, Or.inr ⟨⟨5, by omega, rfl⟩, ?_⟩⟩
    · rw [zcN h (show 1 < 47 by omega) n1, cl_s, i01, zcN h (show 2 < 47 by omega) n2, cl_s, i01, zcN h (show 3 < 47 by omega) n3, cl_s, i01, zcN h (show 4 < 47 by omega) n4, cl_s, i01, zcN h (show 5 < 47 by omega) n5, cl_s, i01, zcY h (show 6 < 47 by omega) n6, cl_s, i10]; rfl
    · rw [zmN h (show 1 < 47 by omega) n1, cl_s, i01, zmN h (show 2 < 47 by omega) n2, cl_s, i01, zmN h (show 3 < 47 by omega) n3, cl_s, i01, zmN h (show 4 < 47 by omega) n4, cl_s, i01, zmN h (show 5 < 47 by omega) n5, cl_s, i01, zmY h (show 6 < 47 by omega) n6, cl_s, i10]; rfl
    · unfold TW at n6
      by_cases q : m.1 0 5 = 1
      · exact q
      · rw [if_neg q] at n6; cases n6
  by_cases n7 : TW m = some (sByt.getD 7 [])
  · refine ⟨nI 6, ?_, ?_, Or.inr ⟨⟨6, by omega, rfl⟩, ?_⟩⟩
    · rw [zcN h (show 1 < 47 by omega) n1, cl_s, i01, zcN h (show 2 < 47 by omega) n2, cl_s, i01, zcN h (show 3 < 47 by omega) n3, cl_s, i01, zcN h (show 4 < 47 by omega) n4, cl_s, i01, zcN h (show 5 < 47 by omega) n5, cl_s, i01, zcN h (show 6 < 47 by omega) n6, cl_s, i01, zcY h (show 7 < 47 by omega) n7, cl_s, i10]; rfl
    · rw [zmN h (show 1 < 47 by omega) n1, cl_s, i01, zmN h (show 2 < 47 by omega) n2, cl_s, i01, zmN h (show 3 < 47 by omega) n3, cl_s, i01, zmN h (show 4 < 47 by omega) n4, cl_s, i01, zmN h (show 5 < 47 by omega) n5, cl_s, i01, zmN h (show 6 < 47 by omega) n6, cl_s, i01, zmY h (show 7 < 47 by omega) n7, cl_s, i10]; rfl
    · unfold TW at n7
      by_cases q : m.1 0 5 = 1
      · exact q
      · rw [if_neg q] at n7; cases n7
  by_cases n8 : TW m = some (sByt.getD 8 [])
  · refine ⟨nI 7, ?_, ?_, Or.inr ⟨⟨7, by omega, rfl⟩, ?_⟩⟩
    · rw [zcN h (show 1 < 47 by omega) n1, cl_s, i01, zcN h (show 2 < 47 by omega) n2, cl_s, i01, zcN h (show 3 < 47 by omega) n3, cl_s, i01, zcN h (show 4 < 47 by omega) n4, cl_s, i01, zcN h (show 5 < 47 by omega) n5, cl_s, i01, zcN h (show 6 < 47 by omega) n6, cl_s, i01, zcN h (show 7 < 47 by omega) n7, cl_s, i01, zcY h (show 8 < 47 by omega) n8, cl_s, i10]; rfl
    · rw [zmN h (show 1 < 47 by omega) n1, cl_s, i01, zmN h (show 2 < 47 by omega) n2, cl_s, i01, zmN h (show 3 < 47 by omega) n3, cl_s, i01, zmN h (show 4 < 47 by omega) n4, cl_s, i01, zmN h (show 5 < 47 by omega) n5, cl_s, i01, zmN h (show 6 < 47 by omega) n6, cl_s, i01, zmN h (show 7 < 47 by omega) n7, cl_s, i01, zmY h (show 8 < 47 by omega) n8, cl_s, i10]; rfl
    · unfold TW at n8
      by_cases q : m.1 0 5 = 1
      · exact q
      · rw [if_neg q] at n8; cases n8
  by_cases n9 : TW m = some (sByt.getD 9 [])
  · refine ⟨nI 8, ?_, ?_, Or.inr ⟨⟨8, by omega, rfl⟩, ?_⟩⟩
    · rw [zcN h (show 1 < 47 by omega) n1, cl_s, i01, zcN h (show 2 < 47 by omega) n2, cl_s, i01, zcN h (show 3 < 47 by omega) n3, cl_s, i01, zcN h (show 4 < 47 by omega) n4, cl_s, i01, zcN h (show 5 < 47 by omega) n5, cl_s, i01, zcN h (show 6 < 47 by omega) n6, cl_s, i01, zcN h (show 7 < 47 by omega) n7, cl_s, i01, zcN h (show 8 < 47 by omega) n8, cl_s, i01, zcY h (show 9 < 47 by omega) n9, cl_s, i10]; rfl
    · rw [zmN h (show 1 < 47 by omega) n1, cl_s, i01, zmN h (show 2 < 47 by omega) n2, cl_s, i01, zmN h (show 3 < 47 by omega) n3, cl_s, i01, zmN h (show 4 < 47 by omega) n4, cl_s, i01, zmN h (show 5 < 47 by omega) n5, cl_s, i01, zmN h (show 6 < 47 by omega) n6, cl_s, i01, zmN h (show 7 < 47 by omega) n7, cl_s, i01, zmN h (show 8 < 47 by omega) n8, cl_s, i01, zmY h (show 9 < 47 by omega) n9, cl_s, i10]; rfl
    · unfold TW at n9
      by_cases q : m.1 0 5 = 1
      · exact q
      · rw [if_neg q] at n9; cases n9
  by_cases n10 : TW m = some (sByt.getD 10 [])
  · refine ⟨nI 9, ?_, ?_, Or.inr ⟨⟨9, by omega, rfl⟩, ?_⟩⟩
    · rw [zcN h (show 1 < 47 by omega) n1, cl_s, i01, zcN h (show 2 < 47 by omega) n2, cl_s, i01, zcN h (show 3 < 47 by omega) n3, cl_s, i01, zcN h (show 4 < 47 by omega) n4, cl_s, i01, zcN h (show 5 < 47 by omega) n5, cl_s, i01, zcN h (show 6 < 47 by omega) n6, cl_s, i01, zcN h (show 7 < 47 by omega) n7, cl_s, i01, zcN h (show 8 < 47 by omega) n8, cl_s, i01, zcN h (show 9 < 47 by omega) n9, cl_s, i01, zcY h (show 10 < 47 by omega) n10, cl_s, i10]; rfl
    · rw [zmN h (show 1 < 47 by omega) n1, cl_s, i01, zmN h (show 2 < 47 by omega) n2, cl_s, i01, zmN h (show 3 < 47 by omega) n3, cl_s, i01, zmN h (show 4 < 47 by omega) n4, cl_s, i01, zmN h (show 5 < 47 by omega) n5, cl_s, i01, zmN h (show 6 < 47 by omega) n6, cl_s, i01, zmN h (show 7 < 47 by omega) n7, cl_s, i01, zmN h (show 8 < 47 by omega) n8, cl_s, i01, zmN h (show 9 < 47 by omega) n9, cl_s, i01, zmY h (show 10 < 47 by omega) n10, cl_s, i10]; rfl
    · unfold TW at n10
      by_cases q : m.1 0 5 = 1
      · exact q
      · rw [if_neg q] at n10; cases n10
  by_cases n11 : TW m = some (sByt.getD 11 [])
  · refine ⟨nI 10, ?_, ?_, Or.inr ⟨⟨10, by omega, rfl⟩, ?_⟩⟩
    · rw [zcN h (show 1 < 47 by omega) n1, cl_s, i01, zcN h (show 2 < 47 by omega) n2, cl_s, i01, zcN h (show 3 < 47 by omega) n3, cl_s, i01, zcN h (show 4 < 47 by omega) n4, cl_s, i01, zcN h (show 5 < 47 by omega) n5, cl_s, i01, zcN h (show 6 < 47 by omega) n6, cl_s, i01, zcN h (show 7 < 47 by omega) n7, cl_s, i01, zcN h (show 8 < 47 by omega) n8, cl_s, i01, zcN h (show 9 < 47 by omega) n9, cl_s, i01, zcN h (show 10 < 47 by omega) n10, cl_s, i01, zcY h (show 11 < 47 by omega) n11, cl_s, i10]; rfl
    · rw [zmN h (show 1 < 47 by omega) n1, cl_s, i01, zmN h (show 2 < 47 by omega) n2, cl_s, i01, zmN h (show 3 < 47 by omega) n3, cl_s, i01, zmN h (show 4 < 47 by omega) n4, cl_s, i01, zmN h (show 5 < 47 by omega) n5, cl_s, i01, zmN h (show 6 < 47 by omega) n6, cl_s, i01, zmN h (show 7 < 47 by omega) n7, cl_s, i01, zmN h (show 8 < 47 by omega) n8, cl_s, i01, zmN h (show 9 < 47 by omega) n9, cl_s, i01, zmN h (show 10 < 47 by omega) n10, cl_s, i01, zmY h (show 11 < 47 by omega) n11, cl_s, i10]; rfl
    · unfold TW at n11
      by_cases q : m.1 0 5 = 1
      · exact q
      · rw [if_neg q] at n11; cases n11
  by_cases n12 : TW m = some (sByt.getD 12 [])
  · refine ⟨nI 11, ?_, ?_, Or.inr ⟨⟨11, by omega, rfl⟩, ?_⟩⟩
    · rw [zcN h (show 1 < 47 by omega) n1, cl_s, i01, zcN h (show 2 < 47 by omega) n2, cl_s, i01, zcN h (show 3 < 47 by omega) n3, cl_s, i01, zcN h (show 4 < 47 by omega) n4, cl_s, i01, zcN h (show 5 < 47 by omega) n5, cl_s, i01, zcN h (show 6 < 47 by omega) n6, cl_s, i01, zcN h (show 7 < 47 by omega) n7, cl_s, i01, zcN h (show 8 < 47 by omega) n8, cl_s, i01, zcN h (show 9 < 47 by omega) n9, cl_s, i01, zcN h (show 10 < 47 by omega) n10, cl_s, i01, zcN h (show 11 < 47 by omega) n11, cl_s, i01, zcY h (show 12 < 47 by omega) n12, cl_s, i10]; rfl
    · rw [zmN h (show 1 < 47 by omega) n1, cl_s, i01, zmN h (show 2 < 47 by omega) n2, cl_s, i01, zmN h (show 3 < 47 by omega) n3, cl_s, i01, zmN h (show 4 < 47 by omega) n4, cl_s, i01, zmN h (show 5 < 47 by omega) n5, cl_s, i01, zmN h (show 6 < 47 by omega) n6, cl_s, i01, zmN h (show 7 < 47 by omega) n7, cl_s, i01, zmN h (show 8 < 47 by omega) n8, cl_s, i01, zmN h (show 9 < 47 by omega) n9, cl_s, i01, zmN h (show 10 < 47 by omega) n10, cl_s, i01, zmN h (show 11 < 47 by omega) n11, cl_s, i01, zmY h (show 12 < 47 by omega) n12, cl_s, i10]; rfl
    · unfold TW at n12
      by_cases q : m.1 0 5 = 1
      · exact q
      · rw [if_neg q] at n12; cases n12
  by_cases n13 : TW m = some (sByt.getD 13 [])
  · refine ⟨nI 12, ?_, ?_, Or.inr ⟨⟨12, by omega, rfl⟩, ?_⟩⟩
    · rw [zcN h (show 1 < 47 by omega) n1, cl_s, i01, zcN h (show 2 < 47 by omega) n2, cl_s, i01, zcN h (show 3 < 47 by omega) n3, cl_s, i01, zcN h (show 4 < 47 by omega) n4, cl_s, i01, zcN h (show 5 < 47 by omega) n5, cl_s, i01, zcN h (show 6 < 47 by omega) n6, cl_s, i01, zcN h (show 7 < 47 by omega) n7, cl_s, i01, zcN h (show 8 < 47 by omega) n8, cl_s, i01, zcN h (show 9 < 47 by omega) n9, cl_s, i01, zcN h (show 10 < 47 by omega) n10, cl_s, i01, zcN h (show 11 < 47 by omega) n11, cl_s, i01, zcN h (show 12 < 47 by omega) n12, cl_s, i01, zcY h (show 13 < 47 by omega) n13, cl_s, i10]; rfl
    · rw [zmN h (show 1 < 47 by omega) n1, cl_s, i01, zmN h (show 2 < 47 by omega) n2, cl_s, i01, zmN h (show 3 < 47 by omega) n3, cl_s, i01, zmN h (show 4 < 47 by omega) n4, cl_s, i01, zmN h (show 5 < 47 by omega) n5, cl_s, i01, zmN h (show 6 < 47 by omega) n6, cl_s, i01, zmN h (show 7 < 47 by omega) n7, cl_s, i01, zmN h (show 8 < 47 by omega) n8, cl_s, i01, zmN h (show 9 < 47 by omega) n9, cl_s, i01, zmN h (show 10 < 47 by omega) n10, cl_s, i01, zmN h (show 11 < 47 by omega) n11, cl_s, i01, zmN h (show 12 < 47 by omega) n12, cl_s, i01, zmY h (show 13 < 47 by omega) n13, cl_s, i10]; rfl
    · unfold TW at n13
      by_cases q : m.1 0 5 = 1
      · exact q
      · rw [if_neg q] at n13; cases n13
  refine ⟨-1, ?_, ?_, Or.inl rfl⟩
  · rw [zcN h (show 1 < 47 by omega) n1, cl_s, i01, zcN h (show 2 < 47 by omega) n2, cl_s, i01, zcN h (show 3 < 47 by omega) n3, cl_s, i01, zcN h (show 4 < 47 by omega) n4, cl_s, i01, zcN h (show 5 < 47 by omega) n5, cl_s, i01, zcN h (show 6 < 47 by omega) n6, cl_s, i01, zcN h (show 7 < 47 by omega) n7, cl_s, i01, zcN h (show 8 < 47 by omega) n8, cl_s, i01, zcN h (show 9 < 47 by omega) n9, cl_s, i01, zcN h (show 10 < 47 by omega) n10, cl_s, i01, zcN h (show 11 < 47 by omega) n11, cl_s, i01, zcN h (show 12 < 47 by omega) n12, cl_s, i01, zcN h (show 13 < 47 by omega) n13, cl_s, i01]
  · rw [zmN h (show 1 < 47 by omega) n1, cl_s, i01, zmN h (show 2 < 47 by omega) n2, cl_s, i01, zmN h (show 3 < 47 by omega) n3, cl_s, i01, zmN h (show 4 < 47 by omega) n4, cl_s, i01, zmN h (show 5 < 47 by omega) n5, cl_s, i01, zmN h (show 6 < 47 by omega) n6, cl_s, i01, zmN h (show 7 < 47 by omega) n7, cl_s, i01, zmN h (show 8 < 47 by omega) n8, cl_s, i01, zmN h (show 9 < 47 by omega) n9, cl_s, i01, zmN h (show 10 < 47 by omega) n10, cl_s, i01, zmN h (show 11 < 47 by omega) n11, cl_s, i01, zmN h (show 12 < 47 by omega) n12, cl_s, i01, zmN h (show 13 < 47 by omega) n13, cl_s, i01]
def VLR (k : Nat) (v : Int32) : Prop := (k = 11 → NN v 4) ∧ (k = 12 → NN v 4 ∧ ¬ v = 1) ∧ (k = 9 → NN v 101) ∧ (k = 10 → NN v 91)
def RRU (L k : Nat) (w m : Wd) (x : Option (Int32 × Wd)) (y : Option (Int32 × Wd)) : Prop := ∃ v w' m', x = some (v, w') ∧ FXL PTC PTl w w' ∧ FX PTM m m' ∧ ((y = some (1, wI m' 14 (13 * L + k) v) ∧ GR w' m' ∧ PTG m ≤ PTG m' ∧ VLR k v) ∨ (y = some (0, m') ∧ FT w' m'))
theorem zm_124 {L k : Nat} (hL : L < 4) (hk : k < 13) (b : Bool) : X12_readRule_b124 (nI L) (nI k) (bI b) m = some (1, wI m 14 (13 * L + k) (if b = true then m.1 0 7 else 1)) := by
  unfold X12_readRule_b124
  rw [show (13 : Int32) = nI 13 from rfl, pk_mul, nI_add, if_pos (z_inb (show 13 * L + k < 52 by omega) (by omega)), nI_clamp (n := 13 * L + k) (by omega), lt_s', if_pos (z_inb (show 13 * L + k < 52 by omega) (by omega)), lt_s']
  cases b
  · rw [bI_f, if_pos rfl, if_neg (by decide)]
  · rw [bI_t, if_neg (by decide), if_pos rfl]
theorem zm_79 {L k : Nat} (hL : L < 4) (hk : k < 13) : X12_readRule_b79 (nI L) (nI k) 1 m = some (1, wI m 14 (13 * L + k) (if k = 0 ∨ k = 9 ∨ k = 10 ∨ k = 3 ∨ k = 11 ∨ k = 12 then m.1 0 7 else 1)) := by
  have hf := zm_124 (m := m) hL hk false
  have ht := zm_124 (m := m) hL hk true
  rw [bI_f, if_neg (by decide)] at hf
  rw [bI_t, if_pos rfl] at ht
  unfold X12_readRule_b79
  rw [if_neg (show ¬ (1 : Int32) = 0 by decide), hf, ht]
  rcases (show k = 0 ∨ k = 1 ∨ k = 2 ∨ k = 3 ∨ k = 4 ∨ k = 5 ∨ k = 6 ∨ k = 7 ∨ k = 8 ∨ k = 9 ∨ k = 10 ∨ k = 11 ∨ k = 12 by omega) with rfl | rfl | rfl | rfl | rfl | rfl | rfl | rfl | rfl | rfl | rfl | rfl | rfl <;> rfl
theorem zm_79f (L k : Int32) : X12_readRule_b79 L k 0 m = some (0, m) := by
  unfold X12_readRule_b79
  rw [if_pos rfl]
theorem q_ru0 (h : GR w m) {L : Nat} (hL : L < 4) : RRU L 0 w m (cv (f_X10_step w) fun w11 => f_X0_readRule (nI 0) w11) (f_X12_readRule (nI L) (nI 0) m) := by
  obtain ⟨w1, m1, s1, s2, hG, hp, -, hF, hM⟩ := q_step h
  obtain ⟨v, w2, m2, u1, hF2, hM2, hr⟩ := q_num hG 0 3
  have ec : f_X0_readRule (nI 0) w1 = some (v, w2) := by
    show (cl (f_X10_number 0 3 w1) fun r w => some (r, w)) = _
    rw [u1, cl_s]
  have em : ∀ r u, f_X12_number 0 3 m1 = some (r, u) → f_X12_readRule (nI L) (nI 0) m = X12_readRule_b79 (nI L) (nI 0) r u := fun r u e => by
    show (cv (f_X12_scan m) fun w1 => (cl (f_X12_number 0 3 w1) fun r w => X12_readRule_b79 (nI L) (nI 0) r w)) = _
    rw [s2, cv_s, e, cl_s]
  rw [s1, cv_s, ec]
  rcases hr with ⟨u2, hG2, hp2, g7, hv⟩ | ⟨u2, hf, hv⟩
  · rw [em _ _ u2, zm_79 hL (by omega), if_pos (by omega), g7]
    have i0 : (0 : Int32).toInt = 0 := rfl
    have i1 : (3 : Int32).toInt = 3 := rfl
    exact ⟨v, w2, m2, rfl, hF.tr hF2, hM.tr hM2, Or.inl ⟨rfl, hG2, by omega, fun q => by omega, fun q => by omega, fun q => by omega, fun q => by omega⟩⟩
  · rw [em _ _ u2, zm_79f]
    exact ⟨v, w2, m2, rfl, hF.tr hF2, hM.tr hM2, Or.inr ⟨rfl, hf⟩⟩
theorem q_ru9 (h : GR w m) {L : Nat} (hL : L < 4) : RRU L 9 w m (cv (f_X10_step w) fun w11 => f_X0_readRule (nI 9) w11) (f_X12_readRule (nI L) (nI 9) m) := by
  obtain ⟨w1, m1, s1, s2, hG, hp, -, hF, hM⟩ := q_step h
  obtain ⟨v, w2, m2, u1, hF2, hM2, hr⟩ := q_num hG 0 100
  have ec : f_X0_readRule (nI 9) w1 = some (v, w2) := by
    show (cl (f_X10_number 0 100 w1) fun r w => some (r, w)) = _
    rw [u1, cl_s]
  have em : ∀ r u, f_X12_number 0 100 m1 = some (r, u) → f_X12_readRule (nI L) (nI 9) m = X12_readRule_b79 (nI L) (nI 9) r u := fun r u e => by
    show (cv (f_X12_scan m) fun w1 => (cl (f_X12_number 0 100 w1) fun r w => X12_readRule_b79 (nI L) (nI 9) r w)) = _
    rw [s2, cv_s, e, cl_s]
  rw [s1, cv_s, ec]
  rcases hr with ⟨u2, hG2, hp2, g7, hv⟩ | ⟨u2, hf, hv⟩
  · rw [em _ _ u2, zm_79 hL (by omega), if_pos (by omega), g7]
    have i0 : (0 : Int32).toInt = 0 := rfl
    have i1 : (100 : Int32).toInt = 100 := rfl
    exact ⟨v, w2, m2, rfl, hF.tr hF2, hM.tr hM2, Or.inl ⟨rfl, hG2, by omega, fun q => by omega, fun q => by omega, fun q => nn_i (by omega) (by omega), fun q => by omega⟩⟩
  · rw [em _ _ u2, zm_79f]
    exact ⟨v, w2, m2, rfl, hF.tr hF2, hM.tr hM2, Or.inr ⟨rfl, hf⟩⟩
theorem q_ru10 (h : GR w m) {L : Nat} (hL : L < 4) : RRU L 10 w m (cv (f_X10_step w) fun w11 => f_X0_readRule (nI 10) w11) (f_X12_readRule (nI L) (nI 10) m) := by
  obtain ⟨w1, m1, s1, s2, hG, hp, -, hF, hM⟩ := q_step h
  obtain ⟨v, w2, m2, u1, hF2, hM2, hr⟩ := q_num hG 0 90
  have ec : f_X0_readRule (nI 10) w1 = some (v, w2) := by
    show (cl (f_X10_number 0 90 w1) fun r w => some (r, w)) = _
    rw [u1, cl_s]
  have em : ∀ r u, f_X12_number 0 90 m1 = some (r, u) → f_X12_readRule (nI L) (nI 10) m = X12_readRule_b79 (nI L) (nI 10) r u := fun r u e => by
    show (cv (f_X12_scan m) fun w1 => (cl (f_X12_number 0 90 w1) fun r w => X12_readRule_b79 (nI L) (nI 10) r w)) = _
    rw [s2, cv_s, e, cl_s]
  rw [s1, cv_s, ec]
  rcases hr with ⟨u2, hG2, hp2, g7, hv⟩ | ⟨u2, hf, hv⟩
  · rw [em _ _ u2, zm_79 hL (by omega), if_pos (by omega), g7]
    have i0 : (0 : Int32).toInt = 0 := rfl
    have i1 : (90 : Int32).toInt = 90 := rfl
    exact ⟨v, w2, m2, rfl, hF.tr hF2, hM.tr hM2, Or.inl ⟨rfl, hG2, by omega, fun q => by omega, fun q => by omega, fun q => by omega, fun q => nn_i (by omega) (by omega)⟩⟩
  · rw [em _ _ u2, zm_79f]
    exact ⟨v, w2, m2, rfl, hF.tr hF2, hM.tr hM2, Or.inr ⟨rfl, hf⟩⟩
theorem q_ru1 (h : GR w m) {L : Nat} (hL : L < 4) : RRU L 1 w m (cv (f_X10_step w) fun w11 => f_X0_readRule (nI 1) w11) (f_X12_readRule (nI L) (nI 1) m) := by
  obtain ⟨w1, m1, s1, s2, hG, hp, -, hF, hM⟩ := q_step h
  have ec : f_X0_readRule (nI 1) w1 = some (1, w1) := rfl
  have em : f_X12_readRule (nI L) (nI 1) m = X12_readRule_b79 (nI L) (nI 1) 1 m1 := by
    show (cv (f_X12_scan m) fun w1 => X12_readRule_b79 (nI L) (nI 1) 1 w1) = _
    rw [s2, cv_s]
  rw [s1, cv_s, ec, em, zm_79 hL (by omega), if_neg (by omega)]
  exact ⟨1, w1, m1, rfl, hF, hM, Or.inl ⟨rfl, hG, hp, fun q => by omega, fun q => by omega, fun q => by omega, fun q => by omega⟩⟩
theorem q_ru2 (h : GR w m) {L : Nat} (hL : L < 4) : RRU L 2 w m (cv (f_X10_step w) fun w11 => f_X0_readRule (nI 2) w11) (f_X12_readRule (nI L) (nI 2) m) := by
  obtain ⟨w1, m1, s1, s2, hG, hp, -, hF, hM⟩ := q_step h
  have ec : f_X0_readRule (nI 2) w1 = some (1, w1) := rfl
  have em : f_X12_readRule (nI L) (nI 2) m = X12_readRule_b79 (nI L) (nI 2) 1 m1 := by
    show (cv (f_X12_scan m) fun w1 => X12_readRule_b79 (nI L) (nI 2) 1 w1) = _
    rw [s2, cv_s]
  rw [s1, cv_s, ec, em, zm_79 hL (by omega), if_neg (by omega)]
  exact ⟨1, w1, m1, rfl, hF, hM, Or.inl ⟨rfl, hG, hp, fun q => by omega, fun q => by omega, fun q => by omega, fun q => by omega⟩⟩
theorem q_ru4 (h : GR w m) {L : Nat} (hL : L < 4) : RRU L 4 w m (cv (f_X10_step w) fun w11 => f_X0_readRule (nI 4) w11) (f_X12_readRule (nI L) (nI 4) m) := by
  obtain ⟨w1, m1, s1, s2, hG, hp, -, hF, hM⟩ := q_step h
  have ec : f_X0_readRule (nI 4) w1 = some (1, w1) := rfl
  have em : f_X12_readRule (nI L) (nI 4) m = X12_readRule_b79 (nI L) (nI 4) 1 m1 := by
    show (cv (f_X12_scan m) fun w1 => X12_readRule_b79 (nI L) (nI 4) 1 w1) = _
    rw [s2, cv_s]
  rw [s1, cv_s, ec, em, zm_79 hL (by omega), if_neg (by omega)]
  exact ⟨1, w1, m1, rfl, hF, hM, Or.inl ⟨rfl, hG, hp, fun q => by omega, fun q => by omega, fun q => by omega, fun q => by omega⟩⟩
theorem q_ru5 (h : GR w m) {L : Nat} (hL : L < 4) : RRU L 5 w m (cv (f_X10_step w) fun w11 => f_X0_readRule (nI 5) w11) (f_X12_readRule (nI L) (nI 5) m) := by
  obtain ⟨w1, m1, s1, s2, hG, hp, -, hF, hM⟩ := q_step h
  have ec : f_X0_readRule (nI 5) w1 = some (1, w1) := rfl
  have em : f_X12_readRule (nI L) (nI 5) m = X12_readRule_b79 (nI L) (nI 5) 1 m1 := by
    show (cv (f_X12_scan m) fun w1 => X12_readRule_b79 (nI L) (nI 5) 1 w1) = _
    rw [s2, cv_s]
  rw [s1, cv_s, ec, em, zm_79 hL (by omega), if_neg (by omega)]
  exact ⟨1, w1, m1, rfl, hF, hM, Or.inl ⟨rfl, hG, hp, fun q => by omega, fun q => by omega, fun q => by omega, fun q => by omega⟩⟩
theorem q_ru6 (h : GR w m) {L : Nat} (hL : L < 4) : RRU L 6 w m (cv (f_X10_step w) fun w11 => f_X0_readRule (nI 6) w11) (f_X12_readRule (nI L) (nI 6) m) := by
  obtain ⟨w1, m1, s1, s2, hG, hp, -, hF, hM⟩ := q_step h
  have ec : f_X0_readRule (nI 6) w1 = some (1, w1) := rfl
  have em : f_X12_readRule (nI L) (nI 6) m = X12_readRule_b79 (nI L) (nI 6) 1 m1 := by
    show (cv (f_X12_scan m) fun w1 => X12_readRule_b79 (nI L) (nI 6) 1 w1) = _
    rw [s2, cv_s]
  rw [s1, cv_s, ec, em, zm_79 hL (by omega), if_neg (by omega)]
  exact ⟨1, w1, m1, rfl, hF, hM, Or.inl ⟨rfl, hG, hp, fun q => by omega, fun q => by omega, fun q => by omega, fun q => by omega⟩⟩
theorem q_ru7 (h : GR w m) {L : Nat} (hL : L < 4) : RRU L 7 w m (cv (f_X10_step w) fun w11 => f_X0_readRule (nI 7) w11) (f_X12_readRule (nI L) (nI 7) m) := by
  obtain ⟨w1, m1, s1, s2, hG, hp, -, hF, hM⟩ := q_step h
  have ec : f_X0_readRule (nI 7) w1 = some (1, w1) := rfl
  have em : f_X12_readRule (nI L) (nI 7) m = X12_readRule_b79 (nI L) (nI 7) 1 m1 := by
    show (cv (f_X12_scan m) fun w1 => X12_readRule_b79 (nI L) (nI 7) 1 w1) = _
    rw [s2, cv_s]
  rw [s1, cv_s, ec, em, zm_79 hL (by omega), if_neg (by omega)]
  exact ⟨1, w1, m1, rfl, hF, hM, Or.inl ⟨rfl, hG, hp, fun q => by omega, fun q => by omega, fun q => by omega, fun q => by omega⟩⟩
theorem q_ru8 (h : GR w m) {L : Nat} (hL : L < 4) : RRU L 8 w m (cv (f_X10_step w) fun w11 => f_X0_readRule (nI 8) w11) (f_X12_readRule (nI L) (nI 8) m) := by
  obtain ⟨w1, m1, s1, s2, hG, hp, -, hF, hM⟩ := q_step h
  have ec : f_X0_readRule (nI 8) w1 = some (1, w1) := rfl
  have em : f_X12_readRule (nI L) (nI 8) m = X12_readRule_b79 (nI L) (nI 8) 1 m1 := by
    show (cv (f_X12_scan m) fun w1 => X12_readRule_b79 (nI L) (nI 8) 1 w1) = _
    rw [s2, cv_s]
  rw [s1, cv_s, ec, em, zm_79 hL (by omega), if_neg (by omega)]
  exact ⟨1, w1, m1, rfl, hF, hM, Or.inl ⟨rfl, hG, hp, fun q => by omega, fun q => by omega, fun q => by omega, fun q => by omega⟩⟩
theorem q_ru3 (h : GR w m) {L : Nat} (hL : L < 4) : RRU L 3 w m (cv (f_X10_step w) fun w11 => f_X0_readRule (nI 3) w11) (f_X12_readRule (nI L) (nI 3) m) := by
  obtain ⟨w1, m1, s1, s2, hG, hp, -, hF, hM⟩ := q_step h
  have ec : ∀ r u, f_X10_chosen 14 15 16 16 w1 = some (r, u) → f_X0_readRule (nI 3) w1 = some (1 + r, u) := fun r u e => by
    show (cl (f_X10_chosen 14 15 16 16 w1) fun r w => some (1 + r, w)) = _
    rw [e, cl_s]
  have em : ∀ r u, f_X12_pick (nI 3) m1 = some (r, u) → (r = 0 ∨ r = 1) → f_X12_readRule (nI L) (nI 3) m = X12_readRule_b79 (nI L) (nI 3) r u := fun r u e hr => by
    show (cv (f_X12_scan m) fun w1 => X12_readRule_b66 (nI L) (nI 3) w1) = _
    unfold X12_readRule_b66
    rw [s2, cv_s, e, cl_s]
    rcases hr with rfl | rfl
    · rw [i01]
    · rw [i10]
  rw [s1, cv_s]
  have n16 : ¬ TW m1 = some (sByt.getD 16 []) := TW_ne hG
  have good : ∀ (g r : Int32), f_X12_pick (nI 3) m1 = X12_pick_b98 g m1 → (∀ u, f_X10_step w1 = some u → f_X0_readRule (nI 3) w1 = some (g, u)) → ¬ g = -1 → VLR 3 g → RRU L 3 w m (f_X0_readRule (nI 3) w1) (f_X12_readRule (nI L) (nI 3) m) := by
    intro g r e1 e2 g1 hv
    obtain ⟨w2, m2, x1, x2, hG2, hp2, -, hF2, hM2⟩ := q_step (hG.w7 g)
    rw [PTG_w7] at hp2
    have p1 : f_X12_pick (nI 3) m1 = some (1, m2) := by
      rw [e1]
      unfold X12_pick_b98
      rw [if_neg g1, lt_s', x2, cv_s]
    have g7 : m2.1 0 7 = g := by rw [zm_s7 (hG.w7 g) x2, wI_s]
    rw [e2 _ x1, em _ _ p1 (Or.inr rfl), zm_79 hL (by omega), if_pos (by omega), g7]
    exact ⟨g, w2, m2, rfl, hF.tr hF2, (hM.tr (FX.w _ _ (by simp only [PED, PEM, PTC, PTM, PTm, and_true, true_and, or_true, true_or, and_self] <;> omega))).tr hM2, Or.inl ⟨rfl, hG2, by omega, hv⟩⟩
  by_cases n14 : TW m1 = some (sByt.getD 14 [])
  · refine good 1 0 ?_ (fun u hu => ?_) (by decide) ⟨fun q => by omega, fun q => by omega, fun q => by omega, fun q => by omega⟩
    · unfold f_X12_pick
      rw [if_pos (show nI 3 = 3 from rfl), zmY hG (show 14 < 47 by omega) n14, cl_s, i10]
    · rw [ec _ _ ((q_chosen hG (a := 14) (b := 15) (c := 16) (d := 16) (by omega) (by omega) (by omega) (by omega) hu).2.2.2 (by rw [n14]; decide) n16 n16 n14)]; rfl
  by_cases n15 : TW m1 = some (sByt.getD 15 [])
  · refine good 2 0 ?_ (fun u hu => ?_) (by decide) ⟨fun q => by omega, fun q => by omega, fun q => by omega, fun q => by omega⟩
    · unfold f_X12_pick
      rw [if_pos (show nI 3 = 3 from rfl), zmN hG (show 14 < 47 by omega) n14, cl_s, i01, zmY hG (show 15 < 47 by omega) n15, cl_s, i10]
    · rw [ec _ _ ((q_chosen hG (a := 14) (b := 15) (c := 16) (d := 16) (by omega) (by omega) (by omega) (by omega) hu).1 n15)]; rfl
  obtain ⟨u5, m5, x5, b5, hft, F5, M5⟩ := q_fail hG (k := 1) (by decide)
  have p0 : f_X12_pick (nI 3) m1 = some (0, m5) := by
    unfold f_X12_pick X12_pick_b98
    rw [if_pos (show nI 3 = 3 from rfl), zmN hG (show 14 < 47 by omega) n14, cl_s, i01, zmN hG (show 15 < 47 by omega) n15, cl_s, i01, if_pos (show (-1 : Int32) = -1 from rfl), b5, cl_s, if_pos (show isB 0 = true from rfl)]
  rw [ec _ _ (q_chosenN hG (a := 14) (b := 15) (c := 16) (d := 16) (by omega) (by omega) (by omega) (by omega) x5 hft.1 n15 n16 n16 n14), em _ _ p0 (Or.inl rfl), zm_79f]
  exact ⟨_, u5, m5, rfl, hF.tr F5, hM.tr M5, Or.inr ⟨rfl, hft⟩⟩
theorem q_ru11 (h : GR w m) {L : Nat} (hL : L < 4) : RRU L 11 w m (cv (f_X10_step w) fun w11 => f_X0_readRule (nI 11) w11) (f_X12_readRule (nI L) (nI 11) m) := by
  obtain ⟨w1, m1, s1, s2, hG, hp, -, hF, hM⟩ := q_step h
  have ec : ∀ r u, f_X10_chosen 17 18 19 20 w1 = some (r, u) → f_X0_readRule (nI 11) w1 = some (r, u) := fun r u e => by
    show (cl (f_X10_chosen 17 18 19 20 w1) fun r w => some (r, w)) = _
    rw [e, cl_s]
  have em : ∀ r u, f_X12_pick (nI 11) m1 = some (r, u) → (r = 0 ∨ r = 1) → f_X12_readRule (nI L) (nI 11) m = X12_readRule_b79 (nI L) (nI 11) r u := fun r u e hr => by
    show (cv (f_X12_scan m) fun w1 => X12_readRule_b66 (nI L) (nI 11) w1) = _
    unfold X12_readRule_b66
    rw [s2, cv_s, e, cl_s]
    rcases hr with rfl | rfl
    · rw [i01]
    · rw [i10]
  rw [s1, cv_s]
  have n16 : ¬ TW m1 = some (sByt.getD 16 []) := TW_ne hG
  have good : ∀ (g r : Int32), f_X12_pick (nI 11) m1 = X12_pick_b98 g m1 → (∀ u, f_X10_step w1 = some u → f_X0_readRule (nI 11) w1 = some (g, u)) → ¬ g = -1 → VLR 11 g → RRU L 11 w m (f_X0_readRule (nI 11) w1) (f_X12_readRule (nI L) (nI 11) m) := by
    intro g r e1 e2 g1 hv
    obtain ⟨w2, m2, x1, x2, hG2, hp2, -, hF2, hM2⟩ := q_step (hG.w7 g)
    rw [PTG_w7] at hp2
    have p1 : f_X12_pick (nI 11) m1 = some (1, m2) := by
      rw [e1]
      unfold X12_pick_b98
      rw [if_neg g1, lt_s', x2, cv_s]
    have g7 : m2.1 0 7 = g := by rw [zm_s7 (hG.w7 g) x2, wI_s]
    rw [e2 _ x1, em _ _ p1 (Or.inr rfl), zm_79 hL (by omega), if_pos (by omega), g7]
    exact ⟨g, w2, m2, rfl, hF.tr hF2, (hM.tr (FX.w _ _ (by simp only [PED, PEM, PTC, PTM, PTm, and_true, true_and, or_true, true_or, and_self] <;> omega))).tr hM2, Or.inl ⟨rfl, hG2, by omega, hv⟩⟩
  by_cases n17 : TW m1 = some (sByt.getD 17 [])
  · refine good 0 0 ?_ (fun u hu => ?_) (by decide) ⟨fun _ => ⟨0, by omega, rfl⟩, fun q => by omega, fun q => by omega, fun q => by omega⟩
    · unfold f_X12_pick
      rw [if_neg (show ¬ nI 11 = 3 by decide), zmY hG (show 17 < 47 by omega) n17, cl_s, i10]
    · rw [ec _ _ ((q_chosen hG (a := 17) (b := 18) (c := 19) (d := 20) (by omega) (by omega) (by omega) (by omega) hu).2.2.2 (by rw [n17]; decide) (by rw [n17]; decide) (by rw [n17]; decide) n17)]
  by_cases n18 : TW m1 = some (sByt.getD 18 [])
  · refine good 1 0 ?_ (fun u hu => ?_) (by decide) ⟨fun _ => ⟨1, by omega, rfl⟩, fun q => by omega, fun q => by omega, fun q => by omega⟩
    · unfold f_X12_pick
      rw [if_neg (show ¬ nI 11 = 3 by decide), zmN hG (show 17 < 47 by omega) n17, cl_s, i01, zmY hG (show 18 < 47 by omega) n18, cl_s, i10, if_pos (show nI 11 = 11 from rfl)]
    · rw [ec _ _ ((q_chosen hG (a := 17) (b := 18) (c := 19) (d := 20) (by omega) (by omega) (by omega) (by omega) hu).1 n18)]
  by_cases n19 : TW m1 = some (sByt.getD 19 [])
  · refine good 2 0 ?_ (fun u hu => ?_) (by decide) ⟨fun _ => ⟨2, by omega, rfl⟩, fun q => by omega, fun q => by omega, fun q => by omega⟩
    · unfold f_X12_pick X12_pick_b70
      rw [if_neg (show ¬ nI 11 = 3 by decide), zmN hG (show 17 < 47 by omega) n17, cl_s, i01, zmN hG (show 18 < 47 by omega) n18, cl_s, i01, zmY hG (show 19 < 47 by omega) n19, cl_s, i10]
    · rw [ec _ _ ((q_chosen hG (a := 17) (b := 18) (c := 19) (d := 20) (by omega) (by omega) (by omega) (by omega) hu).2.1 n18 n19)]
  by_cases n20 : TW m1 = some (sByt.getD 20 [])
  · refine good 3 0 ?_ (fun u hu => ?_) (by decide) ⟨fun _ => ⟨3, by omega, rfl⟩, fun q => by omega, fun q => by omega, fun q => by omega⟩
    · unfold f_X12_pick X12_pick_b70
      rw [if_neg (show ¬ nI 11 = 3 by decide), zmN hG (show 17 < 47 by omega) n17, cl_s, i01, zmN hG (show 18 < 47 by omega) n18, cl_s, i01, zmN hG (show 19 < 47 by omega) n19, cl_s, i01, zmY hG (show 20 < 47 by omega) n20, cl_s, i10]
    · rw [ec _ _ ((q_chosen hG (a := 17) (b := 18) (c := 19) (d := 20) (by omega) (by omega) (by omega) (by omega) hu).2.2.1 n18 n19 n20)]
  obtain ⟨u5, m5, x5, b5, hft, F5, M5⟩ := q_fail hG (k := 1) (by decide)
  have p0 : f_X12_pick (nI 11) m1 = some (0, m5) := by
    unfold f_X12_pick X12_pick_b70 X12_pick_b98
    rw [if_neg (show ¬ nI 11 = 3 by decide), zmN hG (show 17 < 47 by omega) n17, cl_s, i01, zmN hG (show 18 < 47 by omega) n18, cl_s, i01, zmN hG (show 19 < 47 by omega) n19, cl_s, i01, zmN hG (show 20 < 47 by omega) n20, cl_s, i01, if_pos (show (-1 : Int32) = -1 from rfl), b5, cl_s, if_pos (show isB 0 = true from rfl)]
  rw [ec _ _ (q_chosenN hG (a := 17) (b := 18) (c := 19) (d := 20) (by omega) (by omega) (by omega) (by omega) x5 hft.1 n18 n19 n20 n17), em _ _ p0 (Or.inl rfl), zm_79f]
  exact ⟨_, u5, m5, rfl, hF.tr F5, hM.tr M5, Or.inr ⟨rfl, hft⟩⟩
theorem q_ru12 (h : GR w m) {L : Nat} (hL : L < 4) : RRU L 12 w m (cv (f_X10_step w) fun w11 => f_X0_readRule (nI 12) w11) (f_X12_readRule (nI L) (nI 12) m) := by
  obtain ⟨w1, m1, s1, s2, hG, hp, -, hF, hM⟩ := q_step h
  have ec : ∀ r u, f_X10_chosen 17 16 19 20 w1 = some (r, u) → f_X0_readRule (nI 12) w1 = some (r, u) := fun r u e => by
    show (cl (f_X10_chosen 17 16 19 20 w1) fun r w => some (r, w)) = _
    rw [e, cl_s]
  have em : ∀ r u, f_X12_pick (nI 12) m1 = some (r, u) → (r = 0 ∨ r = 1) → f_X12_readRule (nI L) (nI 12) m = X12_readRule_b79 (nI L) (nI 12) r u := fun r u e hr => by
    show (cv (f_X12_scan m) fun w1 => X12_readRule_b66 (nI L) (nI 12) w1) = _
    unfold X12_readRule_b66
    rw [s2, cv_s, e, cl_s]
    rcases hr with rfl | rfl
    · rw [i01]
    · rw [i10]
  rw [s1, cv_s]
  have n16 : ¬ TW m1 = some (sByt.getD 16 []) := TW_ne hG
  have good : ∀ (g r : Int32), f_X12_pick (nI 12) m1 = X12_pick_b98 g m1 → (∀ u, f_X10_step w1 = some u → f_X0_readRule (nI 12) w1 = some (g, u)) → ¬ g = -1 → VLR 12 g → RRU L 12 w m (f_X0_readRule (nI 12) w1) (f_X12_readRule (nI L) (nI 12) m) := by
    intro g r e1 e2 g1 hv
    obtain ⟨w2, m2, x1, x2, hG2, hp2, -, hF2, hM2⟩ := q_step (hG.w7 g)
    rw [PTG_w7] at hp2
    have p1 : f_X12_pick (nI 12) m1 = some (1, m2) := by
      rw [e1]
      unfold X12_pick_b98
      rw [if_neg g1, lt_s', x2, cv_s]
    have g7 : m2.1 0 7 = g := by rw [zm_s7 (hG.w7 g) x2, wI_s]
    rw [e2 _ x1, em _ _ p1 (Or.inr rfl), zm_79 hL (by omega), if_pos (by omega), g7]
    exact ⟨g, w2, m2, rfl, hF.tr hF2, (hM.tr (FX.w _ _ (by simp only [PED, PEM, PTC, PTM, PTm, and_true, true_and, or_true, true_or, and_self] <;> omega))).tr hM2, Or.inl ⟨rfl, hG2, by omega, hv⟩⟩
  by_cases n17 : TW m1 = some (sByt.getD 17 [])
  · refine good 0 0 ?_ (fun u hu => ?_) (by decide) ⟨fun q => by omega, fun _ => ⟨⟨0, by omega, rfl⟩, by decide⟩, fun q => by omega, fun q => by omega⟩
    · unfold f_X12_pick
      rw [if_neg (show ¬ nI 12 = 3 by decide), zmY hG (show 17 < 47 by omega) n17, cl_s, i10]
    · rw [ec _ _ ((q_chosen hG (a := 17) (b := 16) (c := 19) (d := 20) (by omega) (by omega) (by omega) (by omega) hu).2.2.2 n16 (by rw [n17]; decide) (by rw [n17]; decide) n17)]
  by_cases n19 : TW m1 = some (sByt.getD 19 [])
  · refine good 2 0 ?_ (fun u hu => ?_) (by decide) ⟨fun q => by omega, fun _ => ⟨⟨2, by omega, rfl⟩, by decide⟩, fun q => by omega, fun q => by omega⟩
    · unfold f_X12_pick X12_pick_b70
      rw [if_neg (show ¬ nI 12 = 3 by decide), zmN hG (show 17 < 47 by omega) n17, cl_s, i01, zmN hG (show 18 < 47 by omega) (by rw [n19]; decide), cl_s, i01, zmY hG (show 19 < 47 by omega) n19, cl_s, i10]
    · rw [ec _ _ ((q_chosen hG (a := 17) (b := 16) (c := 19) (d := 20) (by omega) (by omega) (by omega) (by omega) hu).2.1 n16 n19)]
  by_cases n20 : TW m1 = some (sByt.getD 20 [])
  · refine good 3 0 ?_ (fun u hu => ?_) (by decide) ⟨fun q => by omega, fun _ => ⟨⟨3, by omega, rfl⟩, by decide⟩, fun q => by omega, fun q => by omega⟩
    · unfold f_X12_pick X12_pick_b70
      rw [if_neg (show ¬ nI 12 = 3 by decide), zmN hG (show 17 < 47 by omega) n17, cl_s, i01, zmN hG (show 18 < 47 by omega) (by rw [n20]; decide), cl_s, i01, zmN hG (show 19 < 47 by omega) n19, cl_s, i01, zmY hG (show 20 < 47 by omega) n20, cl_s, i10]
    · rw [ec _ _ ((q_chosen hG (a := 17) (b := 16) (c := 19) (d := 20) (by omega) (by omega) (by omega) (by omega) hu).2.2.1 n16 n19 n20)]
  obtain ⟨u5, m5, x5, b5, hft, F5, M5⟩ := q_fail hG (k := 1) (by decide)
  have p0 : f_X12_pick (nI 12) m1 = some (0, m5) := by
    unfold f_X12_pick X12_pick_b70 X12_pick_b98
    rw [if_neg (show ¬ nI 12 = 3 by decide), zmN hG (show 17 < 47 by omega) n17, cl_s, i01]
    by_cases n18 : TW m1 = some (sByt.getD 18 [])
    · rw [zmY hG (show 18 < 47 by omega) n18, cl_s, i10, if_neg (show ¬ nI 12 = 11 by decide), zmN hG (show 19 < 47 by omega) n19, cl_s, i01, zmN hG (show 20 < 47 by omega) n20, cl_s, i01, if_pos (show (-1 : Int32) = -1 from rfl), b5, cl_s, if_pos (show isB 0 = true from rfl)]
    · rw [zmN hG (show 18 < 47 by omega) n18, cl_s, i01, zmN hG (show 19 < 47 by omega) n19, cl_s, i01, zmN hG (show 20 < 47 by omega) n20, cl_s, i01, if_pos (show (-1 : Int32) = -1 from rfl), b5, cl_s, if_pos (show isB 0 = true from rfl)]
  rw [ec _ _ (q_chosenN hG (a := 17) (b := 16) (c := 19) (d := 20) (by omega) (by omega) (by omega) (by omega) x5 hft.1 n16 n19 n20 n17), em _ _ p0 (Or.inl rfl), zm_79f]
  exact ⟨_, u5, m5, rfl, hF.tr F5, hM.tr M5, Or.inr ⟨rfl, hft⟩⟩
theorem q_ru (h : GR w m) {L k : Nat} (hL : L < 4) (hk : k < 13) : RRU L k w m (cv (f_X10_step w) fun w11 => f_X0_readRule (nI k) w11) (f_X12_readRule (nI L) (nI k) m) := by
  rcases (show k = 0 ∨ k = 1 ∨ k = 2 ∨ k = 3 ∨ k = 4 ∨ k = 5 ∨ k = 6 ∨ k = 7 ∨ k = 8 ∨ k = 9 ∨ k = 10 ∨ k = 11 ∨ k = 12 by omega) with rfl | rfl | rfl | rfl | rfl | rfl | rfl | rfl | rfl | rfl | rfl | rfl | rfl
  · exact q_ru0 h hL
  · exact q_ru1 h hL
  · exact q_ru2 h hL
  · exact q_ru3 h hL
  · exact q_ru4 h hL
  · exact q_ru5 h hL
  · exact q_ru6 h hL
  · exact q_ru7 h hL
  · exact q_ru8 h hL
  · exact q_ru9 h hL
  · exact q_ru10 h hL
  · exact q_ru11 h hL
  · exact q_ru12 h hL
end
