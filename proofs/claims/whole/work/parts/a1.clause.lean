/-! clauses of a paper -/
-- PTC PTM PRD PRR
section
variable {w m : Wd} {c p : Nat}
theorem zcN (h : GR w m) {s : Nat} (hs : s < 47) (hn : ¬ TW m = some (sByt.getD s [])) : f_X10_is s w = some (0, w) := by rw [zc_isT h hs, decide_eq_false hn]; rfl
theorem zcY (h : GR w m) {s : Nat} (hs : s < 47) (hn : TW m = some (sByt.getD s [])) : f_X10_is s w = some (1, w) := by rw [zc_isT h hs, decide_eq_true hn]; rfl
theorem zmN (h : GR w m) {s : Nat} (hs : s < 47) (hn : ¬ TW m = some (sByt.getD s [])) : f_X12_is s m = some (0, m) := by rw [zm_isT h hs, decide_eq_false hn]; rfl
theorem zmY (h : GR w m) {s : Nat} (hs : s < 47) (hn : TW m = some (sByt.getD s [])) : f_X12_is s m = some (1, m) := by rw [zm_isT h hs, decide_eq_true hn]; rfl
theorem zpN (h : GR w m) {s : Nat} (hs : s < 47) (hn : ¬ TW m = some (sByt.getD s [])) : f_X10_passes s w = some (0, w) := by unfold f_X10_passes; rw [zcN h hs hn, cl_s, if_pos rfl]
theorem zpY (h : GR w m) {s : Nat} (hs : s < 47) (hn : TW m = some (sByt.getD s [])) {w' : Wd} (e : f_X10_step w = some w') : f_X10_passes s w = some (1, w') := by unfold f_X10_passes; rw [zcY h hs hn, cl_s, if_neg (by decide), e, cv_s]
theorem i01 {α : Type} {x y : α} : (if (0 : Int32) = 0 then x else y) = x := if_pos rfl
theorem i10 {α : Type} {x y : α} : (if (1 : Int32) = 0 then x else y) = y := if_neg (by decide)
theorem q_c31 (h : GR w m) (hP : PPR w m c p) (hc : 57 ≤ c) (hX : CTX w m p) (hk : ¬ m.1 0 5 = 0) (hb : TW m = some (sByt.getD 31 [])) : ∃ y, (∀ k, X12_readPaper_b96 k m = cl y fun r u => X12_readPaper_b194 k r u) ∧ CLA c p w m (f_X6_readClause c (nI p) w) y := by
  unfold f_X6_readClause
  rw [zcY h (show 31 < 47 by omega) hb, cl_s, i10]
  have ho : f_X12_readOnce m = X12_readOnce_b88 (nI p) (nI 0) m := by
    unfold f_X12_readOnce
    rw [lt_s', zmY h (show 31 < 47 by omega) hb, cl_s, i10, hX.1]; rfl
  refine ⟨X12_readOnce_b88 (nI p) (nI 0) m, fun k => ?_, ?_⟩
  · rw [X12_readPaper_b96, if_neg hk, zmN h (show 34 < 47 by omega) (by rw [hb]; decide), cl_s, i01, zmN h (show 35 < 47 by omega) (by rw [hb]; decide), cl_s, i01, zmN h (show 43 < 47 by omega) (by rw [hb]; decide), cl_s, i01, zmN h (show 33 < 47 by omega) (by rw [hb]; decide), cl_s, i01, zmN h (show 45 < 47 by omega) (by rw [hb]; decide), cl_s, i01, ho]
  · exact q_days h hP hc hX
theorem q_c2 (h : GR w m) (hP : PPR w m c p) (hc : 57 ≤ c) (hX : CTX w m p) (hk : ¬ m.1 0 5 = 0) (hb : TW m = some (sByt.getD 2 [])) : ∃ y, (∀ k, X12_readPaper_b96 k m = cl y fun r u => X12_readPaper_b194 k r u) ∧ CLA c p w m (f_X6_readClause c (nI p) w) y := by
  unfold f_X6_readClause
  rw [zcN h (show 31 < 47 by omega) (by rw [hb]; decide), cl_s, i01, zcY h (show 2 < 47 by omega) hb, cl_s, i10]
  have ho : f_X12_readOnce m = X12_readOnce_b88 (nI p) (nI 1) m := by
    unfold f_X12_readOnce
    rw [lt_s', zmN h (show 31 < 47 by omega) (by rw [hb]; decide), cl_s, i01, zmY h (show 2 < 47 by omega) hb, cl_s, i10, hX.1]; rfl
  refine ⟨X12_readOnce_b88 (nI p) (nI 1) m, fun k => ?_, ?_⟩
  · rw [X12_readPaper_b96, if_neg hk, zmN h (show 34 < 47 by omega) (by rw [hb]; decide), cl_s, i01, zmN h (show 35 < 47 by omega) (by rw [hb]; decide), cl_s, i01, zmN h (show 43 < 47 by omega) (by rw [hb]; decide), cl_s, i01, zmN h (show 33 < 47 by omega) (by rw [hb]; decide), cl_s, i01, zmN h (show 45 < 47 by omega) (by rw [hb]; decide), cl_s, i01, ho]
  · exact q_mark h hP hc hX (ib := 0) (by omega)
theorem q_c3 (h : GR w m) (hP : PPR w m c p) (hc : 57 ≤ c) (hX : CTX w m p) (hk : ¬ m.1 0 5 = 0) (hb : TW m = some (sByt.getD 3 [])) : ∃ y, (∀ k, X12_readPaper_b96 k m = cl y fun r u => X12_readPaper_b194 k r u) ∧ CLA c p w m (f_X6_readClause c (nI p) w) y := by
  unfold f_X6_readClause
  rw [zcN h (show 31 < 47 by omega) (by rw [hb]; decide), cl_s, i01, zcN h (show 2 < 47 by omega) (by rw [hb]; decide), cl_s, i01, zcY h (show 3 < 47 by omega) hb, cl_s, i10]
  have ho : f_X12_readOnce m = X12_readOnce_b88 (nI p) (nI 2) m := by
    unfold f_X12_readOnce
    rw [lt_s', zmN h (show 31 < 47 by omega) (by rw [hb]; decide), cl_s, i01, zmN h (show 2 < 47 by omega) (by rw [hb]; decide), cl_s, i01, zmY h (show 3 < 47 by omega) hb, cl_s, i10, hX.1]; rfl
  refine ⟨X12_readOnce_b88 (nI p) (nI 2) m, fun k => ?_, ?_⟩
  · rw [X12_readPaper_b96, if_neg hk, zmN h (show 34 < 47 by omega) (by rw [hb]; decide), cl_s, i01, zmN h (show 35 < 47 by omega) (by rw [hb]; decide), cl_s, i01, zmN h (show 43 < 47 by omega) (by rw [hb]; decide), cl_s, i01, zmN h (show 33 < 47 by omega) (by rw [hb]; decide), cl_s, i01, zmN h (show 45 < 47 by omega) (by rw [hb]; decide), cl_s, i01, ho]
  · exact q_mark h hP hc hX (ib := 1) (by omega)
theorem q_c32 (h : GR w m) (hP : PPR w m c p) (hc : 57 ≤ c) (hX : CTX w m p) (hk : ¬ m.1 0 5 = 0) (hb : TW m = some (sByt.getD 32 [])) : ∃ y, (∀ k, X12_readPaper_b96 k m = cl y fun r u => X12_readPaper_b194 k r u) ∧ CLA c p w m (f_X6_readClause c (nI p) w) y := by
  unfold f_X6_readClause
  rw [zcN h (show 31 < 47 by omega) (by rw [hb]; decide), cl_s, i01, zcN h (show 2 < 47 by omega) (by rw [hb]; decide), cl_s, i01, zcN h (show 3 < 47 by omega) (by rw [hb]; decide), cl_s, i01, zcY h (show 32 < 47 by omega) hb, cl_s, i10]
  have ho : f_X12_readOnce m = X12_readOnce_b88 (nI p) (nI 3) m := by
    unfold f_X12_readOnce
    rw [lt_s', zmN h (show 31 < 47 by omega) (by rw [hb]; decide), cl_s, i01, zmN h (show 2 < 47 by omega) (by rw [hb]; decide), cl_s, i01, zmN h (show 3 < 47 by omega) (by rw [hb]; decide), cl_s, i01, zmY h (show 32 < 47 by omega) hb, cl_s, i10, hX.1]; rfl
  refine ⟨X12_readOnce_b88 (nI p) (nI 3) m, fun k => ?_, ?_⟩
  · rw [X12_readPaper_b96, if_neg hk, zmN h (show 34 < 47 by omega) (by rw [hb]; decide), cl_s, i01, zmN h (show 35 < 47 by omega) (by rw [hb]; decide), cl_s, i01, zmN h (show 43 < 47 by omega) (by rw [hb]; decide), cl_s, i01, zmN h (show 33 < 47 by omega) (by rw [hb]; decide), cl_s, i01, zmN h (show 45 < 47 by omega) (by rw [hb]; decide), cl_s, i01, ho]
  · exact q_mark h hP hc hX (ib := 2) (by omega)
theorem q_c33 (h : GR w m) (hP : PPR w m c p) (hc : 57 ≤ c) (hX : CTX w m p) (hk : ¬ m.1 0 5 = 0) (hb : TW m = some (sByt.getD 33 [])) : ∃ y, (∀ k, X12_readPaper_b96 k m = cl y fun r u => X12_readPaper_b194 k r u) ∧ CLA c p w m (f_X6_readClause c (nI p) w) y := by
  unfold f_X6_readClause
  rw [zcN h (show 31 < 47 by omega) (by rw [hb]; decide), cl_s, i01, zcN h (show 2 < 47 by omega) (by rw [hb]; decide), cl_s, i01, zcN h (show 3 < 47 by omega) (by rw [hb]; decide), cl_s, i01, zcN h (show 32 < 47 by omega) (by rw [hb]; decide), cl_s, i01, zcY h (show 33 < 47 by omega) hb, cl_s, i10]
  refine ⟨f_X12_readWitness m, fun k => ?_, ?_⟩
  · rw [X12_readPaper_b96, if_neg hk, zmN h (show 34 < 47 by omega) (by rw [hb]; decide), cl_s, i01, zmN h (show 35 < 47 by omega) (by rw [hb]; decide), cl_s, i01, zmN h (show 43 < 47 by omega) (by rw [hb]; decide), cl_s, i01, zmY h (show 33 < 47 by omega) hb, cl_s, i10]
  · exact q_wit h hP hc hX
theorem q_c34 (h : GR w m) (hP : PPR w m c p) (hc : 57 ≤ c) (hX : CTX w m p) (hk : ¬ m.1 0 5 = 0) (hb : TW m = some (sByt.getD 34 [])) : ∃ y, (∀ k, X12_readPaper_b96 k m = cl y fun r u => X12_readPaper_b194 k r u) ∧ CLA c p w m (f_X6_readClause c (nI p) w) y := by
  unfold f_X6_readClause
  rw [zcN h (show 31 < 47 by omega) (by rw [hb]; decide), cl_s, i01, zcN h (show 2 < 47 by omega) (by rw [hb]; decide), cl_s, i01, zcN h (show 3 < 47 by omega) (by rw [hb]; decide), cl_s, i01, zcN h (show 32 < 47 by omega) (by rw [hb]; decide), cl_s, i01, zcN h (show 33 < 47 by omega) (by rw [hb]; decide), cl_s, i01, zcY h (show 34 < 47 by omega) hb, cl_s, i10]
  refine ⟨f_X12_readGift 0 m, fun k => ?_, ?_⟩
  · rw [X12_readPaper_b96, if_neg hk, zmY h (show 34 < 47 by omega) hb, cl_s, i10]
  · exact q_gift h hP hc hX false hb
theorem q_c35 (h : GR w m) (hP : PPR w m c p) (hc : 57 ≤ c) (hX : CTX w m p) (hk : ¬ m.1 0 5 = 0) (hb : TW m = some (sByt.getD 35 [])) : ∃ y, (∀ k, X12_readPaper_b96 k m = cl y fun r u => X12_readPaper_b194 k r u) ∧ CLA c p w m (f_X6_readClause c (nI p) w) y := by
  unfold f_X6_readClause
  rw [zcN h (show 31 < 47 by omega) (by rw [hb]; decide), cl_s, i01, zcN h (show 2 < 47 by omega) (by rw [hb]; decide), cl_s, i01, zcN h (show 3 < 47 by omega) (by rw [hb]; decide), cl_s, i01, zcN h (show 32 < 47 by omega) (by rw [hb]; decide), cl_s, i01, zcN h (show 33 < 47 by omega) (by rw [hb]; decide), cl_s, i01, zcN h (show 34 < 47 by omega) (by rw [hb]; decide), cl_s, i01, zcY h (show 35 < 47 by omega) hb, cl_s, i10]
  refine ⟨f_X12_readGift 1 m, fun k => ?_, ?_⟩
  · rw [X12_readPaper_b96, if_neg hk, zmN h (show 34 < 47 by omega) (by rw [hb]; decide), cl_s, i01, zmY h (show 35 < 47 by omega) hb, cl_s, i10]
  · exact q_gift h hP hc hX true hb
theorem q_c41 (h : GR w m) (hP : PPR w m c p) (hc : 57 ≤ c) (hX : CTX w m p) (hk : ¬ m.1 0 5 = 0) (hb : TW m = some (sByt.getD 41 [])) : ∃ y, (∀ k, X12_readPaper_b96 k m = cl y fun r u => X12_readPaper_b194 k r u) ∧ CLA c p w m (f_X6_readClause c (nI p) w) y := by
  unfold f_X6_readClause
  rw [zcN h (show 31 < 47 by omega) (by rw [hb]; decide), cl_s, i01, zcN h (show 2 < 47 by omega) (by rw [hb]; decide), cl_s, i01, zcN h (show 3 < 47 by omega) (by rw [hb]; decide), cl_s, i01, zcN h (show 32 < 47 by omega) (by rw [hb]; decide), cl_s, i01, zcN h (show 33 < 47 by omega) (by rw [hb]; decide), cl_s, i01, zcN h (show 34 < 47 by omega) (by rw [hb]; decide), cl_s, i01, zcN h (show 35 < 47 by omega) (by rw [hb]; decide), cl_s, i01, zcY h (show 41 < 47 by omega) hb, cl_s, i10]
  have ho : f_X12_readOnce m = X12_readOnce_b88 (nI p) (nI 4) m := by
    unfold f_X12_readOnce
    rw [lt_s', zmN h (show 31 < 47 by omega) (by rw [hb]; decide), cl_s, i01, zmN h (show 2 < 47 by omega) (by rw [hb]; decide), cl_s, i01, zmN h (show 3 < 47 by omega) (by rw [hb]; decide), cl_s, i01, zmN h (show 32 < 47 by omega) (by rw [hb]; decide), cl_s, i01, zmY h (show 41 < 47 by omega) hb, cl_s, i10, hX.1]; rfl
  refine ⟨X12_readOnce_b88 (nI p) (nI 4) m, fun k => ?_, ?_⟩
  · rw [X12_readPaper_b96, if_neg hk, zmN h (show 34 < 47 by omega) (by rw [hb]; decide), cl_s, i01, zmN h (show 35 < 47 by omega) (by rw [hb]; decide), cl_s, i01, zmN h (show 43 < 47 by omega) (by rw [hb]; decide), cl_s, i01, zmN h (show 33 < 47 by omega) (by rw [hb]; decide), cl_s, i01, zmN h (show 45 < 47 by omega) (by rw [hb]; decide), cl_s, i01, ho]
  · exact q_rest h hP hc hX
theorem q_c43 (h : GR w m) (hP : PPR w m c p) (hc : 57 ≤ c) (hX : CTX w m p) (hk : ¬ m.1 0 5 = 0) (hb : TW m = some (sByt.getD 43 [])) : ∃ y, (∀ k, X12_readPaper_b96 k m = cl y fun r u => X12_readPaper_b194 k r u) ∧ CLA c p w m (f_X6_readClause c (nI p) w) y := by
  unfold f_X6_readClause
  obtain ⟨w1, m1, s1, -⟩ := q_step h
  rw [zcN h (show 31 < 47 by omega) (by rw [hb]; decide), cl_s, i01, zcN h (show 2 < 47 by omega) (by rw [hb]; decide), cl_s, i01, zcN h (show 3 < 47 by omega) (by rw [hb]; decide), cl_s, i01, zcN h (show 32 < 47 by omega) (by rw [hb]; decide), cl_s, i01, zcN h (show 33 < 47 by omega) (by rw [hb]; decide), cl_s, i01, zcN h (show 34 < 47 by omega) (by rw [hb]; decide), cl_s, i01, zcN h (show 35 < 47 by omega) (by rw [hb]; decide), cl_s, i01, zcN h (show 41 < 47 by omega) (by rw [hb]; decide), cl_s, i01, zpY h (show 43 < 47 by omega) hb s1, cl_s, i10]
  refine ⟨f_X12_readUndo m, fun k => ?_, ?_⟩
  · rw [X12_readPaper_b96, if_neg hk, zmN h (show 34 < 47 by omega) (by rw [hb]; decide), cl_s, i01, zmN h (show 35 < 47 by omega) (by rw [hb]; decide), cl_s, i01, zmY h (show 43 < 47 by omega) hb, cl_s, i10]
  · have e := q_undo h hP hc hX
    rw [s1, cv_s] at e; exact e
theorem q_c45 (h : GR w m) (hP : PPR w m c p) (hc : 57 ≤ c) (hX : CTX w m p) (hk : ¬ m.1 0 5 = 0) (hb : TW m = some (sByt.getD 45 [])) : ∃ y, (∀ k, X12_readPaper_b96 k m = cl y fun r u => X12_readPaper_b194 k r u) ∧ CLA c p w m (f_X6_readClause c (nI p) w) y := by
  unfold f_X6_readClause
  obtain ⟨w1, m1, s1, -⟩ := q_step h
  rw [zcN h (show 31 < 47 by omega) (by rw [hb]; decide), cl_s, i01, zcN h (show 2 < 47 by omega) (by rw [hb]; decide), cl_s, i01, zcN h (show 3 < 47 by omega) (by rw [hb]; decide), cl_s, i01, zcN h (show 32 < 47 by omega) (by rw [hb]; decide), cl_s, i01, zcN h (show 33 < 47 by omega) (by rw [hb]; decide), cl_s, i01, zcN h (show 34 < 47 by omega) (by rw [hb]; decide), cl_s, i01, zcN h (show 35 < 47 by omega) (by rw [hb]; decide), cl_s, i01, zcN h (show 41 < 47 by omega) (by rw [hb]; decide), cl_s, i01, zpN h (show 43 < 47 by omega) (by rw [hb]; decide), cl_s, i01, zpY h (show 45 < 47 by omega) hb s1, cl_s, i10]
  refine ⟨f_X12_readAgain m, fun k => ?_, ?_⟩
  · rw [X12_readPaper_b96, if_neg hk, zmN h (show 34 < 47 by omega) (by rw [hb]; decide), cl_s, i01, zmN h (show 35 < 47 by omega) (by rw [hb]; decide), cl_s, i01, zmN h (show 43 < 47 by omega) (by rw [hb]; decide), cl_s, i01, zmN h (show 33 < 47 by omega) (by rw [hb]; decide), cl_s, i01, zmY h (show 45 < 47 by omega) hb, cl_s, i10]
  · have e := q_again h hP hc hX
    rw [s1, cv_s] at e; exact e
theorem q_c46 (h : GR w m) (hP : PPR w m c p) (hc : 57 ≤ c) (hX : CTX w m p) (hk : ¬ m.1 0 5 = 0) (hb : TW m = some (sByt.getD 46 [])) : ∃ y, (∀ k, X12_readPaper_b96 k m = cl y fun r u => X12_readPaper_b194 k r u) ∧ CLA c p w m (f_X6_readClause c (nI p) w) y := by
  unfold f_X6_readClause
  rw [zcN h (show 31 < 47 by omega) (by rw [hb]; decide), cl_s, i01, zcN h (show 2 < 47 by omega) (by rw [hb]; decide), cl_s, i01, zcN h (show 3 < 47 by omega) (by rw [hb]; decide), cl_s, i01, zcN h (show 32 < 47 by omega) (by rw [hb]; decide), cl_s, i01, zcN h (show 33 < 47 by omega) (by rw [hb]; decide), cl_s, i01, zcN h (show 34 < 47 by omega) (by rw [hb]; decide), cl_s, i01, zcN h (show 35 < 47 by omega) (by rw [hb]; decide), cl_s, i01, zcN h (show 41 < 47 by omega) (by rw [hb]; decide), cl_s, i01, zpN h (show 43 < 47 by omega) (by rw [hb]; decide), cl_s, i01, zpN h (show 45 < 47 by omega) (by rw [hb]; decide), cl_s, i01, zcY h (show 46 < 47 by omega) hb, cl_s, i10]
  have ho : f_X12_readOnce m = X12_readOnce_b88 (nI p) (nI 5) m := by
    unfold f_X12_readOnce
    rw [lt_s', zmN h (show 31 < 47 by omega) (by rw [hb]; decide), cl_s, i01, zmN h (show 2 < 47 by omega) (by rw [hb]; decide), cl_s, i01, zmN h (show 3 < 47 by omega) (by rw [hb]; decide), cl_s, i01, zmN h (show 32 < 47 by omega) (by rw [hb]; decide), cl_s, i01, zmN h (show 41 < 47 by omega) (by rw [hb]; decide), cl_s, i01, zmY h (show 46 < 47 by omega) hb, cl_s, i10, hX.1]; rfl
  refine ⟨X12_readOnce_b88 (nI p) (nI 5) m, fun k => ?_, ?_⟩
  · rw [X12_readPaper_b96, if_neg hk, zmN h (show 34 < 47 by omega) (by rw [hb]; decide), cl_s, i01, zmN h (show 35 < 47 by omega) (by rw [hb]; decide), cl_s, i01, zmN h (show 43 < 47 by omega) (by rw [hb]; decide), cl_s, i01, zmN h (show 33 < 47 by omega) (by rw [hb]; decide), cl_s, i01, zmN h (show 45 < 47 by omega) (by rw [hb]; decide), cl_s, i01, ho]
  · exact q_with h hP hc hX
theorem q_c0 (h : GR w m) (hX : CTX w m p) (hk : ¬ m.1 0 5 = 0) (n31 : ¬ TW m = some (sByt.getD 31 [])) (n2 : ¬ TW m = some (sByt.getD 2 [])) (n3 : ¬ TW m = some (sByt.getD 3 [])) (n32 : ¬ TW m = some (sByt.getD 32 [])) (n33 : ¬ TW m = some (sByt.getD 33 [])) (n34 : ¬ TW m = some (sByt.getD 34 [])) (n35 : ¬ TW m = some (sByt.getD 35 [])) (n41 : ¬ TW m = some (sByt.getD 41 [])) (n43 : ¬ TW m = some (sByt.getD 43 [])) (n45 : ¬ TW m = some (sByt.getD 45 [])) (n46 : ¬ TW m = some (sByt.getD 46 [])) : ∃ y, (∀ k, X12_readPaper_b96 k m = cl y fun r u => X12_readPaper_b194 k r u) ∧ CLA c p w m (f_X6_readClause c (nI p) w) y := by
  unfold f_X6_readClause
  rw [zcN h (show 31 < 47 by omega) n31, cl_s, i01, zcN h (show 2 < 47 by omega) n2, cl_s, i01, zcN h (show 3 < 47 by omega) n3, cl_s, i01, zcN h (show 32 < 47 by omega) n32, cl_s, i01, zcN h (show 33 < 47 by omega) n33, cl_s, i01, zcN h (show 34 < 47 by omega) n34, cl_s, i01, zcN h (show 35 < 47 by omega) n35, cl_s, i01, zcN h (show 41 < 47 by omega) n41, cl_s, i01, zpN h (show 43 < 47 by omega) n43, cl_s, i01, zpN h (show 45 < 47 by omega) n45, cl_s, i01, zcN h (show 46 < 47 by omega) n46, cl_s, i01]
  obtain ⟨w5, m5, x5, b5, f5, F5, M5⟩ := q_fail h (k := 1) (by decide)
  have ho : f_X12_readOnce m = some (0, m5) := by
    unfold f_X12_readOnce X12_readOnce_b88
    rw [lt_s', zmN h (show 31 < 47 by omega) n31, cl_s, i01, zmN h (show 2 < 47 by omega) n2, cl_s, i01, zmN h (show 3 < 47 by omega) n3, cl_s, i01, zmN h (show 32 < 47 by omega) n32, cl_s, i01, zmN h (show 41 < 47 by omega) n41, cl_s, i01, zmN h (show 46 < 47 by omega) n46, cl_s, i01, if_pos (show (-1 : Int32) = -1 from rfl), b5, cl_s, if_pos (show isB 0 = true from rfl)]
  refine ⟨some (0, m5), fun k => ?_, ?_⟩
  · rw [X12_readPaper_b96, if_neg hk, zmN h (show 34 < 47 by omega) n34, cl_s, i01, zmN h (show 35 < 47 by omega) n35, cl_s, i01, zmN h (show 43 < 47 by omega) n43, cl_s, i01, zmN h (show 33 < 47 by omega) n33, cl_s, i01, zmN h (show 45 < 47 by omega) n45, cl_s, i01, ho]
  · rw [x5, cv_s]
    exact ⟨w5, m5, rfl, PTC_D F5, PTM_R M5, Or.inr ⟨rfl, f5⟩⟩
theorem q_clause (h : GR w m) (hP : PPR w m c p) (hc : 57 ≤ c) (hX : CTX w m p) (hk : ¬ m.1 0 5 = 0) : ∃ y, (∀ k, X12_readPaper_b96 k m = cl y fun r u => X12_readPaper_b194 k r u) ∧ CLA c p w m (f_X6_readClause c (nI p) w) y := by
  by_cases n31 : TW m = some (sByt.getD 31 [])
  · exact q_c31 h hP hc hX hk n31
  by_cases n2 : TW m = some (sByt.getD 2 [])
  · exact q_c2 h hP hc hX hk n2
  by_cases n3 : TW m = some (sByt.getD 3 [])
  · exact q_c3 h hP hc hX hk n3
  by_cases n32 : TW m = some (sByt.getD 32 [])
  · exact q_c32 h hP hc hX hk n32
  by_cases n33 : TW m = some (sByt.getD 33 [])
  · exact q_c33 h hP hc hX hk n33
  by_cases n34 : TW m = some (sByt.getD 34 [])
  · exact q_c34 h hP hc hX hk n34
  by_cases n35 : TW m = some (sByt.getD 35 [])
  · exact q_c35 h hP hc hX hk n35
  by_cases n41 : TW m = some (sByt.getD 41 [])
  · exact q_c41 h hP hc hX hk n41
  by_cases n43 : TW m = some (sByt.getD 43 [])
  · exact q_c43 h hP hc hX hk n43
  by_cases n45 : TW m = some (sByt.getD 45 [])
  · exact q_c45 h hP hc hX hk n45
  by_cases n46 : TW m = some (sByt.getD 46 [])
  · exact q_c46 h hP hc hX hk n46
  exact q_c0 h hX hk n31 n2 n3 n32 n33 n34 n35 n41 n43 n45 n46
end
