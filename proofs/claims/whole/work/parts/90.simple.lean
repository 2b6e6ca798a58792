/-! told, says, tells -/
theorem lNt (c : Int64) (x : Int32) (h1 : 0 ≤ c.toInt) (h2 : c.toInt ≤ 1000) : (c + x.toInt64).toInt = c.toInt + x.toInt := z_la x c h1 h2
section
variable {wc wm A : Wd}
theorem q_told (hL : TLD wc A) (hN : NUM A) (hPe : PEI A) (hT : tol wm = A) (a : Int32) : ∃ r, f_X11_told a wc = some (r, wc) ∧ f_X12_told a wm = some (r, wm) := by
  have hT8 := hN.2.2.1.2
  have hP8 := hN.2.1.2
  have hL4 := hN.1.2
  obtain ⟨⟨e32, e34, e36⟩, -, hpe, hth, ⟨e11, e15, e16, -⟩, hno, hyes, -⟩ := hL.1
  unfold f_X12_told
  simp only [m_in, cl_s, if_b0, tol_0 hT 10 rfl, tol_0 hT 11 rfl, tol_0 hT 12 rfl, tol_0 hT 14 rfl, tol_0 hT 15 rfl, tol_0 hT 16 rfl, tol_0 hT 17 rfl, tol_0 hT 18 rfl, tol_0 hT 19 rfl, tol_0 hT 49 rfl, tol_0 hT 50 rfl]
  have c19 : (19 : Int64).toInt = 19 := rfl
  have c29 : (29 : Int64).toInt = 29 := rfl
  have c39 : (39 : Int64).toInt = 39 := rfl
  have c20 : (20 : Int64).toInt = 20 := rfl
  have c30 : (30 : Int64).toInt = 30 := rfl
  have c40 : (40 : Int64).toInt = 40 := rfl
  rw [z_la _ 19 (by rw [c19]; omega) (by rw [c19]; omega), z_la _ 29 (by rw [c29]; omega) (by rw [c29]; omega), z_la _ 39 (by rw [c39]; omega) (by rw [c39]; omega), c19, c29, c39, c20, c30, c40, hN.2.2.1.1, hN.2.1.1, nI_toInt (by omega), nI_toInt (by omega)]
  have hlit : ∀ (v : Int32), (v.toInt < 20 ∨ 60 < v.toInt) → decide (20 ≤ v.toInt ∧ v.toInt ≤ 19 + (nTh A : Int)) = false ∧ decide (30 ≤ v.toInt ∧ v.toInt ≤ 29 + (nTh A : Int)) = false ∧ decide (40 ≤ v.toInt ∧ v.toInt ≤ 39 + (nPe A : Int)) = false := fun v h => ⟨decide_eq_false (by omega), decide_eq_false (by omega), decide_eq_false (by omega)⟩
  unfold f_X11_told
  by_cases hz : 0 ≤ a.toInt ∧ a.toInt ≤ 60
  · obtain ⟨j, hj, rfl⟩ := z_ex (n := 61) hz.1 (by omega)
    rw [nI_toInt (by omega)]
    by_cases h11 : j ≤ 10
    · obtain ⟨q1, q2, q3⟩ := hlit (nI j) (by rw [nI_toInt (by omega)]; omega)
      rw [nI_toInt (by omega)] at q1 q2 q3
      rw [q1, q2, q3]
      have hcrt : (if A.1 0 10 = 0 then some ((-1 : Int32), wm) else some (A.1 0 16, wm)) = some (wc.1 31 12, wm) ∧ (if A.1 0 10 = 0 then some ((-1 : Int32), wm) else some (A.1 0 17, wm)) = some (wc.1 31 13, wm) ∧ (if A.1 0 10 = 0 then some ((-1 : Int32), wm) else some (A.1 0 18, wm)) = some (wc.1 31 14, wm) := by
        rw [hN.1.1]
        by_cases l0 : nLa A = 0
        · obtain ⟨s1, s2, s3⟩ := hno l0
          rw [s1, s2, s3, l0, if_pos (by rfl), if_pos (by rfl), if_pos (by rfl)]
          exact ⟨rfl, rfl, rfl⟩
        · obtain ⟨s1, s2, s3⟩ := hyes (by omega)
          rw [s1, s2, s3, if_neg (nI_ne0 (by omega) (by omega)), if_neg (nI_ne0 (by omega) (by omega)), if_neg (nI_ne0 (by omega) (by omega))]
          exact ⟨rfl, rfl, rfl⟩
      rw [hcrt.1, hcrt.2.1, hcrt.2.2, e32, e34, e36, hL.2.1.1, hL.2.1.2, e15, e16, e11, hN.2.1.1, hN.2.2.1.1]
      rcases (show j = 0 ∨ j = 1 ∨ j = 2 ∨ j = 3 ∨ j = 4 ∨ j = 5 ∨ j = 6 ∨ j = 7 ∨ j = 8 ∨ j = 9 ∨ j = 10 by omega) with rfl | rfl | rfl | rfl | rfl | rfl | rfl | rfl | rfl | rfl | rfl <;> exact ⟨_, rfl, rfl⟩
    · have hn : ∀ v : Int32, 0 ≤ v.toInt → v.toInt ≤ 10 → ¬ nI j = v := fun v h h' e => by rw [← e, nI_toInt (by omega)] at h'; omega
      have hneg : ∀ {α : Type} (x0 x1 x2 x3 x4 x5 x6 x7 x8 x9 x10 y : α), (if nI j = 0 then x0 else if nI j = 1 then x1 else if nI j = 2 then x2 else if nI j = 3 then x3 else if nI j = 4 then x4 else if nI j = 5 then x5 else if nI j = 6 then x6 else if nI j = 7 then x7 else if nI j = 8 then x8 else if nI j = 9 then x9 else if nI j = 10 then x10 else y) = y := by
        intro α x0 x1 x2 x3 x4 x5 x6 x7 x8 x9 x10 y
        rw [if_neg (hn 0 (by decide) (by decide)), if_neg (hn 1 (by decide) (by decide)), if_neg (hn 2 (by decide) (by decide)), if_neg (hn 3 (by decide) (by decide)), if_neg (hn 4 (by decide) (by decide)), if_neg (hn 5 (by decide) (by decide)), if_neg (hn 6 (by decide) (by decide)), if_neg (hn 7 (by decide) (by decide)), if_neg (hn 8 (by decide) (by decide)), if_neg (hn 9 (by decide) (by decide)), if_neg (hn 10 (by decide) (by decide))]
      rw [hneg, hneg]
      unfold f_X11_toldOfOne X11_toldOfOne_b30 X11_toldOfOne_b60
      rw [e34, e36, hN.2.2.1.1, hN.2.1.1, show (20 : Int32) = nI 20 from rfl, show (30 : Int32) = nI 30 from rfl, show (40 : Int32) = nI 40 from rfl, nI_add, nI_add, nI_add]
      have hlt : ∀ b : Nat, b < 100 → ((nI j < nI b) ↔ j < b) := fun b hb => nI_ltI (by omega) (by omega)
      have hle : ∀ b : Nat, b < 100 → ((nI b ≤ nI j) ↔ b ≤ j) := fun b hb => nI_leI (by omega) (by omega)
      by_cases c1 : 20 ≤ j ∧ j ≤ 19 + nTh A
      · rw [if_neg (show ¬ nI j < nI 20 from fun h => by rw [hlt 20 (by omega)] at h; omega), if_neg (show ¬ nI (20 + nTh A) ≤ nI j from fun h => by rw [hle _ (by omega)] at h; omega), pk_sub (show 20 ≤ j by omega), z_inb (i := j - 20) (by omega) (by omega), nI_clamp (n := j - 20) (by omega), (hth (j - 20) (by omega)).1, tol_a hT 5 _ (by omega), decide_eq_true (show (20 : Int) ≤ (j : Int) ∧ (j : Int) ≤ 19 + (nTh A : Int) by omega), if_neg (show ¬ true = false by decide), if_pos rfl, if_pos rfl, cl_s]
        exact ⟨_, rfl, rfl⟩
      rw [decide_eq_false (show ¬ ((20 : Int) ≤ (j : Int) ∧ (j : Int) ≤ 19 + (nTh A : Int)) by omega), if_pos rfl]
      have d1 : ∀ {α : Type} (x y : α), (if nI j < nI 20 then x else if nI (20 + nTh A) ≤ nI j then x else y) = x := by
        intro α x y
        by_cases q : j < 20
        · rw [if_pos ((hlt 20 (by omega)).mpr q)]
        · rw [if_neg (fun h => q ((hlt 20 (by omega)).mp h)), if_pos ((hle _ (by omega)).mpr (by omega))]
      rw [d1]
      by_cases c2 : 30 ≤ j ∧ j ≤ 29 + nTh A
      · rw [if_neg (show ¬ nI j < nI 30 from fun h => by rw [hlt 30 (by omega)] at h; omega), if_neg (show ¬ nI (30 + nTh A) ≤ nI j from fun h => by rw [hle _ (by omega)] at h; omega), pk_sub (show 30 ≤ j by omega), z_inb (i := j - 30) (by omega) (by omega), nI_clamp (n := j - 30) (by omega), (hth (j - 30) (by omega)).2, tol_a hT 6 _ (by omega), decide_eq_true (show (30 : Int) ≤ (j : Int) ∧ (j : Int) ≤ 29 + (nTh A : Int) by omega), if_neg (show ¬ true = false by decide), if_pos rfl, if_pos rfl, cl_s]
        exact ⟨_, rfl, rfl⟩
      rw [decide_eq_false (show ¬ ((30 : Int) ≤ (j : Int) ∧ (j : Int) ≤ 29 + (nTh A : Int)) by omega), if_pos rfl]
      have d2 : ∀ {α : Type} (x y : α), (if nI j < nI 30 then x else if nI (30 + nTh A) ≤ nI j then x else y) = x := by
        intro α x y
        by_cases q : j < 30
        · rw [if_pos ((hlt 30 (by omega)).mpr q)]
        · rw [if_neg (fun h => q ((hlt 30 (by omega)).mp h)), if_pos ((hle _ (by omega)).mpr (by omega))]
      rw [d2]
      by_cases c3 : 40 ≤ j ∧ j ≤ 39 + nPe A
      · rw [if_neg (show ¬ nI j < nI 40 from fun h => by rw [hlt 40 (by omega)] at h; omega), if_neg (show ¬ nI (40 + nPe A) ≤ nI j from fun h => by rw [hle _ (by omega)] at h; omega), pk_sub (show 40 ≤ j by omega), z_inb (i := j - 40) (by omega) (by omega), nI_clamp (n := j - 40) (by omega), tol_a hT 7 _ (by omega), zc_dead hL hN (show j - 40 < nPe A by omega), cl_s, if_b0, decide_eq_true (show (40 : Int) ≤ (j : Int) ∧ (j : Int) ≤ 39 + (nPe A : Int) by omega), if_neg (show ¬ true = false by decide), if_pos rfl]
        by_cases d : A.1 7 (j - 40) = 0
        · have hd : ddS A (j - 40) = false := decide_eq_false (fun q => q d)
          rw [hd, if_pos rfl, if_pos d, cl_s]; exact ⟨_, rfl, rfl⟩
        · have hd : ddS A (j - 40) = true := decide_eq_true d
          rw [hd, if_neg (by decide), if_neg d, cl_s]; exact ⟨_, rfl, rfl⟩
      rw [decide_eq_false (show ¬ ((40 : Int) ≤ (j : Int) ∧ (j : Int) ≤ 39 + (nPe A : Int)) by omega), if_pos rfl]
      have d3 : ∀ {α : Type} (x y : α), (if nI j < nI 40 then x else if nI (40 + nPe A) ≤ nI j then x else y) = x := by
        intro α x y
        by_cases q : j < 40
        · rw [if_pos ((hlt 40 (by omega)).mpr q)]
        · rw [if_neg (fun h => q ((hlt 40 (by omega)).mp h)), if_pos ((hle _ (by omega)).mpr (by omega))]
      rw [d3, cl_s]
      exact ⟨_, rfl, rfl⟩
  · obtain ⟨q1, q2, q3⟩ := hlit a (by omega)
    rw [q1, q2, q3]
    have hn : ∀ v : Int32, 0 ≤ v.toInt → v.toInt ≤ 10 → ¬ a = v := fun v h h' e => by rw [e] at hz; omega
    have hneg : ∀ {α : Type} (x0 x1 x2 x3 x4 x5 x6 x7 x8 x9 x10 y : α), (if a = 0 then x0 else if a = 1 then x1 else if a = 2 then x2 else if a = 3 then x3 else if a = 4 then x4 else if a = 5 then x5 else if a = 6 then x6 else if a = 7 then x7 else if a = 8 then x8 else if a = 9 then x9 else if a = 10 then x10 else y) = y := by
      intro α x0 x1 x2 x3 x4 x5 x6 x7 x8 x9 x10 y
      rw [if_neg (hn 0 (by decide) (by decide)), if_neg (hn 1 (by decide) (by decide)), if_neg (hn 2 (by decide) (by decide)), if_neg (hn 3 (by decide) (by decide)), if_neg (hn 4 (by decide) (by decide)), if_neg (hn 5 (by decide) (by decide)), if_neg (hn 6 (by decide) (by decide)), if_neg (hn 7 (by decide) (by decide)), if_neg (hn 8 (by decide) (by decide)), if_neg (hn 9 (by decide) (by decide)), if_neg (hn 10 (by decide) (by decide))]
    rw [hneg, hneg, if_pos rfl, if_pos rfl, if_pos rfl]
    unfold f_X11_toldOfOne X11_toldOfOne_b30 X11_toldOfOne_b60
    rw [e34, e36, hN.2.2.1.1, hN.2.1.1, show (20 : Int32) = nI 20 from rfl, show (30 : Int32) = nI 30 from rfl, show (40 : Int32) = nI 40 from rfl, nI_add, nI_add, nI_add]
    have hall : ∀ {α : Type} (b n : Nat) (x y : α), b ≤ 40 → n ≤ 8 → (if a < nI b then x else if nI (b + n) ≤ a then x else y) = x := by
      intro α b n x y hb hn8
      by_cases q : a < nI b
      · rw [if_pos q]
      · rw [if_neg q, if_pos (by rw [z_le, nI_toInt (by omega)]; rw [z_lt, nI_toInt (by omega)] at q; omega)]
    rw [hall 20 (nTh A) _ _ (by omega) hT8, hall 30 (nTh A) _ _ (by omega) hT8, hall 40 (nPe A) _ _ (by omega) hP8, cl_s]
    exact ⟨_, rfl, rfl⟩
end
