/-! what is told, as the reference's world holds it -/
def nPa (w : Wd) : Nat := (w.1 0 49).toNatClampNeg
def nEv (w : Wd) : Nat := (w.1 0 50).toNatClampNeg
def nLa (w : Wd) : Nat := (w.1 0 10).toNatClampNeg
def nPe (w : Wd) : Nat := (w.1 0 11).toNatClampNeg
def nTh (w : Wd) : Nat := (w.1 0 12).toNatClampNeg
def nOr (w : Wd) : Nat := (w.1 0 75).toNatClampNeg
def nSt (w : Wd) : Nat := (w.1 0 99).toNatClampNeg
def nIt (w : Wd) : Nat := nPa w + nEv w
def nWy (w : Wd) : Nat := if nLa w = 0 then 0 else 8 * nOr w
def TK (k : Nat) : Bool := (decide (10 ≤ k) && decide (k ≤ 19)) || k == 49 || k == 50 || k == 75 || k == 80 || k == 81
def TJ (k : Nat) : Bool := (decide (10 ≤ k) && decide (k ≤ 19)) || k == 49 || k == 50 || k == 75 || k == 80
def tol (w : Wd) : Wd := (fun o k => if o = 0 then (if TK k = true then (if k = 81 ∧ w.1 0 80 = -1 then 0 else w.1 0 k) else 0) else if 2 ≤ o ∧ o ≤ 7 ∨ 38 ≤ o ∧ o ≤ 43 then w.1 o k else if 20 ≤ o ∧ o ≤ 31 then (if k < nPa w then w.1 o k else 0) else if 32 ≤ o ∧ o ≤ 35 ∨ o = 37 then (if k < 8 * nPa w then w.1 o k else 0) else if o = 36 then (if k < 4 * nPa w then w.1 o k else 0) else 0, fun o k => if 8 ≤ o ∧ o ≤ 10 then w.2 o k else 0)
theorem TJ_i {k : Nat} (h : TJ k = true) : TK k = true ∧ ¬ k = 81 := by
  unfold TJ at h
  unfold TK
  simp only [Bool.or_eq_true, Bool.and_eq_true, decide_eq_true_eq, beq_iff_eq] at h ⊢
  omega
theorem tol_0 {w A : Wd} (h : tol w = A) (k : Nat) (hk : TJ k = true) : w.1 0 k = A.1 0 k := by
  obtain ⟨h1, h2⟩ := TJ_i hk
  subst h; unfold tol; dsimp only; rw [if_pos rfl, if_pos h1, if_neg (fun q => h2 q.1)]
theorem tol_81 {w A : Wd} (h : tol w = A) (hk : ¬ A.1 0 80 = -1) : w.1 0 81 = A.1 0 81 := by
  rw [← tol_0 h 80 rfl] at hk
  subst h; unfold tol; dsimp only; rw [if_pos rfl, if_pos (show TK 81 = true from rfl), if_neg (fun q => hk q.2)]
theorem tol_a {w A : Wd} (h : tol w = A) (o k : Nat) (ho : 2 ≤ o ∧ o ≤ 7 ∨ 38 ≤ o ∧ o ≤ 43) : w.1 o k = A.1 o k := by
  subst h; unfold tol; dsimp only; rw [if_neg (by omega), if_pos ho]
theorem tol_pa {w A : Wd} (h : tol w = A) : nPa w = nPa A := by unfold nPa; rw [tol_0 h 49 rfl]
theorem tol_p {w A : Wd} (h : tol w = A) (o k : Nat) (ho : 20 ≤ o ∧ o ≤ 31) (hk : k < nPa A) : w.1 o k = A.1 o k := by
  rw [← tol_pa h] at hk
  subst h; unfold tol; dsimp only; rw [if_neg (by omega), if_neg (by omega), if_pos ho, if_pos hk]
theorem tol_g {w A : Wd} (h : tol w = A) (o k : Nat) (ho : 32 ≤ o ∧ o ≤ 35 ∨ o = 37) (hk : k < 8 * nPa A) : w.1 o k = A.1 o k := by
  rw [← tol_pa h] at hk
  subst h; unfold tol; dsimp only; rw [if_neg (by omega), if_neg (by omega), if_neg (by omega), if_pos ho, if_pos hk]
theorem tol_h {w A : Wd} (h : tol w = A) (k : Nat) (hk : k < 4 * nPa A) : w.1 36 k = A.1 36 k := by
  rw [← tol_pa h] at hk
  subst h; unfold tol; dsimp only; rw [if_neg (by omega), if_neg (by omega), if_neg (by omega), if_neg (by omega), if_pos (by rfl), if_pos hk]
theorem tol_l {w A : Wd} (h : tol w = A) (o k : Nat) (ho : 8 ≤ o ∧ o ≤ 10) : w.2 o k = A.2 o k := by
  subst h; unfold tol; dsimp only; rw [if_pos ho]
theorem tol_of {w w' : Wd} (h0 : ∀ k, TK k = true → w'.1 0 k = w.1 0 k) (h1 : ∀ o k, 2 ≤ o ∧ o ≤ 7 ∨ 20 ≤ o ∧ o ≤ 43 → w'.1 o k = w.1 o k) (h2 : ∀ o k, 8 ≤ o ∧ o ≤ 10 → w'.2 o k = w.2 o k) : tol w' = tol w := by
  have e : nPa w' = nPa w := by unfold nPa; rw [h0 49 rfl]
  unfold tol
  refine Prod.ext (funext fun o => funext fun k => ?_) (funext fun o => funext fun k => ?_)
  · dsimp only
    rw [e]
    by_cases c0 : o = 0
    · subst c0
      rw [if_pos rfl, if_pos rfl]
      by_cases c : TK k = true
      · rw [if_pos c, if_pos c, h0 k c, h0 80 rfl]
      · rw [if_neg c, if_neg c]
    · rw [if_neg c0, if_neg c0]
      by_cases c1 : 2 ≤ o ∧ o ≤ 7 ∨ 38 ≤ o ∧ o ≤ 43
      · rw [if_pos c1, if_pos c1, h1 o k (by omega)]
      · rw [if_neg c1, if_neg c1]
        by_cases c2 : 20 ≤ o ∧ o ≤ 31
        · rw [if_pos c2, if_pos c2, h1 o k (by omega)]
        · rw [if_neg c2, if_neg c2]
          by_cases c3 : 32 ≤ o ∧ o ≤ 35 ∨ o = 37
          · rw [if_pos c3, if_pos c3, h1 o k (by omega)]
          · rw [if_neg c3, if_neg c3]
            by_cases c4 : o = 36
            · subst c4; rw [if_pos rfl, if_pos rfl, h1 36 k (by omega)]
            · rw [if_neg c4, if_neg c4]
  · dsimp only
    by_cases c : 8 ≤ o ∧ o ≤ 10
    · rw [if_pos c, if_pos c, h2 o k c]
    · rw [if_neg c, if_neg c]
/-- the numbers of what is told -/
def NUM (A : Wd) : Prop := (A.1 0 10 = nI (nLa A) ∧ nLa A ≤ 4) ∧ (A.1 0 11 = nI (nPe A) ∧ nPe A ≤ 8) ∧ (A.1 0 12 = nI (nTh A) ∧ nTh A ≤ 8) ∧ (A.1 0 49 = nI (nPa A) ∧ nPa A ≤ 4) ∧ (A.1 0 50 = nI (nEv A) ∧ nEv A ≤ 3) ∧ nPa A + nEv A ≤ 6 ∧ (A.1 0 75 = nI (nOr A) ∧ nOr A ≤ 720) ∧ True
/-- the estate in the desk's world -/
def EST (w A : Wd) : Prop := (w.1 32 1 = A.1 0 10 ∧ w.1 34 1 = A.1 0 11 ∧ w.1 36 1 = A.1 0 12) ∧ (∀ k, k < 13 * nLa A → w.1 38 k = A.1 2 k) ∧ (∀ k, k < nPe A → w.1 39 k = A.1 3 k ∧ w.1 40 k = A.1 4 k ∧ bt (w.1 31 10) k = decide (A.1 7 k ≠ 0)) ∧ (∀ k, k < nTh A → w.1 41 k = A.1 5 k ∧ w.1 42 k = A.1 6 k) ∧ (w.1 31 11 = A.1 0 19 ∧ w.1 31 15 = A.1 0 14 ∧ w.1 31 16 = A.1 0 15 ∧ w.1 31 17 = A.1 0 13) ∧ (nLa A = 0 → w.1 31 12 = -1 ∧ w.1 31 13 = -1 ∧ w.1 31 14 = -1) ∧ (0 < nLa A → w.1 31 12 = A.1 0 16 ∧ w.1 31 13 = A.1 0 17 ∧ w.1 31 14 = A.1 0 18) ∧ (∀ k, nPe A ≤ k → k < 32 → bt (w.1 31 10) k = false) ∧ (∀ k, k < nLa A → w.2 33 k = A.2 8 k) ∧ (∀ k, k < nPe A → w.2 35 k = A.2 9 k) ∧ (∀ k, k < nTh A → w.2 37 k = A.2 10 k)
def CNT (w A : Wd) : Prop := w.1 3 3 = A.1 0 49 ∧ w.1 3 4 = A.1 0 50
def ORD (w A : Wd) : Prop := w.1 3 5 = A.1 0 75 ∧ ∀ o, o < nOr A → ∀ i, i < nIt A → (w.1 6 o >>> (nI (3 * i) &&& 31)) &&& 7 = A.1 43 (6 * o + i)
/-! ranges -/
theorem k3 : (3 : Int32) = nI 3 := rfl
theorem k4 : (4 : Int32) = nI 4 := rfl
theorem k6 : (6 : Int32) = nI 6 := rfl
theorem k8 : (8 : Int32) = nI 8 := rfl
theorem k13 : (13 : Int32) = nI 13 := rfl
theorem zc_isLand (x : Int32) (w : Wd) : f_X11_isLand x w = some (bI (rng x (w.1 32 1)), w) := by unfold f_X11_isLand; exact c_in0
theorem zc_isPerson (x : Int32) (w : Wd) : f_X11_isPerson x w = some (bI (rng x (w.1 34 1)), w) := by unfold f_X11_isPerson; exact c_in0
theorem zc_isThing (x : Int32) (w : Wd) : f_X11_isThing x w = some (bI (rng x (w.1 36 1)), w) := by unfold f_X11_isThing; exact c_in0
theorem zc_isPaper (x : Int32) (w : Wd) : f_X11_isPaper x w = some (bI (rng x (w.1 3 3)), w) := by unfold f_X11_isPaper; exact c_in0
theorem zc_items {w A : Wd} (hc : CNT w A) (hN : NUM A) : f_X2_itemsTold w = some (nI (nIt A), w) := by
  unfold f_X2_itemsTold; rw [hc.1, hc.2, hN.2.2.2.1.1, hN.2.2.2.2.1.1, nI_add]; rfl
theorem zc_isItem {w A : Wd} (hc : CNT w A) (hN : NUM A) (x : Int32) : f_X11_isItem x w = some (bI (rng x (nI (nIt A))), w) := by
  unfold f_X11_isItem; rw [zc_items hc hN]; exact c_in0
theorem zc_ways {w A : Wd} (hE : EST w A) (hO : ORD w A) (hN : NUM A) : f_X2_waysFound w = some (nI (nWy A), w) := by
  unfold f_X2_waysFound nWy
  rw [hE.1.1, hO.1, hN.1.1, hN.2.2.2.2.2.2.1.1]
  by_cases h : nLa A = 0
  · rw [h, if_pos (by rfl), if_pos (by rfl)]; rfl
  · rw [if_neg (nI_ne0 (by omega) (by have := hN.1.2; omega)), if_neg h, k8, pk_mul, Nat.mul_comm]
theorem zc_isWay {w A : Wd} (hE : EST w A) (hO : ORD w A) (hN : NUM A) (x : Int32) : f_X11_isWay x w = some (bI (rng x (nI (nWy A))), w) := by
  unfold f_X11_isWay; rw [zc_ways hE hO hN]; exact c_in0
section
variable {w A : Wd}
theorem zm_isLand (hT : tol w = A) (x : Int32) : f_X12_isLand x w = some (bI (rng x (A.1 0 10)), w) := by unfold f_X12_isLand; rw [tol_0 hT 10 rfl]; exact m_in0 _ _ _
theorem zm_isPerson (hT : tol w = A) (x : Int32) : f_X12_isPerson x w = some (bI (rng x (A.1 0 11)), w) := by unfold f_X12_isPerson; rw [tol_0 hT 11 rfl]; exact m_in0 _ _ _
theorem zm_isThing (hT : tol w = A) (x : Int32) : f_X12_isThing x w = some (bI (rng x (A.1 0 12)), w) := by unfold f_X12_isThing; rw [tol_0 hT 12 rfl]; exact m_in0 _ _ _
theorem zm_isPaper (hT : tol w = A) (x : Int32) : f_X12_isPaper x w = some (bI (rng x (A.1 0 49)), w) := by unfold f_X12_isPaper; rw [tol_0 hT 49 rfl]; exact m_in0 _ _ _
theorem zm_isOrder (hT : tol w = A) (x : Int32) : f_X12_isOrder x w = some (bI (rng x (A.1 0 75)), w) := by unfold f_X12_isOrder; rw [tol_0 hT 75 rfl]; exact m_in0 _ _ _
theorem zm_items (hT : tol w = A) (hN : NUM A) : f_X12_items w = some (nI (nIt A), w) := by
  unfold f_X12_items; rw [tol_0 hT 49 rfl, tol_0 hT 50 rfl, hN.2.2.2.1.1, hN.2.2.2.2.1.1, nI_add]; rfl
theorem zm_isItem (hT : tol w = A) (hN : NUM A) (x : Int32) : f_X12_isItem x w = some (bI (rng x (nI (nIt A))), w) := by
  unfold f_X12_isItem; rw [zm_items hT hN]; exact m_in0 _ _ _
theorem zm_ways (hT : tol w = A) (hN : NUM A) : f_X12_allWays w = some (nI (nWy A), w) := by
  unfold f_X12_allWays nWy
  rw [tol_0 hT 10 rfl, tol_0 hT 75 rfl, hN.1.1, hN.2.2.2.2.2.2.1.1]
  by_cases h : nLa A = 0
  · rw [h, if_pos (by rfl), if_pos (by rfl)]; rfl
  · rw [if_neg (nI_ne0 (by omega) (by have := hN.1.2; omega)), if_neg h, k8, pk_mul]
theorem zm_isWay (hT : tol w = A) (hN : NUM A) (x : Int32) : f_X12_isWay x w = some (bI (rng x (nI (nWy A))), w) := by
  unfold f_X12_isWay; rw [zm_ways hT hN]; exact m_in0 _ _ _
end
theorem nWy_le {A : Wd} (hN : NUM A) : nWy A ≤ 5760 := by
  have := hN.2.2.2.2.2.2.1.2
  unfold nWy; split <;> omega
/-! simple answers -/
section
variable {wc wm A : Wd}
theorem q_ways (hE : EST wc A) (hO : ORD wc A) (hN : NUM A) (hT : tol wm = A) : f_X11_ways wc = some (nI (nWy A), wc) ∧ f_X12_ways wm = some (nI (nWy A), wm) := by
  unfold f_X11_ways f_X12_ways
  rw [zc_ways hE hO hN, zm_ways hT hN]; exact ⟨rfl, rfl⟩
theorem q_orders (hO : ORD wc A) (hT : tol wm = A) : f_X11_orders wc = some (A.1 0 75, wc) ∧ f_X12_orders wm = some (A.1 0 75, wm) := by
  unfold f_X11_orders f_X12_orders
  rw [hO.1, tol_0 hT 75 rfl]; exact ⟨rfl, rfl⟩
theorem q_rule (hE : EST wc A) (hN : NUM A) (hT : tol wm = A) (a b : Int32) : ∃ r, f_X11_rule a b wc = some (r, wc) ∧ f_X12_rule a b wm = some (r, wm) := by
  unfold f_X11_rule f_X12_rule
  rw [zc_isLand, zm_isLand hT, hE.1.1, hN.1.1]
  simp only [cl_s, bI_0]
  by_cases h : rng a (nI (nLa A)) = true
  · have hl := hN.1.2
    obtain ⟨i, hi, rfl⟩ := rng_ex (by omega) h
    rw [h]
    simp only [Bool.true_eq_false, if_false, m_in, cl_s, bI_0]
    have z0 : (0 : Int64).toInt = 0 := rfl
    have z12 : (12 : Int64).toInt = 12 := rfl
    have y0 : (0 : Int32).toInt = 0 := rfl
    have y13 : (13 : Int32).toInt = 13 := rfl
    rw [z0, z12]
    simp only [z_lt, y0, y13]
    by_cases hb : 0 ≤ b.toInt ∧ b.toInt ≤ 12
    · obtain ⟨j, hj, rfl⟩ := z_ex (n := 13) hb.1 (by omega)
      rw [if_neg (by omega), if_pos (by omega), decide_eq_true hb]
      unfold f_X0_ruleOf
      rw [k13, pk_mul, pk_mul, nI_add, nI_add, Nat.mul_comm 13 i, z_inb (by omega) (by omega), nI_clamp (by omega)]
      rw [hE.2.1 (i * 13 + j) (by omega), tol_a hT 2 _ (by omega)]
      exact ⟨_, rfl, rfl⟩
    · rw [decide_eq_false hb]
      by_cases h0 : b.toInt < 0
      · rw [if_pos h0]; exact ⟨_, rfl, rfl⟩
      · rw [if_neg h0, if_neg (by omega)]; exact ⟨_, rfl, rfl⟩
  · rw [Bool.not_eq_true] at h
    rw [h]; exact ⟨_, rfl, rfl⟩
theorem zc_itemAt (hO : ORD wc A) (hN : NUM A) {o i : Nat} (ho : o < nOr A) (hi : i < nIt A) : f_X2_itemAt (nI o) (nI i) wc = some (A.1 43 (6 * o + i), wc) := by
  have := hN.2.2.2.2.2.2.1.2
  unfold f_X2_itemAt
  rw [z_inb (by omega) (by omega), nI_clamp (by omega), k3, pk_mul, hO.2 o ho i hi]; rfl
theorem q_item (hO : ORD wc A) (hC : CNT wc A) (hN : NUM A) (hT : tol wm = A) (a b : Int32) : ∃ r, f_X11_item a b wc = some (r, wc) ∧ f_X12_item a b wm = some (r, wm) := by
  have hn := hN.2.2.2.2.2.2.1.2
  have hit : nIt A ≤ 6 := hN.2.2.2.2.2.1
  have y0 : (0 : Int32).toInt = 0 := rfl
  unfold f_X11_item f_X12_item
  rw [zm_isOrder hT, hO.1, hN.2.2.2.2.2.2.1.1, zc_items hC hN]
  simp only [cl_s, bI_0, zm_isItem hT hN]
  by_cases h : rng a (nI (nOr A)) = true
  · obtain ⟨o, ho, rfl⟩ := rng_ex (by omega) h
    rw [h, if_neg (nI_pos (by omega)), if_pos (nI_lt ho (by omega))]
    simp only [Bool.true_eq_false, if_false]
    by_cases h2 : rng b (nI (nIt A)) = true
    · obtain ⟨i, hi, rfl⟩ := rng_ex (by omega) h2
      rw [h2, if_neg (nI_pos (by omega)), if_pos (nI_lt hi (by omega)), zc_itemAt hO hN ho hi]
      simp only [Bool.true_eq_false, if_false]
      rw [k6, pk_mul, nI_add, z_inb (by omega) (by omega), nI_clamp (by omega), tol_a hT 43 _ (by omega)]
      exact ⟨_, rfl, rfl⟩
    · have h3 := h2
      rw [Bool.not_eq_true] at h3
      rw [h3]
      by_cases h0 : b < 0
      · rw [if_pos h0]; exact ⟨_, rfl, rfl⟩
      · rw [if_neg h0, if_neg (fun h4 => h2 (decide_eq_true (by rw [z_lt] at h0 h4; rw [y0] at h0; omega)))]; exact ⟨_, rfl, rfl⟩
  · have h3 := h
    rw [Bool.not_eq_true] at h3
    rw [h3]
    by_cases h0 : a < 0
    · rw [if_pos h0]; exact ⟨_, rfl, rfl⟩
    · rw [if_neg h0, if_neg (fun h4 => h (decide_eq_true (by rw [z_lt] at h0 h4; rw [y0] at h0; omega)))]; exact ⟨_, rfl, rfl⟩
/-! which of two items comes ahead -/
def ahF (A : Wd) (o : Nat) (a b : Int32) : Nat → Nat → Bool
  | 0, _ => false
  | j + 1, i => if A.1 43 (6 * o + i) = a then true else if A.1 43 (6 * o + i) = b then false else ahF A o a b j (i + 1)
def ahS (A : Wd) (o : Nat) (a b : Int32) : Bool := ahF A o a b (nIt A) 0
theorem ahF_s {A : Wd} {o : Nat} {a b : Int32} {n i : Nat} (h : i < n) : ahF A o a b (n - i) i = if A.1 43 (6 * o + i) = a then true else if A.1 43 (6 * o + i) = b then false else ahF A o a b (n - (i + 1)) (i + 1) := by
  obtain ⟨j, hj⟩ : ∃ j, n - i = j + 1 := ⟨n - i - 1, by omega⟩
  rw [hj, show n - (i + 1) = j by omega]; rfl
theorem zc_isAhead (hO : ORD wc A) (hC : CNT wc A) (hN : NUM A) {o : Nat} (ho : o < nOr A) (a b : Int32) : f_X2_isAhead (nI o) a b wc = some (bI (ahS A o a b), wc) := by
  have hit : nIt A ≤ 6 := hN.2.2.2.2.2.1
  unfold f_X2_isAhead
  rw [zc_items hC hN, cl_s]
  refine up6 (fun i => (nI o, a, b, nI (nIt A), nI i, wc)) (fun i => some (bI (ahF A o a b (nIt A - i) i), wc)) (nIt A) ?_ ?_ fu 0 (by omega) (by rw [fu_eq]; omega)
  · intro i k hi hk
    dsimp only at hk ⊢
    unfold X2_isAhead_b9
    rw [if_neg (nI_ge hi (by omega)), zc_itemAt hO hN ho hi, cl_s, ahF_s hi]
    by_cases h1 : A.1 43 (6 * o + i) = a
    · rw [if_pos h1, if_pos h1]; unfold X2_isAhead_b37; rw [if_pos h1]; rfl
    · rw [if_neg h1, if_neg h1]
      by_cases h2 : A.1 43 (6 * o + i) = b
      · rw [if_pos h2, if_pos h2]; unfold X2_isAhead_b37; rw [if_neg h1]; rfl
      · rw [if_neg h2, if_neg h2, nI_1]; exact hk
  · intro k
    dsimp only
    unfold X2_isAhead_b9
    rw [if_pos (nI_le (Nat.le_refl _) (by omega)), Nat.sub_self]; rfl
theorem zm_isAhead (hT : tol wm = A) (hN : NUM A) {o : Nat} (ho : o < nOr A) (a b : Int32) : f_X12_isAhead (nI o) a b wm = some (bI (ahS A o a b), wm) := by
  have hit : nIt A ≤ 6 := hN.2.2.2.2.2.1
  have hn := hN.2.2.2.2.2.2.1.2
  unfold f_X12_isAhead
  refine up5 (fun i => (nI o, a, b, nI i, wm)) (fun i => some (bI (ahF A o a b (nIt A - i) i), wm)) (nIt A) ?_ ?_ fu 0 (by omega) (by rw [fu_eq]; omega)
  · intro i k hi hk
    dsimp only at hk ⊢
    unfold X12_isAhead_b3
    rw [zm_items hT hN, cl_s, if_neg (nI_ge hi (by omega)), ahF_s hi, k6, pk_mul, nI_add, z_inb (by omega) (by omega), nI_clamp (by omega), tol_a hT 43 _ (by omega), if_pos (by rfl)]
    by_cases h1 : A.1 43 (6 * o + i) = a
    · rw [if_pos h1, if_pos h1]; rfl
    · rw [if_neg h1, if_neg h1, if_pos (by rfl)]
      by_cases h2 : A.1 43 (6 * o + i) = b
      · rw [if_pos h2, if_pos h2]; rfl
      · rw [if_neg h2, if_neg h2, nI_1]; exact hk
  · intro k
    dsimp only
    unfold X12_isAhead_b3
    rw [zm_items hT hN, cl_s, if_pos (nI_le (Nat.le_refl _) (by omega)), Nat.sub_self]; rfl
def ahC (A : Wd) (a b : Int32) (n : Nat) : Nat := fb_ct (fun o => ahS A o a b) n
def ahR (A : Wd) (a b : Int32) : Int32 := if nOr A = 0 then -1 else if ahC A a b (nOr A) = nOr A then 1 else if ahC A a b (nOr A) = 0 then 0 else 2
theorem q_ahead (hO : ORD wc A) (hC : CNT wc A) (hN : NUM A) (hT : tol wm = A) (a b : Int32) : ∃ r, f_X11_ahead a b wc = some (r, wc) ∧ f_X12_ahead a b wm = some (r, wm) := by
  have hn := hN.2.2.2.2.2.2.1.2
  unfold f_X11_ahead f_X12_ahead
  simp only [zc_isItem hC hN, zm_isItem hT hN, cl_s, bI_0]
  by_cases h1 : rng a (nI (nIt A)) = false
  · rw [if_pos h1, if_pos h1]; exact ⟨_, rfl, rfl⟩
  rw [if_neg h1, if_neg h1]
  by_cases h2 : rng b (nI (nIt A)) = false
  · rw [if_pos h2, if_pos h2]; exact ⟨_, rfl, rfl⟩
  rw [if_neg h2, if_neg h2]
  by_cases h3 : a = b
  · rw [if_pos h3, if_pos h3]; exact ⟨_, rfl, rfl⟩
  rw [if_neg h3, if_neg h3]
  have hle : ∀ n, ahC A a b n ≤ n := fun n => fb_ct_le _ n
  have hm : X12_ahead_b29_L a b 0 0 wm = some (ahR A a b, wm) := by
    refine up5 (fun i => (a, b, nI (ahC A a b i), nI i, wm)) (fun _ => some (ahR A a b, wm)) (nOr A) ?_ ?_ fu 0 (by omega) (by rw [fu_eq]; omega)
    · intro i k hi hk
      dsimp only at hk ⊢
      unfold X12_ahead_b29
      rw [tol_0 hT 75 rfl, hN.2.2.2.2.2.2.1.1, if_neg (nI_ge hi (by omega)), zm_isAhead hT hN hi, cl_s]
      have e : ahC A a b (i + 1) = ahC A a b i + if ahS A i a b then 1 else 0 := rfl
      rw [← hk, e]
      cases ahS A i a b
      · rw [if_pos (by rfl), lt_s', nI_1]; simp
      · rw [if_neg (by decide), lt_s', nI_1, nI_1]; simp
    · intro k
      dsimp only
      unfold X12_ahead_b29
      have hb := hle (nOr A)
      rw [tol_0 hT 75 rfl, hN.2.2.2.2.2.2.1.1, if_pos (nI_le (Nat.le_refl _) (by omega))]
      unfold ahR
      by_cases e0 : nOr A = 0
      · rw [e0, if_pos (by rfl), if_pos (by rfl)]
      · rw [if_neg (nI_ne0 (by omega) (by omega)), if_neg e0, if_nE (by omega) (by omega)]
        by_cases e1 : ahC A a b (nOr A) = nOr A
        · rw [if_pos e1, if_pos e1]
        · rw [if_neg e1, if_neg e1, ← nI_0, if_nE (by omega) (by omega)]
          by_cases e2 : ahC A a b (nOr A) = 0
          · rw [if_pos e2, if_pos e2, nI_0]
          · rw [if_neg e2, if_neg e2]
  have hc : 0 < nOr A → X11_ahead_b41_L a b 0 0 wc = some (ahR A a b, wc) := by
    intro hp
    refine up5 (fun i => (a, b, nI (ahC A a b i), nI i, wc)) (fun _ => some (ahR A a b, wc)) (nOr A) ?_ ?_ fu 0 (by omega) (by rw [fu_eq]; omega)
    · intro i k hi hk
      dsimp only at hk ⊢
      unfold X11_ahead_b41
      rw [hO.1, hN.2.2.2.2.2.2.1.1, if_neg (nI_ge hi (by omega)), zc_isAhead hO hC hN hi, cl_s]
      have e : ahC A a b (i + 1) = ahC A a b i + if ahS A i a b then 1 else 0 := rfl
      rw [← hk, e]
      cases ahS A i a b
      · rw [if_pos (by rfl), lt_s', nI_1]; simp
      · rw [if_neg (by decide), lt_s', nI_1, nI_1]; simp
    · intro k
      dsimp only
      unfold X11_ahead_b41
      have hb := hle (nOr A)
      rw [hO.1, hN.2.2.2.2.2.2.1.1, if_pos (nI_le (Nat.le_refl _) (by omega))]
      unfold ahR
      rw [if_neg (show ¬ nOr A = 0 by omega), if_nE (by omega) (by omega), ← nI_0, if_nE (by omega) (by omega)]
      by_cases e2 : ahC A a b (nOr A) = 0
      · rw [if_pos e2, if_neg (show ¬ ahC A a b (nOr A) = nOr A by omega), if_pos e2]
      · rw [if_neg e2]
        by_cases e1 : ahC A a b (nOr A) = nOr A
        · rw [if_pos e1, if_pos e1]
        · rw [if_neg e1, if_neg e1, if_neg e2]
  rw [hm, hO.1, hN.2.2.2.2.2.2.1.1]
  by_cases e0 : nOr A = 0
  · refine ⟨-1, ?_, ?_⟩
    · rw [e0, if_pos (by rfl)]
    · unfold ahR; rw [if_pos e0]
  · rw [if_neg (nI_ne0 (by omega) (by omega)), hc (by omega)]; exact ⟨_, rfl, rfl⟩
end
