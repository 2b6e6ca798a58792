/-! what hangs not on how a paper was made -/
def cor (A : Wd) : Wd := (fun a k => if (28 ≤ a ∧ a ≤ 31) ∨ (a = 0 ∧ (k = 80 ∨ k = 81)) then 0 else A.1 a k, A.2)
theorem co_runF (A : Wd) (gd ua : Nat → Bool) (l f o : Nat) : ∀ i, runF (cor A) gd ua l f o i = runF A gd ua l f o i
  | 0 => rfl
  | i + 1 => by
    show stepS (cor A) gd ua l f (itS (cor A) o i) (runF (cor A) gd ua l f o i) = stepS A gd ua l f (itS A o i) (runF A gd ua l f o i)
    rw [co_runF A gd ua l f o i]; rfl
theorem co_run (A : Wd) (gd ua : Nat → Bool) (l f o : Nat) : runS (cor A) gd ua l f o = runS A gd ua l f o := co_runF A gd ua l f o (nIt A)
theorem co_cnF (A : Wd) (st : Nat → Bool) : ∀ p i, cnF (cor A) st p i = cnF A st p i
  | 0, _ => rfl
  | p + 1, i => by
    show (if i = p then (st p && (decide ((cor A).1 27 p = -1) || cnF (cor A) st p ((cor A).1 27 p).toNatClampNeg)) else cnF (cor A) st p i) = (if i = p then (st p && (decide (A.1 27 p = -1) || cnF A st p (A.1 27 p).toNatClampNeg)) else cnF A st p i)
    rw [co_cnF A st p i, co_cnF A st p]; rfl
theorem co_cn (A : Wd) (st : Nat → Bool) : cnS (cor A) st = cnS A st := funext (co_cnF A st (nPa A))
theorem co_lw (A : Wd) (x : Int32) : lwX (cor A) x = lwX A x := rfl
theorem co_hr (A : Wd) (p : Nat) : ∀ n, hrF (cor A) p n = hrF A p n
  | 0 => rfl
  | n + 1 => by
    show hrF (cor A) p n ||| 1 <<< ((cor A).1 36 (4 * p + n) &&& 31) = hrF A p n ||| 1 <<< (A.1 36 (4 * p + n) &&& 31)
    rw [co_hr A p n]; rfl
theorem co_hs (A : Wd) (l : Nat) (vo : Nat → Bool) (p who : Nat) : hsS (cor A) l vo p who = hsS A l vo p who := by
  unfold hsS
  rw [show hrS (cor A) p = hrS A p from co_hr A p (nHe A p)]; rfl
theorem co_rh (A : Wd) (l : Nat) (cn vo : Nat → Bool) (o : Nat) : ∀ i, rhF (cor A) l cn vo o i = rhF A l cn vo o i
  | 0 => rfl
  | i + 1 => by
    show (if itS (cor A) o i < nPa (cor A) ∧ cn (itS (cor A) o i) = true ∧ ¬ fb_ct (hsS (cor A) l vo (itS (cor A) o i)) 8 = 0 then some (hsS (cor A) l vo (itS (cor A) o i)) else rhF (cor A) l cn vo o i) = (if itS A o i < nPa A ∧ cn (itS A o i) = true ∧ ¬ fb_ct (hsS A l vo (itS A o i)) 8 = 0 then some (hsS A l vo (itS A o i)) else rhF A l cn vo o i)
    rw [co_rh A l cn vo o i, show itS (cor A) o i = itS A o i from rfl, show nPa (cor A) = nPa A from rfl, show hsS (cor A) l vo (itS A o i) = hsS A l vo (itS A o i) from funext (co_hs A l vo _)]
theorem co_kv (A : Wd) (l m i : Nat) : kvS (cor A) l m i = kvS A l m i := rfl
theorem co_pl (A : Wd) (l : Nat) (cn vo : Nat → Bool) (o m i : Nat) : plV (cor A) l cn vo o m i = plV A l cn vo o m i := by
  unfold plV
  rw [show nIt (cor A) = nIt A from rfl, co_rh]; rfl
theorem co_gf (A : Wd) (l : Nat) (vo : Nat → Bool) (f p t : Nat) : ∀ j g, gfF (cor A) l vo f p t j g = gfF A l vo f p t j g
  | 0, _ => rfl
  | j + 1, g => by
    show (if (cor A).1 32 (8 * p + g) = nI t ∧ hdS (cor A) l vo f p (8 * p + g) = true then some (toS (cor A) (8 * p + g)) else gfF (cor A) l vo f p t j (g + 1)) = (if A.1 32 (8 * p + g) = nI t ∧ hdS A l vo f p (8 * p + g) = true then some (toS A (8 * p + g)) else gfF A l vo f p t j (g + 1))
    rw [co_gf A l vo f p t j (g + 1)]; rfl
theorem co_gv (A : Wd) (l : Nat) (cn vo : Nat → Bool) (f o t : Nat) : ∀ i, gvF (cor A) l cn vo f o t i = gvF A l cn vo f o t i
  | 0 => rfl
  | i + 1 => by
    show (if itS (cor A) o i < nPa (cor A) then oE (gi1 (cor A) l cn vo f t (itS (cor A) o i) (nGi (cor A) (itS (cor A) o i)) 0) (gvF (cor A) l cn vo f o t i) else gvF (cor A) l cn vo f o t i) = (if itS A o i < nPa A then oE (gi1 A l cn vo f t (itS A o i) (nGi A (itS A o i)) 0) (gvF A l cn vo f o t i) else gvF A l cn vo f o t i)
    rw [co_gv A l cn vo f o t i]
    unfold gi1
    rw [co_gf]; rfl
theorem co_th (A : Wd) (l : Nat) (cn vo : Nat → Bool) (f o t i : Nat) : thV (cor A) l cn vo f o t i = thV A l cn vo f o t i := by
  unfold thV
  rw [show nIt (cor A) = nIt A from rfl, co_gv]
  split
  · rfl
  · exact co_pl A l cn vo o _ i
/-- a paper made otherwise -/
def mdA (A : Wd) (p : Nat) (ch : Int32) : Wd := (fun a k => if a = 30 ∧ k = p then bI (decide (¬ A.1 30 p = 0) || decide (¬ ch &&& 1 = 0)) else if a = 28 ∧ k = p then bI (decide (¬ A.1 28 p = 0) || decide (¬ ch &&& 2 = 0)) else if a = 29 ∧ k = p then bI (decide (¬ A.1 29 p = 0) && decide (ch &&& 4 = 0)) else if a = 31 ∧ k = p then bI (decide (¬ A.1 31 p = 0) || decide (¬ ch &&& 16 = 0)) else if a = 0 ∧ k = 80 then nI p else if a = 0 ∧ k = 81 then (ch >>> (3 &&& 31)) &&& 1 else A.1 a k, A.2)
theorem md_co (A : Wd) (p : Nat) (ch : Int32) : cor (mdA A p ch) = cor A := by
  unfold cor mdA
  refine Prod.ext (funext fun a => funext fun k => ?_) rfl
  show (if (28 ≤ a ∧ a ≤ 31) ∨ (a = 0 ∧ (k = 80 ∨ k = 81)) then _ else _) = (if (28 ≤ a ∧ a ≤ 31) ∨ (a = 0 ∧ (k = 80 ∨ k = 81)) then _ else _)
  by_cases c : (28 ≤ a ∧ a ≤ 31) ∨ (a = 0 ∧ (k = 80 ∨ k = 81))
  · rw [if_pos c, if_pos c]
  · rw [if_neg c, if_neg c]
    show (if a = 30 ∧ k = p then _ else if a = 28 ∧ k = p then _ else if a = 29 ∧ k = p then _ else if a = 31 ∧ k = p then _ else if a = 0 ∧ k = 80 then _ else if a = 0 ∧ k = 81 then _ else A.1 a k) = A.1 a k
    rw [if_neg (by omega), if_neg (by omega), if_neg (by omega), if_neg (by omega), if_neg (by omega), if_neg (by omega)]
section
variable {A : Wd} {p : Nat} {ch : Int32}
theorem md_run (gd ua : Nat → Bool) (l f o : Nat) : runS (mdA A p ch) gd ua l f o = runS A gd ua l f o := by rw [← co_run, md_co, co_run]
theorem md_cn (st : Nat → Bool) : cnS (mdA A p ch) st = cnS A st := by rw [← co_cn, md_co, co_cn]
theorem md_lw (x : Int32) : lwX (mdA A p ch) x = lwX A x := by rw [← co_lw, md_co, co_lw]
theorem md_th (l : Nat) (cn vo : Nat → Bool) (f o t i : Nat) : thV (mdA A p ch) l cn vo f o t i = thV A l cn vo f o t i := by rw [← co_th, md_co, co_th]
theorem md_o (a k : Nat) (h : ¬ ((28 ≤ a ∧ a ≤ 31 ∧ k = p) ∨ (a = 0 ∧ (k = 80 ∨ k = 81)))) : (mdA A p ch).1 a k = A.1 a k := by
  show (if a = 30 ∧ k = p then _ else if a = 28 ∧ k = p then _ else if a = 29 ∧ k = p then _ else if a = 31 ∧ k = p then _ else if a = 0 ∧ k = 80 then _ else if a = 0 ∧ k = 81 then _ else A.1 a k) = A.1 a k
  rw [if_neg (by omega), if_neg (by omega), if_neg (by omega), if_neg (by omega), if_neg (by omega), if_neg (by omega)]
theorem md_30 : (mdA A p ch).1 30 p = bI (decide (¬ A.1 30 p = 0) || decide (¬ ch &&& 1 = 0)) := if_pos ⟨rfl, rfl⟩
theorem md_28 : (mdA A p ch).1 28 p = bI (decide (¬ A.1 28 p = 0) || decide (¬ ch &&& 2 = 0)) := by simp [mdA]
theorem md_29 : (mdA A p ch).1 29 p = bI (decide (¬ A.1 29 p = 0) && decide (ch &&& 4 = 0)) := by simp [mdA]
theorem md_31 : (mdA A p ch).1 31 p = bI (decide (¬ A.1 31 p = 0) || decide (¬ ch &&& 16 = 0)) := by simp [mdA]
theorem md_80 : (mdA A p ch).1 0 80 = nI p := by simp [mdA]
theorem md_81 : (mdA A p ch).1 0 81 = (ch >>> (3 &&& 31)) &&& 1 := by simp [mdA]
end
