/-! mending in the reference -/
theorem nar_b (b : Bool) : vp_nar .boolean (bI b) = bI b := by cases b <;> rfl
theorem nar_01 {x : Int32} (h : x = 0 ∨ x = 1) : vp_nar .boolean x = x := by rcases h with rfl | rfl <;> rfl
theorem nb_d (b : Bool) : decide (¬ bI b = 0) = b := by cases b <;> rfl
theorem co_gn (A : Wd) (p : Nat) : ∀ i, gnF (cor A) p i = gnF A p i
  | 0 => co_hr A p (nHe A p)
  | i + 1 => by
    show gnF (cor A) p i ||| 1 <<< ((cor A).1 34 (8 * p + i) &&& 31) = gnF A p i ||| 1 <<< (A.1 34 (8 * p + i) &&& 31)
    rw [co_gn A p i]; rfl
theorem co_gd (A : Wd) (sg hd pc : Bool) (more : Int32) (p l : Nat) : gdX (cor A) sg hd pc more p l = gdX A sg hd pc more p l := by
  unfold gdX witS
  rw [show gnS (cor A) p = gnS A p from co_gn A p (nGi A p)]; rfl
theorem z_b3 : ∀ c, c < 64 → (nI c >>> ((3 : Int32) &&& 31)) &&& 1 = if nI c &&& 8 = 0 then 0 else 1 := by decide +kernel
section
variable {A : Wd} {p c : Nat}
theorem md_gdX (sg hd pc : Bool) (more : Int32) (i l : Nat) (ch : Int32) : gdX (mdA A p ch) sg hd pc more i l = gdX A sg hd pc more i l := by rw [← co_gd, md_co, co_gd]
theorem md_nPa (ch : Int32) : nPa (mdA A p ch) = nPa A := by unfold nPa; rw [md_o _ _ (by omega)]
theorem md_gd (hN : NUM A) (hX : NCH A) (hp : p < nPa A) (hc : c < 64) (l : Nat) : gdA (mdA A p (nI c)) l = gM A l p (GC A p l (nI c)) := by
  have h4 := hN.2.2.2.1.2
  funext i
  unfold gM gdA
  rw [md_nPa]
  by_cases e : i = p
  · subst e
    rw [if_pos rfl, decide_eq_true hp, Bool.true_and]
    unfold gdS GC
    rw [md_gdX, md_30, md_28, md_29, md_80, md_81, if_pos rfl, nb_d, nb_d, nb_d, z_b3 c hc]
  · rw [if_neg e]
    by_cases hi : i < nPa A
    · rw [decide_eq_true hi, Bool.true_and, Bool.true_and]
      unfold gdS
      rw [md_gdX, md_o 30 i (by omega), md_o 28 i (by omega), md_o 29 i (by omega), md_80, if_neg (fun h => e ((nI_eq (by omega) (by omega)).mp h)), if_neg (fun h => nI_n1 (n := i) (by omega) (h.trans hX))]
    · rw [decide_eq_false hi, Bool.false_and, Bool.false_and]
theorem md_ua (hp : p < nPa A) (c : Nat) : uaA (mdA A p (nI c)) = uM A p (UC A p (nI c)) := by
  funext i
  unfold uM uaA
  rw [md_nPa]
  by_cases e : i = p
  · subst e
    rw [if_pos rfl, decide_eq_true hp, Bool.true_and, md_31, nb_d]; rfl
  · rw [if_neg e, md_o 31 i (by omega)]
theorem md_tV (hN : NUM A) (hX : NCH A) (hp : p < nPa A) (hc : c < 64) (t v i : Nat) : tV (mdA A p (nI c)) v t i = vM A p t (GC A p (lwT A t) (nI c)) (UC A p (nI c)) v i := by
  have hl : lwT (mdA A p (nI c)) t = lwT A t := md_lw _
  have hr : RU (mdA A p (nI c)) (lwT A t) v = ruM A (lwT A t) p (GC A p (lwT A t) (nI c)) (UC A p (nI c)) v := by
    unfold RU ruM
    rw [md_run, md_gd hN hX hp hc, md_ua hp]
  unfold tV vM cnU voU
  rw [hl, md_th, md_cn, hr]
theorem md_num (hN : NUM A) (ch : Int32) : NUM (mdA A p ch) := hN
theorem md_inv (hI : INV A) (ch : Int32) : INV (mdA A p ch) := by
  obtain ⟨hN, hW, hP, hV, hO⟩ := hI
  refine ⟨hN, hW, fun k hk => ?_, hV, hO⟩
  obtain ⟨h1, h2, h3, h4, h5, h6, h7⟩ := hP k hk
  refine ⟨h1, h2, h3, h4, h5, h6, fun o ho1 ho2 => ?_⟩
  by_cases e : k = p
  · subst e
    have hb : ∀ b : Bool, bI b = 0 ∨ bI b = 1 := fun b => by cases b <;> decide
    rcases (show o = 28 ∨ o = 29 ∨ o = 30 ∨ o = 31 by omega) with rfl | rfl | rfl | rfl
    · rw [md_28]; exact hb _
    · rw [md_29]; exact hb _
    · rw [md_30]; exact hb _
    · rw [md_31]; exact hb _
  · rw [md_o _ _ (by omega)]; exact h7 o ho1 ho2
theorem md_pei (hPe : PEI A) (ch : Int32) : PEI (mdA A p ch) := hPe
theorem md_wy (ch : Int32) : nWy (mdA A p ch) = nWy A := rfl
theorem md_cd (ch : Int32) (L : Bool) (v : Nat) : cdM (mdA A p ch) p L v ↔ cdM A p L v := Iff.rfl
end
/-! what is told, with a paper made otherwise -/
theorem tol_f {w : Wd} {o k : Nat} (v : Int32) (ho : 28 ≤ o ∧ o ≤ 31) (hk : k < nPa w) : tol (wI w o k v) = wI (tol w) o k v := by
  have hn : nPa (wI w o k v) = nPa w := by unfold nPa; rw [wI_g, if_neg (by omega)]
  refine Prod.ext (funext fun a => funext fun b => ?_) rfl
  rw [wI_g]
  by_cases e : a = o ∧ b = k
  · rw [if_pos e]
    obtain ⟨rfl, rfl⟩ := e
    unfold tol
    dsimp only
    rw [if_neg (by omega), if_neg (by omega), if_pos (by omega), hn, if_pos hk, wI_s]
  · rw [if_neg e]
    have q0 : ∀ x, (wI w o k v).1 0 x = w.1 0 x := fun x => by rw [wI_g, if_neg (by omega)]
    have q1 : (wI w o k v).1 a b = w.1 a b := by rw [wI_g, if_neg e]
    unfold tol
    simp only [hn, q0, q1]
theorem tol_8081 {w : Wd} {x : Int32} (y : Int32) (hx : ¬ x = -1) : tol (wI (wI w 0 80 x) 0 81 y) = wI (wI (tol w) 0 80 x) 0 81 y := by
  have hn : nPa (wI (wI w 0 80 x) 0 81 y) = nPa w := by unfold nPa; rw [wI_g, if_neg (by omega), wI_g, if_neg (by omega)]
  refine Prod.ext (funext fun a => funext fun b => ?_) rfl
  rw [wI_g, wI_g]
  unfold tol
  dsimp only
  rw [hn]
  by_cases e : a = 0
  · subst e
    rw [if_pos rfl, if_pos rfl]
    have g80 : (wI (wI w 0 80 x) 0 81 y).1 0 80 = x := by rw [wI_g, if_neg (by omega), wI_s]
    rw [g80, if_neg (show ¬ (b = 81 ∧ x = -1) from fun h => hx h.2)]
    by_cases e1 : b = 81
    · subst e1; rw [if_pos (show TK 81 = true from rfl), wI_s, if_pos (show 0 = 0 ∧ 81 = 81 from ⟨rfl, rfl⟩)]
    · rw [if_neg (show ¬ (0 = 0 ∧ b = 81) from fun h => e1 h.2), wI_g, if_neg (show ¬ (0 = 0 ∧ b = 81) from fun h => e1 h.2), wI_g]
      by_cases e2 : b = 80
      · subst e2; rw [if_pos (show 0 = 0 ∧ 80 = 80 from ⟨rfl, rfl⟩), if_pos (show TK 80 = true from rfl), if_pos (show 0 = 0 ∧ 80 = 80 from ⟨rfl, rfl⟩)]
      · rw [if_neg (show ¬ (0 = 0 ∧ b = 80) from fun h => e2 h.2), if_neg (show ¬ (b = 81 ∧ w.1 0 80 = -1) from fun h => e1 h.1), if_neg (show ¬ (0 = 0 ∧ b = 80) from fun h => e2 h.2)]
  · rw [if_neg e, if_neg e, if_neg (show ¬ (a = 0 ∧ b = 81) from fun h => e h.1), if_neg (show ¬ (a = 0 ∧ b = 80) from fun h => e h.1), wI_g, if_neg (show ¬ (a = 0 ∧ b = 81) from fun h => e h.1), wI_g, if_neg (show ¬ (a = 0 ∧ b = 80) from fun h => e h.1)]
theorem tol_81s {w A : Wd} (hT : tol w = A) (hX : NCH A) (y : Int32) : tol (wI w 0 81 y) = A := by
  subst hT
  have h80 : w.1 0 80 = -1 := (tol_0 rfl 80 rfl).trans hX
  have hn : nPa (wI w 0 81 y) = nPa w := by unfold nPa; rw [wI_g, if_neg (by omega)]
  refine Prod.ext (funext fun a => funext fun b => ?_) rfl
  unfold tol
  dsimp only
  rw [hn, wI_g, wI_g, if_neg (show ¬ (0 = 0 ∧ 80 = 81) by omega), wI_g]
  by_cases e : a = 0
  · subst e
    by_cases e1 : b = 81
    · subst e1; rw [if_pos (show 81 = 81 ∧ w.1 0 80 = -1 from ⟨rfl, h80⟩), if_pos (show 81 = 81 ∧ w.1 0 80 = -1 from ⟨rfl, h80⟩)]; rfl
    · rw [if_neg (show ¬ (0 = 0 ∧ b = 81) from fun h => e1 h.2)]
  · rw [if_neg (show ¬ (a = 0 ∧ b = 81) from fun h => e h.1)]
    simp only [if_neg e]
def PM1 (a k : Nat) : Prop := PMS a k ∨ (a = 0 ∧ k = 81)
theorem PM1_t {w w' A : Wd} (h : FX PM1 w w') (hT : tol w = A) (hX : NCH A) : tol w' = A := by
  have h1 : FX PMS (wI w 0 81 (w'.1 0 81)) w' := by
    refine ⟨h.1, fun a k hn => ?_⟩
    rw [wI_g]
    by_cases e : a = 0 ∧ k = 81
    · rw [if_pos e, e.1, e.2]
    · rw [if_neg e]; exact h.2 a k (fun q => q.elim hn e)
  exact h1.mt (tol_81s hT hX _)
