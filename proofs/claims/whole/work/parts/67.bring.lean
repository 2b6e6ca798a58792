/-! the reference's run of a way -/
def effS (A : Wd) (l e : Nat) : Nat := if A.1 38 e = 0 then (if A.1 2 (13 * l + 4) = 0 then 0 else 1) else if A.1 38 e = 1 then (if A.1 2 (13 * l + 5) = 0 then 0 else 2) else if A.1 38 e = 2 then 3 else if A.1 38 e = 3 then (if A.1 2 (13 * l + 6) = 0 then 0 else 3) else (if A.1 2 (13 * l + 8) = 0 then 0 else 3)
def evSo (A : Wd) (e f : Nat) : Bool := decide (A.1 42 e = -1) || bt (nI f) (A.1 42 e).toNatClampNeg
def wkS (A : Wd) (l : Nat) : Bool := decide (¬ A.1 2 (13 * l + 7) = 0)
def stepS (A : Wd) (gd ua : Nat → Bool) (l f it : Nat) (S : SS) : SS := if it < nPa A then putP gd (ua it) (bt (A.1 25 it)) (bt (A.1 26 it)) it S else if evSo A (it - nPa A) f = true then evP (effS A l (it - nPa A)) (wkS A l) (A.1 39 (it - nPa A)).toNatClampNeg (nI it) S else S
def runF (A : Wd) (gd ua : Nat → Bool) (l f o : Nat) : Nat → SS
  | 0 => s0
  | i + 1 => stepS A gd ua l f (itS A o i) (runF A gd ua l f o i)
def runS (A : Wd) (gd ua : Nat → Bool) (l f o : Nat) : SS := runF A gd ua l f o (nIt A)
def gdA (A : Wd) (l : Nat) : Nat → Bool := fun i => decide (i < nPa A) && gdS A i l
def uaA (A : Wd) : Nat → Bool := fun i => decide (i < nPa A) && decide (¬ A.1 31 i = 0)
theorem takP_clamp {A : Wd} (hV : EVI A) (hN : NUM A) {e : Nat} (he : e < nEv A) (l : Nat) (h : effS A l e = 3) : A.1 39 e = nI (A.1 39 e).toNatClampNeg ∧ (A.1 39 e).toNatClampNeg < nPa A := by
  have h4 := hN.2.2.2.1.2
  refine ((hV e he).2.1 (fun h0 => ?_) (fun h1 => ?_)).e (by omega)
  · unfold effS at h
    rw [if_pos h0] at h
    split at h <;> cases h
  · unfold effS at h
    rw [if_neg (by rw [h1]; decide), if_pos h1] at h
    split at h <;> cases h
theorem SI_run {A : Wd} (hN : NUM A) (hV : EVI A) (hO : ORI A) (gd ua : Nat → Bool) (l f : Nat) {o : Nat} (ho : o < nOr A) : ∀ i, i ≤ nIt A → SI A (runF A gd ua l f o i) := by
  intro i
  induction i with
  | zero => intro _; exact SI_0 A
  | succ i ih =>
    intro hi
    have h := ih (by omega)
    have h4 := hN.2.2.2.1.2
    have h6 : nIt A ≤ 6 := hN.2.2.2.2.2.1
    have hit : itS A o i < nIt A := (((hO o ho).1 i (by omega)).e (by omega)).2
    show SI A (stepS A gd ua l f (itS A o i) (runF A gd ua l f o i))
    unfold stepS
    by_cases c : itS A o i < nPa A
    · rw [if_pos c]; exact SI_put h _ _ _ _ c
    · rw [if_neg c]
      by_cases c2 : evSo A (itS A o i - nPa A) f = true
      · rw [if_pos c2]
        have he : itS A o i - nPa A < nEv A := by unfold nIt at hit; omega
        by_cases c3 : effS A l (itS A o i - nPa A) = 3
        · exact SI_ev h _ _ (by have := (takP_clamp hV hN he l c3).2; omega) _
        · unfold evP
          by_cases d1 : effS A l (itS A o i - nPa A) = 1
          · rw [if_pos d1]; exact SI_und h _ _
          · rw [if_neg d1]
            by_cases d2 : effS A l (itS A o i - nPa A) = 2
            · have := SI_ev h 2 (wkS A l) (p := 0) (by omega) (nI (itS A o i))
              rw [if_pos d2]; exact this
            · rw [if_neg d2, if_neg c3]; exact h
      · rw [if_neg c2]; exact h
/-- a paper has not come before its place -/
theorem came_no {A : Wd} (hN : NUM A) (hO : ORI A) (gd ua : Nat → Bool) (l f : Nat) {o : Nat} (ho : o < nOr A) : ∀ i, i ≤ nIt A → ∀ q, (runF A gd ua l f o i).2.1 q = true → ∃ j, j < i ∧ itS A o j = q := by
  intro i
  induction i with
  | zero => intro _ q hq; cases hq
  | succ i ih =>
    intro hi q hq
    have hq : (stepS A gd ua l f (itS A o i) (runF A gd ua l f o i)).2.1 q = true := hq
    have old : (runF A gd ua l f o i).2.1 q = true → ∃ j, j < i + 1 ∧ itS A o j = q := fun h => by
      obtain ⟨j, hj, e⟩ := ih (by omega) q h; exact ⟨j, by omega, e⟩
    unfold stepS at hq
    by_cases c : itS A o i < nPa A
    · rw [if_pos c] at hq
      have hq2 : ((runF A gd ua l f o i).2.1 q || decide (q = itS A o i)) = true := by
        unfold putP at hq
        by_cases g : gd (itS A o i) = true
        · rw [if_pos g] at hq; exact hq
        · rw [if_neg g] at hq; exact hq
      rw [Bool.or_eq_true] at hq2
      rcases hq2 with h | h
      · exact old h
      · exact ⟨i, by omega, (of_decide_eq_true h).symm⟩
    · rw [if_neg c] at hq
      by_cases c2 : evSo A (itS A o i - nPa A) f = true
      · rw [if_pos c2] at hq
        refine old ?_
        unfold evP takP at hq
        split at hq
        · exact hq
        · split at hq
          · exact hq
          · split at hq
            · split at hq
              · split at hq
                · exact hq
                · exact hq
              · exact hq
            · exact hq
      · rw [if_neg c2] at hq; exact old hq
section
variable {w A : Wd}
theorem SS_ext {a b : SS} (h1 : ∀ i, a.1 i = b.1 i) (h2 : a.2.1 = b.2.1) (h3 : a.2.2.1 = b.2.2.1) (h4 : ∀ i, a.2.2.2 i = b.2.2.2 i) : a = b := Prod.ext (funext h1) (Prod.ext h2 (Prod.ext h3 (funext h4)))
theorem zm_put (hT : tol w = A) (hI : INV A) {S : SS} (hM : STM w A S) (hS : SI A S) {p l : Nat} (hp : p < nPa A) (hl : l < nLa A) : OK (f_X12_bringPaper (nI p) (nI l) w) (fun w' => STM w' A (putP (gdA A l) (uaA A p) (bt (A.1 25 p)) (bt (A.1 26 p)) p S) ∧ FM w w') := by
  obtain ⟨hN, -, hP, -, -⟩ := hI
  have h4 := hN.2.2.2.1.2
  have hin : inb (nI p) 4 = true := z_inb (by omega) (by omega)
  have hcl : (nI p).toNatClampNeg = p := nI_clamp (by omega)
  unfold f_X12_bringPaper
  refine OK.l ?_
  have hF1 : FM w (wI w 0 83 (w.1 0 83 ||| 1 <<< (nI p &&& 31))) := FM.w0 w (by omega) _
  have hT1 := hF1.tol hT
  have hM1 : STM (wI w 0 83 (w.1 0 83 ||| 1 <<< (nI p &&& 31))) A (camP p S) := by
    refine ⟨?_, ?_, ?_, fun j hj => ?_⟩
    · rw [wI_g, if_neg (by omega)]; exact hM.1
    · rw [wI_s]; exact hM.2.1.or (RB.one (by omega))
    · rw [wI_g, if_neg (by omega)]; exact hM.2.2.1
    · rw [wI_g, if_neg (by omega)]; exact hM.2.2.2 j hj
  have hS1 := SI_cam hS hp
  generalize wI w 0 83 (w.1 0 83 ||| 1 <<< (nI p &&& 31)) = w1 at hF1 hT1 hM1 ⊢
  rw [zm_good hT1 hN hP hp hl, cl_s, if_b0]
  unfold putP
  have hg : gdA A l p = gdS A p l := by unfold gdA; rw [decide_eq_true hp, Bool.true_and]
  rw [hg]
  by_cases g : gdS A p l = false
  · rw [if_neg (show ¬ gdS A p l = true by rw [g]; decide)]
    exact OK.t g (OK.s ⟨hM1, hF1⟩)
  rw [Bool.not_eq_false] at g
  rw [if_pos g]
  refine OK.f (by rw [g]; decide) (OK.l (OK.t hin (OK.l (OK.t hin ?_))))
  rw [hcl]
  have hF2 : FM w1 (wI (wI w1 0 82 (w1.1 0 82 ||| 1 <<< (nI p &&& 31))) 45 p (-1)) := (FM.w0 w1 (by omega) _).tr (FM.w45 _ _ _)
  have hM2 : STM (wI (wI w1 0 82 (w1.1 0 82 ||| 1 <<< (nI p &&& 31))) 45 p (-1)) A (risP (camP p S) (fun i => decide (i = p))) := by
    obtain ⟨w2, e, hM2, -⟩ := zm_rise hN hM1 hp
    unfold f_X12_rise at e
    rw [lt_s', hin, if_pos rfl, lt_s', hcl] at e
    cases e; exact hM2
  have hS2 : SI A (risP (camP p S) (fun i => decide (i = p))) := SI_ris hS1 (fun i hi => by
    show (S.2.1 i || decide (i = p)) = true
    have hi : decide (i = p) = true := hi
    rw [hi, Bool.or_true])
  generalize wI (wI w1 0 82 (w1.1 0 82 ||| 1 <<< (nI p &&& 31))) 45 p (-1) = w2 at hF2 hM2 ⊢
  have hT2 := hF2.tol hT1
  have hu : uaA A p = decide (¬ A.1 31 p = 0) := by unfold uaA; rw [decide_eq_true hp, Bool.true_and]
  have fin : ∀ (x : Int32) (set : Nat → Bool), RB x set → (∀ i, i < nPa A → (set i && (risP (camP p S) (fun i => decide (i = p))).1 i) = ((if uaA A p = true then !decide (i = p) else bt (A.1 25 p) i) && (risP (camP p S) (fun i => decide (i = p))).1 i)) → OK (X12_bringPaper_b70 (nI p) (nI l) x w2) (fun w' => STM w' A (risP (undP (risP (camP p S) (fun i => decide (i = p))) (fun i => if uaA A p = true then !decide (i = p) else bt (A.1 25 p) i) (nI p)) (fun i => bt (A.1 26 p) i && gdA A l i && (camP p S).2.1 i)) ∧ FM w w') := by
    intro x set hx hs
    unfold X12_bringPaper_b70
    refine OK.v ((zm_undo hT2 hN hM2 hS2 (b := nI p) hx).m ?_)
    rintro w3 ⟨hM3, hF3⟩
    have eU : undP (risP (camP p S) (fun i => decide (i = p))) set (nI p) = undP (risP (camP p S) (fun i => decide (i = p))) (fun i => if uaA A p = true then !decide (i = p) else bt (A.1 25 p) i) (nI p) := by
      have hz : ∀ i, (risP (camP p S) (fun i => decide (i = p))).1 i = true ∨ (risP (camP p S) (fun i => decide (i = p))).1 i = false := fun i => by
        cases (risP (camP p S) (fun i => decide (i = p))).1 i <;> simp
      refine SS_ext (fun i => ?_) rfl rfl (fun i => ?_)
      · show ((risP (camP p S) (fun i => decide (i = p))).1 i && !set i) = ((risP (camP p S) (fun i => decide (i = p))).1 i && !(if uaA A p = true then !decide (i = p) else bt (A.1 25 p) i))
        rcases hz i with h | h
        · have := hs i (hS2.lt h)
          rw [h, Bool.and_true, Bool.and_true] at this
          rw [h, this]
        · rw [h, Bool.false_and, Bool.false_and]
      · show (if (set i && (risP (camP p S) (fun i => decide (i = p))).1 i) = true then nI p else _) = if ((if uaA A p = true then !decide (i = p) else bt (A.1 25 p) i) && (risP (camP p S) (fun i => decide (i = p))).1 i) = true then nI p else _
        rcases hz i with h | h
        · rw [hs i (hS2.lt h)]
        · rw [h, Bool.and_false, Bool.and_false]
    rw [eU] at hM3
    have hS3 := SI_und hS2 (fun i => if uaA A p = true then !decide (i = p) else bt (A.1 25 p) i) (nI p)
    have hcam : (undP (risP (camP p S) (fun i => decide (i = p))) (fun i => if uaA A p = true then !decide (i = p) else bt (A.1 25 p) i) (nI p)).2.1 = (camP p S).2.1 := rfl
    generalize undP (risP (camP p S) (fun i => decide (i = p))) (fun i => if uaA A p = true then !decide (i = p) else bt (A.1 25 p) i) (nI p) = S3 at hM3 hS3 hcam ⊢
    have hT3 := hF3.tol hT2
    refine lo4 (fun n y1 y2 y3 v => ∃ i, n = nPa A - i ∧ i ≤ nPa A ∧ y1 = nI p ∧ y2 = nI l ∧ y3 = nI i ∧ FM w3 v ∧ STM v A (risP S3 (fun q => decide (q < i) && (bt (A.1 26 p) q && gdA A l q && (camP p S).2.1 q)))) ?_ fu (nPa A - 0) (nI p) (nI l) 0 w3 (by rw [fu_eq]; omega) ⟨0, rfl, Nat.zero_le _, rfl, rfl, rfl, FM.rf w3, ?_⟩
    · rintro n k a1 a2 a3 v ⟨i, rfl, hi, rfl, rfl, rfl, hF, hMv⟩ hk
      have hTv := hF.tol hT3
      have hcv : RB (v.1 0 83) (camP p S).2.1 := by rw [← hcam]; exact hMv.2.1
      rw [X12_bringPaper_b76, tol_0 hTv 49 rfl, hN.2.2.2.1.1]
      by_cases hin2 : i < nPa A
      · refine OK.f (nI_ge hin2 (by omega)) (OK.t hin ?_)
        rw [hcl, tol_p hTv 26 p (by omega) hp, if_ts (by omega), b_and, hcv i (by omega), zm_good hTv hN hP hin2 hl]
        have hgi : gdA A l i = gdS A i l := by unfold gdA; rw [decide_eq_true hin2, Bool.true_and]
        have same : ((bt (A.1 26 p) i && gdA A l i) && (camP p S).2.1 i) = false → STM v A (risP S3 (fun q => decide (q < i + 1) && (bt (A.1 26 p) q && gdA A l q && (camP p S).2.1 q))) := by
          intro hz
          have e : (fun q => decide (q < i + 1) && (bt (A.1 26 p) q && gdA A l q && (camP p S).2.1 q)) = (fun q => decide (q < i) && (bt (A.1 26 p) q && gdA A l q && (camP p S).2.1 q)) := by
            funext q
            by_cases e : q = i
            · subst e; rw [hz, Bool.and_false, Bool.and_false]
            · rw [show decide (q < i + 1) = decide (q < i) from decide_eq_decide.mpr (by omega)]
          rw [e]; exact hMv
        by_cases c : (bt (A.1 26 p) i && (camP p S).2.1 i) = false
        · refine OK.t c (hk _ _ _ _ _ (by omega) ⟨i + 1, rfl, hin2, rfl, rfl, nI_1 i, hF, same ?_⟩)
          cases h1 : bt (A.1 26 p) i <;> cases h2 : (camP p S).2.1 i <;> simp_all
        · refine OK.f c ?_
          rw [cl_s, if_b0]
          by_cases c2 : gdS A i l = false
          · refine OK.t c2 (hk _ _ _ _ _ (by omega) ⟨i + 1, rfl, hin2, rfl, rfl, nI_1 i, hF, same ?_⟩)
            rw [hgi, c2, Bool.and_false, Bool.false_and]
          · refine OK.f c2 (OK.v ((zm_rise hN hMv hin2).m ?_))
            rintro v2 ⟨hMv2, hFv2⟩
            refine hk _ _ _ _ _ (by omega) ⟨i + 1, rfl, hin2, rfl, rfl, nI_1 i, hF.tr hFv2, ?_⟩
            rw [Bool.not_eq_false] at c c2
            rw [Bool.and_eq_true] at c
            have e : risP (risP S3 (fun q => decide (q < i) && (bt (A.1 26 p) q && gdA A l q && (camP p S).2.1 q))) (fun j => decide (j = i)) = risP S3 (fun q => decide (q < i + 1) && (bt (A.1 26 p) q && gdA A l q && (camP p S).2.1 q)) := by
              refine SS_ext (fun q => ?_) rfl rfl (fun q => ?_)
              · show ((S3.1 q || (decide (q < i) && (bt (A.1 26 p) q && gdA A l q && (camP p S).2.1 q))) || decide (q = i)) = (S3.1 q || (decide (q < i + 1) && (bt (A.1 26 p) q && gdA A l q && (camP p S).2.1 q)))
                by_cases e : q = i
                · subst e; rw [c.1, c.2, hgi, c2]; simp
                · rw [show decide (q < i + 1) = decide (q < i) from decide_eq_decide.mpr (by omega), decide_eq_false e, Bool.or_false]
              · show (if decide (q = i) = true then (-1 : Int32) else if (decide (q < i) && (bt (A.1 26 p) q && gdA A l q && (camP p S).2.1 q)) = true then -1 else S3.2.2.2 q) = if (decide (q < i + 1) && (bt (A.1 26 p) q && gdA A l q && (camP p S).2.1 q)) = true then -1 else S3.2.2.2 q
                by_cases e : q = i
                · subst e; rw [c.1, c.2, hgi, c2]; simp
                · rw [show decide (q < i + 1) = decide (q < i) from decide_eq_decide.mpr (by omega), decide_eq_false e, if_neg (by decide)]
            rw [← e]; exact hMv2
      · have e : i = nPa A := by omega
        subst e
        refine OK.t (nI_le (Nat.le_refl _) (by omega)) (OK.s ⟨?_, ((hF1.tr hF2).tr hF3).tr hF⟩)
        have e : (fun q => decide (q < nPa A) && (bt (A.1 26 p) q && gdA A l q && (camP p S).2.1 q)) = (fun q => bt (A.1 26 p) q && gdA A l q && (camP p S).2.1 q) := by
          funext q
          by_cases e : q < nPa A
          · rw [decide_eq_true e, Bool.true_and]
          · have : gdA A l q = false := by unfold gdA; rw [decide_eq_false e, Bool.false_and]
            rw [decide_eq_false e, this, Bool.false_and, Bool.and_false, Bool.false_and]
        rw [← e]; exact hMv
    · have e : (fun q => decide (q < 0) && (bt (A.1 26 p) q && gdA A l q && (camP p S).2.1 q)) = (fun _ => false) := by
        funext q; rw [decide_eq_false (by omega), Bool.false_and]
      rw [e]
      have e2 : risP S3 (fun _ => false) = S3 := SS_ext (fun q => Bool.or_false _) rfl rfl (fun q => rfl)
      rw [e2]; exact hM3
  rw [tol_p hT2 31 p (by omega) hp]
  by_cases c : A.1 31 p = 0
  · refine OK.t c (OK.t hin ?_)
    rw [tol_p hT2 25 p (by omega) hp]
    refine fin _ _ (RB.self _) (fun i _ => ?_)
    rw [hu, decide_eq_false (fun q => q c), if_neg (by decide)]
  · refine OK.f c ?_
    refine fin _ _ (hM2.1.and (RB.one (by omega)).not) (fun i _ => ?_)
    rw [hu, decide_eq_true c, if_pos rfl]
    cases (risP (camP p S) (fun i => decide (i = p))).1 i <;> simp
end
