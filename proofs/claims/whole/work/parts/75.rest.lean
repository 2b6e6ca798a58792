/-! parting equally, the rest -/
def PV (w : Wd) (o : Nat) (v : Nat → Nat) : Prop := ∀ i, i < 8 → w.1 o i = nI (v i)
def eqP (set : Nat → Bool) (m i : Nat) : Nat := if set i = true then m / fb_ct set 8 + (if fb_ct set i < m % fb_ct set 8 then 1 else 0) else 0
def PO (o a _k : Nat) : Prop := a = o
def hsS (A : Wd) (l : Nat) (vo : Nat → Bool) (p who : Nat) : Bool := decide (who < nPe A) && (bt (hrS A p) who && !ddS A who && !vdS A l vo p who)
def rhF (A : Wd) (l : Nat) (cn vo : Nat → Bool) (o : Nat) : Nat → Option (Nat → Bool)
  | 0 => none
  | i + 1 => if itS A o i < nPa A ∧ cn (itS A o i) = true ∧ ¬ fb_ct (hsS A l vo (itS A o i)) 8 = 0 then some (hsS A l vo (itS A o i)) else rhF A l cn vo o i
theorem n1I : (-1 : Int32).toInt = -1 := rfl
theorem z_m1 {y : Int32} (h : -1000000000 ≤ y.toInt) : (y + (-1)).toInt = y.toInt - 1 := by
  have := z_tl y
  rw [z_add (by rw [n1I]; omega) (by rw [n1I]; omega), n1I]; omega
theorem z_le0 {y : Int32} : y ≤ 0 ↔ y.toInt ≤ 0 := by rw [z_le]; exact Iff.rfl
theorem z_lt0 {y : Int32} : y < 0 ↔ y.toInt < 0 := by rw [z_lt]; exact Iff.rfl
theorem eqP_0 {set : Nat → Bool} {m i : Nat} (h : fb_ct set 8 = 0) (hi : i < 8) : eqP set m i = 0 := by
  unfold eqP; rw [if_neg (by rw [fb_ct_zero.mp h i hi]; decide)]
section
variable {w A : Wd}
theorem zc_equal {x : Int32} {set : Nat → Bool} (hx : RB x set) (hs : ∀ i, set i = true → i < 8) {m : Nat} (hm : m < 1000000000) {v : Nat → Nat} (hv : PV w 9 v) : OK (f_X7_partEqually x (nI m) w) (fun w' => PV w' 9 (fun i => v i + eqP set m i) ∧ FX (PO 9) w w') := by
  have hx8 : ∀ i, 8 ≤ i → i < 32 → bt x i = false := fun i h hi => by
    rw [hx i hi]
    cases c : set i
    · rfl
    · have := hs i c; omega
  have hcx : fb_ct (bt x) 8 = fb_ct set 8 := fb_ct_cong (fun k hk => hx k (by omega))
  have hc8 := fb_ct_le set 8
  unfold f_X7_partEqually
  rw [zc_bc hx8, cl_s, hcx]
  by_cases c0 : fb_ct set 8 = 0
  · rw [c0]
    refine OK.t (by rfl) (OK.s ⟨fun i hi => ?_, FX.rf _ w⟩)
    dsimp only
    rw [eqP_0 c0 hi, Nat.add_zero]; exact hv i hi
  have hn0 : ¬ nI (fb_ct set 8) = 0 := nI_ne0 (by omega) (by omega)
  refine OK.f hn0 (OK.f hn0 (OK.l (OK.f hn0 (OK.l ?_))))
  have hmod : m % fb_ct set 8 < fb_ct set 8 := Nat.mod_lt _ (by omega)
  rw [pk_rem (by omega) (by omega) (by omega), pk_div (by omega) (by omega) (by omega)]
  refine lo5 (fun n y1 y4 y5 y6 u => ∃ i, n = 8 - i ∧ i ≤ 8 ∧ y1 = x ∧ y4 = nI (m / fb_ct set 8) ∧ y5.toInt = ((m % fb_ct set 8 : Nat) : Int) - (fb_ct set i : Nat) ∧ y6 = nI i ∧ FX (PO 9) w u ∧ ∀ j, j < 8 → u.1 9 j = nI (v j + if j < i then eqP set m j else 0)) ?_ fu (8 - 0) x (nI (m / fb_ct set 8)) (nI (m % fb_ct set 8)) 0 w (by rw [fu_eq]; omega) ⟨0, rfl, by omega, rfl, rfl, ?_, rfl, FX.rf _ w, fun j hj => ?_⟩
  · rintro n k a1 a4 y a6 u ⟨i, rfl, hi, rfl, rfl, hy, rfl, hF, hu⟩ hk
    rw [X7_partEqually_b23, k8]
    have hci := fb_ct_le set i
    by_cases hin : i < 8
    · refine OK.f (nI_ge hin (by omega)) ?_
      rw [if_bt (by omega), hx i (by omega)]
      by_cases c : set i = false
      · refine OK.t c (hk _ _ _ _ _ _ (by omega) ⟨i + 1, rfl, hin, rfl, rfl, ?_, nI_1 i, hF, fun j hj => ?_⟩)
        · rw [hy, show fb_ct set (i + 1) = fb_ct set i by rw [fb_ct_succ, c]; rfl]
        · rw [hu j hj]
          by_cases e : j = i
          · subst e
            have : eqP set m j = 0 := by unfold eqP; rw [c, if_neg (by decide)]
            rw [if_neg (by omega), if_pos (by omega), this]
          · by_cases h : j < i
            · rw [if_pos h, if_pos (by omega)]
            · rw [if_neg h, if_neg (by omega)]
      · rw [Bool.not_eq_false] at c
        refine OK.f (by rw [c]; decide) (OK.t (z_inb (by omega) (by omega)) ?_)
        rw [nI_clamp (by omega), hu i hin, if_neg (show ¬ i < i by omega), Nat.add_zero, nI_1 (m / fb_ct set 8), nI_add, nI_add]
        have hy1 := z_m1 (y := y) (by rw [hy]; omega)
        have hcs : fb_ct set (i + 1) = fb_ct set i + 1 := by rw [fb_ct_succ, c]; rfl
        have stp : ∀ q : Nat, q = eqP set m i → OK (k a1 (nI (m / fb_ct set 8)) (y + (-1)) (nI i + 1) (wI u 9 i (nI (v i + q)))) (fun w' => PV w' 9 (fun i => v i + eqP set m i) ∧ FX (PO 9) w w') := by
          intro q hq
          refine hk _ _ _ _ _ _ (by omega) ⟨i + 1, rfl, hin, rfl, rfl, ?_, nI_1 i, hF.tr (FX.w u _ rfl), fun j hj => ?_⟩
          · rw [hy1, hy, hcs]; omega
          · rw [wI_g]
            by_cases e : j = i
            · rw [if_pos ⟨rfl, e⟩, e, if_pos (by omega), hq]
            · rw [if_neg (fun h => e h.2), hu j hj]
              by_cases h : j < i
              · rw [if_pos h, if_pos (by omega)]
              · rw [if_neg h, if_neg (by omega)]
        by_cases c2 : fb_ct set i < m % fb_ct set 8
        · refine OK.f (by rw [z_le0, hy]; omega) (OK.t (z_inb (by omega) (by omega)) (OK.l (stp _ ?_)))
          unfold eqP; rw [if_pos c, if_pos c2]
        · refine OK.t (by rw [z_le0, hy]; omega) (OK.t (z_inb (by omega) (by omega)) (OK.l (stp _ ?_)))
          unfold eqP; rw [if_pos c, if_neg c2, Nat.add_zero]
    · have e : i = 8 := by omega
      subst e
      refine OK.t (nI_le (Nat.le_refl _) (by omega)) (OK.s ⟨fun j hj => ?_, hF⟩)
      rw [hu j hj, if_pos hj]
  · rw [nI_toInt (by omega)]; show _ = _ - ((0 : Nat) : Int); omega
  · rw [if_neg (by omega), Nat.add_zero]; exact hv j hj
theorem hrF_hi (hI : PAPI A) {p : Nat} (hp : p < nPa A) (h8 : nPe A ≤ 8) {i : Nat} (h : nPe A ≤ i) (hi : i < 32) : ∀ n, n ≤ nHe A p → bt (hrF A p n) i = false := by
  intro n
  induction n with
  | zero => intro _; exact b_0 i
  | succ n ih =>
    intro hn
    obtain ⟨q, hq, e⟩ := (hI p hp).2.2.2.2.2.1 n (by omega)
    show bt (hrF A p n ||| 1 <<< (A.1 36 (4 * p + n) &&& 31)) i = false
    rw [b_or, ih (by omega), e, z_one (by omega) hi, decide_eq_false (by omega), Bool.or_false]
theorem hsS_8 (h8 : nPe A ≤ 8) {l p : Nat} {vo : Nat → Bool} {i : Nat} (h : hsS A l vo p i = true) : i < 8 := by
  unfold hsS at h
  rw [Bool.and_eq_true] at h
  have := of_decide_eq_true h.1
  omega
theorem rh_8 (h8 : nPe A ≤ 8) {l : Nat} {cn vo : Nat → Bool} {o : Nat} : ∀ {n : Nat} {set : Nat → Bool}, rhF A l cn vo o n = some set → ¬ fb_ct set 8 = 0 ∧ ∀ i, set i = true → i < 8 := by
  intro n
  induction n with
  | zero => intro set h; cases h
  | succ n ih =>
    intro set h
    unfold rhF at h
    split at h
    · rename_i hc
      cases h
      exact ⟨hc.2.2, fun i hi => hsS_8 h8 hi⟩
    · exact ih h
theorem zc_rest (hL : TLD w A) (hI : INV A) (hPe : PEI A) {s l o : Nat} {cn vo : Nat → Bool} (hM : CVd w s cn vo l A) (ho : o < nOr A) (hw : w.1 8 11 = nI o) : OK (f_X7_heirsOfRest s w) (fun q => q.2 = w ∧ ((rhF A l cn vo o (nIt A) = none ∧ q.1 = 0) ∨ ∃ set, rhF A l cn vo o (nIt A) = some set ∧ RB q.1 set ∧ ¬ q.1 = 0)) := by
  have hN := hI.1
  have h4 := hN.2.2.2.1.2
  have h8 := hN.2.1.2
  have h6 : nIt A ≤ 6 := hN.2.2.2.2.2.1
  have hor := hN.2.2.2.2.2.2.1.2
  unfold f_X7_heirsOfRest
  rw [zc_items hL.2.1 hN, cl_s]
  refine OK.l ?_
  refine lo3 (fun n y1 y2 v => ∃ i, n = i ∧ i ≤ nIt A ∧ y1 = s ∧ y2.toInt = (i : Int) - 1 ∧ v = w ∧ rhF A l cn vo o (nIt A) = rhF A l cn vo o i) ?_ fu (nIt A) s (nI (nIt A) - 1) w (by rw [fu_eq]; omega) ⟨nIt A, rfl, Nat.le_refl _, rfl, ?_, rfl, rfl⟩
  · rintro n k a1 y v ⟨i, rfl, hi, rfl, hy, rfl, hr⟩ hk
    rw [X7_heirsOfRest_b10]
    cases n with
    | zero =>
      refine OK.t (by rw [z_lt0, hy]; omega) (OK.s ⟨rfl, Or.inl ⟨hr.trans rfl, rfl⟩⟩)
    | succ i =>
      have hyi : y = nI i := by rw [z_of (x := y) (by omega), hy]; congr 1; omega
      have hx := ((hI.2.2.2.2 o ho).1 i (by omega)).e (by omega)
      have hit : itS A o i < nIt A := hx.2
      have hxe : A.1 43 (6 * o + i) = nI (itS A o i) := hx.1
      have hy1 := z_m1 (y := y) (by rw [hy]; omega)
      refine OK.f (by rw [z_lt0, hy]; omega) ?_
      have hstep : rhF A l cn vo o (i + 1) = if itS A o i < nPa A ∧ cn (itS A o i) = true ∧ ¬ fb_ct (hsS A l vo (itS A o i)) 8 = 0 then some (hsS A l vo (itS A o i)) else rhF A l cn vo o i := rfl
      rw [hw]
      conv => arg 1; rw [hyi]
      rw [← hyi, hyi, zc_itemAt hL.2.2.1 hN ho (by omega), cl_s, hxe, hL.2.1.1, hN.2.2.2.1.1, ← hyi]
      generalize itS A o i = it at hit hstep ⊢
      have skip : ¬ (it < nPa A ∧ cn it = true ∧ ¬ fb_ct (hsS A l vo it) 8 = 0) → OK (k a1 (y + (-1)) v) (fun q => q.2 = v ∧ ((rhF A l cn vo o (nIt A) = none ∧ q.1 = 0) ∨ ∃ set, rhF A l cn vo o (nIt A) = some set ∧ RB q.1 set ∧ ¬ q.1 = 0)) := by
        intro h
        rw [if_neg h] at hstep
        refine hk i _ _ _ (by omega) ⟨i, rfl, by omega, rfl, ?_, rfl, hr.trans hstep⟩
        rw [hy1, hy]; omega
      by_cases c : it < nPa A
      · refine OK.f (nI_ge c (by omega)) ?_
        unfold f_X8_isCounting
        rw [if_bt (by omega), hM.1 it (by omega)]
        by_cases c1 : cn it = false
        · rw [if_pos c1, cl_s]
          refine OK.t rfl (skip (fun h => ?_))
          rw [c1] at h; exact absurd h.2.1 (by decide)
        · rw [if_neg c1, cl_s]
          rw [Bool.not_eq_false] at c1
          refine OK.f (by decide) (OK.c ((zc_void hL hI hPe hM c).m ?_))
          rintro ⟨x, v2⟩ ⟨rfl, hx2⟩
          dsimp only at hx2 ⊢
          refine OK.l (OK.t (z_inb (by omega) (by omega)) (OK.l ?_))
          obtain ⟨⟨-, -, -, f3, -⟩, -⟩ := hL.2.2.2.1 it c
          rw [nI_clamp (by omega), f3]
          have hRB : RB (hrS A it &&& ((x ||| v2.1 31 10) ^^^ (-1))) (hsS A l vo it) := by
            intro who hwho
            unfold hsS
            rw [b_and, z_not hwho, b_or]
            by_cases e : who < nPe A
            · rw [hx2 who e, (hL.1.2.2.1 who e).2.2, decide_eq_true e, Bool.true_and]
              show (bt (hrS A it) who && !(vdS A l vo it who || ddS A who)) = _
              cases bt (hrS A it) who <;> cases vdS A l vo it who <;> cases ddS A who <;> rfl
            · have : bt (hrS A it) who = false := hrF_hi hI.2.2.1 c h8 (by omega) hwho _ (Nat.le_refl _)
              rw [this, decide_eq_false e, Bool.false_and, Bool.false_and]
          generalize hrS A it &&& ((x ||| v2.1 31 10) ^^^ (-1)) = z at hRB ⊢
          by_cases c2 : z = 0
          · refine OK.t c2 (skip (fun h => h.2.2 ?_))
            refine fb_ct_zero.mpr (fun k hk => ?_)
            rw [← hRB k (by omega), c2, b_0]
          · have hne : ¬ fb_ct (hsS A l vo it) 8 = 0 := by
              intro h
              refine c2 (b_ext (fun j hj => ?_))
              rw [hRB j hj, b_0]
              by_cases e : j < 8
              · exact fb_ct_zero.mp h j e
              · cases q : hsS A l vo it j
                · rfl
                · exact absurd (hsS_8 h8 q) e
            refine OK.f c2 (OK.s ⟨rfl, Or.inr ⟨hsS A l vo it, ?_, hRB, c2⟩⟩)
            rw [hr, hstep, if_pos ⟨c, c1, hne⟩]
      · exact OK.t (nI_le (by omega) (by omega)) (skip (fun h => c h.1))
  · rw [z_sub (by rw [nI_toInt (by omega)]; show (-2147483648 : Int) ≤ _ - 1; omega) (by rw [nI_toInt (by omega)]; show _ - (1 : Int) < _; omega), nI_toInt (by omega)]; rfl
end
