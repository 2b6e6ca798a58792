/-! to whom a thing goes -/
def gfF (A : Wd) (l : Nat) (vo : Nat → Bool) (f p t : Nat) : Nat → Nat → Option Nat
  | 0, _ => none
  | j + 1, g => if A.1 32 (8 * p + g) = nI t ∧ hdS A l vo f p (8 * p + g) = true then some (toS A (8 * p + g)) else gfF A l vo f p t j (g + 1)
def gi1 (A : Wd) (l : Nat) (cn vo : Nat → Bool) (f t p j g : Nat) : Option Nat := if cn p = true then gfF A l vo f p t j g else none
def oE (a b : Option Nat) : Option Nat := match a with
  | some q => some q
  | none => b
def gvF (A : Wd) (l : Nat) (cn vo : Nat → Bool) (f o t : Nat) : Nat → Option Nat
  | 0 => none
  | i + 1 => if itS A o i < nPa A then oE (gi1 A l cn vo f t (itS A o i) (nGi A (itS A o i)) 0) (gvF A l cn vo f o t i) else gvF A l cn vo f o t i
theorem gf_s {A : Wd} {l : Nat} {vo : Nat → Bool} {f p t n g : Nat} (h : g < n) : gfF A l vo f p t (n - g) g = if A.1 32 (8 * p + g) = nI t ∧ hdS A l vo f p (8 * p + g) = true then some (toS A (8 * p + g)) else gfF A l vo f p t (n - (g + 1)) (g + 1) := by
  obtain ⟨j, hj⟩ : ∃ j, n - g = j + 1 := ⟨n - g - 1, by omega⟩
  rw [hj, show n - (g + 1) = j by omega]; rfl
theorem ix8 (o i : Nat) : 8 * nI o + nI i = nI (8 * o + i) := by rw [k8, pk_mul, nI_add]
section
variable {w A : Wd}
theorem toS_lt (hI : INV A) {p g : Nat} (hp : p < nPa A) (hg : g < nGi A p) : A.1 34 (8 * p + g) = nI (toS A (8 * p + g)) ∧ toS A (8 * p + g) < nPe A := ((hI.2.2.1 p hp).2.2.2.2.1 g hg).1.e (by have := hI.1.2.1.2; omega)
theorem zc_given (hL : TLD w A) (hI : INV A) (hPe : PEI A) {s l o f t : Nat} {cn vo : Nat → Bool} (hM : CVd w s cn vo l A) (ho : o < nOr A) (hw : w.1 8 11 = nI o) (hf : w.1 8 12 = nI f) : OK (f_X7_givenTo s (nI t) w) (fun q => q.2 = w ∧ ((gvF A l cn vo f o t (nIt A) = none ∧ q.1 = -1) ∨ ∃ who, who < nPe A ∧ gvF A l cn vo f o t (nIt A) = some who ∧ q.1 = nI who)) := by
  have hN := hI.1
  have h4 := hN.2.2.2.1.2
  have h8 := hN.2.1.2
  have h6 : nIt A ≤ 6 := hN.2.2.2.2.2.1
  have hor := hN.2.2.2.2.2.2.1.2
  unfold f_X7_givenTo
  rw [zc_items hL.2.1 hN, cl_s]
  refine OK.l ?_
  refine lo4 (fun n y1 y2 y3 v => ∃ i, n = i ∧ i ≤ nIt A ∧ y1 = s ∧ y2 = nI t ∧ y3.toInt = (i : Int) - 1 ∧ v = w ∧ gvF A l cn vo f o t (nIt A) = gvF A l cn vo f o t i) ?_ fu (nIt A) s (nI t) (nI (nIt A) - 1) w (by rw [fu_eq]; omega) ⟨nIt A, rfl, Nat.le_refl _, rfl, rfl, ?_, rfl, rfl⟩
  · rintro n k a1 a2 y v ⟨i, rfl, hi, rfl, rfl, hy, rfl, hr⟩ hk
    rw [X7_givenTo_b10]
    cases n with
    | zero => exact OK.t (by rw [z_lt0, hy]; omega) (OK.s ⟨rfl, Or.inl ⟨hr.trans rfl, rfl⟩⟩)
    | succ i =>
      have hyi : y = nI i := by rw [z_of (x := y) (by omega), hy]; congr 1; omega
      have hx := ((hI.2.2.2.2 o ho).1 i (by omega)).e (by omega)
      have hit : itS A o i < nIt A := hx.2
      have hxe : A.1 43 (6 * o + i) = nI (itS A o i) := hx.1
      have hn0 : ¬ y < 0 := by rw [hyi]; exact nI_pos (by omega)
      have hia : f_X2_itemAt (v.1 8 11) y v = some (nI (itS A o i), v) := by rw [hw, hyi, zc_itemAt hL.2.2.1 hN ho (by omega), hxe]
      rw [if_neg hn0, hia, cl_s, hL.2.1.1, hN.2.2.2.1.1]
      have hstep : gvF A l cn vo f o t (i + 1) = if itS A o i < nPa A then oE (gi1 A l cn vo f t (itS A o i) (nGi A (itS A o i)) 0) (gvF A l cn vo f o t i) else gvF A l cn vo f o t i := rfl
      generalize itS A o i = it at hit hstep ⊢
      have skip : gvF A l cn vo f o t (i + 1) = gvF A l cn vo f o t i → OK (k a1 (nI t) (y + (-1)) v) (fun q => q.2 = v ∧ ((gvF A l cn vo f o t (nIt A) = none ∧ q.1 = -1) ∨ ∃ who, who < nPe A ∧ gvF A l cn vo f o t (nIt A) = some who ∧ q.1 = nI who)) := by
        intro h
        refine hk i _ _ _ _ (by omega) ⟨i, rfl, by omega, rfl, rfl, ?_, rfl, hr.trans h⟩
        rw [z_m1 (by rw [hy]; omega), hy]; omega
      by_cases c : it < nPa A
      · rw [if_pos c] at hstep
        refine OK.f (nI_ge c (by omega)) ?_
        unfold f_X8_isCounting
        rw [if_bt (by omega), hM.1 it (by omega)]
        by_cases c1 : cn it = false
        · rw [if_pos c1, cl_s]
          refine OK.t rfl (skip ?_)
          rw [hstep]; unfold gi1; rw [if_neg (by rw [c1]; decide)]; rfl
        · rw [if_neg c1, cl_s]
          rw [Bool.not_eq_false] at c1
          refine OK.f (by decide) (OK.t (z_inb (by omega) (by omega)) (OK.c ((zc_void hL hI hPe hM c).m ?_)))
          rintro ⟨x, v2⟩ ⟨rfl, hx2⟩
          dsimp only at hx2 ⊢
          rw [nI_clamp (by omega)]
          have hgi : A.1 23 it = nI (nGi A it) ∧ nGi A it < 9 := (hI.2.2.1 it c).1.1.e (by omega)
          obtain ⟨⟨-, -, -, -, -, -, -, -, f8⟩, -, -, hgs⟩ := hL.2.2.2.1 it c
          unfold gi1 at hstep
          rw [if_pos c1] at hstep
          refine lo7 (fun n y1 y2 y3 y5 y6 y7 u => ∃ g, n = nGi A it - g ∧ g ≤ nGi A it ∧ y1 = a1 ∧ y2 = nI t ∧ y3 = y ∧ y5 = 57 + 6 * it ∧ y6 = x ∧ y7 = nI g ∧ u = v2 ∧ gvF A l cn vo f o t (i + 1) = oE (gfF A l vo f it t (nGi A it - g) g) (gvF A l cn vo f o t i)) ?_ fu (nGi A it - 0) a1 (nI t) y (57 + 6 * it) x 0 v2 (by rw [fu_eq]; omega) ⟨0, rfl, Nat.zero_le _, rfl, rfl, rfl, rfl, rfl, rfl, rfl, hstep⟩
          rintro n k2 b1 b2 b3 b5 b6 b7 u ⟨g, rfl, hg, rfl, rfl, rfl, rfl, rfl, rfl, rfl, hs⟩ hk2
          rw [X7_givenTo_b72, f8, hgi.1]
          by_cases hgn : g < nGi A it
          · obtain ⟨g1, -, g3, -⟩ := hgs g hgn
            have hto := toS_lt hI c hgn
            refine OK.f (nI_ge hgn (by omega)) (OK.t (z_inb (by omega) (by omega)) ?_)
            rw [nI_clamp (by omega), g1]
            rw [gf_s hgn] at hs
            by_cases e1 : A.1 32 (8 * it + g) = nI t
            · refine OK.t e1 ?_
              rw [zc_holds hL hI c hgn hf hx2, cl_s, if_b0]
              by_cases e2 : hdS A l vo f it (8 * it + g) = false
              · rw [if_neg (fun h => by rw [e2] at h; exact absurd h.2 (by decide))] at hs
                exact OK.t e2 (hk2 _ _ _ _ _ _ _ _ (by omega) ⟨g + 1, rfl, hgn, rfl, rfl, rfl, rfl, rfl, nI_1 g, rfl, hs⟩)
              · rw [Bool.not_eq_false] at e2
                rw [if_pos ⟨e1, e2⟩] at hs
                refine OK.f (by rw [e2]; decide) (OK.t (z_inb (by omega) (by omega)) (OK.s ⟨rfl, Or.inr ⟨toS A (8 * it + g), hto.2, ?_, ?_⟩⟩))
                · rw [hr, hs]; rfl
                · rw [g3]; exact hto.1
            · rw [if_neg (fun h => e1 h.1)] at hs
              exact OK.f e1 (hk2 _ _ _ _ _ _ _ _ (by omega) ⟨g + 1, rfl, hgn, rfl, rfl, rfl, rfl, rfl, nI_1 g, rfl, hs⟩)
          · have e : g = nGi A it := by omega
            subst e
            refine OK.t (nI_le (Nat.le_refl _) (by omega)) (skip ?_)
            rw [hs, Nat.sub_self]; rfl
      · rw [if_neg c] at hstep
        exact OK.t (nI_le (by omega) (by omega)) (skip hstep)
  · rw [z_sub (by rw [nI_toInt (by omega)]; show (-2147483648 : Int) ≤ _ - 1; omega) (by rw [nI_toInt (by omega)]; show _ - (1 : Int) < _; omega), nI_toInt (by omega)]; rfl
end
def wtS (A : Wd) (t : Nat) : Nat := (A.1 5 t).toNatClampNeg
def thH (A : Wd) (l : Nat) (cn vo : Nat → Bool) (f o t : Nat) : Nat := match gvF A l cn vo f o t (nIt A) with
  | some _ => 0
  | none => plH A l cn vo o
def thV (A : Wd) (l : Nat) (cn vo : Nat → Bool) (f o t i : Nat) : Nat := match gvF A l cn vo f o t (nIt A) with
  | some q => if i = q then wtS A t else 0
  | none => plV A l cn vo o (wtS A t) i
section
variable {w A : Wd}
theorem wt_e (hPe : PEI A) {t : Nat} (ht : t < nTh A) : A.1 5 t = nI (wtS A t) ∧ wtS A t ≤ 9999 := by
  obtain ⟨v, h1, h2, e⟩ := hPe.2.2.1 t ht
  unfold wtS
  rw [e, nI_clamp (by omega)]; exact ⟨rfl, h2⟩
theorem zc_thing (hL : TLD w A) (hK : KIN w A) (hI : INV A) (hPe : PEI A) {l o f t : Nat} {cn vo : Nat → Bool} (hM : CVd w (84 + 3 * l) cn vo l A) (hl : l < nLa A) (ht : t < nTh A) (hlw : w.1 13 t = nI l) (ho : o < nOr A) (hw : w.1 8 11 = nI o) (hf : w.1 8 12 = nI f) : OK (f_X7_partThing (nI t) w) (fun q => q.1 = nI (thH A l cn vo f o t) ∧ PV q.2 9 (thV A l cn vo f o t) ∧ FX (PO 9) w q.2) := by
  have hN := hI.1
  have h8 := hN.2.1.2
  have hT8 := hN.2.2.1.2
  have hL4 := hN.1.2
  obtain ⟨hwt, hwt2⟩ := wt_e hPe ht
  unfold f_X7_partThing
  rw [zc_fill (by omega), cv_s]
  have hF1 : FX (PO 9) w (wC w 9 (fun k => if k < 8 then 0 else w.1 9 k)) := FX.c w _ (fun k => rfl)
  have h0 : PV (wC w 9 (fun k => if k < 8 then 0 else w.1 9 k)) 9 (fun _ => 0) := fun i hi => by rw [wC_g, if_pos rfl, if_pos hi]; rfl
  generalize wC w 9 (fun k => if k < 8 then 0 else w.1 9 k) = w1 at hF1 h0 ⊢
  have hL1 := hL.fr hN (PO9_t hF1)
  have hK1 := hK.fr (PO9_t hF1)
  have hM1 : CVd w1 (84 + 3 * l) cn vo l A := by
    refine ⟨?_, ?_, ?_⟩
    · rw [hF1.2 _ _ (by unfold PO; omega)]; exact hM.1
    · rw [hF1.2 _ _ (by unfold PO; omega)]; exact hM.2.1
    · rw [hF1.2 _ _ (by unfold PO; omega)]; exact hM.2.2
  have g13 : w1.1 13 t = nI l := by rw [hF1.2 _ _ (by unfold PO; omega)]; exact hlw
  have g11 : w1.1 8 11 = nI o := by rw [hF1.2 _ _ (by unfold PO; omega)]; exact hw
  have g12 : w1.1 8 12 = nI f := by rw [hF1.2 _ _ (by unfold PO; omega)]; exact hf
  refine OK.t (z_inb (by omega) (by omega)) (OK.l (OK.t (z_inb (by omega) (by omega)) ?_))
  rw [nI_clamp (n := t) (by omega), g13, (hL1.1.2.2.2.1 t ht).1, hwt]
  refine OK.t (z_inb (by omega) (by omega)) ?_
  rw [nI_clamp (n := l) (by omega)]
  refine OK.c ((zc_given hL1 hI hPe (t := t) hM1 ho g11 g12).m ?_)
  rintro ⟨r, u⟩ ⟨hu, hr⟩
  dsimp only at hu hr ⊢
  subst hu
  unfold thH thV
  rcases hr with ⟨hn, rfl⟩ | ⟨who, hwho, hs, rfl⟩
  · rw [hn]
    dsimp only
    refine OK.t rfl (OK.t (z_inb (by omega) (by omega)) ?_)
    rw [g13]
    refine OK.c ((zc_left hL1 hK1 hI hPe hM1 hl ho g11 (m := wtS A t) (by omega) h0).m ?_)
    rintro ⟨r2, u2⟩ ⟨e1, e2, e3⟩
    exact OK.s ⟨e1, e2, hF1.tr e3⟩
  · rw [hs]
    dsimp only
    refine OK.f (nI_n1 (by omega)) (OK.t (z_inb (by omega) (by omega)) (OK.l ?_))
    rw [nI_clamp (by omega)]
    refine OK.s ⟨rfl, fun i hi => ?_, hF1.tr (FX.w u _ rfl)⟩
    try dsimp only
    rw [wI_g]
    by_cases e : i = who
    · rw [if_pos ⟨rfl, e⟩, if_pos e]
    · rw [if_neg (fun h => e h.2), if_neg e]; exact h0 i hi
end
