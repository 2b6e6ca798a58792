/-! money, the desk's side -/
def PMc (a k : Nat) : Prop := (a = 8 ∧ k = 8) ∨ a = 9 ∨ a = 10 ∨ a = 14 ∨ a = 15
theorem PMc_t {w w' : Wd} (h : FX PMc w w') : TFR w w' := ⟨h.1, fun a k ha => h.2 a k (by unfold PMc; omega)⟩
theorem PMc_9 {w w' : Wd} (h : FX (PO 9) w w') : FX PMc w w' := h.mo (fun a k q => by unfold PO at q; unfold PMc; omega)
def PPy (a k : Nat) : Prop := (a = 8 ∧ k = 8) ∨ a = 14 ∨ a = 15
theorem PPy_t {w w' : Wd} (h : FX PPy w w') : TFR w w' := ⟨h.1, fun a k ha => h.2 a k (by unfold PPy; omega)⟩
theorem PPy_c {w w' : Wd} (h : FX PPy w w') : FX PMc w w' := h.mo (fun a k q => by unfold PPy at q; unfold PMc; omega)
def HC (u A : Wd) (L : List Nat) : Prop := u.1 8 8 = nI L.length ∧ ∀ k, k < L.length → u.1 14 k = nI (pmS A (gdL L k)) ∧ u.1 15 k = nI (toS A (gdL L k))
theorem w3_14 (u : Wd) (n : Nat) (a b c : Int32) (k : Nat) : (wI (wI (wI u 14 n a) 15 n b) 8 8 c).1 14 k = if k = n then a else u.1 14 k := by
  rw [wI_g, if_neg (by omega), wI_g, if_neg (by omega), wI_g]
  by_cases e : k = n
  · rw [if_pos ⟨rfl, e⟩, if_pos e]
  · rw [if_neg (fun h => e h.2), if_neg e]
theorem w3_15 (u : Wd) (n : Nat) (a b c : Int32) (k : Nat) : (wI (wI (wI u 14 n a) 15 n b) 8 8 c).1 15 k = if k = n then b else u.1 15 k := by
  rw [wI_g, if_neg (by omega), wI_g]
  by_cases e : k = n
  · rw [if_pos ⟨rfl, e⟩, if_pos e]
  · rw [if_neg (fun h => e h.2), if_neg e, wI_g, if_neg (by omega)]
section
variable {w A : Wd}
theorem zc_there (hL : TLD w A) (hPe : PEI A) : f_X0_moneyThereIs w = some (nI (thM A), w) := by
  obtain ⟨a, ha, ea⟩ := hPe.2.2.2.1
  obtain ⟨b, hb, eb⟩ := hPe.2.2.2.2.1
  have hth : thM A = a - b := by unfold thM; rw [ea, eb, nI_clamp (by omega), nI_clamp (by omega)]
  obtain ⟨-, e15, e16, -⟩ := hL.1.2.2.2.2.1
  unfold f_X0_moneyThereIs
  rw [e15, e16, ea, eb, hth]
  by_cases c : b < a
  · rw [pk_sub (by omega), if_pos (show (0 : Int32) < nI (a - b) from nI_lt (a := 0) (by omega) (by omega))]
  · have h1 := pk_sub_toInt (a := a) (b := b) (by omega) (by omega)
    rw [if_neg (fun h => by rw [z_lt, h1] at h; have z : (0 : Int32).toInt = 0 := rfl; omega), show a - b = 0 by omega]; rfl
theorem zc_pays1 (hL : TLD w A) (hI : INV A) {l p f : Nat} {vo : Nat → Bool} (hp : p < nPa A) (hf : w.1 8 12 = nI f) {x : Int32} (hx : ∀ who, who < nPe A → bt x who = vdS A l vo p who) {L0 : List Nat} (hH : HC w A L0) (hP : PYL A L0) (hroom : ∀ g, g < nGi A p → (L0 ++ pgP A l vo f p g).length < 32) : OK (f_X7_findPaysOf (57 + 6 * p) x w) (fun w' => HC w' A (L0 ++ pgP A l vo f p (nGi A p)) ∧ FX PPy w w') := by
  have hN := hI.1
  have h4 := hN.2.2.2.1.2
  have h8 := hN.2.1.2
  have hgi : A.1 23 p = nI (nGi A p) ∧ nGi A p < 9 := (hI.2.2.1 p hp).1.1.e (by omega)
  unfold f_X7_findPaysOf
  refine lo4 (fun n y1 y2 y3 u => ∃ g, n = nGi A p - g ∧ g ≤ nGi A p ∧ y1 = 57 + 6 * p ∧ y2 = x ∧ y3 = nI g ∧ FX PPy w u ∧ HC u A (L0 ++ pgP A l vo f p g)) ?_ fu (nGi A p - 0) (57 + 6 * p) x 0 w (by rw [fu_eq]; omega) ⟨0, rfl, Nat.zero_le _, rfl, rfl, rfl, FX.rf _ w, ?_⟩
  · rintro n k a1 a2 a3 u ⟨g, rfl, hg, rfl, rfl, rfl, hF, hu⟩ hk
    have hLu := hL.fr hN (PPy_t hF)
    have hfu : u.1 8 12 = nI f := by rw [hF.2 _ _ (by unfold PPy; omega)]; exact hf
    obtain ⟨⟨-, -, -, -, -, -, -, -, f8⟩, -, -, hgs⟩ := hLu.2.2.2.1 p hp
    rw [X7_findPaysOf_b2, f8, hgi.1]
    by_cases hin : g < nGi A p
    · obtain ⟨-, g2, g3, -⟩ := hgs g hin
      have hpl : PYL A (L0 ++ pgP A l vo f p g) := pg_PYL hp hP g hg
      have hlen := hroom g hin
      refine OK.f (nI_ge hin (by omega)) (OK.t (z_inb (by omega) (by omega)) ?_)
      rw [nI_clamp (n := g) (by omega), g2]
      have hps : pgP A l vo f p (g + 1) = pgP A l vo f p g ++ (if A.1 32 (8 * p + g) = -1 ∧ hdS A l vo f p (8 * p + g) = true then [8 * p + g] else []) := rfl
      have skip : ¬ (A.1 32 (8 * p + g) = -1 ∧ hdS A l vo f p (8 * p + g) = true) → OK (k (57 + 6 * p) a2 (nI g + 1) u) (fun w' => HC w' A (L0 ++ pgP A l vo f p (nGi A p)) ∧ FX PPy w w') := by
        intro h
        rw [if_neg h, List.append_nil] at hps
        refine hk _ _ _ _ _ (by omega) ⟨g + 1, rfl, hin, rfl, rfl, nI_1 g, hF, ?_⟩
        rw [hps]; exact hu
      obtain ⟨-, hq, -⟩ := (hI.2.2.1 p hp).2.2.2.2.1 g hin
      rcases hq with ⟨ht, v, v1, v2, ev⟩ | ⟨⟨q, hq, eq⟩, e0⟩
      · rw [ev]
        refine OK.f (nI_nle (by omega) (by omega)) ?_
        rw [zc_holds hLu hI hp hin hfu hx, cl_s, if_b0]
        by_cases e2 : hdS A l vo f p (8 * p + g) = false
        · exact OK.t e2 (skip (fun h => by rw [e2] at h; exact absurd h.2 (by decide)))
        · rw [Bool.not_eq_false] at e2
          rw [if_pos ⟨ht, e2⟩] at hps
          have hps2 : L0 ++ pgP A l vo f p (g + 1) = (L0 ++ pgP A l vo f p g) ++ [8 * p + g] := by rw [hps, List.append_assoc]
          have hpm := pm_e hI (hpl.ap ⟨p, g, hp, hin, rfl, ht⟩) (k := (L0 ++ pgP A l vo f p g).length) (by simp only [List.length_append, List.length_singleton]; omega)
          rw [gd_e] at hpm
          refine OK.f (by rw [e2]; decide) ?_
          rw [hu.1]
          refine OK.f (nI_ge (b := 32) hlen (by omega)) (OK.t (z_inb (by omega) (by omega)) (OK.t (z_inb (by omega) (by omega)) (OK.l (OK.t (z_inb (by omega) (by omega)) ?_))))
          have h88 : (wI u 14 (nI (L0 ++ pgP A l vo f p g).length).toNatClampNeg (u.1 (57 + 6 * p + 2) g)).1 8 8 = nI (L0 ++ pgP A l vo f p g).length := by rw [wI_g, if_neg (by omega)]; exact hu.1
          rw [h88]
          refine OK.t (z_inb (by omega) (by omega)) (OK.l (OK.l ?_))
          rw [nI_clamp (by omega), g2]
          generalize hLg : L0 ++ pgP A l vo f p g = Lg at hu hpl hlen hpm hps2 ⊢
          have hF2 : FX PPy u (wI (wI (wI u 14 Lg.length (A.1 33 (8 * p + g))) 15 Lg.length ((wI u 14 Lg.length (A.1 33 (8 * p + g))).1 (57 + 6 * p + 3) g)) 8 8 ((wI (wI u 14 Lg.length (A.1 33 (8 * p + g))) 15 Lg.length ((wI u 14 Lg.length (A.1 33 (8 * p + g))).1 (57 + 6 * p + 3) g)).1 8 8 + 1)) := ((FX.w u _ (by unfold PPy; omega)).tr (FX.w _ _ (by unfold PPy; omega))).tr (FX.w _ _ (by unfold PPy; omega))
          refine hk _ _ _ _ _ (by omega) ⟨g + 1, rfl, hin, rfl, rfl, nI_1 g, hF.tr hF2, ?_⟩
          rw [hps2]
          refine ⟨?_, fun k hk => ?_⟩
          · rw [wI_s, wI_g, if_neg (by omega), wI_g, if_neg (by omega), hu.1, List.length_append, List.length_singleton, nI_1]
          · rw [List.length_append, List.length_singleton] at hk
            rw [w3_14, w3_15]
            by_cases q : k = Lg.length
            · rw [if_pos q, if_pos q, q, gd_e, wI_g, if_neg (by omega), g3]
              exact ⟨hpm.1, hpm.2.2.2.1⟩
            · rw [if_neg q, if_neg q, gd_l (by omega)]
              exact hu.2 k (by omega)
      · rw [e0]
        refine OK.t (by decide) (skip (fun h => ?_))
        have hT8 := hN.2.2.1.2
        rw [eq] at h
        exact nI_n1 (by omega) h.1
    · have e : g = nGi A p := by omega
      subst e
      exact OK.t (nI_le (Nat.le_refl _) (by omega)) (OK.s ⟨hu, hF⟩)
  · rw [show pgP A l vo f p 0 = [] from rfl, List.append_nil]; exact hH
theorem zc_pays (hL : TLD w A) (hI : INV A) (hPe : PEI A) {s l o f : Nat} {cn vo : Nat → Bool} (hs : 84 ≤ s) (hM : CVd w s cn vo l A) (ho : o < nOr A) (hw : w.1 8 11 = nI o) (hf : w.1 8 12 = nI f) : OK (f_X7_findPays s w) (fun w' => HC w' A (pyP A l cn vo f o (nIt A)) ∧ FX PPy w w') := by
  have hN := hI.1
  have h4 := hN.2.2.2.1.2
  have h6 : nIt A ≤ 6 := hN.2.2.2.2.2.1
  have hor := hN.2.2.2.2.2.2.1.2
  unfold f_X7_findPays
  refine OK.l ?_
  have hF0 : FX PPy w (wI w 8 8 0) := FX.w w _ (by unfold PPy; omega)
  rw [zc_items (hL.fr hN (PPy_t hF0)).2.1 hN, cl_s]
  refine lo4 (fun n y1 y2 y3 u => ∃ i, n = nIt A - i ∧ i ≤ nIt A ∧ y1 = s ∧ y2 = nI (nIt A) ∧ y3 = nI i ∧ FX PPy w u ∧ HC u A (pyP A l cn vo f o i)) ?_ fu (nIt A - 0) s (nI (nIt A)) 0 (wI w 8 8 0) (by rw [fu_eq]; omega) ⟨0, rfl, Nat.zero_le _, rfl, rfl, rfl, hF0, wI_s _ _ _ _, fun k hk => absurd hk (Nat.not_lt_zero k)⟩
  rintro n k a1 a2 a3 u ⟨i, rfl, hi, rfl, rfl, rfl, hF, hu⟩ hk
  have hLu := hL.fr hN (PPy_t hF)
  have hMu : CVd u a1 cn vo l A := by
    refine ⟨?_, ?_, ?_⟩
    · rw [hF.2 _ _ (by unfold PPy; omega)]; exact hM.1
    · rw [hF.2 _ _ (by unfold PPy; omega)]; exact hM.2.1
    · rw [hF.2 _ _ (by unfold PPy; omega)]; exact hM.2.2
  have hwu : u.1 8 11 = nI o := by rw [hF.2 _ _ (by unfold PPy; omega)]; exact hw
  have hfu : u.1 8 12 = nI f := by rw [hF.2 _ _ (by unfold PPy; omega)]; exact hf
  rw [X7_findPays_b15]
  by_cases hin : i < nIt A
  · have hx := ((hI.2.2.2.2 o ho).1 i hin).e (by omega)
    have hit : itS A o i < nIt A := hx.2
    have hxe : A.1 43 (6 * o + i) = nI (itS A o i) := hx.1
    refine OK.f (nI_ge hin (by omega)) ?_
    rw [hwu, zc_itemAt hLu.2.2.1 hN ho hin, cl_s, hxe, hLu.2.1.1, hN.2.2.2.1.1]
    have hnext : pyP A l cn vo f o (i + 1) = pyP A l cn vo f o i ++ (if itS A o i < nPa A ∧ cn (itS A o i) = true then pgP A l vo f (itS A o i) (nGi A (itS A o i)) else []) := rfl
    have hroom : itS A o i < nPa A → ∀ g, g < nGi A (itS A o i) → (pyP A l cn vo f o i ++ pgP A l vo f (itS A o i) g).length < 32 := fun c g hg => py_room hI ho hin c hg
    generalize itS A o i = it at hit hnext hroom ⊢
    have skip : ¬ (it < nPa A ∧ cn it = true) → OK (k a1 (nI (nIt A)) (nI i + 1) u) (fun w' => HC w' A (pyP A l cn vo f o (nIt A)) ∧ FX PPy w w') := by
      intro h
      rw [if_neg h, List.append_nil] at hnext
      refine hk _ _ _ _ _ (by omega) ⟨i + 1, rfl, hin, rfl, rfl, nI_1 i, hF, ?_⟩
      rw [hnext]; exact hu
    by_cases c : it < nPa A
    · refine OK.f (nI_ge c (by omega)) ?_
      unfold f_X8_isCounting
      rw [if_bt (by omega), hMu.1 it (by omega)]
      by_cases c1 : cn it = false
      · rw [if_pos c1, cl_s]
        exact OK.t rfl (skip (fun h => by rw [c1] at h; exact absurd h.2 (by decide)))
      · rw [if_neg c1, cl_s]
        rw [Bool.not_eq_false] at c1
        refine OK.f (by decide) (OK.t (z_inb (by omega) (by omega)) (OK.c ((zc_void hLu hI hPe hMu c).m ?_)))
        rintro ⟨x, u2⟩ ⟨rfl, hx2⟩
        dsimp only at hx2 ⊢
        rw [nI_clamp (by omega)]
        refine OK.v ((zc_pays1 hLu hI c hfu hx2 hu (py_PYL i) (hroom c)).m ?_)
        rintro u3 ⟨h1, h2⟩
        rw [if_pos ⟨c, c1⟩] at hnext
        refine hk _ _ _ _ _ (by omega) ⟨i + 1, rfl, hin, rfl, rfl, nI_1 i, hF.tr h2, ?_⟩
        rw [hnext]; exact h1
    · exact OK.t (nI_le (by omega) (by omega)) (skip (fun h => c h.1))
  · have e : i = nIt A := by omega
    subst e
    exact OK.t (nI_le (Nat.le_refl _) (by omega)) (OK.s ⟨hu, hF⟩)
theorem zc_cut (hI : INV A) {L : List Nat} (hP : PYL A L) (h32 : L.length ≤ 32) (hth : thM A < 100000) (c : ¬ alS A L ≤ thM A) (hH : HC w A L) : OK (f_X7_cutPays (nI (alS A L)) (nI (thM A)) w) (fun w' => (w'.1 8 8 = nI L.length ∧ ∀ k, k < L.length → w'.1 14 k = nI (amS A L k) ∧ w'.1 15 k = nI (toS A (gdL L k))) ∧ FX PPy w w') := by
  have hal : alS A L ≤ 3199968 := by
    have := su_le hI hP L.length (Nat.le_refl _)
    unfold alS; omega
  have hovl := ov_le L c
  unfold f_X7_cutPays
  refine OK.t (nI_lt (a := 0) (by omega) (by omega)) ?_
  refine lo5 (fun n y1 y2 y3 y4 u => ∃ i, n = L.length - i ∧ i ≤ L.length ∧ y1 = nI (alS A L) ∧ y2 = nI (thM A) ∧ y3 = nI (thM A - owF A L i) ∧ y4 = nI i ∧ FX PPy w u ∧ u.1 8 8 = nI L.length ∧ ∀ k, k < L.length → u.1 14 k = nI (if k < i then owS A L k else pmS A (gdL L k)) ∧ u.1 15 k = nI (toS A (gdL L k))) ?_ fu (L.length - 0) (nI (alS A L)) (nI (thM A)) (nI (thM A)) 0 w (by rw [fu_eq]; omega) ⟨0, rfl, Nat.zero_le _, rfl, rfl, rfl, rfl, FX.rf _ w, hH.1, fun k hk => by rw [if_neg (by omega)]; exact hH.2 k hk⟩
  rintro n k a1 a2 a3 a4 u ⟨i, rfl, hi, rfl, rfl, rfl, rfl, hF, h88, hu⟩ hk
  rw [X7_cutPays_b10, h88]
  by_cases hin : i < L.length
  · obtain ⟨p1, p2, p3, -, -, -⟩ := pm_e hI hP hin
    have hows : owF A L (i + 1) = owF A L i + owS A L i := rfl
    have hol := ow_le (A := A) L (i + 1) (by omega)
    refine OK.f (nI_ge hin (by omega)) (OK.t (z_inb (by omega) (by omega)) ?_)
    have hne : ¬ Int32.toInt64 (nI (alS A L)) = 0 := fun h => by
      rw [nI_l (by omega)] at h
      have : lN (alS A L) = lN 0 := h
      rw [lN_eq (by omega) (by omega)] at this
      omega
    refine OK.f hne (OK.t (z_inb (by omega) (by omega)) (OK.l (OK.t (z_inb (by omega) (by omega)) (OK.l ?_))))
    have hb : pmS A (gdL L i) * thM A < 2 ^ 63 := by
      have : pmS A (gdL L i) * thM A ≤ 99999 * 100000 := Nat.mul_le_mul p3 (by omega)
      omega
    rw [nI_clamp (n := i) (by omega), (hu i hin).1, if_neg (show ¬ i < i by omega), nI_l (by omega), nI_l (by omega), nI_l (by omega), lN_mul, pk_lDiv hb (by omega) (by omega), lN_i, wI_s]
    have hos : pmS A (gdL L i) * thM A / alS A L = owS A L i := by unfold owS; rw [if_neg c]
    rw [hos, pk_sub (by omega)]
    refine hk _ _ _ _ _ _ (by omega) ⟨i + 1, rfl, hin, rfl, rfl, ?_, nI_1 i, hF.tr (FX.w u _ (by unfold PPy; omega)), ?_, fun j hj => ?_⟩
    · rw [hows]; congr 1; omega
    · try dsimp only
      rw [wI_g, if_neg (by omega)]; exact h88
    · try dsimp only
      rw [wI_g, wI_g, if_neg (show ¬ (15 = 14 ∧ j = i) by omega)]
      refine ⟨?_, (hu j hj).2⟩
      by_cases q : j = i
      · rw [if_pos ⟨rfl, q⟩, if_pos (by omega), q]
      · rw [if_neg (fun h => q h.2), (hu j hj).1]
        by_cases h : j < i
        · rw [if_pos h, if_pos (by omega)]
        · rw [if_neg h, if_neg (by omega)]
  · have e : i = L.length := by omega
    subst e
    refine OK.t (nI_le (Nat.le_refl _) (by omega)) ?_
    have hov : thM A - owF A L L.length = ovS A L := rfl
    rw [hov]
    refine lo3 (fun n y3 y4 x => ∃ i, n = L.length - i ∧ i ≤ ovS A L ∧ y3 = nI (ovS A L) ∧ y4 = nI i ∧ FX PPy w x ∧ x.1 8 8 = nI L.length ∧ ∀ k, k < L.length → x.1 14 k = nI (owS A L k + if k < i then 1 else 0) ∧ x.1 15 k = nI (toS A (gdL L k))) ?_ fu (L.length - 0) (nI (ovS A L)) 0 u (by rw [fu_eq]; omega) ⟨0, rfl, Nat.zero_le _, rfl, rfl, hF, h88, fun k hk => by rw [if_neg (by omega), Nat.add_zero]; have := hu k hk; rw [if_pos hk] at this; exact this⟩
    rintro n k2 b3 b4 x ⟨i, rfl, hi, rfl, rfl, hFx, hx88, hx⟩ hk2
    rw [X7_cutPays_b60, hx88]
    have fin : i = ovS A L → OK (some x) (fun w' => (w'.1 8 8 = nI L.length ∧ ∀ k, k < L.length → w'.1 14 k = nI (amS A L k) ∧ w'.1 15 k = nI (toS A (gdL L k))) ∧ FX PPy w w') := by
      intro e
      refine OK.s ⟨⟨hx88, fun k hk => ?_⟩, hFx⟩
      refine ⟨?_, (hx k hk).2⟩
      rw [(hx k hk).1, e]
      unfold amS
      by_cases h : k < ovS A L
      · rw [if_pos h, if_pos (show ¬ alS A L ≤ thM A ∧ k < ovS A L from ⟨c, h⟩)]
      · rw [if_neg h, if_neg (show ¬ (¬ alS A L ≤ thM A ∧ k < ovS A L) from fun q => h q.2)]
    by_cases hin : i < L.length
    · refine OK.f (nI_ge hin (by omega)) ?_
      by_cases e : i = ovS A L
      · exact OK.t (by rw [e]; exact nI_le (Nat.le_refl _) (by omega)) (fin e)
      · refine OK.f (nI_ge (by omega) (by omega)) (OK.t (z_inb (by omega) (by omega)) (OK.t (z_inb (by omega) (by omega)) (OK.l ?_)))
        rw [nI_clamp (n := i) (by omega), (hx i hin).1, if_neg (show ¬ i < i by omega), Nat.add_zero, nI_1 (owS A L i)]
        refine hk2 _ _ _ _ (by omega) ⟨i + 1, rfl, by omega, rfl, nI_1 i, hFx.tr (FX.w x _ (by unfold PPy; omega)), ?_, fun j hj => ?_⟩
        · try dsimp only
          rw [wI_g, if_neg (by omega)]; exact hx88
        · try dsimp only
          rw [wI_g, wI_g, if_neg (show ¬ (15 = 14 ∧ j = i) by omega)]
          refine ⟨?_, (hx j hj).2⟩
          by_cases q : j = i
          · rw [if_pos ⟨rfl, q⟩, if_pos (by omega), q]
          · rw [if_neg (fun h => q h.2), (hx j hj).1]
            by_cases h : j < i
            · rw [if_pos h, if_pos (by omega)]
            · rw [if_neg h, if_neg (by omega)]
    · exact OK.t (nI_le (by omega) (by omega)) (fin (by omega))
theorem zc_money (hL : TLD w A) (hK : KIN w A) (hI : INV A) (hPe : PEI A) {l o f : Nat} {cn vo : Nat → Bool} (hM : CVd w (84 + 3 * l) cn vo l A) (hl : l < nLa A) (h9 : w.1 8 9 = nI l) (ho : o < nOr A) (hw : w.1 8 11 = nI o) (hf : w.1 8 12 = nI f) : OK (f_X7_partMoney w) (fun w' => PV w' 10 (pdS A (pyP A l cn vo f o (nIt A))) ∧ PV w' 9 (plV A l cn vo o (thM A - alS A (pyP A l cn vo f o (nIt A)))) ∧ FX PMc w w') := by
  have hN := hI.1
  have h8 := hN.2.1.2
  have hL4 := hN.1.2
  have hth : thM A < 100000 := by
    obtain ⟨a, ha, ea⟩ := hPe.2.2.2.1
    unfold thM; rw [ea, nI_clamp (by omega)]; omega
  unfold f_X7_partMoney
  rw [zc_fill (by omega), cv_s, zc_fill (by omega), cv_s]
  have hF1 : FX PMc w (wC (wC w 9 (fun k => if k < 8 then 0 else w.1 9 k)) 10 (fun k => if k < 8 then 0 else (wC w 9 (fun k => if k < 8 then 0 else w.1 9 k)).1 10 k)) := (FX.c w _ (fun k => by unfold PMc; omega)).tr (FX.c _ _ (fun k => by unfold PMc; omega))
  have hz9 : PV (wC (wC w 9 (fun k => if k < 8 then 0 else w.1 9 k)) 10 (fun k => if k < 8 then 0 else (wC w 9 (fun k => if k < 8 then 0 else w.1 9 k)).1 10 k)) 9 (fun _ => 0) := fun i hi => by rw [wC_g, if_neg (by omega), wC_g, if_pos rfl, if_pos hi]; rfl
  have hz10 : PV (wC (wC w 9 (fun k => if k < 8 then 0 else w.1 9 k)) 10 (fun k => if k < 8 then 0 else (wC w 9 (fun k => if k < 8 then 0 else w.1 9 k)).1 10 k)) 10 (fun _ => 0) := fun i hi => by rw [wC_g, if_pos rfl, if_pos hi]; rfl
  generalize wC (wC w 9 (fun k => if k < 8 then 0 else w.1 9 k)) 10 (fun k => if k < 8 then 0 else (wC w 9 (fun k => if k < 8 then 0 else w.1 9 k)).1 10 k) = w1 at hF1 hz9 hz10 ⊢
  have at1 : ∀ u, FX PMc w u → TLD u A ∧ KIN u A ∧ CVd u (84 + 3 * l) cn vo l A ∧ u.1 8 9 = nI l ∧ u.1 8 11 = nI o ∧ u.1 8 12 = nI f := fun u h => ⟨hL.fr hN (PMc_t h), hK.fr (PMc_t h), ⟨by rw [h.2 _ _ (by unfold PMc; omega)]; exact hM.1, by rw [h.2 _ _ (by unfold PMc; omega)]; exact hM.2.1, by rw [h.2 _ _ (by unfold PMc; omega)]; exact hM.2.2⟩, by rw [h.2 _ _ (by unfold PMc; omega)]; exact h9, by rw [h.2 _ _ (by unfold PMc; omega)]; exact hw, by rw [h.2 _ _ (by unfold PMc; omega)]; exact hf⟩
  obtain ⟨a1, a2, a3, a4, a5, a6⟩ := at1 w1 hF1
  rw [a4]
  refine OK.t (z_inb (by omega) (by omega)) ?_
  rw [nI_clamp (by omega)]
  refine OK.v ((zc_pays a1 hI hPe (by omega) a3 ho a5 a6).m ?_)
  rintro w2 ⟨hH2, hF2⟩
  have hFw2 := hF1.tr (PPy_c hF2)
  obtain ⟨b1, b2, b3, b4, b5, b6⟩ := at1 w2 hFw2
  have hz9 : PV w2 9 (fun _ => 0) := fun i hi => by rw [hF2.2 _ _ (by unfold PPy; omega)]; exact hz9 i hi
  have hz10 : PV w2 10 (fun _ => 0) := fun i hi => by rw [hF2.2 _ _ (by unfold PPy; omega)]; exact hz10 i hi
  rw [zc_there b1 hPe, cl_s]
  have hP := py_PYL (A := A) (l := l) (cn := cn) (vo := vo) (f := f) (o := o) (nIt A)
  have h32 := py_32 hI (l := l) (cn := cn) (vo := vo) (f := f) ho
  generalize pyP A l cn vo f o (nIt A) = L at hH2 hP h32 ⊢
  have hal : alS A L ≤ 3199968 := by
    have := su_le hI hP L.length (Nat.le_refl _)
    unfold alS; omega
  have last : ∀ u, FX PMc w u → (u.1 8 8 = nI L.length ∧ ∀ k, k < L.length → u.1 14 k = nI (amS A L k) ∧ u.1 15 k = nI (toS A (gdL L k))) → PV u 9 (fun _ => 0) → PV u 10 (fun _ => 0) → OK (X7_partMoney_b80_L (nI (thM A)) (nI (alS A L)) 0 u) (fun w' => PV w' 10 (pdS A L) ∧ PV w' 9 (plV A l cn vo o (thM A - alS A L)) ∧ FX PMc w w') := by
    intro u hFu hu hu9 hu10
    refine lo4 (fun n y1 y2 y3 x => ∃ i, n = L.length - i ∧ i ≤ L.length ∧ y1 = nI (thM A) ∧ y2 = nI (alS A L) ∧ y3 = nI i ∧ FX PMc w x ∧ (x.1 8 8 = nI L.length ∧ ∀ k, k < L.length → x.1 14 k = nI (amS A L k) ∧ x.1 15 k = nI (toS A (gdL L k))) ∧ PV x 9 (fun _ => 0) ∧ PV x 10 (pdF A L (amS A L) i)) ?_ fu (L.length - 0) (nI (thM A)) (nI (alS A L)) 0 u (by rw [fu_eq]; omega) ⟨0, rfl, Nat.zero_le _, rfl, rfl, rfl, hFu, hu, hu9, hu10⟩
    rintro n k y1 y2 y3 x ⟨i, rfl, hi, rfl, rfl, rfl, hFx, hx, hx9, hx10⟩ hk
    rw [X7_partMoney_b80, hx.1]
    by_cases hin : i < L.length
    · obtain ⟨-, -, -, -, p5, -⟩ := pm_e hI hP hin
      refine OK.f (nI_ge hin (by omega)) (OK.t (z_inb (by omega) (by omega)) ?_)
      rw [nI_clamp (n := i) (by omega), (hx.2 i hin).2, (hx.2 i hin).1]
      refine OK.t (z_inb (by omega) (by omega)) (OK.t (z_inb (by omega) (by omega)) (OK.t (z_inb (by omega) (by omega)) (OK.l ?_)))
      rw [nI_clamp (by omega), hx10 _ (by omega), nI_add]
      refine hk _ _ _ _ _ (by omega) ⟨i + 1, rfl, hin, rfl, rfl, nI_1 i, hFx.tr (FX.w x _ (by unfold PMc; omega)), ⟨?_, fun j hj => ?_⟩, fun j hj => ?_, fun j hj => ?_⟩
      · try dsimp only
        rw [wI_g, if_neg (by omega)]; exact hx.1
      · try dsimp only
        rw [wI_g, if_neg (by omega), wI_g, if_neg (by omega)]; exact hx.2 j hj
      · try dsimp only
        rw [wI_g, if_neg (by omega)]; exact hx9 j hj
      · have hp : pdF A L (amS A L) (i + 1) j = pdF A L (amS A L) i j + (if toS A (gdL L i) = j then amS A L i else 0) := rfl
        rw [wI_g, hp]
        by_cases q : j = toS A (gdL L i)
        · rw [if_pos ⟨rfl, q⟩, if_pos q.symm, q]
        · rw [if_neg (fun h => q h.2), if_neg (fun h => q h.symm), Nat.add_zero]; exact hx10 j hj
    · have e : i = L.length := by omega
      subst e
      refine OK.t (nI_le (Nat.le_refl _) (by omega)) ?_
      obtain ⟨d1, d2, d3, d4, d5, d6⟩ := at1 x hFx
      have hmx : (if (0 : Int32) < nI (thM A) - nI (alS A L) then nI (thM A) - nI (alS A L) else 0) = nI (thM A - alS A L) := by
        by_cases c : alS A L < thM A
        · rw [pk_sub (by omega), if_pos (show (0 : Int32) < nI (thM A - alS A L) from nI_lt (a := 0) (by omega) (by omega))]
        · have h1 := pk_sub_toInt (a := thM A) (b := alS A L) (by omega) (by omega)
          rw [if_neg (fun h => by rw [z_lt, h1] at h; have z : (0 : Int32).toInt = 0 := rfl; omega), show thM A - alS A L = 0 by omega]; rfl
      rw [hmx, d4]
      refine OK.c ((zc_left d1 d2 hI hPe d3 hl ho d5 (m := thM A - alS A L) (by omega) hx9).m ?_)
      rintro ⟨r, x2⟩ ⟨-, g2, g3⟩
      refine OK.s ⟨fun j hj => ?_, g2, hFx.tr (PMc_9 g3)⟩
      dsimp only
      rw [g3.2 _ _ (by unfold PO; omega)]; exact hx10 j hj
  refine lo4 (fun n y1 y2 y3 x => ∃ i, n = L.length - i ∧ i ≤ L.length ∧ y1 = nI (thM A) ∧ y2 = nI (suS A L i) ∧ y3 = nI i ∧ x = w2) ?_ fu (L.length - 0) (nI (thM A)) 0 0 w2 (by rw [fu_eq]; omega) ⟨0, rfl, Nat.zero_le _, rfl, rfl, rfl, rfl⟩
  rintro n k y1 y2 y3 x ⟨i, rfl, hi, rfl, rfl, rfl, rfl⟩ hk
  rw [X7_partMoney_b44, hH2.1]
  by_cases hin : i < L.length
  · refine OK.f (nI_ge hin (by omega)) (OK.t (z_inb (by omega) (by omega)) (OK.l (hk _ _ _ _ _ (by omega) ⟨i + 1, rfl, hin, rfl, ?_, nI_1 i, rfl⟩)))
    rw [nI_clamp (by omega), (hH2.2 i hin).1, nI_add]; rfl
  · have e : i = L.length := by omega
    subst e
    refine OK.t (nI_le (Nat.le_refl _) (by omega)) ?_
    have e2 : suS A L L.length = alS A L := rfl
    rw [e2]
    by_cases c : alS A L ≤ thM A
    · refine OK.t (nI_le c (by omega)) (last _ hFw2 ⟨hH2.1, fun j hj => ⟨?_, (hH2.2 j hj).2⟩⟩ hz9 hz10)
      rw [(hH2.2 j hj).1]
      unfold amS owS
      rw [if_pos c, if_neg (show ¬ (¬ alS A L ≤ thM A ∧ j < ovS A L) from fun h => h.1 c), Nat.add_zero]
    · refine OK.f (nI_ge (by omega) (by omega)) (OK.v ((zc_cut hI hP h32 hth c hH2).m ?_))
      rintro w3 ⟨g1, g2⟩
      refine last w3 (hFw2.tr (PPy_c g2)) g1 (fun j hj => ?_) (fun j hj => ?_)
      · rw [g2.2 _ _ (by unfold PPy; omega)]; exact hz9 j hj
      · rw [g2.2 _ _ (by unfold PPy; omega)]; exact hz10 j hj
end
