/-! to whom a thing goes, the reference -/
def PTh (a k : Nat) : Prop := (a = 0 ∧ k = 79) ∨ a = 48
theorem PTh_t {w w' A : Wd} (h : FX PTh w w') (hT : tol w = A) : tol w' = A := h.ot hT (fun k hk => by unfold PTh; omega) (fun o k ho => by unfold PTh; omega)
theorem PTh_48 {w w' : Wd} (h : FX (PO 48) w w') : FX PTh w w' := h.mo (fun a k q => Or.inr q)
section
variable {w A : Wd}
theorem zm_noParts (w : Wd) : f_X12_noParts w = some (wC w 48 (fun k => if k < 8 then 0 else w.1 48 k)) := by
  have e0 : wC w 48 (fun k => if k < 0 then 0 else w.1 48 k) = w := by
    refine Prod.ext (funext fun a => ?_) rfl
    rw [wC_g]
    by_cases h : a = 48
    · subst h; rw [if_pos rfl]; funext k; rw [if_neg (by omega)]
    · rw [if_neg h]
  have hu := up2 (B := fun k2 => X12_noParts_b2 k2) (z := fun _ _ => none) (fun i => (nI i, wC w 48 (fun k => if k < i then 0 else w.1 48 k))) (fun _ => some (wC w 48 (fun k => if k < 8 then 0 else w.1 48 k))) 8 ?_ ?_ fu 0 (by omega) (by rw [fu_eq]; omega)
  · dsimp only at hu
    rw [e0] at hu
    exact hu
  · intro i k hi hk
    dsimp only at hk ⊢
    rw [X12_noParts_b2, k8, if_neg (nI_ge hi (by omega)), z_inb hi (by omega), if_pos rfl, lt_s', nI_clamp (by omega), nI_1, wI_c, wC_c, ← hk]
    congr 2
    funext j
    rw [wC_g, if_pos rfl]
    unfold upd
    by_cases h : j = i
    · rw [if_pos h, if_pos (by omega)]
    · rw [if_neg h]
      dsimp only
      by_cases h2 : j < i
      · rw [if_pos h2, if_pos (by omega)]
      · rw [if_neg h2, if_neg (by omega)]
  · intro k
    dsimp only
    rw [X12_noParts_b2, k8, if_pos (nI_le (Nat.le_refl _) (by omega))]
theorem zm_thing (hT : tol w = A) (hI : INV A) (hPe : PEI A) (h0l : 0 < nLa A) {o f t : Nat} {cn vo : Nat → Bool} (ht : t < nTh A) (hM : MV' w cn vo (lwX A (nI t))) (ho : o < nOr A) (hw : w.1 0 88 = nI o) (hf : w.1 0 89 = nI f) : OK (f_X12_goThing (nI t) w) (fun q => q.1 = nI (thH A (lwX A (nI t)) cn vo f o t) ∧ PV q.2 48 (thV A (lwX A (nI t)) cn vo f o t) ∧ FX PTh w q.2) := by
  have hN := hI.1
  have h4 := hN.2.2.2.1.2
  have h8 := hN.2.1.2
  have hT8 := hN.2.2.1.2
  have hL4 := hN.1.2
  have h6 : nIt A ≤ 6 := hN.2.2.2.2.2.1
  have hor := hN.2.2.2.2.2.2.1.2
  obtain ⟨hwt, hwt2⟩ := wt_e hPe ht
  have hl := lwX_lt hI.2.1 hN h0l (x := nI t) (Or.inr ⟨t, ht, rfl⟩)
  unfold f_X12_goThing
  rw [zm_lawFor hT hN hI.2.1 h0l (x := nI t) (Or.inr ⟨t, ht, rfl⟩), cl_s, zm_noParts, cv_s]
  generalize lwX A (nI t) = l at hM hl ⊢
  have hF1 : FX PTh w (wC (wI w 0 79 (bI (rgX A (nI t)))) 48 (fun k => if k < 8 then 0 else (wI w 0 79 (bI (rgX A (nI t)))).1 48 k)) := (FX.w w _ (by unfold PTh; omega)).tr (FX.c _ _ (fun k => by unfold PTh; omega))
  have hz : PV (wC (wI w 0 79 (bI (rgX A (nI t)))) 48 (fun k => if k < 8 then 0 else (wI w 0 79 (bI (rgX A (nI t)))).1 48 k)) 48 (fun _ => 0) := fun i hi => by rw [wC_g, if_pos rfl, if_pos hi]; rfl
  generalize wC (wI w 0 79 (bI (rgX A (nI t)))) 48 (fun k => if k < 8 then 0 else (wI w 0 79 (bI (rgX A (nI t)))).1 48 k) = w1 at hF1 hz ⊢
  have hT1 := PTh_t hF1 hT
  have hM1 : MV' w1 cn vo l := ⟨by rw [hF1.2 _ _ (by unfold PTh; omega)]; exact hM.1, by rw [hF1.2 _ _ (by unfold PTh; omega)]; exact hM.2⟩
  have g88 : w1.1 0 88 = nI o := by rw [hF1.2 _ _ (by unfold PTh; omega)]; exact hw
  have g89 : w1.1 0 89 = nI f := by rw [hF1.2 _ _ (by unfold PTh; omega)]; exact hf
  rw [zm_items hT1 hN, cl_s]
  refine OK.l ?_
  refine lo4 (fun n y1 y2 y3 v => ∃ i, n = i ∧ i ≤ nIt A ∧ y1 = nI t ∧ y2 = nI l ∧ y3.toInt = (i : Int) - 1 ∧ v = w1 ∧ gvF A l cn vo f o t (nIt A) = gvF A l cn vo f o t i) ?_ fu (nIt A) (nI t) (nI l) (nI (nIt A) - 1) w1 (by rw [fu_eq]; omega) ⟨nIt A, rfl, Nat.le_refl _, rfl, rfl, ?_, rfl, rfl⟩
  · rintro n k a1 a2 y v ⟨i, rfl, hi, rfl, rfl, hy, rfl, hr⟩ hk
    rw [X12_goThing_b17]
    cases n with
    | zero =>
      have hgn : gvF A l cn vo f o t (nIt A) = none := hr.trans rfl
      refine OK.t (by rw [z_lt0, hy]; omega) (OK.t (z_inb (by omega) (by omega)) ?_)
      rw [nI_clamp (by omega), tol_a hT1 5 t (by omega), hwt]
      unfold thH thV
      rw [hgn]
      dsimp only
      refine OK.c ((zm_leave hT1 hI hM1 hl ho g88 (m := wtS A t) (by omega) hz).m ?_)
      rintro ⟨r, u⟩ hu
      dsimp only at hu ⊢
      unfold plH plV
      rcases hu with ⟨hn, rfl, rfl⟩ | ⟨set, hs, rfl, h1, h2⟩
      · rw [hn]
        dsimp only
        refine OK.t rfl (OK.t (z_inb (by omega) (by omega)) ?_)
        rw [tol_a hT1 5 t (by omega), hwt]
        refine OK.c ((zm_byKin hT1 hI hPe hl (m := wtS A t) (by omega) hz).m ?_)
        rintro ⟨r2, u2⟩ hu2
        dsimp only at hu2 ⊢
        rcases hu2 with ⟨c1, c2, rfl, rfl⟩ | ⟨hor2, rfl, h1, h2⟩
        · rw [c1, c2]
          refine OK.t rfl (OK.s ⟨rfl, fun i hi => ?_, hF1⟩)
          exact hz i hi
        · have hor3 : (hwS A || hsK A) = true := by
            rcases hor2 with h | h
            · rw [h, Bool.true_or]
            · rw [h, Bool.or_true]
          refine OK.f (by decide) (OK.s ⟨?_, fun i hi => ?_, hF1.tr (PTh_48 h2)⟩)
          · rw [if_pos hor3]; rfl
          · have := h1 i hi
            dsimp only at this ⊢
            rw [Nat.zero_add] at this
            rw [if_pos hor3]; exact this
      · rw [hs]
        dsimp only
        refine OK.f (by decide) (OK.s ⟨rfl, fun i hi => ?_, hF1.tr (PTh_48 h2)⟩)
        have := h1 i hi
        dsimp only at this ⊢
        rw [Nat.zero_add] at this
        exact this
    | succ i =>
      have hyi : y = nI i := by rw [z_of (x := y) (by omega), hy]; congr 1; omega
      have hx := ((hI.2.2.2.2 o ho).1 i (by omega)).e (by omega)
      have hit : itS A o i < nIt A := hx.2
      have hxe : A.1 43 (6 * o + i) = nI (itS A o i) := hx.1
      have hn0 : ¬ y < 0 := by rw [hyi]; exact nI_pos (by omega)
      have hix : 6 * v.1 0 88 + y = nI (6 * o + i) := by rw [g88, hyi, ix6]
      rw [if_neg hn0, hix, nI_clamp (by omega), tol_a hT1 43 _ (by omega), hxe]
      refine OK.t (z_inb (by omega) (by omega)) (OK.l ?_)
      have hstep : gvF A l cn vo f o t (i + 1) = if itS A o i < nPa A then oE (gi1 A l cn vo f t (itS A o i) (nGi A (itS A o i)) 0) (gvF A l cn vo f o t i) else gvF A l cn vo f o t i := rfl
      generalize itS A o i = it at hit hstep ⊢
      have skip : gvF A l cn vo f o t (i + 1) = gvF A l cn vo f o t i → OK (k (nI t) (nI l) (y + (-1)) v) (fun q => q.1 = nI (thH A l cn vo f o t) ∧ PV q.2 48 (thV A l cn vo f o t) ∧ FX PTh w q.2) := by
        intro h
        refine hk i _ _ _ _ (by omega) ⟨i, rfl, by omega, rfl, rfl, ?_, rfl, hr.trans h⟩
        rw [z_m1 (by rw [hy]; omega), hy]; omega
      by_cases c : it < nPa A
      · rw [if_pos c] at hstep
        have hgi : A.1 23 it = nI (nGi A it) ∧ nGi A it < 9 := (hI.2.2.1 it c).1.1.e (by omega)
        refine lo6 (fun n y1 y2 y3 y4 y5 u => ∃ g, n = nGi A it - g ∧ g ≤ nGi A it ∧ y1 = nI t ∧ y2 = nI l ∧ y3 = y ∧ y4 = nI it ∧ y5 = nI g ∧ u = v ∧ gvF A l cn vo f o t (i + 1) = oE (gi1 A l cn vo f t it (nGi A it - g) g) (gvF A l cn vo f o t i)) ?_ fu (nGi A it - 0) (nI t) (nI l) y (nI it) 0 v (by rw [fu_eq]; omega) ⟨0, rfl, Nat.zero_le _, rfl, rfl, rfl, rfl, rfl, rfl, hstep⟩
        rintro n k2 b1 b2 b3 b4 b5 u ⟨g, rfl, hg, rfl, rfl, rfl, rfl, rfl, rfl, hs⟩ hk2
        rw [X12_goThing_b40, tol_0 hT1 49 rfl, hN.2.2.2.1.1, nI_clamp (n := it) (by omega), tol_p hT1 23 it (by omega) c, hgi.1]
        refine OK.f (nI_ge c (by omega)) (OK.t (z_inb (by omega) (by omega)) ?_)
        by_cases hgn : g < nGi A it
        · have hto := toS_lt hI c hgn
          refine OK.f (nI_ge hgn (by omega)) (OK.l ?_)
          rw [ix8, nI_clamp (by omega), tol_g hT1 32 _ (by omega) (by omega)]
          refine OK.t (z_inb (by omega) (by omega)) ?_
          unfold gi1 at hs
          rw [gf_s hgn] at hs
          have nxt : oE (if cn it = true then (if A.1 32 (8 * it + g) = nI t ∧ hdS A l vo f it (8 * it + g) = true then some (toS A (8 * it + g)) else gfF A l vo f it t (nGi A it - (g + 1)) (g + 1)) else none) (gvF A l cn vo f o t i) = oE (gi1 A l cn vo f t it (nGi A it - (g + 1)) (g + 1)) (gvF A l cn vo f o t i) → OK (k2 (nI t) (nI l) b3 (nI it) (nI g + 1) u) (fun q => q.1 = nI (thH A l cn vo f o t) ∧ PV q.2 48 (thV A l cn vo f o t) ∧ FX PTh w q.2) := fun h => hk2 _ _ _ _ _ _ _ (by omega) ⟨g + 1, rfl, hgn, rfl, rfl, rfl, rfl, nI_1 g, rfl, hs.trans h⟩
          by_cases e1 : A.1 32 (8 * it + g) = nI t
          · refine OK.t e1 ?_
            rw [zm_holds hT1 hI hPe hM1 hl c hgn g89, cl_s, if_b0]
            by_cases e2 : (cn it && hdS A l vo f it (8 * it + g)) = false
            · refine OK.t e2 (nxt ?_)
              unfold gi1
              by_cases cc : cn it = true
              · rw [cc, Bool.true_and] at e2
                rw [if_pos cc, if_pos cc, if_neg (fun h => by rw [e2] at h; exact absurd h.2 (by decide))]
              · rw [if_neg cc, if_neg cc]
            · rw [Bool.not_eq_false] at e2
              refine OK.f (by rw [e2]; decide) (OK.t (z_inb (by omega) (by omega)) (OK.t (z_inb (by omega) (by omega)) ?_))
              rw [Bool.and_eq_true] at e2
              rw [if_pos e2.1, if_pos ⟨e1, e2.2⟩] at hs
              rw [tol_g hT1 34 _ (by omega) (by omega), hto.1]
              refine OK.t (z_inb (by omega) (by omega)) (OK.l ?_)
              rw [nI_clamp (by omega), nI_clamp (by omega), tol_a hT1 5 t (by omega), hwt]
              have hgv : gvF A l cn vo f o t (nIt A) = some (toS A (8 * it + g)) := by rw [hr, hs]; rfl
              unfold thH thV
              rw [hgv]
              dsimp only
              refine OK.s ⟨rfl, fun j hj => ?_, hF1.tr (FX.w u _ (by unfold PTh; omega))⟩
              try dsimp only
              rw [wI_g]
              by_cases e : j = toS A (8 * it + g)
              · rw [if_pos ⟨rfl, e⟩, if_pos e]
              · rw [if_neg (fun h => e h.2), if_neg e]; exact hz j hj
          · refine OK.f e1 (nxt ?_)
            unfold gi1
            by_cases cc : cn it = true
            · rw [if_pos cc, if_pos cc, if_neg (fun h => e1 h.1)]
            · rw [if_neg cc, if_neg cc]
        · have e : g = nGi A it := by omega
          subst e
          refine OK.t (nI_le (Nat.le_refl _) (by omega)) (skip ?_)
          rw [hs, Nat.sub_self]
          unfold gi1
          split <;> rfl
      · rw [if_neg c] at hstep
        have hone : X12_goThing_b40_L k (nI t) (nI l) y (nI it) 0 v = k (nI t) (nI l) (y + (-1)) v := by
          unfold X12_goThing_b40_L
          rw [lp_fu]
          show X12_goThing_b40 k (lp 19999 _ _) (nI t) (nI l) y (nI it) 0 v = _
          rw [X12_goThing_b40, tol_0 hT1 49 rfl, hN.2.2.2.1.1, if_pos (nI_le (by omega) (by omega))]
        rw [hone]
        exact skip hstep
  · rw [z_sub (by rw [nI_toInt (by omega)]; show (-2147483648 : Int) ≤ _ - 1; omega) (by rw [nI_toInt (by omega)]; show _ - (1 : Int) < _; omega), nI_toInt (by omega)]; rfl
end
