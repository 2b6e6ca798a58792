theorem ix6 (o i : Nat) : 6 * nI o + nI i = nI (6 * o + i) := by rw [k6, pk_mul, nI_add]
/-! the reference: leaving the rest, all papers -/
section
variable {w A : Wd}
theorem zm_leave (hT : tol w = A) (hI : INV A) {l o : Nat} {cn vo : Nat → Bool} (hM : MV' w cn vo l) (hl : l < nLa A) (ho : o < nOr A) (hw : w.1 0 88 = nI o) {m : Nat} (hm : m < 1000000000) {v : Nat → Nat} (hv : PV w 48 v) : OK (f_X12_leave (nI m) (nI l) w) (fun q => (rhF A l cn vo o (nIt A) = none ∧ q.1 = 0 ∧ q.2 = w) ∨ ∃ set, rhF A l cn vo o (nIt A) = some set ∧ q.1 = 1 ∧ PV q.2 48 (fun i => v i + eqP set m i) ∧ FX (PO 48) w q.2) := by
  have hN := hI.1
  have hL := hN.1.2
  have h4 := hN.2.2.2.1.2
  have h8 := hN.2.1.2
  have h6 : nIt A ≤ 6 := hN.2.2.2.2.2.1
  have hor := hN.2.2.2.2.2.2.1.2
  unfold f_X12_leave
  rw [zm_items hT hN, cl_s]
  refine OK.l ?_
  refine lo4 (fun n y1 y2 y3 u => ∃ i, n = i ∧ i ≤ nIt A ∧ y1 = nI m ∧ y2 = nI l ∧ y3.toInt = (i : Int) - 1 ∧ u = w ∧ rhF A l cn vo o (nIt A) = rhF A l cn vo o i) ?_ fu (nIt A) (nI m) (nI l) (nI (nIt A) - 1) w (by rw [fu_eq]; omega) ⟨nIt A, rfl, Nat.le_refl _, rfl, rfl, ?_, rfl, rfl⟩
  · rintro n k a1 a2 y u ⟨i, rfl, hi, rfl, rfl, hy, rfl, hr⟩ hk
    rw [X12_leave_b7]
    cases n with
    | zero => exact OK.t (by rw [z_lt0, hy]; omega) (OK.s (Or.inl ⟨hr.trans rfl, rfl, rfl⟩))
    | succ i =>
      have hyi : y = nI i := by rw [z_of (x := y) (by omega), hy]; congr 1; omega
      have hx := ((hI.2.2.2.2 o ho).1 i (by omega)).e (by omega)
      have hit : itS A o i < nIt A := hx.2
      have hxe : A.1 43 (6 * o + i) = nI (itS A o i) := hx.1
      have hn0 : ¬ y < 0 := by
        rw [hyi]; exact nI_pos (by omega)
      rw [if_neg hn0]
      have hstep : rhF A l cn vo o (i + 1) = if itS A o i < nPa A ∧ cn (itS A o i) = true ∧ ¬ fb_ct (hsS A l vo (itS A o i)) 8 = 0 then some (hsS A l vo (itS A o i)) else rhF A l cn vo o i := rfl
      rw [hw]
      conv => arg 1; rw [hyi]
      rw [ix6, ← hyi, nI_clamp (by omega), tol_a hT 43 _ (by omega), hxe, tol_0 hT 49 rfl, hN.2.2.2.1.1]
      refine OK.t (z_inb (by omega) (by omega)) (OK.l ?_)
      generalize itS A o i = it at hit hstep ⊢
      have skip : ¬ (it < nPa A ∧ cn it = true ∧ ¬ fb_ct (hsS A l vo it) 8 = 0) → OK (k (nI m) (nI l) (y + (-1)) u) (fun q => (rhF A l cn vo o (nIt A) = none ∧ q.1 = 0 ∧ q.2 = u) ∨ ∃ set, rhF A l cn vo o (nIt A) = some set ∧ q.1 = 1 ∧ PV q.2 48 (fun i => v i + eqP set m i) ∧ FX (PO 48) u q.2) := by
        intro h
        rw [if_neg h] at hstep
        refine hk i _ _ _ _ (by omega) ⟨i, rfl, by omega, rfl, rfl, ?_, rfl, hr.trans hstep⟩
        rw [z_m1 (by rw [hy]; omega), hy]; omega
      by_cases c : it < nPa A
      · refine OK.f (nI_ge c (by omega)) (OK.t (z_inb (by omega) (by omega)) ?_)
        rw [nI_clamp (by omega), if_bt (by omega), hM.1 it (by omega)]
        by_cases c1 : cn it = false
        · refine OK.t c1 (skip (fun h => ?_))
          rw [c1] at h; exact absurd h.2.1 (by decide)
        · refine OK.f c1 (OK.c ((zm_heirsIn hT hI hM hl c).m ?_))
          rw [Bool.not_eq_false] at c1
          rintro ⟨x, u2⟩ ⟨rfl, hRB⟩
          dsimp only at hRB ⊢
          have hsp : ∀ j, hsS A l vo it j = true → j < nPe A := fun j hj => by
            unfold hsS at hj
            rw [Bool.and_eq_true] at hj
            exact of_decide_eq_true hj.1
          have hcut : fb_ct (hsS A l vo it) 8 = fb_ct (hsS A l vo it) (nPe A) := fb_cut h8 (fun j h _ => by
            cases q : hsS A l vo it j
            · rfl
            · have := hsp j q; omega)
          refine lo7 (fun n y1 y2 y3 y5 y6 y7 u' => ∃ j, n = nPe A - j ∧ j ≤ nPe A ∧ y1 = nI m ∧ y2 = nI l ∧ y3 = y ∧ y5 = x ∧ y6 = nI (fb_ct (hsS A l vo it) j) ∧ y7 = nI j ∧ u' = u2) ?_ fu (nPe A - 0) (nI m) (nI l) y x 0 0 u2 (by rw [fu_eq]; omega) ⟨0, rfl, Nat.zero_le _, rfl, rfl, rfl, rfl, rfl, rfl, rfl⟩
          rintro n k2 b1 b2 b3 b5 b6 b7 u' ⟨j, rfl, hj, rfl, rfl, rfl, rfl, rfl, rfl, rfl⟩ hk2
          rw [X12_leave_b68, tol_0 hT 11 rfl, hN.2.1.1]
          have hcj := fb_ct_le (hsS A l vo it) j
          by_cases hjn : j < nPe A
          · refine OK.f (nI_ge hjn (by omega)) (OK.l ?_)
            refine hk2 _ _ _ _ _ _ _ _ (by omega) ⟨j + 1, rfl, hjn, rfl, rfl, rfl, rfl, ?_, nI_1 j, rfl⟩
            rw [z_bit (by omega), hRB j (by omega), fb_ct_succ]
            cases hsS A l vo it j
            · rw [bI_f, Int32.add_zero]; rfl
            · rw [bI_t, nI_1]; rfl
          · have e : j = nPe A := by omega
            subst e
            refine OK.t (nI_le (Nat.le_refl _) (by omega)) ?_
            rw [← hcut]
            by_cases c3 : fb_ct (hsS A l vo it) 8 = 0
            · rw [c3]
              exact OK.t rfl (skip (fun h => h.2.2 c3))
            · have hn0 : ¬ nI (fb_ct (hsS A l vo it) 8) = 0 := nI_ne0 (by omega) (by omega)
              refine OK.f hn0 (OK.f hn0 (OK.l ?_))
              refine (zm_leaveTo hT hN hRB hsp hm c3 hv (pk_rem (by omega) (by omega) (by omega))).m ?_
              rintro q ⟨e1, e2, e3⟩
              refine Or.inr ⟨hsS A l vo it, ?_, e1, e2, e3⟩
              rw [hr, hstep, if_pos ⟨c, c1, c3⟩]
      · exact OK.t (nI_le (by omega) (by omega)) (skip (fun h => c h.1))
  · rw [z_sub (by rw [nI_toInt (by omega)]; show (-2147483648 : Int) ≤ _ - 1; omega) (by rw [nI_toInt (by omega)]; show _ - (1 : Int) < _; omega), nI_toInt (by omega)]; rfl
end
