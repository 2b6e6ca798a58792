/-! mend -/
section
variable {w A : Wd}
theorem zm_fewest (hT : tol w = A) (hI : INV A) (hPe : PEI A) (hX : NCH A) {p t q : Nat} (hp : p < nPa A) (ht : t < nTh A) (hq : q < nPe A) : OK (X12_mend_b30_L (nI p) (nI t) (nI q) 0 w) (fun r => RES (fun c => VC A p t q (nI c)) r.1 ∧ FX PM1 w r.2) := by
  have hN := hI.1
  refine lo5 (fun n y1 y2 y3 y4 v => ∃ m, n = 7 - m ∧ m ≤ 7 ∧ y1 = nI p ∧ y2 = nI t ∧ y3 = nI q ∧ y4 = nI m ∧ FX PM1 w v ∧ NON (fun c => VC A p t q (nI c)) m 0) ?_ fu (7 - 0) (nI p) (nI t) (nI q) 0 w (by rw [fu_eq]; omega) ⟨0, rfl, by omega, rfl, rfl, rfl, rfl, FX.rf _ _, fun d hd h => by omega⟩
  rintro n k a1 a2 a3 a4 v ⟨m, rfl, hm, rfl, rfl, rfl, rfl, hF, hno⟩ hk
  rw [X12_mend_b30]
  by_cases hin : m < 7
  · refine OK.f (nI_nlt (a := 6) (b := m) (by omega) (by omega)) ?_
    refine lo6 (fun n y1 y2 y3 y4 y5 u => ∃ c, n = 64 - c ∧ c ≤ 64 ∧ y1 = nI p ∧ y2 = nI t ∧ y3 = nI q ∧ y4 = nI m ∧ y5 = nI c ∧ FX PM1 w u ∧ NON (fun c => VC A p t q (nI c)) m c) ?_ fu (64 - 0) (nI p) (nI t) (nI q) (nI m) 0 v (by rw [fu_eq]; omega) ⟨0, rfl, by omega, rfl, rfl, rfl, rfl, rfl, hF, hno⟩
    clear hno hF
    rintro n k2 b1 b2 b3 b4 b5 u ⟨c, rfl, hc, rfl, rfl, rfl, rfl, rfl, hF, hno⟩ hk2
    rw [X12_mend_b40]
    by_cases hc6 : c < 64
    · refine OK.f (nI_ge (b := 64) hc6 (by omega)) ?_
      rw [zm_bits (bt_64 hc6), cl_s]
      have c8 : ctN c < 2 ^ 31 := by have := ctN_6 c hc6; omega
      by_cases e : ctN c = m
      · refine OK.t (congrArg nI e) ?_
        refine OK.c ((zm_isMended (PM1_t hF hT hX) hI hPe hX hp ht hq hc6).m ?_)
        rintro ⟨r, u2⟩ ⟨hv, hF2⟩
        dsimp only at hv hF2 ⊢
        rcases hv with ⟨rfl, hv⟩ | ⟨rfl, hv⟩
        · exact OK.f (by decide) (OK.s ⟨Or.inl ⟨c, hno.bst hc6 e hv, rfl⟩, hF.tr hF2⟩)
        · exact OK.t rfl (hk2 _ _ _ _ _ _ _ (by omega) ⟨c + 1, rfl, hc6, rfl, rfl, rfl, rfl, nI_1 c, hF.tr hF2, hno.nx (fun h => hv h.2)⟩)
      · refine OK.f (fun h => e ((nI_eq c8 (by omega)).mp h)) (hk2 _ _ _ _ _ _ _ (by omega) ⟨c + 1, rfl, hc6, rfl, rfl, rfl, rfl, nI_1 c, hF, hno.nx (fun h => e h.1)⟩)
    · have e : c = 64 := by omega
      subst e
      exact OK.t (nI_le (a := 64) (b := 64) (by omega) (by omega)) (hk _ _ _ _ _ _ (by omega) ⟨m + 1, rfl, hin, rfl, rfl, rfl, nI_1 m, hF, hno.up⟩)
  · have e : m = 7 := by omega
    subst e
    exact OK.t (by decide) (OK.s ⟨Or.inr ⟨rfl, hno.all⟩, hF⟩)
end
section
variable {wc wm A : Wd}
def QMe (wc wm A : Wd) (fc fm : Option (Int32 × Wd)) : Prop := ∃ r wc1 wm1, fc = some (r, wc1) ∧ fm = some (r, wm1) ∧ FX PCF wc wc1 ∧ PRP wc1 A ∧ FX PM1 wm wm1
theorem QMe.rf {r : Int32} (h : PRP wc A) : QMe wc wm A (some (r, wc)) (some (r, wm)) := ⟨r, wc, wm, rfl, rfl, FX.rf _ _, h, FX.rf _ _⟩
theorem q_mend (hL : TLD wc A) (hK : KIN wc A) (hI : INV A) (hPe : PEI A) (hX : NCH A) (hp : PRP wc A) (hT : tol wm = A) (a b c : Int32) : QMe wc wm A (f_X11_mend a b c wc) (f_X12_mend a b c wm) := by
  have hN := hI.1
  have hP8 := hN.2.1.2
  have hT8 := hN.2.2.1.2
  have h4 := hN.2.2.2.1.2
  have hww := nWy_le hN
  unfold f_X11_mend f_X12_mend
  rw [zc_isPaper, zm_isPaper hT, hL.2.1.1, hN.2.2.2.1.1, cl_s, cl_s, if_b0, if_b0]
  by_cases h1 : rng a (nI (nPa A)) = false
  · rw [if_pos h1, if_pos h1]; exact QMe.rf hp
  rw [if_neg h1, if_neg h1, zc_isThing, zm_isThing hT, hL.1.1.2.2, hN.2.2.1.1, cl_s, cl_s, if_b0, if_b0]
  by_cases h2 : rng b (nI (nTh A)) = false
  · rw [if_pos h2, if_pos h2]; exact QMe.rf hp
  rw [if_neg h2, if_neg h2, zc_isPerson, zm_isPerson hT, hL.1.1.2.1, hN.2.1.1, cl_s, cl_s, if_b0, if_b0]
  by_cases h3 : rng c (nI (nPe A)) = false
  · rw [if_pos h3, if_pos h3]; exact QMe.rf hp
  rw [if_neg h3, if_neg h3, zc_ways hL.1 hL.2.2.1 hN, cl_s]
  rw [Bool.not_eq_false] at h1 h2 h3
  obtain ⟨p, hpp, rfl⟩ := rng_ex (by omega) h1
  obtain ⟨t, ht, rfl⟩ := rng_ex (by omega) h2
  obtain ⟨q, hq, rfl⟩ := rng_ex (by omega) h3
  obtain ⟨⟨r, wm1⟩, e1, hr, hFm⟩ := zm_fewest hT hI hPe hX hpp ht hq
  dsimp only at hr hFm e1
  rw [e1]
  by_cases h0 : nWy A = 0
  · rw [h0, if_pos (by rfl)]
    have e : r = -1 := hr.un (Or.inr ⟨rfl, fun c _ h => by obtain ⟨-, v, hv, -⟩ := h; omega⟩)
    subst e
    exact ⟨_, wc, wm1, rfl, rfl, FX.rf _ _, hp, hFm⟩
  · rw [if_neg (nI_ne0 (by omega) (by omega))]
    have hla : 0 < nLa A := (nWy_or (show 0 < nWy A by omega)).2
    obtain ⟨⟨s, wc1⟩, e2, hs, h13, hFc⟩ := zc_fewest hL hK hI hPe hX hpp ht hq hla
    dsimp only at hs h13 hFc e2
    rw [e2, cl_s, hs.un hr]
    refine ⟨r, wc1, wm1, rfl, rfl, hFc, ⟨fun h => ?_, hp.2.fr (hFc.2 3 6 (by unfold PCF PCS; omega)) (Or.inr (Or.inr h13)) (Or.inl (hFc.2 16 9 (by unfold PCF PCS; omega)))⟩, hFm⟩
    have hch : ¬ wc.1 3 6 = -1 := by
      obtain ⟨c, hc, e, -⟩ := hp.2
      rw [e]; exact nI_n1 (by omega)
    rw [h13, hFc.2 3 6 (by unfold PCF PCS; omega)] at h
    exact absurd h.symm hch
end
