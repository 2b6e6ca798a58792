/-! event -/
-- PPC PPM PXR
section
variable {wc wm A : Wd}
theorem nn_i {x : Int32} {n : Nat} (h0 : 0 ≤ x.toInt) (h1 : x.toInt < n) : NN x n := ⟨x.toInt.toNat, by omega, by
  apply Int32.toInt_inj.mp
  have := Int32.toInt_lt x
  rw [nI_toInt (by omega)]; omega⟩
/-- an event told well -/
theorem q_addE (h : KRN wc wm A) (hcb : ∃ c, c < 999999 ∧ wc.1 3 6 = nI c) {x1 x2 x3 x4 x5 : Int32} (e3 : nEv A < 3) (e6 : nPa A + nEv A < 6) (hk : NN x1 5) (hp : ¬ x1 = 0 → ¬ x1 = 1 → NN x2 (nPa A)) (hf : x5 = -1 ∨ NN x5 3) (d1 : NN x3 10000) (d2 : NN x4 10000) : ∃ r wc1 wm1 A1, (cv (f_X2_addEvent x1 x2 x3 x4 x5 wc) fun w3 => some ((w3.1 3 4) - 1, w3)) = some (r, wc1) ∧ (lt (wI wm 38 (nEv A) x1) fun w9 => lt (wI w9 39 (nEv A) x2) fun w10 => lt (wI w10 40 (nEv A) x3) fun w11 => lt (wI w11 41 (nEv A) x4) fun w12 => lt (wI w12 42 (nEv A) x5) fun w13 => lt (wI w13 0 50 (nI (nEv A + 1))) fun w14 => cv (f_X12_findOrders w14) fun w15 => some ((w15.1 0 50) - 1, w15)) = some (r, wm1) ∧ KRN wc1 wm1 A1 ∧ CHG wc wm A wc1 wm1 A1 := by
  obtain ⟨hL, hK, hI, hPe, hX, hT, hB, hTp, hFl⟩ := h
  have hN := hI.1
  have h4 := hN.2.2.2.1.2
  obtain ⟨e, he⟩ : ∃ e, e = nEv A := ⟨_, rfl⟩
  have e34 : wc.1 3 4 = nI e := by rw [hL.2.1.2, hN.2.2.2.2.1.1, he]
  unfold f_X2_addEvent
  rw [← he]
  rw [← he] at e3 e6
  rw [e34, if_pos (show nI e < 3 from nI_lt (b := 3) e3 (by omega)), if_pos (z_inb e3 (by omega)), nI_clamp (n := e) (by omega)]
  simp only [lt_s']
  have hF5 : FXL (fun a k => a = 81 + e) PTl wc (wI (wI (wI (wI (wI wc (81 + e) 0 x1) (81 + e) 1 x2) (81 + e) 2 x3) (81 + e) 3 x4) (81 + e) 4 x5) := ⟨fun a k hn => by simp [wI_g, hn], fun _ _ _ => rfl⟩
  have c0 : (wI (wI (wI (wI (wI wc (81 + e) 0 x1) (81 + e) 1 x2) (81 + e) 2 x3) (81 + e) 3 x4) (81 + e) 4 x5).1 (81 + e) 0 = x1 ∧ (wI (wI (wI (wI (wI wc (81 + e) 0 x1) (81 + e) 1 x2) (81 + e) 2 x3) (81 + e) 3 x4) (81 + e) 4 x5).1 (81 + e) 1 = x2 ∧ (wI (wI (wI (wI (wI wc (81 + e) 0 x1) (81 + e) 1 x2) (81 + e) 2 x3) (81 + e) 3 x4) (81 + e) 4 x5).1 (81 + e) 2 = x3 ∧ (wI (wI (wI (wI (wI wc (81 + e) 0 x1) (81 + e) 1 x2) (81 + e) 2 x3) (81 + e) 3 x4) (81 + e) 4 x5).1 (81 + e) 3 = x4 ∧ (wI (wI (wI (wI (wI wc (81 + e) 0 x1) (81 + e) 1 x2) (81 + e) 2 x3) (81 + e) 3 x4) (81 + e) 4 x5).1 (81 + e) 4 = x5 := by simp [wI_g]
  have l5 : (wI (wI (wI (wI (wI wc (81 + e) 0 x1) (81 + e) 1 x2) (81 + e) 2 x3) (81 + e) 3 x4) (81 + e) 4 x5).2 = wc.2 := rfl
  generalize wI (wI (wI (wI (wI wc (81 + e) 0 x1) (81 + e) 1 x2) (81 + e) 2 x3) (81 + e) 3 x4) (81 + e) 4 x5 = w5 at hF5 c0 l5 ⊢
  rw [hF5.1 3 4 (by omega), e34, nI_1]
  have f6 : ∀ a k, ¬ (a = 3 ∧ k = 4) → (wI w5 3 4 (nI (e + 1))).1 a k = w5.1 a k := fun a k q => by rw [wI_g, if_neg q]
  have s34 : (wI w5 3 4 (nI (e + 1))).1 3 4 = nI (e + 1) := wI_s _ _ _ _
  have l6 : (wI w5 3 4 (nI (e + 1))).2 = wc.2 := l5
  generalize wI w5 3 4 (nI (e + 1)) = w6 at f6 s34 l6 ⊢
  have fc : ∀ a k, ¬ (a = 3 ∧ k = 4) → ¬ a = 81 + e → w6.1 a k = wc.1 a k := fun a k q1 q2 => by rw [f6 a k q1, hF5.1 a k q2]
  have hMe : FX (fun a k => (38 ≤ a ∧ a ≤ 42 ∧ k = e) ∨ (a = 0 ∧ k = 50)) wm (wI (wI (wI (wI (wI (wI wm 38 e x1) 39 e x2) 40 e x3) 41 e x4) 42 e x5) 0 50 (nI (e + 1))) := (((((FX.w _ _ (by omega)).tr (FX.w _ _ (by omega))).tr (FX.w _ _ (by omega))).tr (FX.w _ _ (by omega))).tr (FX.w _ _ (by omega))).tr (FX.w _ _ (by omega))
  have me : (wI (wI (wI (wI (wI (wI wm 38 e x1) 39 e x2) 40 e x3) 41 e x4) 42 e x5) 0 50 (nI (e + 1))).1 38 e = x1 ∧ (wI (wI (wI (wI (wI (wI wm 38 e x1) 39 e x2) 40 e x3) 41 e x4) 42 e x5) 0 50 (nI (e + 1))).1 39 e = x2 ∧ (wI (wI (wI (wI (wI (wI wm 38 e x1) 39 e x2) 40 e x3) 41 e x4) 42 e x5) 0 50 (nI (e + 1))).1 40 e = x3 ∧ (wI (wI (wI (wI (wI (wI wm 38 e x1) 39 e x2) 40 e x3) 41 e x4) 42 e x5) 0 50 (nI (e + 1))).1 41 e = x4 ∧ (wI (wI (wI (wI (wI (wI wm 38 e x1) 39 e x2) 40 e x3) 41 e x4) 42 e x5) 0 50 (nI (e + 1))).1 42 e = x5 ∧ (wI (wI (wI (wI (wI (wI wm 38 e x1) 39 e x2) 40 e x3) 41 e x4) 42 e x5) 0 50 (nI (e + 1))).1 0 50 = nI (e + 1) := by simp [wI_g]
  generalize wI (wI (wI (wI (wI (wI wm 38 e x1) 39 e x2) 40 e x3) 41 e x4) 42 e x5) 0 50 (nI (e + 1)) = m5 at hMe me ⊢
  obtain ⟨me0, me1, me2, me3, me4, me5⟩ := me
  have b0 : ∀ k, TJ k = true → ¬ k = 50 → (tol m5).1 0 k = A.1 0 k := fun k hk q => by
    rw [← tol_0 rfl k hk, hMe.2 0 k (by omega), tol_0 hT k hk]
  have npB : nPa (tol m5) = nPa A := by unfold nPa; rw [b0 49 rfl (by omega)]
  have a50 : (tol m5).1 0 50 = nI (e + 1) := by rw [← tol_0 rfl 50 rfl]; exact me5
  have neB : nEv (tol m5) = e + 1 := by
    show ((tol m5).1 0 50).toNatClampNeg = _
    rw [a50, nI_clamp (by omega)]
  have ba : ∀ a k, 2 ≤ a ∧ a ≤ 7 ∨ 38 ≤ a ∧ a ≤ 43 → ¬ (38 ≤ a ∧ a ≤ 42 ∧ k = e) → (tol m5).1 a k = A.1 a k := fun a k q q2 => by
    rw [← tol_a rfl a k q, hMe.2 a k (by omega), tol_a hT a k q]
  have be : ∀ a, 38 ≤ a → a ≤ 42 → (tol m5).1 a e = m5.1 a e := fun a q1 q2 => (tol_a rfl a e (by omega)).symm
  have bpp : ∀ k, k < nPa A → CI1 (tol m5) A k := fun k hk => by
    refine ⟨fun a h1 h2 => ?_, fun a g h1 h2 => ?_, fun h hh => ?_⟩
    · rw [← tol_p rfl a k ⟨h1, h2⟩ (by rw [npB]; omega), hMe.2 a k (by omega), tol_p hT a k ⟨h1, h2⟩ (by omega)]
    · rw [← tol_g rfl a _ h1 (by rw [npB]; omega), hMe.2 a _ (by omega), tol_g hT a _ h1 (by omega)]
    · rw [← tol_h rfl _ (by rw [npB]; omega), hMe.2 36 _ (by omega), tol_h hT _ (by omega)]
  have bl : ∀ a k, 8 ≤ a ∧ a ≤ 10 → (tol m5).2 a k = A.2 a k := fun a k q => by
    rw [← tol_l rfl a k q, hMe.1, tol_l hT a k q]
  generalize hBd : tol m5 = B at npB a50 neB b0 ba be bpp bl
  have hes : esA B = esA A := es_eq (fun a k q => by
      rcases q with ⟨rfl, q⟩ | q
      · refine b0 k ?_ (by omega)
        unfold TJ
        simp only [Bool.or_eq_true, Bool.and_eq_true, decide_eq_true_eq, beq_iff_eq]
        omega
      · exact ba a k (by omega) (by omega)) (fun a k q => bl a k q)
  have eP : nPe B = nPe A := by unfold nPe; rw [b0 11 rfl (by omega)]
  have eT : nTh B = nTh A := by unfold nTh; rw [b0 12 rfl (by omega)]
  obtain ⟨w7, m6, g1, g2, gL, gI, ges, gtf, g36, g78, gFc, gFm⟩ := q_fin (w := w6) (m := m5) (B := B) ((hL.1.fg (fun a k h1 h2 => fc a k (by omega) (by omega)) (fun a k _ _ => by rw [l6])).es hes) ⟨by rw [fc 3 3 (by omega) (by omega), b0 49 rfl (by omega)]; exact hL.2.1.1, s34.trans a50.symm⟩ (fun k hk => by
      rw [npB] at hk
      exact (hL.2.2.2.1 k hk).ci (bpp k hk) (fun a j h1 h2 => fc a j (by omega) (by omega)) ((hI.2.2.1 k hk).1.1.e (by omega)).2 ((hI.2.2.1 k hk).1.2.1.e (by omega)).2) (fun i hi => by
      rw [neB] at hi
      by_cases q : i = e
      · subst q
        rw [f6 _ _ (by omega), f6 _ _ (by omega), f6 _ _ (by omega), f6 _ _ (by omega), f6 _ _ (by omega), be 38 (by omega) (by omega), be 39 (by omega) (by omega), be 40 (by omega) (by omega), be 41 (by omega) (by omega), be 42 (by omega) (by omega), me0, me1, me2, me3, me4]
        exact c0
      · rw [fc _ _ (by omega) (by omega), fc _ _ (by omega) (by omega), fc _ _ (by omega) (by omega), fc _ _ (by omega) (by omega), fc _ _ (by omega) (by omega), ba 38 i (by omega) (by omega), ba 39 i (by omega) (by omega), ba 40 i (by omega) (by omega), ba 41 i (by omega) (by omega), ba 42 i (by omega) (by omega)]
        exact hL.2.2.2.2 i (by omega)) (by
      unfold NUM
      rw [npB, neB, eP, eT, a50]
      unfold nLa nOr
      rw [b0 10 rfl (by omega), b0 11 rfl (by omega), b0 12 rfl (by omega), b0 49 rfl (by omega), b0 75 rfl (by omega)]
      exact ⟨hN.1, hN.2.1, hN.2.2.1, hN.2.2.2.1, ⟨rfl, by omega⟩, by omega, hN.2.2.2.2.2.2⟩) (hI.2.1.es hes) (fun k hk => by
      rw [npB] at hk
      exact PI1.ci (hI.2.2.1 k hk) (bpp k hk) eP eT) (fun i hi => by
      rw [neB] at hi
      rw [npB]
      by_cases q : i = e
      · subst q
        rw [be 38 (by omega) (by omega), be 39 (by omega) (by omega), be 40 (by omega) (by omega), be 41 (by omega) (by omega), be 42 (by omega) (by omega), me0, me1, me2, me3, me4]
        exact ⟨hk, hp, hf, d1, d2⟩
      · rw [ba 38 i (by omega) (by omega), ba 39 i (by omega) (by omega), ba 40 i (by omega) (by omega), ba 41 i (by omega) (by omega), ba 42 i (by omega) (by omega)]
        exact hI.2.2.2.1 i (by omega)) hBd
  rw [g1, cv_s, cv_s, g2, cv_s]
  have gf : ∀ a k, ¬ (a = 3 ∧ (k = 4 ∨ k = 5 ∨ k = 6)) → ¬ a = 6 → ¬ a = 7 → ¬ a = 81 + e → w7.1 a k = wc.1 a k := fun a k q1 q2 q3 q4 => by rw [gFc.2 a k (by unfold POc; omega), fc a k (by omega) q4]
  have gm : ∀ a k, ¬ (a = 0 ∧ (k = 50 ∨ k = 75 ∨ k = 78)) → ¬ (38 ≤ a ∧ a ≤ 44) → m6.1 a k = wm.1 a k := fun a k q1 q2 => by rw [gFm.2 a k (by unfold POw; omega), hMe.2 a k (by omega)]
  have gl : w7.2 = wc.2 := gFc.1.trans l6
  have er1 : w7.1 3 4 - 1 = nI e := by rw [gFc.2 3 4 (by unfold POc; omega), s34, show (1 : Int32) = nI 1 from rfl, pk_sub (by omega)]; rfl
  have er2 : m6.1 0 50 - 1 = nI e := by rw [gFm.2 0 50 (by unfold POw; omega), me5, show (1 : Int32) = nI 1 from rfl, pk_sub (by omega)]; rfl
  rw [er1, er2]
  have c36 : w7.1 3 6 = wc.1 3 6 + 1 := by rw [g36, fc 3 6 (by omega) (by omega)]
  obtain ⟨n, hn, en⟩ := hcb
  have hes6 : esA (tol m6) = esA A := ges.trans hes
  refine ⟨nI e, w7, m6, tol m6, rfl, rfl, ⟨gL, (hK.fg (fun a k h1 h2 => gf a k (by omega) (by omega) (by omega) (by omega))).es hes6, gI, hPe.es hes6, hX.es hes6, rfl, ?_, ⟨?_, fun j => ?_, ?_, ?_⟩, ?_, ?_⟩, ⟨fun a k q => ?_, fun a k q => ?_⟩, ⟨?_, fun a k q => ?_⟩, hes6, Or.inr ⟨c36, g78⟩⟩
  · obtain ⟨cc, hcc, e1, e2, e3'⟩ := hB
    have ec : cc = n := by rw [e1, nI_eq (by omega) (by omega)] at en; exact en
    refine ⟨n + 1, by omega, by rw [c36, en, nI_1], ?_, ?_⟩
    · rw [gf 8 13 (by omega) (by omega) (by omega) (by omega)]
      rcases e2 with q | ⟨d, hd, q⟩
      · exact Or.inl q
      · exact Or.inr ⟨d, by omega, q⟩
    · rw [gf 16 9 (by omega) (by omega) (by omega) (by omega)]
      rcases e3' with q | ⟨d, hd, q⟩
      · exact Or.inl q
      · exact Or.inr ⟨d, by omega, q⟩
  · rw [show w7.1 2 = wc.1 2 from funext fun k => gf 2 k (by omega) (by omega) (by omega) (by omega), show m6.1 1 = wm.1 1 from funext fun k => gm 1 k (by omega) (by omega)]; exact hTp.1
  · rw [gm 1 j (by omega) (by omega)]; exact hTp.2.1 j
  · rw [gf 1 1 (by omega) (by omega) (by omega) (by omega), gm 0 1 (by omega) (by omega)]; exact hTp.2.2.1
  · obtain ⟨t, ht, et⟩ := hTp.2.2.2
    exact ⟨t, ht, (gm 0 1 (by omega) (by omega)).trans et⟩
  · rw [gf 0 7 (by omega) (by omega) (by omega) (by omega), gm 0 8 (by omega) (by omega)]; exact hFl.1
  · rw [gf 0 8 (by omega) (by omega) (by omega) (by omega), gm 0 9 (by omega) (by omega)]; exact hFl.2
  · exact gf a k (by simp only [PPC] at q; omega) (by simp only [PPC] at q; omega) (by simp only [PPC] at q; omega) (by simp only [PPC] at q; omega)
  · rw [gl]
  · rw [gFm.1]; exact hMe.1
  · exact gm a k (by simp only [PPM] at q; omega) (by simp only [PPM] at q; omega)
theorem q_event (h : KRN wc wm A) (hcb : ∃ c, c < 999999 ∧ wc.1 3 6 = nI c) (x1 x2 x3 x4 x5 : Int32) : ∃ r wc1 wm1 A1, f_X11_event x1 x2 x3 x4 x5 wc = some (r, wc1) ∧ f_X12_event x1 x2 x3 x4 x5 wm = some (r, wm1) ∧ KRN wc1 wm1 A1 ∧ CHG wc wm A wc1 wm1 A1 := by
  have h0 := h
  obtain ⟨hL, hK, hI, hPe, hX, hT, hB, hTp, hFl⟩ := h
  have hN := hI.1
  have h4 := hN.2.2.2.1.2
  have hE3 := hN.2.2.2.2.1.2
  have h6 : nPa A + nEv A ≤ 6 := hN.2.2.2.2.2.1
  have rf : ∀ r : Int32, ∃ r' wc1 wm1 A1, (some (r, wc) : Option (Int32 × Wd)) = some (r', wc1) ∧ (some (r, wm) : Option (Int32 × Wd)) = some (r', wm1) ∧ KRN wc1 wm1 A1 ∧ CHG wc wm A wc1 wm1 A1 := fun r => ⟨r, wc, wm, A, rfl, rfl, h0, FXL.rf _ _ _, FX.rf _ _, rfl, Or.inl ⟨rfl, rfl, rfl⟩⟩
  have i0 : (0 : Int32).toInt = 0 := rfl
  have i1 : (1 : Int32).toInt = 1 := rfl
  have i2 : (2 : Int32).toInt = 2 := rfl
  have i3 : (3 : Int32).toInt = 3 := rfl
  have i4 : (4 : Int32).toInt = 4 := rfl
  have i9 : (9999 : Int32).toInt = 9999 := rfl
  have im : (-1 : Int32).toInt = -1 := rfl
  have j0 : (0 : Int64).toInt = 0 := rfl
  have j2 : (2 : Int64).toInt = 2 := rfl
  have j4 : (4 : Int64).toInt = 4 := rfl
  have j9 : (9999 : Int64).toInt = 9999 := rfl
  have jm : (-1 : Int64).toInt = -1 := rfl
  have mid : 0 ≤ x1.toInt → x1.toInt ≤ 4 → (¬ x1 = 0 → ¬ x1 = 1 → NN x2 (nPa A)) → ∃ r wc1 wm1 A1, X11_event_b28 x1 x2 x3 x4 x5 wc = some (r, wc1) ∧ X12_event_b25 x1 x2 x3 x4 x5 wm = some (r, wm1) ∧ KRN wc1 wm1 A1 ∧ CHG wc wm A wc1 wm1 A1 := by
    intro k0 k4 hp
    unfold X11_event_b28 X12_event_b25
    rw [m_in, cl_s, if_b0, j0, j9]
    have tf : ¬ true = false := by decide
    by_cases a1 : x3 < 0
    · have q1 : decide (0 ≤ x3.toInt ∧ x3.toInt ≤ 9999) = false := decide_eq_false (by rw [z_lt] at a1; omega)
      rw [if_pos a1, q1, if_pos (show false = false from rfl)]; exact rf _
    rw [if_neg a1]
    by_cases a2 : 9999 < x4
    · rw [if_pos a2]
      by_cases a3 : 0 ≤ x3.toInt ∧ x3.toInt ≤ 9999
      · have q2 : decide (x3.toInt ≤ x4.toInt ∧ x4.toInt ≤ 9999) = false := decide_eq_false (by rw [z_lt] at a2; omega)
        rw [decide_eq_true a3, if_neg tf, m_in, cl_s, if_b0, z_l, j9, q2, if_pos (show false = false from rfl)]; exact rf _
      · rw [decide_eq_false a3, if_pos (show false = false from rfl)]; exact rf _
    rw [if_neg a2]
    by_cases a4 : x3 ≤ x4
    · have q1 : decide (0 ≤ x3.toInt ∧ x3.toInt ≤ 9999) = true := decide_eq_true (by rw [z_lt] at a1 a2; rw [z_le] at a4; omega)
      have q2 : decide (x3.toInt ≤ x4.toInt ∧ x4.toInt ≤ 9999) = true := decide_eq_true (by rw [z_lt] at a1 a2; rw [z_le] at a4; omega)
      rw [if_pos a4, q1, if_neg tf, m_in, cl_s, if_b0, z_l, j9, q2, if_neg tf, m_in, cl_s, if_b0, jm, j2]
      by_cases a5 : x5 < -1
      · have q3 : decide (-1 ≤ x5.toInt ∧ x5.toInt ≤ 2) = false := decide_eq_false (by rw [z_lt] at a5; omega)
        rw [if_pos a5, q3, if_pos (show false = false from rfl)]; exact rf _
      rw [if_neg a5]
      by_cases a6 : x5 < 3
      · have q3 : decide (-1 ≤ x5.toInt ∧ x5.toInt ≤ 2) = true := decide_eq_true (by rw [z_lt] at a5 a6; omega)
        rw [if_pos a6, q3, if_neg tf, hL.2.1.2, tol_0 hT 50 rfl, tol_0 hT 49 rfl, hN.2.2.2.2.1.1, hN.2.2.2.1.1]
        by_cases a7 : nEv A = 3
        · rw [a7, if_pos (show (3 : Int32) ≤ nI 3 by decide), if_pos (show nI 3 = 3 from rfl)]; exact rf _
        rw [if_neg (show ¬ (3 : Int32) ≤ nI (nEv A) from nI_ge (a := nEv A) (b := 3) (by omega) (by omega)), if_neg (show ¬ nI (nEv A) = 3 from fun q => a7 ((nI_eq (b := 3) (by omega) (by omega)).mp q)), zc_items hL.2.1 hN, cl_s, nI_add]
        by_cases a8 : nPa A + nEv A = 6
        · rw [show nIt A = 6 from a8, if_neg (show ¬ nI 6 < 6 by decide), a8, if_pos (show nI 6 = 6 from rfl)]; exact rf _
        rw [if_pos (show nI (nIt A) < 6 from nI_lt (b := 6) (by unfold nIt; omega) (by omega)), if_neg (show ¬ nI (nPa A + nEv A) = 6 from fun q => a8 ((nI_eq (b := 6) (by omega) (by omega)).mp q))]
        rw [z_lt] at a1 a2 a5 a6
        rw [z_le] at a4
        have hq := q_addE h0 hcb (x1 := x1) (x2 := x2) (x3 := x3) (x4 := x4) (x5 := x5) (by omega) (by omega) (nn_i k0 (by omega)) hp (by
          by_cases q : x5.toInt = -1
          · exact Or.inl (Int32.toInt_inj.mp q)
          · exact Or.inr (nn_i (by omega) (by omega))) (nn_i (by omega) (by omega)) (nn_i (by omega) (by omega))
        have e50 : wm.1 0 50 = nI (nEv A) := (tol_0 hT 50 rfl).trans hN.2.2.2.2.1.1
        have i3' := z_inb (show nEv A < 3 by omega) (show 3 < 2 ^ 31 by omega)
        rw [if_pos i3', nI_clamp (n := nEv A) (by omega)]
        simp only [lt_s'] at hq ⊢
        have g : ∀ (u : Wd) (a : Nat) (x : Int32), 38 ≤ a → u.1 0 50 = nI (nEv A) → (wI u a (nEv A) x).1 0 50 = nI (nEv A) := fun u a x ha hu => by rw [wI_g, if_neg (by omega)]; exact hu
        have q1 := g wm 38 x1 (by omega) e50
        have q2 := g _ 39 x2 (by omega) q1
        have q3 := g _ 40 x3 (by omega) q2
        have q4 := g _ 41 x4 (by omega) q3
        have q5 := g _ 42 x5 (by omega) q4
        rw [q1, if_pos i3', nI_clamp (n := nEv A) (by omega), q2, if_pos i3', nI_clamp (n := nEv A) (by omega), q3, if_pos i3', nI_clamp (n := nEv A) (by omega), q4, if_pos i3', nI_clamp (n := nEv A) (by omega), q5, nI_1]
        exact hq
      · have q3 : decide (-1 ≤ x5.toInt ∧ x5.toInt ≤ 2) = false := decide_eq_false (by rw [z_lt] at a6; omega)
        rw [if_neg a6, q3, if_pos (show false = false from rfl)]; exact rf _
    · rw [if_neg a4]
      by_cases a3 : 0 ≤ x3.toInt ∧ x3.toInt ≤ 9999
      · have q2 : decide (x3.toInt ≤ x4.toInt ∧ x4.toInt ≤ 9999) = false := decide_eq_false (by rw [z_le] at a4; omega)
        rw [decide_eq_true a3, if_neg tf, m_in, cl_s, if_b0, z_l, j9, q2, if_pos (show false = false from rfl)]; exact rf _
      · rw [decide_eq_false a3, if_pos (show false = false from rfl)]; exact rf _
  unfold f_X11_event f_X12_event
  rw [m_in, cl_s, if_b0, j0, j4]
  by_cases b1 : x1 < 0
  · have q1 : decide (0 ≤ x1.toInt ∧ x1.toInt ≤ 4) = false := decide_eq_false (by rw [z_lt] at b1; omega)
    rw [if_pos b1, q1, if_pos (show false = false from rfl)]; exact rf _
  rw [if_neg b1]
  by_cases b2 : x1 ≤ 4
  · rw [z_lt] at b1
    have b2' := b2
    rw [z_le] at b2'
    have q1 : decide (0 ≤ x1.toInt ∧ x1.toInt ≤ 4) = true := decide_eq_true (by omega)
    rw [if_pos b2, q1, if_neg (show ¬ true = false by decide)]
    by_cases b3 : x1 < 2
    · rw [if_pos b3, if_pos (show x1 ≤ 1 by rw [z_lt] at b3; rw [z_le]; omega)]
      refine mid (by omega) (by omega) (fun n0 n1 => ?_)
      rw [z_lt] at b3
      have : x1.toInt = 0 ∨ x1.toInt = 1 := by omega
      rcases this with q | q
      · exact absurd (Int32.toInt_inj.mp (q.trans i0.symm)) n0
      · exact absurd (Int32.toInt_inj.mp (q.trans i1.symm)) n1
    · rw [if_neg b3, if_neg (show ¬ x1 ≤ 1 by rw [z_lt] at b3; rw [z_le]; omega), zc_isPaper, zm_isPaper hT, hL.2.1.1, hN.2.2.2.1.1, cl_s, cl_s, if_b0, if_b0]
      by_cases b4 : rng x2 (nI (nPa A)) = false
      · rw [if_pos b4, if_pos b4]; exact rf _
      · rw [if_neg b4, if_neg b4]
        rw [Bool.not_eq_false] at b4
        exact mid (by omega) (by omega) (fun _ _ => rng_ex (by omega) b4)
  · have q1 : decide (0 ≤ x1.toInt ∧ x1.toInt ≤ 4) = false := decide_eq_false (by rw [z_le] at b2; omega)
    rw [if_neg b2, q1, if_pos (show false = false from rfl)]; exact rf _
end
