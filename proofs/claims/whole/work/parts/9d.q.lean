/-! sum, outcomes, sure, floor, hangs -/
def QRk (wc wm A : Wd) (fc fm : Option (Int32 × Wd)) : Prop := ∃ r wc1 wm1, fc = some (r, wc1) ∧ fm = some (r, wm1) ∧ FX PCS wc wc1 ∧ PRP wc1 A ∧ FX PRk wm wm1 ∧ RKC wm1 A
def QM (cp : Nat) (wc wm A : Wd) (fc : Option (Int32 × Wd × Nat)) (fm : Option (Int32 × Wd)) : Prop := ∃ r wc1 cp1 wm1, fc = some (r, wc1, cp1) ∧ fm = some (r, wm1) ∧ FX PBu wc wc1 ∧ PRP wc1 A ∧ OKC wc1 A cp1 ∧ FX PRk wm wm1 ∧ RKC wm1 A ∧ cp ≤ cp1
theorem cvm_s {β : Type} (w : Wd) (c : Nat) (f : Wd → Nat → Option β) : cvm (some (w, c)) f = f w c := rfl
theorem nz_i {n : Nat} (h : ¬ n = 0) (hn : n < 2 ^ 31) : ¬ nI n = 0 := fun q => h ((nI_eq (a := n) (b := 0) hn (by omega)).mp q)
section
variable {wc wm A : Wd}
theorem QRk.rf {r : Int32} (h : PRP wc A) (hR : RKC wm A) : QRk wc wm A (some (r, wc)) (some (r, wm)) := ⟨r, wc, wm, rfl, rfl, FX.rf _ _, h, FX.rf _ _, hR⟩
theorem QM.rf {r : Int32} {cp : Nat} (h : PRP wc A) (hO : OKC wc A cp) (hR : RKC wm A) : QM cp wc wm A (some (r, wc, cp)) (some (r, wm)) := ⟨r, wc, cp, wm, rfl, rfl, FX.rf _ _, h, hO, FX.rf _ _, hR, Nat.le_refl _⟩
theorem nWy_0 (h : ¬ nWy A = 0) : 0 < nLa A := by
  unfold nWy at h
  rcases Nat.eq_zero_or_pos (nLa A) with q | q
  · rw [if_pos q] at h; omega
  · exact q
theorem q_sum (hL : TLD wc A) (hK : KIN wc A) (hI : INV A) (hPe : PEI A) (hX : NCH A) (hp : PRP wc A) (hT : tol wm = A) (hR : RKC wm A) (a b : Int32) : QRk wc wm A (f_X11_sum a b wc) (f_X12_sum a b wm) := by
  have hN := hI.1
  have h8 := hN.2.1.2
  have hww := nWy_le hN
  unfold f_X11_sum f_X12_sum
  rw [zc_isPerson, zm_isPerson hT, hL.1.1.2.1, hN.2.1.1, cl_s, cl_s, if_b0, if_b0]
  by_cases h1 : rng a (nI (nPe A)) = false
  · rw [if_pos h1, if_pos h1]; exact QRk.rf hp hR
  rw [if_neg h1, if_neg h1, zc_isWay hL.1 hL.2.2.1 hN, zm_isWay hT hN, cl_s, cl_s, if_b0, if_b0]
  by_cases h2 : rng b (nI (nWy A)) = false
  · rw [if_pos h2, if_pos h2]; exact QRk.rf hp hR
  rw [if_neg h2, if_neg h2]
  rw [Bool.not_eq_false] at h1 h2
  obtain ⟨t, ht, rfl⟩ := rng_ex (by omega) h1
  obtain ⟨way, hw, rfl⟩ := rng_ex (by omega) h2
  obtain ⟨ho, h0⟩ := nWy_or hw
  obtain ⟨w1, e1, hr1, hc1, hF1⟩ := zc_ready hL hI hX h0 hp
  have hT1 := PCS_t (PP_s hF1)
  obtain ⟨w2, e2, hTK, hF2⟩ := zc_way (hL.fr hN hT1) hI hr1 hw
  have hT2 := hT1.tr (PCS_t (PQ_s hF2))
  obtain ⟨w3, e3, hPV, hF3⟩ := zc_addUp (hL.fr hN hT2) (hK.fr hT2) hI hPe (hr1.fq hN hF2) hw hTK
  obtain ⟨m1, f1, hR1, h78, hFm⟩ := zm_reckon hT hI hPe hR
  rw [e1, cv_s, e2, cv_s, e3, cv_s, f1, cv_s, z_inb (show t < 8 by omega) (by omega), if_pos (by rfl), ix8, z_inb (show 8 * way + t < 46080 by omega) (by omega), if_pos (by rfl), nI_clamp (n := t) (by omega), nI_clamp (n := 8 * way + t) (by omega), hPV t (by omega), hR1.1 way hw t ht]
  exact ⟨_, w3, m1, rfl, rfl, ((PP_s hF1).tr (PQ_s hF2)).tr (PPt_q' hF3), hp.q hN hr1 hc1 hF1 (hF2.tr (PPt_q hF3)), hFm, Or.inr ⟨hR1, h78⟩⟩
theorem q_outcomes (hL : TLD wc A) (hK : KIN wc A) (hI : INV A) (hPe : PEI A) (hX : NCH A) (hp : PRP wc A) {cp : Nat} (hO : OKC wc A cp) (hT : tol wm = A) (hR : RKC wm A) : QM cp wc wm A (f_X11_outcomes cp wc) (f_X12_outcomes wm) := by
  unfold f_X11_outcomes f_X12_outcomes
  obtain ⟨⟨w1, c1⟩, e1, hO1, h9, hp1, hF1, hcp⟩ := zc_bring hL hK hI hPe hX hp hO
  obtain ⟨m1, f1, hR1, h78, hFm⟩ := zm_reckon hT hI hPe hR
  rw [e1, f1, cv_s]
  refine ⟨_, w1, c1, m1, rfl, ?_, hF1, hp1, ⟨hO1.1.2.1, fun _ => hO1⟩, hFm, Or.inr ⟨hR1, h78⟩, hcp⟩
  show some (m1.1 0 97, m1) = some (w1.1 16 1, m1)
  rw [hR1.2.2, hO1.1.1]
theorem q_sure (hL : TLD wc A) (hK : KIN wc A) (hI : INV A) (hPe : PEI A) (hX : NCH A) (hp : PRP wc A) {cp : Nat} (hO : OKC wc A cp) (hT : tol wm = A) (hR : RKC wm A) (a b : Int32) : QM cp wc wm A (f_X11_sure cp a b wc) (f_X12_sure a b wm) := by
  have hN := hI.1
  have h8 := hN.2.1.2
  have hww := nWy_le hN
  unfold f_X11_sure f_X12_sure
  rw [zc_isPerson, zm_isPerson hT, hL.1.1.2.1, hN.2.1.1, cl_s, cl_s, if_b0, if_b0]
  by_cases h1 : rng a (nI (nPe A)) = false
  · rw [if_pos h1, if_pos h1]; exact QM.rf hp hO hR
  rw [if_neg h1, if_neg h1, zc_ways hL.1 hL.2.2.1 hN, cl_s]
  rw [Bool.not_eq_false] at h1
  obtain ⟨p, hpp, rfl⟩ := rng_ex (by omega) h1
  obtain ⟨m1, f1, hR1, h78, hFm⟩ := zm_reckon hT hI hPe hR
  have hTm := PRk_t hFm hT
  have key : OK (X12_sure_b20_L (nI p) b (-1) 0 m1) (fun q => q.2 = m1 ∧ ((nWy A = 0 ∧ q.1 = -1) ∨ ∃ m, q.1 = nI m ∧ (if b = 0 then MIN (nWy A) (fun v => sumS A v p) m else MAX (nWy A) (fun v => sumS A v p) m))) := by
    refine lo5 (fun m y1 y2 y3 y4 u => ∃ i, m = nWy A - i ∧ i ≤ nWy A ∧ y1 = nI p ∧ b = y2 ∧ y4 = nI i ∧ m1 = u ∧ ((i = 0 ∧ y3 = -1) ∨ ∃ m, y3 = nI m ∧ (if b = 0 then MIN i (fun v => sumS A v p) m else MAX i (fun v => sumS A v p) m))) ?_ fu (nWy A - 0) (nI p) b (-1) 0 m1 (by rw [fu_eq]; omega) ⟨0, rfl, Nat.zero_le _, rfl, rfl, rfl, rfl, Or.inl ⟨rfl, rfl⟩⟩
    rintro m k y1 y2 y3 y4 u ⟨i, rfl, hi, rfl, rfl, rfl, rfl, hm⟩ hk
    rw [X12_sure_b20, zm_ways hTm hN, cl_s]
    by_cases hin : i < nWy A
    · refine OK.f (nI_ge hin (by omega)) ?_
      rw [ix8]
      refine OK.t (z_inb (by omega) (by omega)) (OK.l ?_)
      rw [nI_clamp (n := 8 * i + p) (by omega), hR1.1 i hin p hpp]
      have hb := sum_lt hI hPe hin (i := p) (by omega)
      unfold sI
      rcases hm with ⟨e1, e2⟩ | ⟨mm, e1, e2⟩
      · subst e1
        refine OK.t e2 (hk _ _ _ _ _ _ (by omega) ⟨1, rfl, hin, rfl, rfl, rfl, rfl, Or.inr ⟨_, rfl, ?_⟩⟩)
        by_cases c : b = 0
        · rw [if_pos c]; exact MIN.one (fun v => sumS A v p)
        · rw [if_neg c]; exact MAX.one (fun v => sumS A v p)
      · have hmm : mm < 200000000 := by
          by_cases c : b = 0
          · rw [if_pos c] at e2
            obtain ⟨x, hx, hxe⟩ := e2.1
            rw [← hxe]; exact sum_lt hI hPe (show x < nWy A by omega) (by omega)
          · rw [if_neg c] at e2
            obtain ⟨x, hx, hxe⟩ := e2.1
            rw [← hxe]; exact sum_lt hI hPe (show x < nWy A by omega) (by omega)
        rw [e1]
        refine OK.f (nI_n1 (by omega)) ?_
        by_cases c : b = 0
        · refine OK.t c ?_
          rw [if_pos c] at e2
          have hst := e2.st
          try dsimp only at hst
          by_cases q : mm ≤ sumS A i p
          · rw [if_neg (by omega)] at hst
            exact OK.t (nI_le q (by omega)) (hk _ _ _ _ _ _ (by omega) ⟨i + 1, rfl, hin, rfl, rfl, nI_1 i, rfl, Or.inr ⟨mm, rfl, by rw [if_pos c]; exact hst⟩⟩)
          · rw [if_pos (by omega)] at hst
            exact OK.f (nI_ge (by omega) (by omega)) (hk _ _ _ _ _ _ (by omega) ⟨i + 1, rfl, hin, rfl, rfl, nI_1 i, rfl, Or.inr ⟨_, rfl, by rw [if_pos c]; exact hst⟩⟩)
        · refine OK.f c ?_
          rw [if_neg c] at e2
          have hst := e2.st
          try dsimp only at hst
          by_cases q : sumS A i p ≤ mm
          · rw [if_pos q] at hst
            exact OK.t (nI_le q (by omega)) (hk _ _ _ _ _ _ (by omega) ⟨i + 1, rfl, hin, rfl, rfl, nI_1 i, rfl, Or.inr ⟨mm, rfl, by rw [if_neg c]; exact hst⟩⟩)
          · rw [if_neg q] at hst
            exact OK.f (nI_ge (by omega) (by omega)) (hk _ _ _ _ _ _ (by omega) ⟨i + 1, rfl, hin, rfl, rfl, nI_1 i, rfl, Or.inr ⟨_, rfl, by rw [if_neg c]; exact hst⟩⟩)
    · have e : i = nWy A := by omega
      subst e
      exact OK.t (nI_le (Nat.le_refl _) (by omega)) (OK.s ⟨rfl, hm⟩)
  obtain ⟨⟨r2, m2⟩, f2, g1, g2⟩ := key
  try dsimp only at g1 g2
  subst g1
  rw [f1, cv_s, f2]
  by_cases hz : nWy A = 0
  · rw [hz, if_pos (by rfl)]
    have er : r2 = -1 := by
      rcases g2 with h | ⟨m, -, h⟩
      · exact h.2
      · rw [hz] at h
        by_cases c : b = 0
        · rw [if_pos c] at h; obtain ⟨⟨x, hx, -⟩, -⟩ := h; omega
        · rw [if_neg c] at h; obtain ⟨⟨x, hx, -⟩, -⟩ := h; omega
    rw [er]
    exact ⟨_, wc, cp, m2, rfl, rfl, FX.rf _ _, hp, hO, hFm, Or.inr ⟨hR1, h78⟩, Nat.le_refl _⟩
  · rw [if_neg (nz_i hz (by omega))]
    obtain ⟨⟨w1, c1⟩, e1, hO1, h9, hp1, hF1, hcp⟩ := zc_bring hL hK hI hPe hX hp hO
    try dsimp only at hO1 hp1 hF1
    rw [e1, cvm_s]
    have hfe : fS A (1 <<< (nI p &&& 31)) 8 = fun v => sumS A v p := funext (fun v => fS_1 (by omega) v)
    obtain ⟨m', em', hm'⟩ := g2.resolve_left (fun h => hz h.1)
    by_cases c : b = 0
    · rw [if_pos c] at hm' ⊢
      obtain ⟨⟨r3, w3⟩, e3, ⟨m, em, hm⟩, hw3⟩ := zc_least hI hPe hO1 (by omega) (1 <<< (nI p &&& 31))
      try dsimp only at em hw3
      subst hw3
      rw [hfe] at hm
      rw [e3, cl_s, em, hm.eq hm', ← em']
      exact ⟨_, w3, c1, m2, rfl, rfl, hF1, hp1, ⟨hO1.1.2.1, fun _ => hO1⟩, hFm, Or.inr ⟨hR1, h78⟩, hcp⟩
    · rw [if_neg c] at hm' ⊢
      obtain ⟨⟨r3, w3⟩, e3, ⟨m, em, hm⟩, hw3⟩ := zc_greatest hI hPe hO1 (by omega) (p := p) (by omega)
      try dsimp only at em hw3
      subst hw3
      rw [e3, cl_s, em, hm.eq hm', ← em']
      exact ⟨_, w3, c1, m2, rfl, rfl, hF1, hp1, ⟨hO1.1.2.1, fun _ => hO1⟩, hFm, Or.inr ⟨hR1, h78⟩, hcp⟩
theorem sh_pe : ∀ n, n ≤ 8 → (1 : Int32) <<< (nI n &&& 31) = nI (2 ^ n) ∧ ((1 : Int64) <<< ((nI n).toInt64 &&& 63) - 1).toInt = 2 ^ n - 1 := by decide +kernel
theorem pw_pe : ∀ n, n ≤ 8 → 2 ^ n ≤ 256 := by decide +kernel
theorem q_floor (hL : TLD wc A) (hK : KIN wc A) (hI : INV A) (hPe : PEI A) (hX : NCH A) (hp : PRP wc A) {cp : Nat} (hO : OKC wc A cp) (hT : tol wm = A) (hR : RKC wm A) (a : Int32) : QM cp wc wm A (f_X11_floor cp a wc) (f_X12_floor a wm) := by
  have hN := hI.1
  have h8 := hN.2.1.2
  have hww := nWy_le hN
  obtain ⟨s1, s2⟩ := sh_pe (nPe A) h8
  have s3 := pw_pe (nPe A) h8
  have z0 : (0 : Int32).toInt = 0 := rfl
  have z64 : (0 : Int64).toInt = 0 := rfl
  unfold f_X11_floor f_X12_floor
  rw [hL.1.1.2.1, tol_0 hT 11 rfl, hN.2.1.1, s1, m_in, s2, z64, cl_s, if_b0]
  by_cases h1 : a < 0
  · rw [if_pos h1, if_pos (decide_eq_false (by rw [z_lt, z0] at h1; omega))]; exact QM.rf hp hO hR
  rw [if_neg h1]
  rw [z_lt, z0] at h1
  by_cases h2 : a < nI (2 ^ nPe A)
  · rw [if_pos h2]
    rw [z_lt, nI_toInt (by omega)] at h2
    have h2' : a.toInt ≤ 2 ^ nPe A - 1 := by
      have : ((2 ^ nPe A : Nat) : Int) = (2 : Int) ^ nPe A := by rw [Int.natCast_pow]; rfl
      omega
    rw [if_neg (by rw [decide_eq_true ⟨by omega, h2'⟩]; decide), zc_ways hL.1 hL.2.2.1 hN, cl_s]
    obtain ⟨⟨r2, m2⟩, f2, g2, hR1, h78, hFm⟩ := zm_least hT hI hPe hR a
    try dsimp only at g2 hR1 h78 hFm
    rw [f2, cl_s]
    by_cases hz : nWy A = 0
    · rw [hz, if_pos (by rfl)]
      have er : r2 = -1 := by
        rcases g2 with h | ⟨m, -, h⟩
        · exact h.2
        · rw [hz] at h
          obtain ⟨⟨x, hx, -⟩, -⟩ := h; omega
      rw [er]
      exact ⟨_, wc, cp, m2, rfl, rfl, FX.rf _ _, hp, hO, hFm, Or.inr ⟨hR1, h78⟩, Nat.le_refl _⟩
    · rw [if_neg (nz_i hz (by omega))]
      obtain ⟨⟨w1, c1⟩, e1, hO1, h9, hp1, hF1, hcp⟩ := zc_bring hL hK hI hPe hX hp hO
      try dsimp only at hO1 hp1 hF1
      obtain ⟨m', em', hm'⟩ := g2.resolve_left (fun h => hz h.1)
      obtain ⟨⟨r3, w3⟩, e3, ⟨m, em, hm⟩, hw3⟩ := zc_least hI hPe hO1 (by omega) a
      try dsimp only at em hw3
      subst hw3
      rw [e1, cvm_s, e3, cl_s, em, hm.eq hm', ← em']
      exact ⟨_, w3, c1, m2, rfl, rfl, hF1, hp1, ⟨hO1.1.2.1, fun _ => hO1⟩, hFm, Or.inr ⟨hR1, h78⟩, hcp⟩
  · rw [if_neg h2]
    rw [z_lt, nI_toInt (by omega)] at h2
    have h2' : ¬ a.toInt ≤ 2 ^ nPe A - 1 := by
      have : ((2 ^ nPe A : Nat) : Int) = (2 : Int) ^ nPe A := by rw [Int.natCast_pow]; rfl
      omega
    rw [if_pos (decide_eq_false (fun h => h2' h.2))]
    exact QM.rf hp hO hR
/-! hangs -/
theorem wy_x {f v : Nat} (hf : f < 3) (hv : v < nWy A) : nI v ^^^ (1 <<< (nI f &&& 31)) = nI (v ^^^ 2 ^ f) ∧ v ^^^ 2 ^ f < nWy A := by
  obtain ⟨ho, h0⟩ := nWy_or hv
  constructor
  · rw [(sh_pe f (by omega)).1, fb_xorI]
  · have e : (v ^^^ 2 ^ f) / 8 = v / 8 := Nat.eq_of_testBit_eq (fun i => by
      rw [show (8 : Nat) = 2 ^ 3 from rfl, Nat.testBit_div_two_pow, Nat.testBit_div_two_pow, fb_bit_flip, decide_eq_false (by omega), Bool.xor_false])
    unfold nWy
    rw [if_neg (by omega)]
    omega
def hgS (A : Wd) (f n : Nat) : Bool := anyF (fun v => decide (¬ onO A v = onO A (v ^^^ 2 ^ f))) n
theorem q_hangs (hL : TLD wc A) (hK : KIN wc A) (hI : INV A) (hPe : PEI A) (hX : NCH A) (hp : PRP wc A) {cp : Nat} (hO : OKC wc A cp) (hT : tol wm = A) (hR : RKC wm A) (a : Int32) : QM cp wc wm A (f_X11_hangs cp a wc) (f_X12_hangs a wm) := by
  have hN := hI.1
  have h8 := hN.2.1.2
  have hww := nWy_le hN
  have z0 : (0 : Int32).toInt = 0 := rfl
  have z3 : (3 : Int32).toInt = 3 := rfl
  have z64 : (0 : Int64).toInt = 0 := rfl
  have z642 : (2 : Int64).toInt = 2 := rfl
  unfold f_X11_hangs f_X12_hangs
  rw [m_in, z64, z642, cl_s, if_b0]
  by_cases h1 : a < 0
  · rw [if_pos h1, if_pos (decide_eq_false (by rw [z_lt, z0] at h1; omega))]; exact QM.rf hp hO hR
  rw [if_neg h1]
  rw [z_lt, z0] at h1
  by_cases h2 : a < 3
  · rw [if_pos h2]
    rw [z_lt, z3] at h2
    rw [if_neg (by rw [decide_eq_true ⟨by omega, by omega⟩]; decide), zc_ways hL.1 hL.2.2.1 hN, cl_s, zm_ways hT hN, cl_s]
    obtain ⟨f, hf, rfl⟩ := z_ex (n := 3) (x := a) (by omega) (by omega)
    by_cases hz : nWy A = 0
    · rw [hz, if_pos (by rfl), if_pos (by rfl)]
      exact QM.rf hp hO hR
    · rw [if_neg (nz_i hz (by omega)), if_neg (nz_i hz (by omega))]
      obtain ⟨⟨w1, c1⟩, e1, hO1, h9, hp1, hF1, hcp⟩ := zc_bring hL hK hI hPe hX hp hO
      try dsimp only at hO1 hp1 hF1
      obtain ⟨m1, f1, hR1, h78, hFm⟩ := zm_reckon hT hI hPe hR
      have hTm := PRk_t hFm hT
      have hL1 := hL.fr hN (PBu_t hF1)
      have kc : OK (f_X5_hangOn (nI f) w1) (fun q => q.2 = w1 ∧ q.1 = bI (hgS A f (nWy A))) := by
        unfold f_X5_hangOn
        rw [zc_ways hL1.1 hL1.2.2.1 hN, cl_s]
        refine lo4 (fun m y1 y2 y3 u => ∃ i, m = nWy A - i ∧ i ≤ nWy A ∧ y1 = nI f ∧ y2 = nI (nWy A) ∧ y3 = nI i ∧ w1 = u ∧ hgS A f i = false) ?_ fu (nWy A - 0) (nI f) (nI (nWy A)) 0 w1 (by rw [fu_eq]; omega) ⟨0, rfl, Nat.zero_le _, rfl, rfl, rfl, rfl, rfl⟩
        rintro m k y1 y2 y3 u ⟨i, rfl, hi, rfl, rfl, rfl, rfl, hg⟩ hk
        rw [X5_hangOn_b10]
        by_cases hin : i < nWy A
        · obtain ⟨x1, x2⟩ := wy_x hf hin
          have o1 := on_lt (A := A) hin
          have o2 := on_lt (A := A) x2
          have hcl := cn_le (A := A) (nWy A)
          rw [x1]
          refine OK.f (nI_ge hin (by omega)) (OK.t (z_inb (by omega) (by omega)) (OK.t (z_inb (by omega) (by omega)) ?_))
          rw [nI_clamp (n := i) (by omega), nI_clamp (n := i ^^^ 2 ^ f) (by omega), hO1.2 i hin, hO1.2 _ x2]
          by_cases c : onO A i = onO A (i ^^^ 2 ^ f)
          · refine OK.t (by rw [c]) (hk _ _ _ _ _ (by omega) ⟨i + 1, rfl, hin, rfl, rfl, nI_1 i, rfl, ?_⟩)
            show (hgS A f i || decide (¬ onO A i = onO A (i ^^^ 2 ^ f))) = false
            rw [hg, decide_eq_false (fun h => h c)]; rfl
          · refine OK.f (fun q => c ((nI_eq (by omega) (by omega)).mp q)) (OK.s ⟨rfl, ?_⟩)
            rw [show hgS A f (nWy A) = true from anyF_of hin (decide_eq_true c)]; rfl
        · have e : i = nWy A := by omega
          subst e
          refine OK.t (nI_le (Nat.le_refl _) (by omega)) (OK.s ⟨rfl, ?_⟩)
          rw [hg]; rfl
      have km : OK (X12_hangs_b30_L (nI f) 0 m1) (fun q => q.2 = m1 ∧ q.1 = bI (hgS A f (nWy A))) := by
        refine lo3 (fun m y1 y3 u => ∃ i, m = nWy A - i ∧ i ≤ nWy A ∧ y1 = nI f ∧ y3 = nI i ∧ m1 = u ∧ hgS A f i = false) ?_ fu (nWy A - 0) (nI f) 0 m1 (by rw [fu_eq]; omega) ⟨0, rfl, Nat.zero_le _, rfl, rfl, rfl, rfl⟩
        rintro m k y1 y3 u ⟨i, rfl, hi, rfl, rfl, rfl, hg⟩ hk
        rw [X12_hangs_b30, zm_ways hTm hN, cl_s]
        by_cases hin : i < nWy A
        · obtain ⟨x1, x2⟩ := wy_x hf hin
          have o1 := on_lt (A := A) hin
          have o2 := on_lt (A := A) x2
          have hcl := cn_le (A := A) (nWy A)
          rw [x1]
          refine OK.f (nI_ge hin (by omega)) (OK.t (z_inb (by omega) (by omega)) (OK.t (z_inb (by omega) (by omega)) ?_))
          rw [nI_clamp (n := i) (by omega), nI_clamp (n := i ^^^ 2 ^ f) (by omega), hR1.2.1 i hin, hR1.2.1 _ x2]
          by_cases c : onO A i = onO A (i ^^^ 2 ^ f)
          · refine OK.t (by rw [c]) (hk _ _ _ _ (by omega) ⟨i + 1, rfl, hin, rfl, nI_1 i, rfl, ?_⟩)
            show (hgS A f i || decide (¬ onO A i = onO A (i ^^^ 2 ^ f))) = false
            rw [hg, decide_eq_false (fun h => h c)]; rfl
          · refine OK.f (fun q => c ((nI_eq (by omega) (by omega)).mp q)) (OK.s ⟨rfl, ?_⟩)
            rw [show hgS A f (nWy A) = true from anyF_of hin (decide_eq_true c)]; rfl
        · have e : i = nWy A := by omega
          subst e
          refine OK.t (nI_le (Nat.le_refl _) (by omega)) (OK.s ⟨rfl, ?_⟩)
          rw [hg]; rfl
      obtain ⟨⟨r3, w3⟩, e3, g1, g2⟩ := kc
      obtain ⟨⟨r4, m4⟩, e4, g3, g4⟩ := km
      try dsimp only at g1 g2 g3 g4
      subst g1 g2 g3 g4
      rw [e1, cvm_s, e3, cl_s, f1, cv_s, e4, if_b0]
      have fin : ∀ x, QM cp wc wm A (some (x, w3, c1)) (some (x, m4)) := fun x => ⟨_, w3, c1, m4, rfl, rfl, hF1, hp1, ⟨hO1.1.2.1, fun _ => hO1⟩, hFm, Or.inr ⟨hR1, h78⟩, hcp⟩
      cases hgS A f (nWy A)
      · rw [if_pos rfl]; exact fin 0
      · rw [if_neg (by decide)]; exact fin 1
  · rw [if_neg h2]
    rw [z_lt, z3] at h2
    rw [if_pos (decide_eq_false (fun h => by omega))]
    exact QM.rf hp hO hR
end
