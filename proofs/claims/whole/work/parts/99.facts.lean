/-! facts that nothing hangs on -/
def ugF (A : Wd) (p i n : Nat) : Bool := anyF (fun g => decide (A.1 35 (8 * p + g) = nI (10 + i))) n
def upF (A : Wd) (i n : Nat) : Bool := anyF (fun p => ugF A p i (nGi A p)) n
def ueF (A : Wd) (i n : Nat) : Bool := anyF (fun e => decide (A.1 42 e = nI i)) n
def usd (A : Wd) (i : Nat) : Bool := upF A i (nPa A) || ueF A i (nEv A)
def unS (A : Wd) (i : Nat) : Bool := decide (i < 3) && !usd A i
theorem anyF_of {g : Nat → Bool} {n k : Nat} (hk : k < n) (h : g k = true) : anyF g n = true := anyF_mo (m := k + 1) (by show (anyF g k || g k) = true; rw [h, Bool.or_true]) n hk
theorem b_7 (i : Nat) (hi : i < 32) : bt 7 i = decide (i < 3) := by
  have : ∀ i, i < 32 → bt 7 i = decide (i < 3) := by decide +kernel
  exact this i hi
section
variable {w A : Wd}
theorem zc_used1 {c p : Nat} (hP : PAP1 w A c p) (hA : PAPI A) (hN : NUM A) (hp : p < nPa A) : OK (f_X6_usedFacts c w) (fun r => RB r.1 (fun i => ugF A p i (nGi A p)) ∧ r.2 = w) := by
  have hg : A.1 23 p = nI (nGi A p) ∧ nGi A p < 9 := (hA p hp).1.1.e (by omega)
  have hPe := hN.2.1.2
  unfold f_X6_usedFacts
  refine lo4 (fun m y0 y1 y2 u => ∃ i, m = nGi A p - i ∧ i ≤ nGi A p ∧ y0 = c ∧ RB y1 (fun j => ugF A p j i) ∧ y2 = nI i ∧ w = u) ?_ fu (nGi A p - 0) c 0 0 w (by have : nGi A p < 9 := hg.2; rw [fu_eq]; omega) ⟨0, rfl, Nat.zero_le _, rfl, RB.z, rfl, rfl⟩
  rintro m k y0 y1 y2 u ⟨i, rfl, hi, rfl, hr, rfl, rfl⟩ hk
  have h9 : nGi A p < 9 := hg.2
  rw [X6_usedFacts_b4, hP.1.2.2.2.2.2.2.2.2, hg.1]
  by_cases hin : i < nGi A p
  · refine OK.f (nI_ge hin (by omega)) (OK.t (z_inb (by omega) (by omega)) ?_)
    rw [nI_clamp (n := i) (by omega)]
    obtain ⟨hf0, hf1, hf2⟩ := (hP.2.2.2 i hin).2.2.2
    have hno : (∀ j, j < 32 → ¬ A.1 35 (8 * p + i) = nI (10 + j)) → RB y1 (fun j => ugF A p j (i + 1)) := fun h => hr.cg (fun j hj => by
      show _ = (ugF A p j i || decide (A.1 35 (8 * p + i) = nI (10 + j)))
      rw [decide_eq_false (h j hj), Bool.or_false])
    rcases ((hA p hp).2.2.2.2.1 i hin).2.2.1 with e | e | ⟨f, hf, e⟩
    · rw [hf0 e]
      refine OK.f (by decide) (OK.t (z_inb (by omega) (by omega)) (OK.f (by decide) (hk _ _ _ _ _ (by omega) ⟨i + 1, rfl, hin, rfl, hno (fun j hj => ?_), nI_1 i, rfl⟩)))
      rw [e]; exact fun q => nI_n1 (by omega) q.symm
    · have e' := e.e (by omega)
      have hq : (A.1 35 (8 * p + i)).toNatClampNeg < nPe A := e'.2
      rw [(hf1 _ (by omega) e'.1).2]
      have hk2 := hk _ y0 y1 (nI i + 1) w (by omega) ⟨i + 1, rfl, hin, rfl, hno (fun j hj => by rw [e'.1]; intro q; rw [nI_eq (by omega) (by omega)] at q; omega), nI_1 i, rfl⟩
      · by_cases q : A.1 37 (8 * p + i) = 0
        · rw [if_pos q]
          exact OK.f (by decide) (OK.t (z_inb (by omega) (by omega)) (OK.f (by decide) hk2))
        · rw [if_neg q]
          exact OK.f (by decide) (OK.t (z_inb (by omega) (by omega)) (OK.f (by decide) hk2))
    · have hb : OK (X6_usedFacts_b32 k y0 y1 (nI i) w) (fun r => RB r.1 (fun i => ugF A p i (nGi A p)) ∧ r.2 = w) := by
        unfold X6_usedFacts_b32
        refine OK.t (z_inb (by omega) (by omega)) ?_
        rw [nI_clamp (n := i) (by omega), (hf2 f hf e).1]
        unfold f_X6_bit
        rw [if_pos (show (0 : Int32) ≤ nI f from by rw [z_le, nI_toInt (by omega)]; show (0 : Int) ≤ _; omega), cl_s]
        refine OK.l (hk _ _ _ _ _ (by omega) ⟨i + 1, rfl, hin, rfl, ?_, nI_1 i, rfl⟩)
        refine (hr.or (RB.one (by omega))).cg (fun j hj => ?_)
        show (ugF A p j i || decide (j = f)) = (ugF A p j i || decide (A.1 35 (8 * p + i) = nI (10 + j)))
        congr 1
        rw [e]
        refine decide_eq_decide.mpr ?_
        rw [nI_eq (by omega) (by omega)]; omega
      rw [(hf2 f hf e).2]
      by_cases q : A.1 37 (8 * p + i) = 0
      · rw [if_pos q]
        exact OK.f (by decide) (OK.t (z_inb (by omega) (by omega)) (OK.t rfl hb))
      · rw [if_neg q]
        exact OK.t rfl hb
  · have e : i = nGi A p := by omega
    subst e
    exact OK.t (nI_le (Nat.le_refl _) (by omega)) (OK.s ⟨hr, rfl⟩)
theorem zc_unused (hL : TLD w A) (hI : INV A) : OK (f_X2_unusedFacts w) (fun r => RB r.1 (unS A) ∧ r.2 = w) := by
  obtain ⟨hN, -, hA, hEv, -⟩ := hI
  have h4 := hN.2.2.2.1
  have h5 := hN.2.2.2.2.1
  unfold f_X2_unusedFacts
  refine lo3 (fun m y1 y2 u => ∃ i, m = nPa A - i ∧ i ≤ nPa A ∧ RB y1 (fun j => upF A j i) ∧ y2 = nI i ∧ w = u) ?_ fu (nPa A - 0) 0 0 w (by rw [fu_eq]; omega) ⟨0, rfl, Nat.zero_le _, RB.z, rfl, rfl⟩
  rintro m k y1 y2 u ⟨i, rfl, hi, hr, rfl, rfl⟩ hk
  rw [X2_unusedFacts_b4, hL.2.1.1, h4.1]
  by_cases hin : i < nPa A
  · refine OK.f (nI_ge hin (by omega)) (OK.t (z_inb (by omega) (by omega)) ?_)
    rw [nI_clamp (n := i) (by omega)]
    refine OK.c ((zc_used1 (hL.2.2.2.1 i hin) hA hN hin).m (fun r h => ?_))
    obtain ⟨h1, h2⟩ := h
    rw [h2]
    exact OK.l (hk _ _ _ _ (by omega) ⟨i + 1, rfl, hin, hr.or h1, nI_1 i, rfl⟩)
  · have e : i = nPa A := by omega
    subst e
    refine OK.t (nI_le (Nat.le_refl _) (by omega)) ?_
    clear hk
    refine lo3 (fun m y1 y2 u => ∃ i, m = nEv A - i ∧ i ≤ nEv A ∧ RB y1 (fun j => upF A j (nPa A) || ueF A j i) ∧ y2 = nI i ∧ w = u) ?_ fu (nEv A - 0) y1 0 w (by rw [fu_eq]; omega) ⟨0, rfl, Nat.zero_le _, hr.cg (fun j _ => (Bool.or_false _).symm), rfl, rfl⟩
    clear hr
    rintro m k y1 y2 u ⟨i, rfl, hi, hr, rfl, rfl⟩ hk
    rw [X2_unusedFacts_b32, hL.2.1.2, h5.1]
    by_cases hin : i < nEv A
    · refine OK.f (nI_ge hin (by omega)) (OK.t (z_inb (by omega) (by omega)) ?_)
      rw [nI_clamp (n := i) (by omega), (hL.2.2.2.2 i hin).2.2.2.2]
      rcases (hEv i hin).2.2.1 with e | e
      · rw [e]
        refine OK.f (by decide) (OK.l (hk _ _ _ _ (by omega) ⟨i + 1, rfl, hin, ?_, nI_1 i, rfl⟩))
        refine (hr.or RB.z).cg (fun j hj => ?_)
        show ((upF A j (nPa A) || ueF A j i) || false) = (upF A j (nPa A) || (ueF A j i || decide (A.1 42 i = nI j)))
        rw [e, decide_eq_false (fun q => nI_n1 (by omega) q.symm), Bool.or_false, Bool.or_false]
      · have e' := e.e (by omega)
        have h3 : (A.1 42 i).toNatClampNeg < 3 := e'.2
        refine OK.t (by rw [e'.1, z_le, nI_toInt (by omega)]; show (0 : Int) ≤ _; omega) (OK.t (z_inb (by omega) (by omega)) (OK.l (hk _ _ _ _ (by omega) ⟨i + 1, rfl, hin, ?_, nI_1 i, rfl⟩)))
        have h1 : RB (1 <<< (A.1 42 i &&& 31)) (fun j => decide (j = (A.1 42 i).toNatClampNeg)) := by
          have := RB.one (p := (A.1 42 i).toNatClampNeg) (by omega)
          rw [← e'.1] at this; exact this
        refine (hr.or h1).cg (fun j hj => ?_)
        show ((upF A j (nPa A) || ueF A j i) || decide (j = (A.1 42 i).toNatClampNeg)) = (upF A j (nPa A) || (ueF A j i || decide (A.1 42 i = nI j)))
        rw [Bool.or_assoc]
        congr 2
        refine decide_eq_decide.mpr ?_
        constructor
        · intro q; rw [q]; exact e'.1
        · intro q; rw [q, nI_clamp (by omega)]
    · have e : i = nEv A := by omega
      subst e
      refine OK.t (nI_le (Nat.le_refl _) (by omega)) (OK.s ⟨?_, rfl⟩)
      intro j hj
      show bt (7 &&& (y1 ^^^ -1)) j = _
      rw [b_and, b_7 j hj, z_not hj, hr j hj]; rfl
/-! ways that agree on what is used -/
def AGR (A : Wd) (f f' : Nat) : Prop := ∀ i, i < 3 → usd A i = true → bt (nI f) i = bt (nI f') i
theorem ev_cg (hI : INV A) {f f' : Nat} (h : AGR A f f') {e : Nat} (he : e < nEv A) : evSo A e f = evSo A e f' := by
  unfold evSo
  rcases (hI.2.2.2.1 e he).2.2.1 with q | q
  · rw [q]; rfl
  · have e' := q.e (by omega)
    have h3 : (A.1 42 e).toNatClampNeg < 3 := e'.2
    rw [h _ h3 (by
      unfold usd
      rw [show ueF A (A.1 42 e).toNatClampNeg (nEv A) = true from anyF_of he (decide_eq_true e'.1), Bool.or_true])]
theorem so_cg (hI : INV A) {f f' : Nat} (h : AGR A f f') {p g : Nat} (hp : p < nPa A) (hg : g < nGi A p) : soS A f (8 * p + g) = soS A f' (8 * p + g) := by
  unfold soS
  have hPe := hI.1.2.1.2
  rcases ((hI.2.2.1 p hp).2.2.2.2.1 g hg).2.2.1 with e | e | ⟨i, hi, e⟩
  · rw [e]; rfl
  · have e' := e.e (by omega)
    have hq : (A.1 35 (8 * p + g)).toNatClampNeg < nPe A := e'.2
    rw [if_pos (show (A.1 35 (8 * p + g)).toNatClampNeg < 10 by omega), if_pos (show (A.1 35 (8 * p + g)).toNatClampNeg < 10 by omega)]
  · have hu : usd A i = true := by
      unfold usd
      rw [show upF A i (nPa A) = true from anyF_of hp (show ugF A p i (nGi A p) = true from anyF_of hg (decide_eq_true e)), Bool.true_or]
    rw [e, nI_clamp (by omega), if_neg (show ¬ 10 + i < 10 by omega), if_neg (show ¬ 10 + i < 10 by omega), show 10 + i - 10 = i by omega, h i hi hu]
theorem hd_cg (hI : INV A) {f f' : Nat} (h : AGR A f f') {l p g : Nat} {vo : Nat → Bool} (hp : p < nPa A) (hg : g < nGi A p) : hdS A l vo f p (8 * p + g) = hdS A l vo f' p (8 * p + g) := by
  unfold hdS; rw [so_cg hI h hp hg]
theorem run_cg (hI : INV A) {f f' : Nat} (h : AGR A f f') {gd ua : Nat → Bool} {l o : Nat} (ho : o < nOr A) : runS A gd ua l f o = runS A gd ua l f' o := by
  have : ∀ i, i ≤ nIt A → runF A gd ua l f o i = runF A gd ua l f' o i := by
    intro i
    induction i with
    | zero => intro _; rfl
    | succ i ih =>
      intro hi
      show stepS A gd ua l f (itS A o i) (runF A gd ua l f o i) = stepS A gd ua l f' (itS A o i) (runF A gd ua l f' o i)
      rw [ih (by omega)]
      unfold stepS
      by_cases c : itS A o i < nPa A
      · rw [if_pos c, if_pos c]
      · rw [if_neg c, if_neg c]
        have h6 := hI.1.2.2.2.2.2.1
        have hb : itS A o i < nIt A := (((hI.2.2.2.2 o ho).1 i (by omega)).e (by unfold nIt; omega)).2
        rw [ev_cg hI h (show itS A o i - nPa A < nEv A by unfold nIt at hb; omega)]
  exact this _ (Nat.le_refl _)
theorem gf_cg (hI : INV A) {f f' : Nat} (h : AGR A f f') {l p t : Nat} {vo : Nat → Bool} (hp : p < nPa A) : ∀ j g, g + j ≤ nGi A p → gfF A l vo f p t j g = gfF A l vo f' p t j g := by
  intro j
  induction j with
  | zero => intro g _; rfl
  | succ j ih =>
    intro g hg
    show (if A.1 32 (8 * p + g) = nI t ∧ hdS A l vo f p (8 * p + g) = true then _ else gfF A l vo f p t j (g + 1)) = (if A.1 32 (8 * p + g) = nI t ∧ hdS A l vo f' p (8 * p + g) = true then _ else gfF A l vo f' p t j (g + 1))
    rw [hd_cg hI h hp (by omega), ih (g + 1) (by omega)]
theorem gv_cg (hI : INV A) {f f' : Nat} (h : AGR A f f') {l o t : Nat} {cn vo : Nat → Bool} : ∀ i, gvF A l cn vo f o t i = gvF A l cn vo f' o t i := by
  intro i
  induction i with
  | zero => rfl
  | succ i ih =>
    show (if itS A o i < nPa A then oE (gi1 A l cn vo f t (itS A o i) (nGi A (itS A o i)) 0) (gvF A l cn vo f o t i) else gvF A l cn vo f o t i) = (if itS A o i < nPa A then oE (gi1 A l cn vo f' t (itS A o i) (nGi A (itS A o i)) 0) (gvF A l cn vo f' o t i) else gvF A l cn vo f' o t i)
    rw [ih]
    by_cases c : itS A o i < nPa A
    · rw [if_pos c, if_pos c]
      unfold gi1
      rw [gf_cg hI h c _ 0 (by omega)]
    · rw [if_neg c, if_neg c]
theorem py_cg (hI : INV A) {f f' : Nat} (h : AGR A f f') {l o : Nat} {cn vo : Nat → Bool} : ∀ i, pyP A l cn vo f o i = pyP A l cn vo f' o i := by
  intro i
  have hg : ∀ p, p < nPa A → ∀ g, g ≤ nGi A p → pgP A l vo f p g = pgP A l vo f' p g := by
    intro p hp g
    induction g with
    | zero => intro _; rfl
    | succ g ih =>
      intro hg
      show pgP A l vo f p g ++ (if A.1 32 (8 * p + g) = -1 ∧ hdS A l vo f p (8 * p + g) = true then _ else _) = pgP A l vo f' p g ++ (if A.1 32 (8 * p + g) = -1 ∧ hdS A l vo f' p (8 * p + g) = true then _ else _)
      rw [ih (by omega), hd_cg hI h hp (by omega)]
  induction i with
  | zero => rfl
  | succ i ih =>
    show pyP A l cn vo f o i ++ (if itS A o i < nPa A ∧ cn (itS A o i) = true then pgP A l vo f (itS A o i) (nGi A (itS A o i)) else []) = pyP A l cn vo f' o i ++ (if itS A o i < nPa A ∧ cn (itS A o i) = true then pgP A l vo f' (itS A o i) (nGi A (itS A o i)) else [])
    rw [ih]
    by_cases c : itS A o i < nPa A ∧ cn (itS A o i) = true
    · rw [if_pos c, if_pos c, hg _ c.1 _ (Nat.le_refl _)]
    · rw [if_neg c, if_neg c]
/-- like ways -/
def AGW (A : Wd) (a b : Nat) : Prop := a / 8 = b / 8 ∧ AGR A (a % 8) (b % 8)
theorem tv_cg (hI : INV A) {a b : Nat} (h : AGW A a b) (ha : a < nWy A) (t i : Nat) : tV A a t i = tV A b t i := by
  have ho := (nWy_or ha).1
  unfold tV cnU voU RU
  rw [← h.1, run_cg hI h.2 ho]
  unfold thV
  rw [gv_cg hI h.2]
theorem sum_cg (hI : INV A) {a b : Nat} (h : AGW A a b) (ha : a < nWy A) (i : Nat) : sumS A a i = sumS A b i := by
  have ho := (nWy_or ha).1
  have e1 : pyW A a = pyW A b := by
    unfold pyW cnU voU RU
    rw [← h.1, run_cg hI h.2 ho, py_cg hI h.2]
  have e2 : smT A a (nTh A) i = smT A b (nTh A) i := by
    unfold smT
    exact fb_sm_cong (fun t _ => tv_cg hI h ha t i)
  unfold sumS mP mL
  rw [e1, e2]
  unfold cnU voU RU
  rw [← h.1, run_cg hI h.2 ho]
theorem like_cg (hI : INV A) {a b : Nat} (h : AGW A a b) (ha : a < nWy A) : likeS A a b = true := decide_eq_true (fun p _ => by unfold sI; rw [sum_cg hI h ha])
end
/-! a way without its unused facts -/
theorem b_nI (n i : Nat) (hi : i < 32) : bt (nI n) i = n.testBit i := by
  show (BitVec.ofNat 32 n).getLsbD i = _
  rw [BitVec.getLsbD_ofNat, decide_eq_true hi, Bool.true_and]
theorem z_sm3 {x : Int32} (h : ∀ i, 3 ≤ i → i < 32 → bt x i = false) : ∃ k, k < 8 ∧ x = nI k := by
  have e : x &&& 7 = x := b_ext (fun i hi => by
    rw [b_and, b_7 i hi]
    by_cases c : i < 3
    · rw [decide_eq_true c, Bool.and_true]
    · rw [decide_eq_false c, Bool.and_false, h i (by omega) hi])
  obtain ⟨j, hj, ej⟩ := pk_andE x (m := 7) 3 (by decide)
  exact ⟨j, hj, e.symm.trans ej⟩
theorem wy_red {A : Wd} {U : Int32} (hU : RB U (unS A)) (v : Nat) : ∃ v', nI v &&& (U ^^^ (-1)) = nI v' ∧ v' ≤ v ∧ AGW A v v' ∧ (¬ nI v &&& U = 0 → v' < v) := by
  obtain ⟨u, hu, rfl⟩ := z_sm3 (x := U) (fun i h hi => by rw [hU i hi]; unfold unS; rw [decide_eq_false (by omega), Bool.false_and])
  have hb : ∀ i, (v ^^^ (v &&& u)).testBit i = (v.testBit i && !u.testBit i) := fun i => by
    rw [Nat.testBit_xor, Nat.testBit_and]; cases v.testBit i <;> cases u.testBit i <;> rfl
  have hhi : ∀ i, 3 ≤ i → u.testBit i = false := fun i hi => Nat.testBit_lt_two_pow (Nat.lt_of_lt_of_le hu (show 2 ^ 3 ≤ 2 ^ i from Nat.pow_le_pow_right (by omega) hi))
  have hle : v ^^^ (v &&& u) ≤ v := by
    have e : (v ^^^ (v &&& u)) &&& v = v ^^^ (v &&& u) := Nat.eq_of_testBit_eq (fun i => by
      rw [Nat.testBit_and, hb]; cases v.testBit i <;> cases u.testBit i <;> rfl)
    rw [← e]; exact Nat.and_le_right
  refine ⟨v ^^^ (v &&& u), b_ext (fun i hi => ?_), hle, ⟨?_, fun i hi hs => ?_⟩, fun hz => ?_⟩
  · rw [b_and, z_not hi, b_nI _ _ hi, b_nI _ _ hi, b_nI _ _ hi, hb]
  · refine Nat.eq_of_testBit_eq (fun i => ?_)
    rw [show (8 : Nat) = 2 ^ 3 from rfl, Nat.testBit_div_two_pow, Nat.testBit_div_two_pow, hb, hhi _ (by omega), Bool.not_false, Bool.and_true]
  · have hu' : u.testBit i = false := by
      have := hU i (by omega)
      rw [b_nI _ _ (by omega)] at this
      rw [this]; unfold unS; rw [hs, Bool.not_true, Bool.and_false]
    rw [b_nI _ _ (by omega), b_nI _ _ (by omega), show (8 : Nat) = 2 ^ 3 from rfl, Nat.testBit_mod_two_pow, Nat.testBit_mod_two_pow, hb, hu', Bool.not_false, Bool.and_true]
  · rcases Nat.lt_or_ge (v ^^^ (v &&& u)) v with q | q
    · exact q
    · exfalso
      have e : v ^^^ (v &&& u) = v := Nat.le_antisymm hle q
      refine hz (b_ext (fun i hi => ?_))
      have := hb i
      rw [e] at this
      rw [b_and, b_nI _ _ hi, b_nI _ _ hi, b_0]
      revert this
      cases v.testBit i <;> cases u.testBit i <;> simp
