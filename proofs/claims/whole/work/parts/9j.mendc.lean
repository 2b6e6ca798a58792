/-! the search at the desk -/
def GC (A : Wd) (p l : Nat) (ch : Int32) : Bool := gdX A (decide (¬ A.1 30 p = 0) || decide (¬ ch &&& 1 = 0)) (decide (¬ A.1 28 p = 0) || decide (¬ ch &&& 2 = 0)) (decide (¬ A.1 29 p = 0) && decide (ch &&& 4 = 0)) (if ch &&& 8 = 0 then 0 else 1) p l
def UC (A : Wd) (p : Nat) (ch : Int32) : Bool := decide (¬ A.1 31 p = 0) || decide (¬ ch &&& 16 = 0)
def LC (ch : Int32) : Bool := decide (¬ ch &&& 32 = 0)
def VC (A : Wd) (p t q : Nat) (ch : Int32) : Prop := VR A p t q (GC A p (lwT A t) ch) (UC A p ch) (LC ch)
def kyM (G U L : Bool) : Nat := (if G then 1 else 0) + (if U then 2 else 0) + (if L then 4 else 0)
theorem kyM_lt (G U L : Bool) : kyM G U L < 8 := by cases G <;> cases U <;> cases L <;> decide
theorem kyM_in {G U L G' U' L' : Bool} (h : kyM G U L = kyM G' U' L') : G = G' ∧ U = U' ∧ L = L' := by
  revert h; cases G <;> cases U <;> cases L <;> cases G' <;> cases U' <;> cases L' <;> decide
def MEM (w A : Wd) (p t q : Nat) : Prop := ∀ G U L, w.1 29 (kyM G U L) = 0 ∨ (w.1 29 (kyM G U L) = 1 ∧ VR A p t q G U L) ∨ (w.1 29 (kyM G U L) = 2 ∧ ¬ VR A p t q G U L)
def PCM (a k : Nat) : Prop := PCS a k ∨ a = 29
theorem PCS_m {w w' : Wd} (h : FX PCS w w') : FX PCM w w' := h.mo (fun a k q => Or.inl q)
theorem PCM_t {w w' : Wd} (h : FX PCM w w') : TFR w w' := ⟨h.1, fun a k ha => h.2 a k (by unfold PCM PCS; omega)⟩
theorem MEM.fr {w w' A : Wd} {p t q : Nat} (h : MEM w A p t q) (f : ∀ k, w'.1 29 k = w.1 29 k) : MEM w' A p t q := fun G U L => by rw [f]; exact h G U L
theorem MEM.wr {w A : Wd} {p t q : Nat} (h : MEM w A p t q) {G U L : Bool} {x : Int32} (hx : (x = 1 ∧ VR A p t q G U L) ∨ (x = 2 ∧ ¬ VR A p t q G U L)) : MEM (wI w 29 (kyM G U L) x) A p t q := fun G' U' L' => by
  rw [wI_g]
  by_cases c : kyM G' U' L' = kyM G U L
  · obtain ⟨rfl, rfl, rfl⟩ := kyM_in c
    rw [if_pos ⟨rfl, rfl⟩]
    rcases hx with ⟨rfl, h2⟩ | ⟨rfl, h2⟩
    · exact Or.inr (Or.inl ⟨rfl, h2⟩)
    · exact Or.inr (Or.inr ⟨rfl, h2⟩)
  · rw [if_neg (fun e => c e.2)]; exact h G' U' L'
section
variable {w A : Wd}
theorem zc_mendFor (hL : TLD w A) (hI : INV A) (hX : NCH A) (h0 : 0 < nLa A) {p t : Nat} (hp : p < nPa A) (ht : t < nTh A) (G U : Bool) : OK (f_X7_mendFor (nI t) (nI p) (bI G) (bI U) w) (fun v => PRS v A (84 + 3 * lwT A t) (gM A (lwT A t) p G) (uM A p U) (lwT A t) ∧ v.1 13 t = nI (lwT A t) ∧ FX PCS w v) := by
  have hN := hI.1
  have hL4 := hN.1.2
  have hT8 := hN.2.2.1.2
  have h4 := hN.2.2.2.1.2
  have hl : lwT A t < nLa A := lwX_lt hI.2.1 hN h0 (x := nI t) (Or.inr ⟨t, ht, rfl⟩)
  unfold f_X7_mendFor
  refine OK.v ((zc_prep hL hI hX h0).m ?_)
  rintro w1 ⟨hr, -, hF⟩
  have e13 : w1.1 13 t = nI (lwT A t) := hr.2.2.2 t ht
  refine OK.t (z_inb (by omega) (by omega)) ?_
  rw [nI_clamp (n := t) (by omega), e13]
  refine OK.t (z_inb (by omega) (by omega)) ?_
  rw [nI_clamp (by omega)]
  obtain ⟨a6, a7, a4, a5, ae⟩ := hr.1 _ hl
  have b6 : ∀ (x : Int32), x = (if G = false then w1.1 (84 + 3 * lwT A t) 6 &&& ((1 <<< (nI p &&& 31)) ^^^ (-1)) else w1.1 (84 + 3 * lwT A t) 6 ||| (1 <<< (nI p &&& 31))) → RB x (gM A (lwT A t) p G) := by
    rintro x rfl
    cases G
    · rw [if_pos rfl]
      refine (a6.and (RB.one (p := p) (by omega)).not).cg (fun j _ => ?_)
      unfold gM
      by_cases c : j = p
      · rw [if_pos c, decide_eq_true c, Bool.not_true, Bool.and_false]
      · rw [if_neg c, decide_eq_false c, Bool.not_false, Bool.and_true]
    · rw [if_neg (by decide)]
      refine (a6.or (RB.one (p := p) (by omega))).cg (fun j _ => ?_)
      unfold gM
      by_cases c : j = p
      · rw [if_pos c, decide_eq_true c, Bool.or_true]
      · rw [if_neg c, decide_eq_false c, Bool.or_false]
  have b7 : ∀ (x : Int32), x = (if U = false then w1.1 (84 + 3 * lwT A t) 7 &&& ((1 <<< (nI p &&& 31)) ^^^ (-1)) else w1.1 (84 + 3 * lwT A t) 7 ||| (1 <<< (nI p &&& 31))) → RB x (uM A p U) := by
    rintro x rfl
    cases U
    · rw [if_pos rfl]
      refine (a7.and (RB.one (p := p) (by omega)).not).cg (fun j _ => ?_)
      unfold uM
      by_cases c : j = p
      · rw [if_pos c, decide_eq_true c, Bool.not_true, Bool.and_false]
      · rw [if_neg c, decide_eq_false c, Bool.not_false, Bool.and_true]
    · rw [if_neg (by decide)]
      refine (a7.or (RB.one (p := p) (by omega))).cg (fun j _ => ?_)
      unfold uM
      by_cases c : j = p
      · rw [if_pos c, decide_eq_true c, Bool.or_true]
      · rw [if_neg c, decide_eq_false c, Bool.or_false]
  have fin : ∀ x6 x7, RB x6 (gM A (lwT A t) p G) → RB x7 (uM A p U) → PRS (wI (wI w1 (84 + 3 * lwT A t) 6 x6) (84 + 3 * lwT A t) 7 x7) A (84 + 3 * lwT A t) (gM A (lwT A t) p G) (uM A p U) (lwT A t) ∧ (wI (wI w1 (84 + 3 * lwT A t) 6 x6) (84 + 3 * lwT A t) 7 x7).1 13 t = nI (lwT A t) ∧ FX PCS w (wI (wI w1 (84 + 3 * lwT A t) 6 x6) (84 + 3 * lwT A t) 7 x7) := by
    intro x6 x7 g6 g7
    refine ⟨⟨?_, ?_, ?_, ?_, fun e he => ?_⟩, ?_, ((PP_s hF).tr (FX.w _ _ (by unfold PCS; omega))).tr (FX.w _ _ (by unfold PCS; omega))⟩
    · rw [wI_g, if_neg (by omega), wI_s]; exact g6
    · rw [wI_s]; exact g7
    · rw [wI_g, if_neg (by omega), wI_g, if_neg (by omega)]; exact a4
    · rw [wI_g, if_neg (by omega), wI_g, if_neg (by omega)]; exact a5
    · rw [wI_g, if_neg (by omega), wI_g, if_neg (by omega)]; exact ae e he
    · rw [wI_g, if_neg (by omega), wI_g, if_neg (by omega)]; exact e13
  have h29 : ∀ x6, RB x6 (gM A (lwT A t) p G) → OK (X8_setMended_b29 (84 + 3 * lwT A t) (bI U) (1 <<< (nI p &&& 31)) x6 (84 + 3 * lwT A t) w1) (fun v => PRS v A (84 + 3 * lwT A t) (gM A (lwT A t) p G) (uM A p U) (lwT A t) ∧ v.1 13 t = nI (lwT A t) ∧ FX PCS w v) := by
    intro x6 g6
    unfold X8_setMended_b29
    refine OK.l ?_
    rw [if_b0, show (wI w1 (84 + 3 * lwT A t) 6 x6).1 (84 + 3 * lwT A t) 7 = w1.1 (84 + 3 * lwT A t) 7 by rw [wI_g, if_neg (by omega)]]
    refine OK.i (fun e => OK.l (OK.s (fin x6 _ g6 (b7 _ (if_pos e).symm)))) (fun e => OK.l (OK.s (fin x6 _ g6 (b7 _ (if_neg e).symm))))
  refine OK.v (OK.m (P := fun v => PRS v A (84 + 3 * lwT A t) (gM A (lwT A t) p G) (uM A p U) (lwT A t) ∧ v.1 13 t = nI (lwT A t) ∧ FX PCS w v) ?_ (fun v h => OK.s h))
  unfold f_X8_setMended
  refine OK.l ?_
  rw [if_b0]
  exact OK.i (fun e => h29 _ (b6 _ (if_pos e).symm)) (fun e => h29 _ (b6 _ (if_neg e).symm))
theorem zc_enough (hL : TLD w A) (hK : KIN w A) (hI : INV A) (hPe : PEI A) (hX : NCH A) {p t q : Nat} (hp : p < nPa A) (ht : t < nTh A) (hq : q < nPe A) (h0 : 0 < nLa A) (hA : ASK3 w p t q) (h6 : w.1 28 6 = nI (lwT A t)) (hM : MEM w A p t q) (c : Int32) : OK (f_X3_isEnough c w) (fun r => ((r.1 = 1 ∧ VC A p t q c) ∨ (r.1 = 0 ∧ ¬ VC A p t q c)) ∧ MEM r.2 A p t q ∧ FX PCM w r.2) := by
  have hN := hI.1
  have h4 := hN.2.2.2.1.2
  have hl : lwT A t < nLa A := lwX_lt hI.2.1 hN h0 (x := nI t) (Or.inr ⟨t, ht, rfl⟩)
  have h153 : ∀ G U L v, VR A p t q G U L = VC A p t q c → MEM v A p t q → FX PCM w v → ¬ v.1 29 (kyM G U L) = 0 → OK (X3_isEnough_b153 (nI (kyM G U L)) v) (fun r => ((r.1 = 1 ∧ VC A p t q c) ∨ (r.1 = 0 ∧ ¬ VC A p t q c)) ∧ MEM r.2 A p t q ∧ FX PCM w r.2) := by
    intro G U L v hV hm hF hn
    have hk8 := kyM_lt G U L
    unfold X3_isEnough_b153
    refine OK.t (z_inb hk8 (by omega)) ?_
    rw [nI_clamp (by omega), ← hV]
    rcases hm G U L with e | ⟨e, h⟩ | ⟨e, h⟩
    · exact absurd e hn
    · exact OK.t e (OK.s ⟨Or.inl ⟨rfl, h⟩, hm, hF⟩)
    · exact OK.f (by rw [e]; decide) (OK.s ⟨Or.inr ⟨rfl, h⟩, hm, hF⟩)
  have h102 : ∀ G U L t0 t1, VR A p t q G U L = VC A p t q c → t1 + t0 = nI (kyM G U L) → OK (X3_isEnough_b102 (bI G) (bI U) (bI L) t0 t1 w) (fun r => ((r.1 = 1 ∧ VC A p t q c) ∨ (r.1 = 0 ∧ ¬ VC A p t q c)) ∧ MEM r.2 A p t q ∧ FX PCM w r.2) := by
    intro G U L t0 t1 hV hs
    have hk8 := kyM_lt G U L
    unfold X3_isEnough_b102
    rw [hs]
    refine OK.l (OK.t (z_inb hk8 (by omega)) ?_)
    rw [nI_clamp (n := kyM G U L) (by omega)]
    refine OK.i (fun _ => ?_) (fun hn => h153 G U L w hV hM (FX.rf _ _) hn)
    rw [hA.1, hA.2.1]
    refine OK.v ((zc_mendFor hL hI hX h0 hp ht G U).m ?_)
    rintro w1 ⟨hr1, e13, hF1⟩
    have hT1 := PCS_t hF1
    have hA1 : ASK3 w1 p t q := ⟨(hF1.2 _ _ (by unfold PCS; omega)).trans hA.1, (hF1.2 _ _ (by unfold PCS; omega)).trans hA.2.1, (hF1.2 _ _ (by unfold PCS; omega)).trans hA.2.2⟩
    refine OK.c ((zc_right (L := L) (hL.fr hN hT1) (hK.fr hT1) hI hPe hp ht hq h0 hA1 hr1 e13).m ?_)
    rintro ⟨r, w2⟩ ⟨hv, hF2⟩
    dsimp only at hv hF2 ⊢
    have hF3 := hF1.tr (PQ_s hF2)
    have hM2 : MEM w2 A p t q := hM.fr (fun k => hF3.2 _ _ (by unfold PCS; omega))
    rcases hv with ⟨rfl, hv⟩ | ⟨rfl, hv⟩
    · refine OK.f (by decide) (OK.t (z_inb hk8 (by omega)) (OK.l (h153 G U L _ hV (hM2.wr (Or.inl ⟨rfl, hv⟩)) ((PCS_m hF3).tr (FX.w _ _ (Or.inr rfl))) ?_)))
      rw [wI_s]; decide
    · refine OK.t rfl (OK.t (z_inb hk8 (by omega)) (OK.l (h153 G U L _ hV (hM2.wr (Or.inr ⟨rfl, hv⟩)) ((PCS_m hF3).tr (FX.w _ _ (Or.inr rfl))) ?_)))
      rw [wI_s]; decide
  have h71 : ∀ G U L, VR A p t q G U L = VC A p t q c → OK (X3_isEnough_b71 (bI G) (bI U) (bI L) w) (fun r => ((r.1 = 1 ∧ VC A p t q c) ∨ (r.1 = 0 ∧ ¬ VC A p t q c)) ∧ MEM r.2 A p t q ∧ FX PCM w r.2) := by
    intro G U L hV
    have hh := h102 G U L (if L = true then 4 else 0) ((if G = true then 1 else 0) + (if U = true then 2 else 0)) hV (by cases G <;> cases U <;> cases L <;> decide)
    unfold X3_isEnough_b71 X3_isEnough_b82 X3_isEnough_b91
    cases G <;> cases U <;> cases L <;> exact hh
  have h58 : ∀ U, U = UC A p c → OK (X3_isEnough_b58 c (bI (GC A p (lwT A t) c)) (bI U) w) (fun r => ((r.1 = 1 ∧ VC A p t q c) ∨ (r.1 = 0 ∧ ¬ VC A p t q c)) ∧ MEM r.2 A p t q ∧ FX PCM w r.2) := by
    rintro U rfl
    have hh := h71 (GC A p (lwT A t) c) (UC A p c) (LC c) rfl
    unfold X3_isEnough_b58
    refine OK.i (fun e => ?_) (fun e => ?_)
    · rw [show LC c = false from decide_eq_false (fun h => h e)] at hh; exact hh
    · rw [show LC c = true from decide_eq_true e] at hh; exact hh
  unfold f_X3_isEnough
  rw [hA.1, h6]
  refine OK.t (z_inb (by omega) (by omega)) ?_
  rw [nI_clamp (n := p) (by omega), zc_good hL.1 hL.2.2.2.1 hN hI.2.2.1 hp hl c, cl_s, hA.1]
  refine OK.t (z_inb (by omega) (by omega)) ?_
  obtain ⟨⟨-, -, -, -, f4, -⟩, -⟩ := hL.2.2.2.1 p hp
  rw [nI_clamp (n := p) (by omega), f4]
  refine OK.i (fun e => OK.i (fun e2 => h58 false ?_) (fun e2 => h58 true ?_)) (fun e => h58 true ?_)
  · unfold UC; rw [decide_eq_false (fun h => h e), decide_eq_false (fun h => h e2)]; rfl
  · unfold UC; rw [decide_eq_false (fun h => h e), decide_eq_true e2]; rfl
  · unfold UC; rw [decide_eq_true e]; rfl
end
