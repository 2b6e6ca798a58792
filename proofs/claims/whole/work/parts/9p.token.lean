/-! tokens -/
def rnF (p : Int32 → Bool) (b : Nat → Int32) : Nat → Nat → Nat
  | 0, s => s
  | k + 1, s => if p (b s) = true then rnF p b k (s + 1) else s
def rnE (p : Int32 → Bool) (b : Nat → Int32) (n s : Nat) : Nat := rnF p b (n - s) s
theorem rn_y {p : Int32 → Bool} {b : Nat → Int32} {n s : Nat} (h : s < n) (hp : p (b s) = true) : rnE p b n s = rnE p b n (s + 1) := by
  unfold rnE
  rw [show n - s = (n - (s + 1)) + 1 by omega]
  show (if p (b s) = true then _ else _) = _
  rw [if_pos hp]
theorem rn_n {p : Int32 → Bool} {b : Nat → Int32} {n s : Nat} (hp : ¬ p (b s) = true) : rnE p b n s = s := by
  unfold rnE
  cases h : n - s with
  | zero => rfl
  | succ k =>
    show (if p (b s) = true then _ else _) = _
    rw [if_neg hp]
theorem rn_e {p : Int32 → Bool} {b : Nat → Int32} {n s : Nat} (h : n ≤ s) : rnE p b n s = s := by
  unfold rnE
  rw [show n - s = 0 by omega]; rfl
theorem rnF_ge (p : Int32 → Bool) (b : Nat → Int32) : ∀ k s, s ≤ rnF p b k s ∧ rnF p b k s ≤ s + k
  | 0, s => ⟨Nat.le_refl _, Nat.le_refl _⟩
  | k + 1, s => by
    have := rnF_ge p b k (s + 1)
    show s ≤ (if p (b s) = true then rnF p b k (s + 1) else s) ∧ (if p (b s) = true then rnF p b k (s + 1) else s) ≤ s + (k + 1)
    split <;> omega
theorem rn_ge (p : Int32 → Bool) (b : Nat → Int32) {n s : Nat} (h : s ≤ n) : s ≤ rnE p b n s ∧ rnE p b n s ≤ n := by
  have := rnF_ge p b (n - s) s
  unfold rnE; omega
theorem rnF_all (p : Int32 → Bool) (b : Nat → Int32) : ∀ k s j, s ≤ j → j < rnF p b k s → p (b j) = true
  | 0, s, j, h1, h2 => by
    have : j < s := h2
    omega
  | k + 1, s, j, h1, h2 => by
    have e : rnF p b (k + 1) s = if p (b s) = true then rnF p b k (s + 1) else s := rfl
    rw [e] at h2
    by_cases c : p (b s) = true
    · rw [if_pos c] at h2
      by_cases d : j = s
      · rw [d]; exact c
      · exact rnF_all p b k (s + 1) j (by omega) h2
    · rw [if_neg c] at h2; omega
theorem rn_all {p : Int32 → Bool} {b : Nat → Int32} {n s j : Nat} (h1 : s ≤ j) (h2 : j < rnE p b n s) : p (b j) = true := rnF_all p b (n - s) s j h1 h2
theorem rn_end (p : Int32 → Bool) (b : Nat → Int32) : ∀ k s, rnF p b k s < s + k → ¬ p (b (rnF p b k s)) = true
  | 0, s, h => by
    have : s < s + 0 := h
    omega
  | k + 1, s, h => by
    have e : rnF p b (k + 1) s = if p (b s) = true then rnF p b k (s + 1) else s := rfl
    rw [e] at h ⊢
    by_cases c : p (b s) = true
    · rw [if_pos c] at h ⊢
      exact rn_end p b k (s + 1) (by omega)
    · rw [if_neg c]; exact c
def blnk (x : Int32) : Bool := decide (x = 32) || decide (x = 10)
def sml (x : Int32) : Bool := decide (¬ x < 97) && decide (¬ 122 < x)
def dgt (x : Int32) : Bool := decide (¬ x < 48) && decide (¬ 57 < x)
def nmF (b : Nat → Int32) (f : Nat) : Nat → Int64
  | 0 => 0
  | k + 1 => (nmF b f k <<< (Int32.toInt64 5 &&& 63)) + Int32.toInt64 ((b (f + k) - 97) + 1)
def vlF (b : Nat → Int32) (f : Nat) : Nat → Int32
  | 0 => 0
  | k + 1 => vlF b f k * 10 + (b (f + k) - 48)
def tkF (b : Nat → Int32) (n s : Nat) : Nat := rnE blnk b n s
def tkE (b : Nat → Int32) (n f : Nat) : Nat := if f < rnE sml b n f then rnE sml b n f else if f < rnE dgt b n f then rnE dgt b n f else if f < n then f + 1 else f
def tkK (b : Nat → Int32) (n f : Nat) : Int32 := if f < rnE sml b n f then (if rnE sml b n f - f ≤ 8 then 1 else 4) else if f < rnE dgt b n f then (if rnE dgt b n f - f ≤ 5 then 2 else 4) else if f < n then (if b f = 59 then 3 else 4) else 0
/-- nothing but these ints and these longs -/
def FXL (P Q : Nat → Nat → Prop) (w w' : Wd) : Prop := (∀ a k, ¬ P a k → w'.1 a k = w.1 a k) ∧ ∀ a k, ¬ Q a k → w'.2 a k = w.2 a k
theorem FXL.rf (P Q : Nat → Nat → Prop) (w : Wd) : FXL P Q w w := ⟨fun _ _ _ => rfl, fun _ _ _ => rfl⟩
theorem FXL.tr {P Q : Nat → Nat → Prop} {w w1 w2 : Wd} (h : FXL P Q w w1) (k : FXL P Q w1 w2) : FXL P Q w w2 := ⟨fun a j ha => (k.1 a j ha).trans (h.1 a j ha), fun a j ha => (k.2 a j ha).trans (h.2 a j ha)⟩
theorem FXL.mo {P Q P' Q' : Nat → Nat → Prop} {w w' : Wd} (h : FXL P Q w w') (f : ∀ a k, P a k → P' a k) (g : ∀ a k, Q a k → Q' a k) : FXL P' Q' w w' := ⟨fun a k q => h.1 a k (fun p => q (f a k p)), fun a k q => h.2 a k (fun p => q (g a k p))⟩
theorem FXL.w {P Q : Nat → Nat → Prop} (w : Wd) {o k : Nat} (v : Int32) (h : P o k) : FXL P Q w (wI w o k v) := ⟨fun a j hn => by rw [wI_g, if_neg (fun e => hn (by rw [e.1, e.2]; exact h))], fun _ _ _ => rfl⟩
theorem wG_1 (w : Wd) (o k : Nat) (v : Int64) : (wG w o k v).1 = w.1 := rfl
theorem wI_2 (w : Wd) (o k : Nat) (v : Int32) : (wI w o k v).2 = w.2 := rfl
theorem FXL.g {P Q : Nat → Nat → Prop} (w : Wd) {o k : Nat} (v : Int64) (h : Q o k) : FXL P Q w (wG w o k v) := ⟨fun _ _ _ => rfl, fun a j hn => by rw [wG_g, if_neg (fun e => hn (by rw [e.1, e.2]; exact h))]⟩
theorem FX.xl {P Q : Nat → Nat → Prop} {w w' : Wd} (h : FX P w w') : FXL P Q w w' := ⟨h.2, fun a k _ => by rw [h.1]⟩
def PTk (a k : Nat) : Prop := a = 1 ∧ (k = 2 ∨ 6 ≤ k ∧ k ≤ 8)
def PTl (a k : Nat) : Prop := a = 1 ∧ k = 3
section
variable {w : Wd}
theorem zc_tok {n s : Nat} (hn : w.1 1 1 = nI n) (hn9 : n ≤ 900) (hs : w.1 1 8 = nI s) (hsn : s ≤ n) (h0 : w.1 1 4 = 0) : OK (f_X10_step w) (fun v => v.1 1 7 = nI (tkF (w.1 2) n s) ∧ v.1 1 8 = nI (tkE (w.1 2) n (tkF (w.1 2) n s)) ∧ v.1 1 2 = tkK (w.1 2) n (tkF (w.1 2) n s) ∧ (v.1 1 2 = 2 → v.1 1 6 = vlF (w.1 2) (tkF (w.1 2) n s) (tkE (w.1 2) n (tkF (w.1 2) n s) - tkF (w.1 2) n s)) ∧ (v.1 1 2 = 1 → v.2 1 3 = nmF (w.1 2) (tkF (w.1 2) n s) (tkE (w.1 2) n (tkF (w.1 2) n s) - tkF (w.1 2) n s)) ∧ FXL PTk PTl w v) := by
  obtain ⟨b, hb⟩ : ∃ b, b = w.1 2 := ⟨_, rfl⟩
  rw [← hb]
  have hfs := rn_ge blnk b hsn
  have hf : tkF b n s ≤ n := hfs.2
  generalize hfe : tkF b n s = f at hf
  have hfr : rnE blnk b n s = f := hfe
  -- behind letters and digits
  have last : ∀ v e, rnE dgt b n f = e → ¬ f < rnE sml b n f → v.1 1 7 = nI f → v.1 1 8 = nI e → v.1 1 6 = vlF b f (e - f) → FXL PTk PTl w v → OK (X10_step_b267 v) (fun v => v.1 1 7 = nI f ∧ v.1 1 8 = nI (tkE b n f) ∧ v.1 1 2 = tkK b n f ∧ (v.1 1 2 = 2 → v.1 1 6 = vlF b f (tkE b n f - f)) ∧ (v.1 1 2 = 1 → v.2 1 3 = nmF b f (tkE b n f - f)) ∧ FXL PTk PTl w v) := by
    intro v e he hno h7 h8 h6 hF
    have hge := rn_ge dgt b hf
    rw [he] at hge
    have hb2 : v.1 2 = b := funext fun k => (hF.1 2 k (by unfold PTk; omega)).trans (by rw [hb])
    have h1 : v.1 1 1 = nI n := (hF.1 1 1 (by unfold PTk; omega)).trans hn
    unfold X10_step_b267
    rw [h7, h8, h1]
    unfold tkE tkK
    rw [if_neg hno, if_neg hno, he]
    by_cases c : f < e
    · refine OK.f (nI_ge c (by omega)) ?_
      rw [if_pos c, if_pos c, pk_sub (by omega)]
      by_cases c5 : e - f ≤ 5
      · refine OK.f (nI_nlt (a := 5) (b := e - f) (by omega) (by omega)) (OK.l (OK.s ⟨?_, ?_, ?_, fun _ => ?_, fun q => ?_, hF.tr (FXL.w _ _ (by unfold PTk; omega))⟩))
        · rw [wI_g, if_neg (by omega)]; exact h7
        · rw [wI_g, if_neg (by omega)]; exact h8
        · rw [wI_s, if_pos c5]
        · rw [wI_g, if_neg (by omega)]; exact h6
        · rw [wI_s] at q; exact absurd q (by decide)
      · refine OK.t (nI_lt (a := 5) (b := e - f) (by omega) (by omega)) (OK.l (OK.s ⟨?_, ?_, ?_, fun q => ?_, fun q => ?_, hF.tr (FXL.w _ _ (by unfold PTk; omega))⟩))
        · rw [wI_g, if_neg (by omega)]; exact h7
        · rw [wI_g, if_neg (by omega)]; exact h8
        · rw [wI_s, if_neg c5]
        · rw [wI_s] at q; exact absurd q (by decide)
        · rw [wI_s] at q; exact absurd q (by decide)
    · have ee : e = f := by omega
      rw [if_neg c, if_neg c]
      refine OK.t (nI_le (by omega) (by omega)) ?_
      subst ee
      by_cases cn : e < n
      · refine OK.f (nI_ge cn (by omega)) (OK.t (z_inb (by omega) (by omega)) ?_)
        rw [nI_clamp (by omega), hb2, if_pos cn, if_pos cn]
        have fin : ∀ t : Int32, (t = 3 ∨ t = 4) → t = (if b e = 59 then 3 else 4) → OK (X10_step_b334 t v) (fun v => v.1 1 7 = nI e ∧ v.1 1 8 = nI (e + 1) ∧ v.1 1 2 = (if b e = 59 then 3 else 4) ∧ (v.1 1 2 = 2 → v.1 1 6 = vlF b e (e + 1 - e)) ∧ (v.1 1 2 = 1 → v.2 1 3 = nmF b e (e + 1 - e)) ∧ FXL PTk PTl w v) := by
          intro t ht hte
          unfold X10_step_b334
          refine OK.l (OK.l (OK.s ⟨?_, ?_, ?_, fun q => ?_, fun q => ?_, (hF.tr (FXL.w _ _ (by unfold PTk; omega))).tr (FXL.w _ _ (by unfold PTk; omega))⟩))
          · rw [wI_g, if_neg (by omega), wI_g, if_neg (by omega)]; exact h7
          · rw [wI_s, wI_g, if_neg (by omega), h8]; exact nI_1 e
          · rw [wI_g, if_neg (by omega), wI_s]; exact hte
          · rw [wI_g, if_neg (by omega), wI_s] at q; rcases ht with rfl | rfl <;> exact absurd q (by decide)
          · rw [wI_g, if_neg (by omega), wI_s] at q; rcases ht with rfl | rfl <;> exact absurd q (by decide)
        exact OK.i (fun c => fin 3 (Or.inl rfl) (if_pos c).symm) (fun c => fin 4 (Or.inr rfl) (if_neg c).symm)
      · rw [if_neg cn, if_neg cn]
        refine OK.t (nI_le (by omega) (by omega)) (OK.l (OK.s ⟨?_, ?_, ?_, fun q => ?_, fun q => ?_, hF.tr (FXL.w _ _ (by unfold PTk; omega))⟩))
        · rw [wI_g, if_neg (by omega)]; exact h7
        · rw [wI_g, if_neg (by omega)]; exact h8
        · rw [wI_s]
        · rw [wI_s] at q; exact absurd q (by decide)
        · rw [wI_s] at q; exact absurd q (by decide)
  have l191 : ∀ v, ¬ f < rnE sml b n f → v.1 1 7 = nI f → v.1 1 8 = nI f → v.1 1 6 = 0 → FXL PTk PTl w v → OK (X10_step_b191_L v) (fun v => v.1 1 7 = nI f ∧ v.1 1 8 = nI (tkE b n f) ∧ v.1 1 2 = tkK b n f ∧ (v.1 1 2 = 2 → v.1 1 6 = vlF b f (tkE b n f - f)) ∧ (v.1 1 2 = 1 → v.2 1 3 = nmF b f (tkE b n f - f)) ∧ FXL PTk PTl w v) := by
    intro v0 hno h7 h8 h6 hF
    refine lo1 (fun m v => ∃ e, m = n - e ∧ f ≤ e ∧ e ≤ n ∧ rnE dgt b n f = rnE dgt b n e ∧ v.1 1 7 = nI f ∧ v.1 1 8 = nI e ∧ v.1 1 6 = vlF b f (e - f) ∧ FXL PTk PTl w v) ?_ fu (n - f) v0 (by rw [fu_eq]; omega) ⟨f, rfl, Nat.le_refl _, hf, rfl, h7, h8, by rw [Nat.sub_self]; exact h6, hF⟩
    clear h7 h8 h6 hF
    rintro m k v ⟨e, rfl, h1, h2, hr, h7, h8, h6, hF⟩ hk
    have hb2 : v.1 2 = b := funext fun k => (hF.1 2 k (by unfold PTk; omega)).trans (by rw [hb])
    have hl1 : v.1 1 1 = nI n := (hF.1 1 1 (by unfold PTk; omega)).trans hn
    rw [X10_step_b191, hl1, h8]
    by_cases ce : e < n
    · refine OK.f (nI_ge ce (by omega)) (OK.t (z_inb (by omega) (by omega)) ?_)
      rw [nI_clamp (n := e) (by omega), hb2]
      refine OK.i (fun c => last v e (hr.trans (rn_n (by unfold dgt; simp [c]))) hno h7 h8 h6 hF) (fun c => OK.t (z_inb (by omega) (by omega)) (OK.i (fun c2 => last v e (hr.trans (rn_n (by unfold dgt; simp [c2]))) hno h7 h8 h6 hF) (fun c2 => OK.t (z_inb (by omega) (by omega)) (OK.l (OK.l (hk _ _ (by omega) ⟨e + 1, rfl, by omega, ce, hr.trans (rn_y ce (by unfold dgt; simp [c, c2])), ?_, ?_, ?_, (hF.tr (FXL.w _ _ (by unfold PTk; omega))).tr (FXL.w _ _ (by unfold PTk; omega))⟩)))))) 
      · rw [wI_g, if_neg (by omega), wI_g, if_neg (by omega)]; exact h7
      · rw [wI_s, wI_g, if_neg (by omega), h8]; exact nI_1 e
      · rw [wI_g, if_neg (by omega), wI_s, h6, show e + 1 - f = (e - f) + 1 by omega]
        show _ = vlF b f (e - f) * 10 + (b (f + (e - f)) - 48)
        rw [show f + (e - f) = e by omega]
    · have ee : e = n := by omega
      refine OK.t (nI_le (by omega) (by omega)) (last v e (hr.trans (rn_e (by omega))) hno h7 h8 h6 hF)
  have l73 : ∀ v, v.1 1 7 = nI f → v.1 1 8 = nI f → v.2 1 3 = 0 → FXL PTk PTl w v → OK (X10_step_b73_L v) (fun v => v.1 1 7 = nI f ∧ v.1 1 8 = nI (tkE b n f) ∧ v.1 1 2 = tkK b n f ∧ (v.1 1 2 = 2 → v.1 1 6 = vlF b f (tkE b n f - f)) ∧ (v.1 1 2 = 1 → v.2 1 3 = nmF b f (tkE b n f - f)) ∧ FXL PTk PTl w v) := by
    intro v0 h7 h8 h3 hF
    have mid : ∀ v e, rnE sml b n f = e → v.1 1 7 = nI f → v.1 1 8 = nI e → v.2 1 3 = nmF b f (e - f) → FXL PTk PTl w v → OK (X10_step_b151 v) (fun v => v.1 1 7 = nI f ∧ v.1 1 8 = nI (tkE b n f) ∧ v.1 1 2 = tkK b n f ∧ (v.1 1 2 = 2 → v.1 1 6 = vlF b f (tkE b n f - f)) ∧ (v.1 1 2 = 1 → v.2 1 3 = nmF b f (tkE b n f - f)) ∧ FXL PTk PTl w v) := by
      intro v e he h7 h8 h3 hF
      have hge := rn_ge sml b hf
      rw [he] at hge
      unfold X10_step_b151
      rw [h7, h8]
      by_cases c : f < e
      · refine OK.f (nI_ge c (by omega)) ?_
        unfold tkE tkK
        rw [he, if_pos c, if_pos c, pk_sub (by omega)]
        by_cases c5 : e - f ≤ 8
        · refine OK.f (nI_nlt (a := 8) (b := e - f) (by omega) (by omega)) (OK.l (OK.s ⟨?_, ?_, ?_, fun q => ?_, fun q => ?_, hF.tr (FXL.w _ _ (by unfold PTk; omega))⟩))
          · rw [wI_g, if_neg (by omega)]; exact h7
          · rw [wI_g, if_neg (by omega)]; exact h8
          · rw [wI_s, if_pos c5]
          · rw [wI_s] at q; exact absurd q (by decide)
          · exact h3
        · refine OK.t (nI_lt (a := 8) (b := e - f) (by omega) (by omega)) (OK.l (OK.s ⟨?_, ?_, ?_, fun q => ?_, fun q => ?_, hF.tr (FXL.w _ _ (by unfold PTk; omega))⟩))
          · rw [wI_g, if_neg (by omega)]; exact h7
          · rw [wI_g, if_neg (by omega)]; exact h8
          · rw [wI_s, if_neg c5]
          · rw [wI_s] at q; exact absurd q (by decide)
          · rw [wI_s] at q; exact absurd q (by decide)
      · have ee : e = f := by omega
        refine OK.t (nI_le (by omega) (by omega)) (OK.l (l191 _ (by omega) ?_ ?_ ?_ (hF.tr (FXL.w _ _ (by unfold PTk; omega)))))
        · rw [wI_g, if_neg (by omega)]; exact h7
        · rw [wI_g, if_neg (by omega), ← ee]; exact h8
        · rw [wI_s]
    refine lo1 (fun m v => ∃ e, m = n - e ∧ f ≤ e ∧ e ≤ n ∧ rnE sml b n f = rnE sml b n e ∧ v.1 1 7 = nI f ∧ v.1 1 8 = nI e ∧ v.2 1 3 = nmF b f (e - f) ∧ FXL PTk PTl w v) ?_ fu (n - f) v0 (by rw [fu_eq]; omega) ⟨f, rfl, Nat.le_refl _, hf, rfl, h7, h8, by rw [Nat.sub_self]; exact h3, hF⟩
    clear h7 h8 h3 hF
    rintro m k v ⟨e, rfl, h1, h2, hr, h7, h8, h3, hF⟩ hk
    have hb2 : v.1 2 = b := funext fun k => (hF.1 2 k (by unfold PTk; omega)).trans (by rw [hb])
    have hl1 : v.1 1 1 = nI n := (hF.1 1 1 (by unfold PTk; omega)).trans hn
    rw [X10_step_b73, hl1, h8]
    by_cases ce : e < n
    · refine OK.f (nI_ge ce (by omega)) (OK.t (z_inb (by omega) (by omega)) ?_)
      rw [nI_clamp (n := e) (by omega), hb2]
      refine OK.i (fun c => mid v e (hr.trans (rn_n (by unfold sml; simp [c]))) h7 h8 h3 hF) (fun c => OK.t (z_inb (by omega) (by omega)) (OK.i (fun c2 => mid v e (hr.trans (rn_n (by unfold sml; simp [c2]))) h7 h8 h3 hF) (fun c2 => OK.t (z_inb (by omega) (by omega)) (OK.l (OK.l (hk _ _ (by omega) ⟨e + 1, rfl, by omega, ce, hr.trans (rn_y ce (by unfold sml; simp [c, c2])), ?_, ?_, ?_, (hF.tr (FXL.g _ _ (by unfold PTl; omega))).tr (FXL.w _ _ (by unfold PTk; omega))⟩))))))
      · rw [wI_g, if_neg (by omega), wG_1]; exact h7
      · rw [wI_s, wG_1, h8]; exact nI_1 e
      · rw [wI_2, wG_g, if_pos ⟨rfl, rfl⟩, h3, show e + 1 - f = (e - f) + 1 by omega]
        show _ = (nmF b f (e - f) <<< (Int32.toInt64 5 &&& 63)) + Int32.toInt64 ((b (f + (e - f)) - 97) + 1)
        rw [show f + (e - f) = e by omega]
    · have ee : e = n := by omega
      refine OK.t (nI_le (by omega) (by omega)) (mid v e (hr.trans (rn_e (by omega))) h7 h8 h3 hF)
  have b60 : ∀ v, v.1 1 8 = nI f → FXL PTk PTl w v → OK (X10_step_b60 v) (fun v => v.1 1 7 = nI f ∧ v.1 1 8 = nI (tkE b n f) ∧ v.1 1 2 = tkK b n f ∧ (v.1 1 2 = 2 → v.1 1 6 = vlF b f (tkE b n f - f)) ∧ (v.1 1 2 = 1 → v.2 1 3 = nmF b f (tkE b n f - f)) ∧ FXL PTk PTl w v) := by
    intro v h8 hF
    unfold X10_step_b60
    rw [h8]
    refine OK.l (OK.l (l73 _ ?_ ?_ ?_ ((hF.tr (FXL.w _ _ (by unfold PTk; omega))).tr (FXL.g _ _ (by unfold PTl; omega)))))
    · rw [wG_1, wI_s]
    · rw [wG_1, wI_g, if_neg (by omega)]; exact h8
    · rw [wG_g, if_pos ⟨rfl, rfl⟩]
  unfold f_X10_step
  refine OK.t h0 ?_
  refine lo1 (fun m v => ∃ e, m = n - e ∧ s ≤ e ∧ e ≤ n ∧ rnE blnk b n s = rnE blnk b n e ∧ v.1 1 8 = nI e ∧ FXL PTk PTl w v) ?_ fu (n - s) w (by rw [fu_eq]; omega) ⟨s, rfl, Nat.le_refl _, hsn, rfl, hs, FXL.rf _ _ _⟩
  rintro m k v ⟨e, rfl, h1, h2, hr, h8, hF⟩ hk
  have hb2 : v.1 2 = b := funext fun k => (hF.1 2 k (by unfold PTk; omega)).trans (by rw [hb])
  have hl1 : v.1 1 1 = nI n := (hF.1 1 1 (by unfold PTk; omega)).trans hn
  rw [X10_step_b8, hl1, h8]
  by_cases ce : e < n
  · have nx : blnk (b e) = true → OK (X10_step_b47 k v) (fun v => v.1 1 7 = nI f ∧ v.1 1 8 = nI (tkE b n f) ∧ v.1 1 2 = tkK b n f ∧ (v.1 1 2 = 2 → v.1 1 6 = vlF b f (tkE b n f - f)) ∧ (v.1 1 2 = 1 → v.2 1 3 = nmF b f (tkE b n f - f)) ∧ FXL PTk PTl w v) := by
      intro hbe
      unfold X10_step_b47
      refine OK.l (hk _ _ (by omega) ⟨e + 1, rfl, by omega, ce, hr.trans (rn_y ce hbe), ?_, hF.tr (FXL.w _ _ (by unfold PTk; omega))⟩)
      rw [wI_s, h8]; exact nI_1 e
    refine OK.f (nI_ge ce (by omega)) (OK.t (z_inb (by omega) (by omega)) ?_)
    rw [nI_clamp (n := e) (by omega), hb2]
    refine OK.i (fun c => nx (by unfold blnk; simp [c])) (fun c => OK.t (z_inb (by omega) (by omega)) (OK.i (fun c2 => nx (by unfold blnk; simp [c2])) (fun c2 => b60 v ?_ hF)))
    rw [h8, ← hfr, hr, rn_n (by unfold blnk; simp [c, c2])]
  · have ee : e = n := by omega
    refine OK.t (nI_le (by omega) (by omega)) (b60 v ?_ hF)
    rw [h8, ← hfr, hr, rn_e (by omega)]
end
