/-! the reference's tokens -/
def bRg (x : Int32) : Prop := -128 ≤ x.toInt ∧ x.toInt ≤ 127
theorem b_255v {x : Int32} (h : bRg x) : (x &&& 255).toInt = if x.toInt < 0 then x.toInt + 256 else x.toInt := by
  obtain ⟨h1, h2⟩ := h
  have key : ∀ k : Nat, k < 256 → ((Int32.ofInt ((k : Int) - 128)) &&& 255).toInt = if ((k : Int) - 128) < 0 then ((k : Int) - 128) + 256 else ((k : Int) - 128) := by decide +kernel
  have hx : x = Int32.ofInt (((x.toInt + 128).toNat : Int) - 128) := by
    rw [Int.toNat_of_nonneg (by omega), show x.toInt + 128 - 128 = x.toInt by omega, Int32.ofInt_toInt]
  have hk := key (x.toInt + 128).toNat (by omega)
  rw [← hx, Int.toNat_of_nonneg (by omega), show x.toInt + 128 - 128 = x.toInt by omega] at hk
  exact hk
theorem sml_255 {x : Int32} (h : bRg x) : sml (x &&& 255) = sml x := by
  have e := b_255v h
  obtain ⟨h1, h2⟩ := h
  unfold sml
  simp only [z_lt, e]
  have e97 : (97 : Int32).toInt = 97 := rfl
  have e122 : (122 : Int32).toInt = 122 := rfl
  rw [e97, e122]
  by_cases c : x.toInt < 0
  · rw [if_pos c]
    have a1 : ¬ x.toInt + 256 < 97 := by omega
    have a2 : (122 : Int) < x.toInt + 256 := by omega
    have a3 : x.toInt < 97 := by omega
    simp [a1, a2, a3]
  · rw [if_neg c]
theorem dgt_255 {x : Int32} (h : bRg x) : dgt (x &&& 255) = dgt x := by
  have e := b_255v h
  obtain ⟨h1, h2⟩ := h
  unfold dgt
  simp only [z_lt, e]
  have e97 : (48 : Int32).toInt = 48 := rfl
  have e122 : (57 : Int32).toInt = 57 := rfl
  rw [e97, e122]
  by_cases c : x.toInt < 0
  · rw [if_pos c]
    have a1 : ¬ x.toInt + 256 < 48 := by omega
    have a2 : (57 : Int) < x.toInt + 256 := by omega
    have a3 : x.toInt < 48 := by omega
    simp [a1, a2, a3]
  · rw [if_neg c]
theorem pos_255 {x : Int32} (h : bRg x) (h0 : 0 ≤ x.toInt) : x &&& 255 = x := by
  have e := b_255v h
  rw [if_neg (by omega)] at e
  exact Int32.toInt_inj.mp e
theorem smk_255 {x : Int32} (h : bRg x) : (x &&& 255 = 59) ↔ x = 59 := by
  have e := b_255v h
  obtain ⟨h1, h2⟩ := h
  rw [← Int32.toInt_inj, ← Int32.toInt_inj, e, show (59 : Int32).toInt = 59 from rfl]
  by_cases c : x.toInt < 0
  · rw [if_pos c]; omega
  · rw [if_neg c]
theorem sml_pos {x : Int32} (h : sml x = true) : 97 ≤ x.toInt ∧ x.toInt ≤ 122 := by
  unfold sml at h
  rw [Bool.and_eq_true] at h
  have h1 := of_decide_eq_true h.1
  have h2 := of_decide_eq_true h.2
  rw [z_lt] at h1 h2
  have e97 : (97 : Int32).toInt = 97 := rfl
  have e122 : (122 : Int32).toInt = 122 := rfl
  omega
theorem dgt_pos {x : Int32} (h : dgt x = true) : 48 ≤ x.toInt ∧ x.toInt ≤ 57 := by
  unfold dgt at h
  rw [Bool.and_eq_true] at h
  have h1 := of_decide_eq_true h.1
  have h2 := of_decide_eq_true h.2
  rw [z_lt] at h1 h2
  have e97 : (48 : Int32).toInt = 48 := rfl
  have e122 : (57 : Int32).toInt = 57 := rfl
  omega
theorem zm_isSmall (x : Int32) (w : Wd) : f_X12_isSmall x w = some (bI (sml x), w) := by
  unfold f_X12_isSmall sml
  by_cases c : x < 97
  · rw [if_pos c]; simp [c]; rfl
  · rw [if_neg c]
    by_cases d : 122 < x
    · rw [if_pos d]; simp [d]; rfl
    · rw [if_neg d]; simp [c, d]; rfl
theorem zm_isDigit (x : Int32) (w : Wd) : f_X12_isDigit x w = some (bI (dgt x), w) := by
  unfold f_X12_isDigit dgt
  by_cases c : x < 48
  · rw [if_pos c]; simp [c]; rfl
  · rw [if_neg c]
    by_cases d : 57 < x
    · rw [if_pos d]; simp [d]; rfl
    · rw [if_neg d]; simp [c, d]; rfl
theorem z_val (a b : Int32) : (10 * a + b) - 48 = a * 10 + (b - 48) := by
  rw [Int32.mul_comm 10 a, Int32.sub_eq_add_neg, Int32.sub_eq_add_neg, Int32.add_assoc]
def PTm (a k : Nat) : Prop := a = 0 ∧ 3 ≤ k ∧ k ≤ 6
section
variable {w : Wd}
theorem zm_byteAt {n e : Nat} (hn : w.1 0 2 = nI n) (hn9 : n ≤ 900) (he : e ≤ n) : f_X12_byteAt (nI e) w = some (if e < n then w.1 1 e &&& 255 else 0, w) := by
  unfold f_X12_byteAt
  rw [hn]
  by_cases c : e < n
  · rw [if_neg (nI_ge c (by omega)), if_pos (z_inb (by omega) (by omega)), nI_clamp (by omega), if_pos c]
  · rw [if_pos (nI_le (by omega) (by omega)), if_neg c]
theorem zm_tok {n s : Nat} (hn : w.1 0 2 = nI n) (hn9 : n ≤ 900) (hs : w.1 0 4 = nI s) (hsn : s ≤ n) (hR : ∀ k, k < 900 → bRg (w.1 1 k)) : OK (f_X12_scan w) (fun v => v.1 0 3 = nI (tkF (w.1 1) n s) ∧ v.1 0 4 = nI (tkE (w.1 1) n (tkF (w.1 1) n s)) ∧ v.1 0 5 = tkK (w.1 1) n (tkF (w.1 1) n s) ∧ (v.1 0 5 = 2 → v.1 0 6 = vlF (w.1 1) (tkF (w.1 1) n s) (tkE (w.1 1) n (tkF (w.1 1) n s) - tkF (w.1 1) n s)) ∧ FX PTm w v) := by
  obtain ⟨b, hb⟩ : ∃ b, b = w.1 1 := ⟨_, rfl⟩
  rw [← hb]
  have hfs := rn_ge blnk b hsn
  have hf : tkF b n s ≤ n := hfs.2
  generalize hfe : tkF b n s = f at hf
  have hfr : rnE blnk b n s = f := hfe
  have fr : ∀ v, FX PTm w v → v.1 1 = b ∧ v.1 0 2 = nI n := fun v hF => ⟨funext fun k => (hF.2 1 k (by unfold PTm; omega)).trans (by rw [hb]), (hF.2 0 2 (by unfold PTm; omega)).trans hn⟩
  have hRb : ∀ k, k < 900 → bRg (b k) := fun k hk => by rw [hb]; exact hR k hk
  -- letters
  have l95 : ∀ v, f < n → sml (b f) = true → v.1 0 3 = nI f → v.1 0 4 = nI f → FX PTm w v → OK (X12_scan_b95_L v) (fun v => v.1 0 3 = nI f ∧ v.1 0 4 = nI (tkE b n f) ∧ v.1 0 5 = tkK b n f ∧ (v.1 0 5 = 2 → v.1 0 6 = vlF b f (tkE b n f - f)) ∧ FX PTm w v) := by
    intro v0 hfn hsm h3 h4 hF
    have hlt : f < rnE sml b n f := by
      rw [rn_y hfn hsm]
      have := rn_ge sml b (show f + 1 ≤ n from hfn)
      omega
    refine lo1 (fun m v => ∃ e, m = n - e ∧ f ≤ e ∧ e ≤ n ∧ rnE sml b n f = rnE sml b n e ∧ v.1 0 3 = nI f ∧ v.1 0 4 = nI e ∧ FX PTm w v) ?_ fu (n - f) v0 (by rw [fu_eq]; omega) ⟨f, rfl, Nat.le_refl _, hf, rfl, h3, h4, hF⟩
    clear h3 h4 hF
    rintro m k v ⟨e, rfl, h1, h2, hr, h3, h4, hF⟩ hk
    obtain ⟨hb2, hl1⟩ := fr v hF
    rw [X12_scan_b95, h4, zm_byteAt hl1 hn9 h2, cl_s, zm_isSmall, cl_s, if_b0, hb2, h3, h4]
    have fin : rnE sml b n e = e → OK (if nI e - nI f ≤ 8 then lt (wI v 0 5 1) fun w25 => some w25 else lt (wI v 0 5 4) fun w26 => some w26) (fun v => v.1 0 3 = nI f ∧ v.1 0 4 = nI (tkE b n f) ∧ v.1 0 5 = tkK b n f ∧ (v.1 0 5 = 2 → v.1 0 6 = vlF b f (tkE b n f - f)) ∧ FX PTm w v) := by
      intro hre
      rw [hre] at hr
      unfold tkE tkK
      rw [if_pos hlt, if_pos hlt, hr, pk_sub h1]
      by_cases c8 : e - f ≤ 8
      · refine OK.t (nI_le (b := 8) c8 (by omega)) (OK.l (OK.s ⟨?_, ?_, ?_, fun q => ?_, hF.tr (FX.w _ _ (by unfold PTm; omega))⟩))
        · rw [wI_g, if_neg (by omega)]; exact h3
        · rw [wI_g, if_neg (by omega)]; exact h4
        · rw [wI_s, if_pos c8]
        · rw [wI_s] at q; exact absurd q (by decide)
      · refine OK.f (nI_ge (a := 8) (b := e - f) (by omega) (by omega)) (OK.l (OK.s ⟨?_, ?_, ?_, fun q => ?_, hF.tr (FX.w _ _ (by unfold PTm; omega))⟩))
        · rw [wI_g, if_neg (by omega)]; exact h3
        · rw [wI_g, if_neg (by omega)]; exact h4
        · rw [wI_s, if_neg c8]
        · rw [wI_s] at q; exact absurd q (by decide)
    by_cases ce : e < n
    · rw [if_pos ce, sml_255 (hRb e (by omega))]
      by_cases c : sml (b e) = false
      · rw [if_pos c]; exact fin (rn_n (by rw [c]; decide))
      · rw [if_neg c]
        rw [Bool.not_eq_false] at c
        refine OK.l (hk _ _ (by omega) ⟨e + 1, rfl, by omega, ce, hr.trans (rn_y ce c), ?_, ?_, hF.tr (FX.w _ _ (by unfold PTm; omega))⟩)
        · rw [wI_g, if_neg (by omega)]; exact h3
        · rw [wI_s]; exact nI_1 e
    · rw [if_neg ce, if_pos (by decide)]
      exact fin (rn_e (by omega))
  have l160 : ∀ v, f < n → ¬ sml (b f) = true → dgt (b f) = true → v.1 0 3 = nI f → v.1 0 4 = nI f → v.1 0 6 = 0 → FX PTm w v → OK (X12_scan_b160_L v) (fun v => v.1 0 3 = nI f ∧ v.1 0 4 = nI (tkE b n f) ∧ v.1 0 5 = tkK b n f ∧ (v.1 0 5 = 2 → v.1 0 6 = vlF b f (tkE b n f - f)) ∧ FX PTm w v) := by
    intro v0 hfn hsm hdg h3 h4 h6 hF
    have hlt : f < rnE dgt b n f := by
      rw [rn_y hfn hdg]
      have := rn_ge dgt b (show f + 1 ≤ n from hfn)
      omega
    have hno : ¬ f < rnE sml b n f := by rw [rn_n hsm]; omega
    refine lo1 (fun m v => ∃ e, m = n - e ∧ f ≤ e ∧ e ≤ n ∧ rnE dgt b n f = rnE dgt b n e ∧ v.1 0 3 = nI f ∧ v.1 0 4 = nI e ∧ (e - f ≤ 5 → v.1 0 6 = vlF b f (e - f)) ∧ FX PTm w v) ?_ fu (n - f) v0 (by rw [fu_eq]; omega) ⟨f, rfl, Nat.le_refl _, hf, rfl, h3, h4, fun _ => by rw [Nat.sub_self]; exact h6, hF⟩
    clear h3 h4 h6 hF
    rintro m k v ⟨e, rfl, h1, h2, hr, h3, h4, h6, hF⟩ hk
    obtain ⟨hb2, hl1⟩ := fr v hF
    rw [X12_scan_b160, h4, zm_byteAt hl1 hn9 h2, cl_s, zm_isDigit, cl_s, if_b0, hb2, h3, h4]
    have fin : rnE dgt b n e = e → OK (if nI e - nI f ≤ 5 then lt (wI v 0 5 2) fun w25 => some w25 else lt (wI v 0 5 4) fun w26 => some w26) (fun v => v.1 0 3 = nI f ∧ v.1 0 4 = nI (tkE b n f) ∧ v.1 0 5 = tkK b n f ∧ (v.1 0 5 = 2 → v.1 0 6 = vlF b f (tkE b n f - f)) ∧ FX PTm w v) := by
      intro hre
      rw [hre] at hr
      unfold tkE tkK
      rw [if_neg hno, if_neg hno, if_pos hlt, if_pos hlt, hr, pk_sub h1]
      by_cases c8 : e - f ≤ 5
      · refine OK.t (nI_le (b := 5) c8 (by omega)) (OK.l (OK.s ⟨?_, ?_, ?_, fun q => ?_, hF.tr (FX.w _ _ (by unfold PTm; omega))⟩))
        · rw [wI_g, if_neg (by omega)]; exact h3
        · rw [wI_g, if_neg (by omega)]; exact h4
        · rw [wI_s, if_pos c8]
        · rw [wI_g, if_neg (by omega)]; exact h6 c8
      · refine OK.f (nI_ge (a := 5) (b := e - f) (by omega) (by omega)) (OK.l (OK.s ⟨?_, ?_, ?_, fun q => ?_, hF.tr (FX.w _ _ (by unfold PTm; omega))⟩))
        · rw [wI_g, if_neg (by omega)]; exact h3
        · rw [wI_g, if_neg (by omega)]; exact h4
        · rw [wI_s, if_neg c8]
        · rw [wI_s] at q; exact absurd q (by decide)
    have nxt : ∀ u, e < n → dgt (b e) = true → u.1 0 3 = nI f → u.1 0 4 = nI e → (e + 1 - f ≤ 5 → u.1 0 6 = vlF b f (e + 1 - f)) → FX PTm w u → OK (X12_scan_b210 k u) (fun v => v.1 0 3 = nI f ∧ v.1 0 4 = nI (tkE b n f) ∧ v.1 0 5 = tkK b n f ∧ (v.1 0 5 = 2 → v.1 0 6 = vlF b f (tkE b n f - f)) ∧ FX PTm w v) := by
      intro u ce c g3 g4 g6 gF
      unfold X12_scan_b210
      refine OK.l (hk _ _ (by omega) ⟨e + 1, rfl, by omega, ce, hr.trans (rn_y ce c), ?_, ?_, fun q => ?_, gF.tr (FX.w _ _ (by unfold PTm; omega))⟩)
      · rw [wI_g, if_neg (by omega)]; exact g3
      · rw [wI_s, g4]; exact nI_1 e
      · rw [wI_g, if_neg (by omega)]; exact g6 q
    by_cases ce : e < n
    · rw [if_pos ce, dgt_255 (hRb e (by omega))]
      by_cases c : dgt (b e) = false
      · rw [if_pos c]; exact fin (rn_n (by rw [c]; decide))
      · rw [if_neg c]
        rw [Bool.not_eq_false] at c
        rw [pk_sub h1]
        by_cases c5 : 5 ≤ e - f
        · exact OK.t (nI_le (a := 5) c5 (by omega)) (nxt v ce c h3 h4 (fun q => by omega) hF)
        · refine OK.f (nI_ge (b := 5) (by omega) (by omega)) ?_
          rw [zm_byteAt hl1 hn9 h2, cl_s, if_pos ce, hb2, pos_255 (hRb e (by omega)) (by have := dgt_pos c; omega)]
          refine OK.l (nxt _ ce c ?_ ?_ (fun q => ?_) (hF.tr (FX.w _ _ (by unfold PTm; omega))))
          · rw [wI_g, if_neg (by omega)]; exact h3
          · rw [wI_g, if_neg (by omega)]; exact h4
          · rw [wI_s, h6 (by omega), z_val, show e + 1 - f = (e - f) + 1 by omega]
            show _ = vlF b f (e - f) * 10 + (b (f + (e - f)) - 48)
            rw [show f + (e - f) = e by omega]
    · rw [if_neg ce, if_pos (by decide)]
      exact fin (rn_e (by omega))
  have b52 : ∀ v, v.1 0 4 = nI f → FX PTm w v → OK (X12_scan_b52 v) (fun v => v.1 0 3 = nI f ∧ v.1 0 4 = nI (tkE b n f) ∧ v.1 0 5 = tkK b n f ∧ (v.1 0 5 = 2 → v.1 0 6 = vlF b f (tkE b n f - f)) ∧ FX PTm w v) := by
    intro v h4 hF
    unfold X12_scan_b52
    rw [h4]
    refine OK.l ?_
    have hF1 : FX PTm w (wI v 0 3 (nI f)) := hF.tr (FX.w _ _ (by unfold PTm; omega))
    have h31 : (wI v 0 3 (nI f)).1 0 3 = nI f := wI_s _ _ _ _
    have h41 : (wI v 0 3 (nI f)).1 0 4 = nI f := by rw [wI_g, if_neg (by omega)]; exact h4
    generalize wI v 0 3 (nI f) = v1 at hF1 h31 h41 ⊢
    obtain ⟨hb2, hl1⟩ := fr v1 hF1
    rw [h31, zm_byteAt hl1 hn9 hf, cl_s, h31, hl1]
    by_cases cn : f < n
    · refine OK.f (fun q => by rw [nI_eq (by omega) (by omega)] at q; omega) ?_
      have hbr := hRb f (by omega)
      rw [if_pos cn, zm_isSmall, cl_s, if_b0, hb2, sml_255 hbr]
      by_cases c : sml (b f) = false
      · rw [if_pos c, zm_isDigit, cl_s, if_b0, dgt_255 hbr]
        have hno : ¬ f < rnE sml b n f := by rw [rn_n (by rw [c]; decide)]; omega
        by_cases d : dgt (b f) = false
        · rw [if_pos d]
          have hnd : ¬ f < rnE dgt b n f := by rw [rn_n (by rw [d]; decide)]; omega
          have fin : ∀ t : Int32, (t = 3 ∨ t = 4) → t = (if b f = 59 then 3 else 4) → OK (X12_scan_b260 t v1) (fun v => v.1 0 3 = nI f ∧ v.1 0 4 = nI (tkE b n f) ∧ v.1 0 5 = tkK b n f ∧ (v.1 0 5 = 2 → v.1 0 6 = vlF b f (tkE b n f - f)) ∧ FX PTm w v) := by
            intro t ht hte
            unfold X12_scan_b260 tkE tkK
            rw [if_neg hno, if_neg hno, if_neg hnd, if_neg hnd, if_pos cn, if_pos cn]
            refine OK.l (OK.l (OK.s ⟨?_, ?_, ?_, fun q => ?_, (hF1.tr (FX.w _ _ (by unfold PTm; omega))).tr (FX.w _ _ (by unfold PTm; omega))⟩))
            · rw [wI_g, if_neg (by omega), wI_g, if_neg (by omega)]; exact h31
            · rw [wI_s, wI_g, if_neg (by omega), h41]; exact nI_1 f
            · rw [wI_g, if_neg (by omega), wI_s]; exact hte
            · rw [wI_g, if_neg (by omega), wI_s] at q; rcases ht with rfl | rfl <;> exact absurd q (by decide)
          exact OK.i (fun c => fin 3 (Or.inl rfl) (if_pos ((smk_255 hbr).mp c)).symm) (fun c => fin 4 (Or.inr rfl) (if_neg (fun q => c ((smk_255 hbr).mpr q))).symm)
        · rw [if_neg d]
          rw [Bool.not_eq_false] at d
          refine OK.l (l160 _ cn (by rw [c]; decide) d ?_ ?_ ?_ (hF1.tr (FX.w _ _ (by unfold PTm; omega))))
          · rw [wI_g, if_neg (by omega)]; exact h31
          · rw [wI_g, if_neg (by omega)]; exact h41
          · rw [wI_s]
      · rw [if_neg c]
        rw [Bool.not_eq_false] at c
        exact l95 v1 cn c h31 h41 hF1
    · have ee : f = n := by omega
      subst ee
      refine OK.t rfl (OK.l (OK.s ⟨?_, ?_, ?_, fun q => ?_, hF1.tr (FX.w _ _ (by unfold PTm; omega))⟩))
      · rw [wI_g, if_neg (by omega)]; exact h31
      · rw [wI_g, if_neg (by omega)]
        unfold tkE
        rw [rn_e (Nat.le_refl _), rn_e (Nat.le_refl _), if_neg (by omega), if_neg (by omega), if_neg (by omega)]; exact h41
      · rw [wI_s]
        unfold tkK
        rw [rn_e (Nat.le_refl _), rn_e (Nat.le_refl _), if_neg (by omega), if_neg (by omega), if_neg (by omega)]
      · rw [wI_s] at q; exact absurd q (by decide)
  unfold f_X12_scan
  refine lo1 (fun m v => ∃ e, m = n - e ∧ s ≤ e ∧ e ≤ n ∧ rnE blnk b n s = rnE blnk b n e ∧ v.1 0 4 = nI e ∧ FX PTm w v) ?_ fu (n - s) w (by rw [fu_eq]; omega) ⟨s, rfl, Nat.le_refl _, hsn, rfl, hs, FX.rf _ _⟩
  rintro m k v ⟨e, rfl, h1, h2, hr, h8, hF⟩ hk
  obtain ⟨hb2, hl1⟩ := fr v hF
  rw [X12_scan_b0, hl1, h8]
  by_cases ce : e < n
  · have nx : blnk (b e) = true → OK (X12_scan_b39 k v) (fun v => v.1 0 3 = nI f ∧ v.1 0 4 = nI (tkE b n f) ∧ v.1 0 5 = tkK b n f ∧ (v.1 0 5 = 2 → v.1 0 6 = vlF b f (tkE b n f - f)) ∧ FX PTm w v) := by
      intro hbe
      unfold X12_scan_b39
      refine OK.l (hk _ _ (by omega) ⟨e + 1, rfl, by omega, ce, hr.trans (rn_y ce hbe), ?_, hF.tr (FX.w _ _ (by unfold PTm; omega))⟩)
      rw [wI_s, h8]; exact nI_1 e
    refine OK.f (nI_ge ce (by omega)) (OK.t (z_inb (by omega) (by omega)) ?_)
    rw [nI_clamp (n := e) (by omega), hb2]
    refine OK.i (fun c => nx (by unfold blnk; simp [c])) (fun c => OK.t (z_inb (by omega) (by omega)) (OK.i (fun c2 => nx (by unfold blnk; simp [c2])) (fun c2 => b52 v ?_ hF)))
    rw [h8, ← hfr, hr, rn_n (by unfold blnk; simp [c, c2])]
  · have ee : e = n := by omega
    refine OK.t (nI_le (by omega) (by omega)) (b52 v ?_ hF)
    rw [h8, ← hfr, hr, rn_e (by omega)]
end
