/-! what holds between the desk and the reference behind n calls -/
def PZc (a k : Nat) : Prop := (1 ≤ a ∧ a ≤ 2) ∨ (8 ≤ a ∧ a ≤ 21) ∨ (a = 22 ∧ 1 ≤ k ∧ k ≤ 3) ∨ (28 ≤ a ∧ a ≤ 30) ∨ (84 ≤ a ∧ a ≤ 95)
def PZm (a k : Nat) : Prop := (a = 0 ∧ (k < 8 ∨ k = 78 ∨ k = 79 ∨ (81 ≤ k ∧ k ≤ 84) ∨ k = 88 ∨ k = 89 ∨ k = 97 ∨ k = 98)) ∨ a = 1 ∨ (45 ≤ a ∧ a ≤ 54) ∨ a = 60
def PZn (a k : Nat) : Prop := PZm a k ∧ ¬ (a = 0 ∧ k = 81)
theorem PZm_t {w w' A : Wd} (h : FX PZm w w') (hT : tol w = A) (hX : NCH A) : tol w' = A := by
  have h1 : FX PZn (wI w 0 81 (w'.1 0 81)) w' := by
    refine ⟨h.1, fun a k hn => ?_⟩
    rw [wI_g]
    by_cases e : a = 0 ∧ k = 81
    · rw [if_pos e, e.1, e.2]
    · rw [if_neg e]; exact h.2 a k (fun q => hn ⟨q, e⟩)
  exact h1.ot (tol_81s hT hX _) (fun k hk => by unfold PZn PZm; omega) (fun o k ho => by unfold PZn PZm; omega)
theorem STO.fm {w m m' : Wd} (h : STO w m) (f : ∀ a k, (a = 0 ∧ k = 99) ∨ 55 ≤ a ∧ a ≤ 59 → m'.1 a k = m.1 a k) : STO w m' := by
  have h99 := f 0 99 (by omega)
  have hn : nSt m' = nSt m := by unfold nSt; rw [h99]
  unfold STO
  rw [h99, hn]
  refine ⟨h.1, fun s hs => ?_⟩
  rw [f 55 s (by omega), f 56 s (by omega), f 57 s (by omega), f 58 s (by omega), f 59 s (by omega)]
  exact h.2 s hs
theorem STI.fm {A m m' : Wd} (h : STI A m) (f : ∀ a k, (a = 0 ∧ k = 99) ∨ 55 ≤ a ∧ a ≤ 59 → m'.1 a k = m.1 a k) : STI A m' := by
  have h99 := f 0 99 (by omega)
  have hn : nSt m' = nSt m := by unfold nSt; rw [h99]
  unfold STI
  rw [h99, hn]
  refine ⟨h.1, fun s hs => ?_⟩
  rw [f 55 s (by omega), f 56 s (by omega), f 57 s (by omega)]
  exact h.2 s hs
theorem RKC.fm {w w' A : Wd} (h : RKC w A) (f : ∀ a k, a = 51 ∨ a = 52 ∨ (a = 0 ∧ (k = 97 ∨ k = 78)) → w'.1 a k = w.1 a k) : RKC w' A := by
  unfold RKC
  rw [f 0 78 (by omega)]
  exact h.imp id (fun q => ⟨q.1.fr (fun a k hk => f a k (by omega)), q.2⟩)
theorem STP.fm {w w' : Wd} {s : Nat} (h : STP w s) (f : ∀ a k, a = 53 ∨ (a = 0 ∧ k = 98) → w'.1 a k = w.1 a k) : STP w' s := by
  unfold STP
  rw [f 0 98 (by omega)]
  exact ⟨h.1, fun k hk => by rw [f 53 k (by omega)]; exact h.2 k hk⟩
theorem OKC.fm {w w' A : Wd} {cp : Nat} (h : OKC w A cp) (f : ∀ a k, (16 ≤ a ∧ a ≤ 21) ∨ (a = 3 ∧ k = 6) → w'.1 a k = w.1 a k) : OKC w' A cp := by
  unfold OKC RM
  rw [f 16 4 (by omega), f 16 9 (by omega), f 3 6 (by omega)]
  exact ⟨h.1, fun e => ⟨(h.2 e).1.fr (fun a k q => f a k (by unfold POu at q; omega)), fun v hv => (f 17 v (by omega)).trans ((h.2 e).2 v hv)⟩⟩
theorem PRP.fm {w w' A : Wd} (h : PRP w A) (hN : NUM A) (f : ∀ a k, PCS a k ∨ (a = 3 ∧ k = 6) ∨ (a = 16 ∧ k = 9) → w'.1 a k = w.1 a k) : PRP w' A := by
  have e1 := f 8 13 (by unfold PCS; omega)
  have e2 := f 3 6 (by omega)
  have e3 := f 16 9 (by omega)
  refine ⟨fun e => (h.1 ?_).fo hN (fun a k q => f a k (Or.inl q)), h.2.fr e2 (Or.inl e1) (Or.inl e3)⟩
  rw [e1, e2] at e; exact e
theorem TPR.fm {w m w' m' : Wd} (h : TPR w m) (f : ∀ k, w'.1 2 k = w.1 2 k) (f1 : w'.1 1 1 = w.1 1 1) (g : ∀ k, m'.1 1 k = m.1 1 k) (g1 : m'.1 0 1 = m.1 0 1) : TPR w' m' := by
  have e1 : w'.1 2 = w.1 2 := funext f
  have e2 : m'.1 1 = m.1 1 := funext g
  unfold TPR
  rw [e1, e2, f1, g1]; exact h
def RLA (n : Nat) (wc : Wd) (cap : Nat) (wm A : Wd) : Prop := KRN wc wm A ∧ PRP wc A ∧ STO wc wm ∧ STI A wm ∧ OKC wc A cap ∧ RKC wm A ∧ (∃ s, s ≤ 100 * n ∧ STP wm s) ∧ ∃ c, c ≤ n ∧ wc.1 3 6 = nI c
def RELN (n : Nat) (wc : Wd) (cap : Nat) (wm : Wd) : Prop := ∃ A, RLA n wc cap wm A
theorem rl_hb : HB RELN := fun _ _ c _ ⟨_, h⟩ => by
  have q := h.2.2.2.2.1.1.2
  unfold CAP at q
  omega
theorem rl_mo : ∀ n wc c wm, RELN n wc c wm → RELN (n + 1) wc c wm := fun _ _ _ _ ⟨A, h1, h2, h3, h4, h5, h6, ⟨s, h7, h8⟩, ⟨c, h9, h10⟩⟩ => ⟨A, h1, h2, h3, h4, h5, h6, ⟨s, by omega, h8⟩, ⟨c, by omega, h10⟩⟩
section
variable {n cap cap1 : Nat} {wc wm wc1 wm1 A A1 : Wd}
theorem RLA.q (h : RLA n wc cap wm A) (hF : FXL PZc PTl wc wc1) (hM : FX PZm wm wm1) (hT : TPR wc1 wm1) (hp : PRP wc1 A) (hO : OKC wc1 A cap1) (hR : RKC wm1 A) (hs : ∃ s, s ≤ 100 * (n + 1) ∧ STP wm1 s) : RELN (n + 1) wc1 cap1 wm1 := by
  obtain ⟨⟨k1, k2, k3, k4, k5, k6, k7, k8, k9⟩, h2, h3, h4, h5, h6, h7, ⟨c, h8, h9⟩⟩ := h
  have hN := k3.1
  have n4 := hN.2.2.2.1.2
  have n3 := hN.2.2.2.2.1.2
  have fe : ∀ a k, 31 ≤ a → a ≤ 43 → wc1.1 a k = wc.1 a k := fun a k _ _ => hF.1 a k (by unfold PZc; omega)
  refine ⟨A, ⟨k1.fg (fun k _ _ => hF.1 _ _ (by unfold PZc; omega)) (fun k => hF.1 _ _ (by unfold PZc; omega)) fe (fun a k _ _ => hF.1 _ _ (by unfold PZc; omega)) (fun a k _ _ => hF.1 _ _ (by unfold PZc; omega)) (fun a k _ _ => hF.2 _ _ (by unfold PTl; omega)), k2.fg fe, k3, k4, k5, PZm_t hM k6 k5, hp.2, hT, ?_⟩, hp, ?_, ?_, hO, hR, hs, ⟨c, by omega, ?_⟩⟩
  · exact ⟨(hF.1 0 7 (by unfold PZc; omega)).trans (k9.1.trans (hM.2 0 8 (by unfold PZm; omega)).symm), (hF.1 0 8 (by unfold PZc; omega)).trans (k9.2.trans (hM.2 0 9 (by unfold PZm; omega)).symm)⟩
  · exact (h3.fr (fun a k _ => hF.1 a k (by unfold PZc; omega))).fm (fun a k _ => hM.2 a k (by unfold PZm; omega))
  · exact h4.fm (fun a k _ => hM.2 a k (by unfold PZm; omega))
  · rw [hF.1 3 6 (by unfold PZc; omega)]; exact h9
theorem RLA.t (h : RLA n wc cap wm A) (hF : ∀ k, wc1.1 2 k = wc.1 2 k) (f1 : wc1.1 1 1 = wc.1 1 1) (g : ∀ k, wm1.1 1 k = wm.1 1 k) (g1 : wm1.1 0 1 = wm.1 0 1) : TPR wc1 wm1 := h.1.2.2.2.2.2.2.2.1.fm hF f1 g g1
theorem RLA.s (h : RLA n wc cap wm A) (f : ∀ a k, a = 53 ∨ (a = 0 ∧ k = 98) → wm1.1 a k = wm.1 a k) : ∃ s, s ≤ 100 * (n + 1) ∧ STP wm1 s := by
  obtain ⟨s, h1, h2⟩ := h.2.2.2.2.2.2.1
  exact ⟨s, by omega, h2.fm f⟩
theorem RLA.qq {fc fm : Option (Int32 × Wd)} (h : RLA n wc cap wm A) (q : QQ wc wm A fc fm) : ∃ r wc1 wm1, fc = some (r, wc1) ∧ fm = some (r, wm1) ∧ RELN (n + 1) wc1 cap wm1 := by
  obtain ⟨r, wc1, wm1, e1, e2, hF, hp, hM⟩ := q
  exact ⟨r, wc1, wm1, e1, e2, h.q (hF.xl.mo (fun a k q => by unfold PCS at q; unfold PZc; omega) (fun _ _ q => q)) (hM.mo (fun a k q => by unfold PMS at q; unfold PZm; omega)) (h.t (fun k => hF.2 _ _ (by unfold PCS; omega)) (hF.2 _ _ (by unfold PCS; omega)) (fun k => hM.2 _ _ (by unfold PMS; omega)) (hM.2 _ _ (by unfold PMS; omega))) hp (h.2.2.2.2.1.fm (fun a k _ => hF.2 a k (by unfold PCS; omega))) (h.2.2.2.2.2.1.fm (fun a k _ => hM.2 a k (by unfold PMS; omega))) (h.s (fun a k _ => hM.2 a k (by unfold PMS; omega)))⟩
theorem RLA.qr {fc fm : Option (Int32 × Wd)} (h : RLA n wc cap wm A) (q : QRk wc wm A fc fm) : ∃ r wc1 wm1, fc = some (r, wc1) ∧ fm = some (r, wm1) ∧ RELN (n + 1) wc1 cap wm1 := by
  obtain ⟨r, wc1, wm1, e1, e2, hF, hp, hM, hR⟩ := q
  exact ⟨r, wc1, wm1, e1, e2, h.q (hF.xl.mo (fun a k q => by unfold PCS at q; unfold PZc; omega) (fun _ _ q => q)) (hM.mo (fun a k q => by unfold PRk PMS at q; unfold PZm; omega)) (h.t (fun k => hF.2 _ _ (by unfold PCS; omega)) (hF.2 _ _ (by unfold PCS; omega)) (fun k => hM.2 _ _ (by unfold PRk PMS; omega)) (hM.2 _ _ (by unfold PRk PMS; omega))) hp (h.2.2.2.2.1.fm (fun a k _ => hF.2 a k (by unfold PCS; omega))) hR (h.s (fun a k _ => hM.2 a k (by unfold PRk PMS; omega)))⟩
theorem RLA.qm {fc : Option (Int32 × Wd × Nat)} {fm : Option (Int32 × Wd)} (h : RLA n wc cap wm A) (q : QM cap wc wm A fc fm) : ∃ r wc1 cap1 wm1, fc = some (r, wc1, cap1) ∧ fm = some (r, wm1) ∧ cap ≤ cap1 ∧ RELN (n + 1) wc1 cap1 wm1 := by
  obtain ⟨r, wc1, cp1, wm1, e1, e2, hF, hp, hO, hM, hR, hcp⟩ := q
  exact ⟨r, wc1, cp1, wm1, e1, e2, hcp, h.q (hF.xl.mo (fun a k q => by unfold PBu PCS at q; unfold PZc; omega) (fun _ _ q => q)) (hM.mo (fun a k q => by unfold PRk PMS at q; unfold PZm; omega)) (h.t (fun k => hF.2 _ _ (by unfold PBu PCS; omega)) (hF.2 _ _ (by unfold PBu PCS; omega)) (fun k => hM.2 _ _ (by unfold PRk PMS; omega)) (hM.2 _ _ (by unfold PRk PMS; omega))) hp hO hR (h.s (fun a k _ => hM.2 a k (by unfold PRk PMS; omega)))⟩
theorem RLA.qe {fc fm : Option (Int32 × Wd)} (h : RLA n wc cap wm A) (q : QMe wc wm A fc fm) : ∃ r wc1 wm1, fc = some (r, wc1) ∧ fm = some (r, wm1) ∧ RELN (n + 1) wc1 cap wm1 := by
  obtain ⟨r, wc1, wm1, e1, e2, hF, hp, hM⟩ := q
  exact ⟨r, wc1, wm1, e1, e2, h.q (hF.xl.mo (fun a k q => by unfold PCF PCS at q; unfold PZc; omega) (fun _ _ q => q)) (hM.mo (fun a k q => by unfold PM1 PMS at q; unfold PZm; omega)) (h.t (fun k => hF.2 _ _ (by unfold PCF PCS; omega)) (hF.2 _ _ (by unfold PCF PCS; omega)) (fun k => hM.2 _ _ (by unfold PM1 PMS; omega)) (hM.2 _ _ (by unfold PM1 PMS; omega))) hp (h.2.2.2.2.1.fm (fun a k _ => hF.2 a k (by unfold PCF PCS; omega))) (h.2.2.2.2.2.1.fm (fun a k _ => hM.2 a k (by unfold PM1 PMS; omega))) (h.s (fun a k _ => hM.2 a k (by unfold PM1 PMS; omega)))⟩
/-- a call that changes nothing told, and no memory -/
theorem RLA.z {fc fm : Option (Int32 × Wd)} {r : Int32} (h : RLA n wc cap wm A) (e1 : fc = some (r, wc1)) (e2 : fm = some (r, wm1)) (hF : FX PW22 wc wc1) (hM : FX PMS wm wm1) : ∃ r wc1 wm1, fc = some (r, wc1) ∧ fm = some (r, wm1) ∧ RELN (n + 1) wc1 cap wm1 :=
  ⟨r, wc1, wm1, e1, e2, h.q (hF.xl.mo (fun a k q => by unfold PW22 at q; unfold PZc; omega) (fun _ _ q => q)) (hM.mo (fun a k q => by unfold PMS at q; unfold PZm; omega)) (h.t (fun k => hF.2 _ _ (by unfold PW22; omega)) (hF.2 _ _ (by unfold PW22; omega)) (fun k => hM.2 _ _ (by unfold PMS; omega)) (hM.2 _ _ (by unfold PMS; omega))) (h.2.1.fm h.1.2.2.1.1 (fun a k q => hF.2 a k (by unfold PCS at q; unfold PW22; omega))) (h.2.2.2.2.1.fm (fun a k _ => hF.2 a k (by unfold PW22; omega))) (h.2.2.2.2.2.1.fm (fun a k _ => hM.2 a k (by unfold PMS; omega))) (h.s (fun a k _ => hM.2 a k (by unfold PMS; omega)))⟩
theorem RLA.i {fc fm : Option (Int32 × Wd)} (h : RLA n wc cap wm A) (q : ∃ r, fc = some (r, wc) ∧ fm = some (r, wm)) : ∃ r wc1 wm1, fc = some (r, wc1) ∧ fm = some (r, wm1) ∧ RELN (n + 1) wc1 cap wm1 := by
  obtain ⟨r, e1, e2⟩ := q
  exact h.z e1 e2 (FX.rf _ _) (FX.rf _ _)
theorem RLA.l {fc fm : Option (Int32 × Wd)} (h : RLA n wc cap wm A) (q : ∃ r v, fc = some (r, wc) ∧ (fm = some (r, wm) ∨ fm = some (r, wI wm 0 79 v))) : ∃ r wc1 wm1, fc = some (r, wc1) ∧ fm = some (r, wm1) ∧ RELN (n + 1) wc1 cap wm1 := by
  obtain ⟨r, v, e1, e2 | e2⟩ := q
  · exact h.z e1 e2 (FX.rf _ _) (FX.rf _ _)
  · exact h.z e1 e2 (FX.rf _ _) (FX.w _ _ (by unfold PMS; omega))
theorem RLA.f {fc fm : Option (Int32 × Wd)} (h : RLA n wc cap wm A) (q : ∃ r wc1 wm1, fc = some (r, wc1) ∧ fm = some (r, wm1) ∧ TPR wc1 wm1 ∧ FX PFc wc wc1 ∧ FX PFm wm wm1) : ∃ r wc1 wm1, fc = some (r, wc1) ∧ fm = some (r, wm1) ∧ RELN (n + 1) wc1 cap wm1 := by
  obtain ⟨r, wc1, wm1, e1, e2, hT, hF, hM⟩ := q
  exact ⟨r, wc1, wm1, e1, e2, h.q (hF.xl.mo (fun a k q => by unfold PFc at q; unfold PZc; omega) (fun _ _ q => q)) (hM.mo (fun a k q => by unfold PFm at q; unfold PZm; omega)) hT (h.2.1.fm h.1.2.2.1.1 (fun a k q => hF.2 a k (by unfold PCS at q; unfold PFc; omega))) (h.2.2.2.2.1.fm (fun a k _ => hF.2 a k (by unfold PFc; omega))) (h.2.2.2.2.2.1.fm (fun a k _ => hM.2 a k (by unfold PFm; omega))) (h.s (fun a k _ => hM.2 a k (by unfold PFm; omega)))⟩
theorem RLA.y {fc fm : Option (Int32 × Wd)} (h : RLA n wc cap wm A) (q : QS wc wm A fc fm) : ∃ r wc1 wm1, fc = some (r, wc1) ∧ fm = some (r, wm1) ∧ RELN (n + 1) wc1 cap wm1 := by
  obtain ⟨r, wc1, wm1, e1, e2, hF, hM, hS, hI⟩ := q
  obtain ⟨⟨k1, k2, k3, k4, k5, k6, k7, k8, k9⟩, h2, h3, h4, h5, h6, h7, ⟨c, h8, h9⟩⟩ := h
  have hN := k3.1
  have hp : PRP wc1 A := h2.fm hN (fun a k q => hF.2 a k (by unfold PCS at q; unfold PSc; omega))
  have hf : TFR wc wc1 := ⟨hF.1, fun a k ha => hF.2 a k (by unfold PSc; omega)⟩
  refine ⟨r, wc1, wm1, e1, e2, A, ⟨k1.fr hN hf, k2.fr hf, k3, k4, k5, hM.ot k6 (fun k hk => by unfold PSm; omega) (fun o k ho => by unfold PSm; omega), hp.2, ?_, ?_⟩, hp, hS, hI, h5.fm (fun a k _ => hF.2 a k (by unfold PSc; omega)), h6.fm (fun a k _ => hM.2 a k (by unfold PSm; omega)), ?_, ⟨c, by omega, ?_⟩⟩
  · exact k8.fm (fun k => hF.2 _ _ (by unfold PSc; omega)) (hF.2 _ _ (by unfold PSc; omega)) (fun k => hM.2 _ _ (by unfold PSm; omega)) (hM.2 _ _ (by unfold PSm; omega))
  · exact ⟨(hF.2 0 7 (by unfold PSc; omega)).trans (k9.1.trans (hM.2 0 8 (by unfold PSm; omega)).symm), (hF.2 0 8 (by unfold PSc; omega)).trans (k9.2.trans (hM.2 0 9 (by unfold PSm; omega)).symm)⟩
  · obtain ⟨s, q1, q2⟩ := h7
    exact ⟨s, by omega, q2.fm (fun a k _ => hM.2 a k (by unfold PSm; omega))⟩
  · rw [hF.2 3 6 (by unfold PSc; omega)]; exact h9
theorem bd_new {w w' : Wd} (h : BDP w) (hc : ∃ c, c < 999999 ∧ w.1 3 6 = nI c) (e : w'.1 3 6 = w.1 3 6 + 1) (e1 : w'.1 8 13 = w.1 8 13) (e2 : w'.1 16 9 = w.1 16 9) : ¬ w'.1 8 13 = w'.1 3 6 ∧ ¬ w'.1 16 9 = w'.1 3 6 := by
  obtain ⟨c, hc, ec⟩ := hc
  obtain ⟨c', hc', ec', a, b⟩ := h
  have ee : c' = c := (nI_eq (by omega) (by omega)).mp (ec'.symm.trans ec)
  subst ee
  rw [e, ec, nI_1, e1, e2]
  refine ⟨?_, ?_⟩
  · rcases a with q | ⟨d, hd, q⟩ <;> rw [q]
    · exact fun q => nI_n1 (n := c' + 1) (by omega) q.symm
    · exact fun q => by have := (nI_eq (by omega) (by omega)).mp q; omega
  · rcases b with q | ⟨d, hd, q⟩ <;> rw [q]
    · exact fun q => nI_n1 (n := c' + 1) (by omega) q.symm
    · exact fun q => by have := (nI_eq (by omega) (by omega)).mp q; omega
theorem RLA.cb (h : RLA n wc cap wm A) (hn : n < 512) : ∃ c, c < 999999 ∧ wc.1 3 6 = nI c := by
  obtain ⟨c, h8, h9⟩ := h.2.2.2.2.2.2.2
  exact ⟨c, by omega, h9⟩
theorem RLA.g {fc fm : Option (Int32 × Wd)} (h : RLA n wc cap wm A) (hn : n < 512) (q : ∃ r wc1 wm1 A1, fc = some (r, wc1) ∧ fm = some (r, wm1) ∧ KRN wc1 wm1 A1 ∧ CHG wc wm A wc1 wm1 A1) : ∃ r wc1 wm1, fc = some (r, wc1) ∧ fm = some (r, wm1) ∧ RELN (n + 1) wc1 cap wm1 := by
  have hcb := h.cb hn
  obtain ⟨r, wc1, wm1, A1, e1, e2, hK, hF, hM, he, hcase⟩ := q
  obtain ⟨k, h2, h3, h4, h5, h6, ⟨s, h7, h7'⟩, ⟨c, h8, h9⟩⟩ := h
  have hS : STO wc1 wm1 := (h3.fr (fun a k _ => hF.1 a k (by unfold PPC; omega))).fm (fun a k _ => hM.2 a k (by unfold PPM; omega))
  have hI : STI A1 wm1 := by
    have e : nPe A1 = nPe A := by
      have q := congrFun (congrFun (congrArg Prod.fst he) 0) 11
      unfold nPe
      exact congrArg Int32.toNatClampNeg q
    have q := h4.fm (m' := wm1) (fun a k _ => hM.2 a k (by unfold PPM; omega))
    unfold STI at q ⊢
    rw [e]; exact q
  have hs : ∃ s, s ≤ 100 * (n + 1) ∧ STP wm1 s := ⟨s, by omega, h7'.fm (fun a k _ => hM.2 a k (by unfold PPM; omega))⟩
  refine ⟨r, wc1, wm1, e1, e2, A1, ?_⟩
  rcases hcase with ⟨rfl, g1, g2⟩ | ⟨g1, g2⟩
  · refine ⟨hK, h2.fm hK.2.2.1.1 (fun a k q => ?_), hS, hI, h5.fm (fun a k q => ?_), h6.fm (fun a k q => ?_), hs, ⟨c, by omega, g1.trans h9⟩⟩
    · by_cases e : a = 3 ∧ k = 6
      · rw [e.1, e.2]; exact g1
      · exact hF.1 a k (by unfold PCS at q; unfold PPC; omega)
    · by_cases e : a = 3 ∧ k = 6
      · rw [e.1, e.2]; exact g1
      · exact hF.1 a k (by unfold PPC; omega)
    · by_cases e : a = 0 ∧ k = 78
      · rw [e.1, e.2]; exact g2
      · exact hM.2 a k (by unfold PPM; omega)
  · obtain ⟨n1, n2⟩ := bd_new h2.2 hcb g1 (hF.1 8 13 (by unfold PPC; omega)) (hF.1 16 9 (by unfold PPC; omega))
    refine ⟨hK, ⟨fun e => absurd e n1, hK.2.2.2.2.2.2.1⟩, hS, hI, ⟨⟨(hF.1 16 4 (by unfold PPC; omega)).trans h5.1.1, h5.1.2⟩, fun e => absurd e n2⟩, Or.inl g2, hs, ⟨c + 1, by omega, ?_⟩⟩
    rw [g1, h9, nI_1]
theorem RLA.h {fc : Option (Int32 × Wd × Nat)} {fm : Option (Int32 × Wd)} (h : RLA n wc cap wm A) (hn : n < 512) (q : ∃ r wc1 wm1 A1, fc = some (r, wc1, cap) ∧ fm = some (r, wm1) ∧ KRN wc1 wm1 A1 ∧ CHE wc wm A wc1 wm1 A1) : ∃ r wc1 cap1 wm1, fc = some (r, wc1, cap1) ∧ fm = some (r, wm1) ∧ cap ≤ cap1 ∧ RELN (n + 1) wc1 cap1 wm1 := by
  have hcb := h.cb hn
  obtain ⟨r, wc1, wm1, A1, e1, e2, hK, hF, hM, hcase⟩ := q
  obtain ⟨k, h2, h3, h4, h5, h6, ⟨s, h7, h7'⟩, ⟨c, h8, h9⟩⟩ := h
  have hs : ∃ s, s ≤ 100 * (n + 1) ∧ STP wm1 s := ⟨s, by omega, h7'.fm (fun a k _ => hM.1 a k (by unfold PEN; omega))⟩
  refine ⟨r, wc1, cap, wm1, e1, e2, Nat.le_refl _, A1, ?_⟩
  rcases hcase with ⟨rfl, g1, g2, g3, g4⟩ | ⟨g1, g2, g3, g4⟩
  · refine ⟨hK, h2.fm hK.2.2.1.1 (fun a k q => ?_), ?_, ?_, h5.fm (fun a k q => ?_), h6.fm (fun a k q => ?_), hs, ⟨c, by omega, g1.trans h9⟩⟩
    · by_cases e : a = 3 ∧ k = 6
      · rw [e.1, e.2]; exact g1
      · exact hF.1 a k (by unfold PCS at q; unfold PEC; omega)
    · refine (h3.fr (fun a k q => ?_)).fm (fun a k q => ?_)
      · by_cases e : a = 22 ∧ k = 0
        · rw [e.1, e.2]; exact g3
        · exact hF.1 a k (by unfold PEC; omega)
      · by_cases e : a = 0 ∧ k = 99
        · rw [e.1, e.2]; exact g4
        · exact hM.1 a k (by unfold PEN; omega)
    · refine h4.fm (fun a k q => ?_)
      by_cases e : a = 0 ∧ k = 99
      · rw [e.1, e.2]; exact g4
      · exact hM.1 a k (by unfold PEN; omega)
    · by_cases e : a = 3 ∧ k = 6
      · rw [e.1, e.2]; exact g1
      · exact hF.1 a k (by unfold PEC; omega)
    · by_cases e : a = 0 ∧ k = 78
      · rw [e.1, e.2]; exact g2
      · exact hM.1 a k (by unfold PEN; omega)
  · obtain ⟨n1, n2⟩ := bd_new h2.2 hcb g1 (hF.1 8 13 (by unfold PEC; omega)) (hF.1 16 9 (by unfold PEC; omega))
    have n0 : nSt wm1 = 0 := by unfold nSt; rw [g4]; rfl
    refine ⟨hK, ⟨fun e => absurd e n1, hK.2.2.2.2.2.2.1⟩, ⟨g3.trans g4.symm, fun s hs => ?_⟩, ⟨⟨?_, ?_⟩, fun s hs => ?_⟩, ⟨⟨(hF.1 16 4 (by unfold PEC; omega)).trans h5.1.1, h5.1.2⟩, fun e => absurd e n2⟩, Or.inl g2, hs, ⟨c + 1, by omega, ?_⟩⟩
    · omega
    · rw [n0]; exact g4
    · omega
    · omega
    · rw [g1, h9, nI_1]
end
