/-! the fewest -/
def ctN (c : Nat) : Nat := fb_ct (bt (nI c)) 8
def BST (V : Nat → Prop) (c : Nat) : Prop := c < 64 ∧ V c ∧ ∀ d, d < 64 → V d → ctN c < ctN d ∨ (ctN c = ctN d ∧ c ≤ d)
def NON (V : Nat → Prop) (m c : Nat) : Prop := ∀ d, d < 64 → (ctN d < m ∨ (ctN d = m ∧ d < c)) → ¬ V d
def RES (V : Nat → Prop) (r : Int32) : Prop := (∃ c, BST V c ∧ r = nI c) ∨ (r = -1 ∧ ∀ c, c < 64 → ¬ V c)
theorem ctN_6 : ∀ c, c < 64 → ctN c ≤ 6 := by decide +kernel
theorem bt_64 {c : Nat} (hc : c < 64) : ∀ i, 8 ≤ i → i < 32 → bt (nI c) i = false := fun i h8 hi => by
  rw [b_nI _ _ hi]
  exact Nat.testBit_lt_two_pow (Nat.lt_of_lt_of_le (show c < 2 ^ 8 by omega) (Nat.pow_le_pow_right (by omega) h8))
theorem RES.un {V : Nat → Prop} {r s : Int32} (h : RES V r) (k : RES V s) : r = s := by
  rcases h with ⟨c, ⟨h1, h2, h3⟩, rfl⟩ | ⟨rfl, h⟩
  · rcases k with ⟨d, ⟨k1, k2, k3⟩, rfl⟩ | ⟨-, k⟩
    · have := h3 d k1 k2
      have := k3 c h1 h2
      rw [show c = d by omega]
    · exact absurd h2 (k c h1)
  · rcases k with ⟨d, ⟨k1, k2, k3⟩, rfl⟩ | ⟨rfl, k⟩
    · exact absurd k2 (h d k1)
    · rfl
theorem NON.up {V : Nat → Prop} {m : Nat} (h : NON V m 64) : NON V (m + 1) 0 := fun d hd h' => h d hd (by omega)
theorem NON.nx {V : Nat → Prop} {m c : Nat} (h : NON V m c) (hc : ¬ (ctN c = m ∧ V c)) : NON V m (c + 1) := fun d hd h' => by
  by_cases e : d = c
  · subst e
    by_cases q : ctN d = m
    · exact fun v => hc ⟨q, v⟩
    · exact h d hd (by omega)
  · exact h d hd (by omega)
theorem NON.bst {V : Nat → Prop} {m c : Nat} (h : NON V m c) (hc : c < 64) (he : ctN c = m) (hv : V c) : BST V c := ⟨hc, hv, fun d hd hvd => by
  by_cases q : ctN d < m ∨ (ctN d = m ∧ d < c)
  · exact absurd hvd (h d hd q)
  · omega⟩
theorem NON.all {V : Nat → Prop} (h : NON V 7 0) : ∀ c, c < 64 → ¬ V c := fun c hc => h c hc (Or.inl (by have := ctN_6 c hc; omega))
def PCF (a k : Nat) : Prop := PCS a k ∨ a = 28 ∨ a = 29
theorem PCM_f {w w' : Wd} (h : FX PCM w w') : FX PCF w w' := h.mo (fun a k q => by unfold PCM PCS at q; unfold PCF PCS; omega)
theorem PCF_t {w w' : Wd} (h : FX PCF w w') : TFR w w' := ⟨h.1, fun a k ha => h.2 a k (by unfold PCF PCS; omega)⟩
section
variable {w A : Wd}
theorem zc_fewest (hL : TLD w A) (hK : KIN w A) (hI : INV A) (hPe : PEI A) (hX : NCH A) {p t q : Nat} (hp : p < nPa A) (ht : t < nTh A) (hq : q < nPe A) (h0 : 0 < nLa A) : OK (f_X3_fewestChanges (nI p) (nI t) (nI q) w) (fun r => RES (fun c => VC A p t q (nI c)) r.1 ∧ r.2.1 8 13 = -1 ∧ FX PCF w r.2) := by
  have hN := hI.1
  have last : ∀ y v, RES (fun c => VC A p t q (nI c)) y → FX PCF w v → OK (X3_fewestChanges_b110 y v) (fun r => RES (fun c => VC A p t q (nI c)) r.1 ∧ r.2.1 8 13 = -1 ∧ FX PCF w r.2) := by
    intro y v hr hF
    unfold X3_fewestChanges_b110 f_X7_forgetMending
    exact OK.s ⟨hr, wI_s _ _ _ _, hF.tr (FX.w _ _ (by unfold PCF PCS; omega))⟩
  have loop : ∀ v0, FX PCF w v0 → ASK3 v0 p t q → v0.1 28 6 = nI (lwT A t) → MEM v0 A p t q → OK (X3_fewestChanges_b46_L (-1) 0 v0) (fun r => RES (fun c => VC A p t q (nI c)) r.1 ∧ r.2.1 8 13 = -1 ∧ FX PCF w r.2) := by
    intro v0 hF0 hA0 h60 hM0
    refine lo3 (fun n y4 y5 v => ∃ m, n = 7 - m ∧ m ≤ 7 ∧ y5 = nI m ∧ ASK3 v p t q ∧ v.1 28 6 = nI (lwT A t) ∧ MEM v A p t q ∧ FX PCF w v ∧ ((y4 = -1 ∧ NON (fun c => VC A p t q (nI c)) m 0) ∨ ∃ c, BST (fun c => VC A p t q (nI c)) c ∧ y4 = nI c)) ?_ fu (7 - 0) (-1) 0 v0 (by rw [fu_eq]; omega) ⟨0, rfl, by omega, rfl, hA0, h60, hM0, hF0, Or.inl ⟨rfl, fun d hd h => by omega⟩⟩
    rintro n k a4 a5 v ⟨m, rfl, hm, rfl, hA, h6, hM, hF, hy⟩ hk
    rw [X3_fewestChanges_b46]
    by_cases hin : m < 7
    · refine OK.f (nI_nlt (a := 6) (b := m) (by omega) (by omega)) ?_
      rcases hy with ⟨rfl, hno⟩ | ⟨c, hb, rfl⟩
      · refine OK.t rfl ?_
        refine lo4 (fun n y4 y5 y6 u => ∃ c, n = 64 - c ∧ c ≤ 64 ∧ y5 = nI m ∧ y6 = nI c ∧ ASK3 u p t q ∧ u.1 28 6 = nI (lwT A t) ∧ MEM u A p t q ∧ FX PCF w u ∧ ((y4 = -1 ∧ NON (fun c => VC A p t q (nI c)) m c) ∨ ∃ c, BST (fun c => VC A p t q (nI c)) c ∧ y4 = nI c)) ?_ fu (64 - 0) (-1) (nI m) 0 v (by rw [fu_eq]; omega) ⟨0, rfl, by omega, rfl, rfl, hA, h6, hM, hF, Or.inl ⟨rfl, hno⟩⟩
        clear hno hA h6 hM hF
        rintro n k2 b4 b5 b6 u ⟨c, rfl, hc, rfl, rfl, hA, h6, hM, hF, hy⟩ hk2
        rw [X3_fewestChanges_b62]
        have out : ((b4 = -1 ∧ NON (fun c => VC A p t q (nI c)) (m + 1) 0) ∨ ∃ c, BST (fun c => VC A p t q (nI c)) c ∧ b4 = nI c) → OK (k b4 (nI m + 1) u) (fun r => RES (fun c => VC A p t q (nI c)) r.1 ∧ r.2.1 8 13 = -1 ∧ FX PCF w r.2) := fun h => hk _ _ _ _ (by omega) ⟨m + 1, rfl, hin, nI_1 m, hA, h6, hM, hF, h⟩
        by_cases hc6 : c < 64
        · refine OK.f (nI_ge (b := 64) hc6 (by omega)) ?_
          rcases hy with ⟨rfl, hno⟩ | ⟨d, hb, rfl⟩
          · refine OK.t rfl ?_
            rw [zc_bc (bt_64 hc6), cl_s]
            have c8 : ctN c < 2 ^ 31 := by have := ctN_6 c hc6; omega
            by_cases e : ctN c = m
            · refine OK.t (congrArg nI e) ?_
              have hT := PCF_t hF
              refine OK.c ((zc_enough (hL.fr hN hT) (hK.fr hT) hI hPe hX hp ht hq h0 hA h6 hM (nI c)).m ?_)
              rintro ⟨r, u2⟩ ⟨hv, hM2, hF2⟩
              dsimp only at hv hM2 hF2 ⊢
              have hA2 : ASK3 u2 p t q := ⟨(hF2.2 _ _ (by unfold PCM PCS; omega)).trans hA.1, (hF2.2 _ _ (by unfold PCM PCS; omega)).trans hA.2.1, (hF2.2 _ _ (by unfold PCM PCS; omega)).trans hA.2.2⟩
              have h62 : u2.1 28 6 = nI (lwT A t) := (hF2.2 _ _ (by unfold PCM PCS; omega)).trans h6
              rcases hv with ⟨rfl, hv⟩ | ⟨rfl, hv⟩
              · exact OK.f (by decide) (hk2 _ _ _ _ _ (by omega) ⟨c + 1, rfl, hc6, rfl, nI_1 c, hA2, h62, hM2, hF.tr (PCM_f hF2), Or.inr ⟨c, hno.bst hc6 e hv, rfl⟩⟩)
              · exact OK.t rfl (hk2 _ _ _ _ _ (by omega) ⟨c + 1, rfl, hc6, rfl, nI_1 c, hA2, h62, hM2, hF.tr (PCM_f hF2), Or.inl ⟨rfl, hno.nx (fun h => hv h.2)⟩⟩)
            · refine OK.f (fun h => e ((nI_eq c8 (by omega)).mp h)) (hk2 _ _ _ _ _ (by omega) ⟨c + 1, rfl, hc6, rfl, nI_1 c, hA, h6, hM, hF, Or.inl ⟨rfl, hno.nx (fun h => e h.1)⟩⟩)
          · exact OK.f (nI_n1 (by have := hb.1; omega)) (out (Or.inr ⟨d, hb, rfl⟩))
        · have e : c = 64 := by omega
          subst e
          refine OK.t (nI_le (a := 64) (b := 64) (by omega) (by omega)) (out ?_)
          rcases hy with ⟨rfl, hno⟩ | h
          · exact Or.inl ⟨rfl, hno.up⟩
          · exact Or.inr h
      · exact OK.f (nI_n1 (by have := hb.1; omega)) (last _ _ (Or.inl ⟨c, hb, rfl⟩) hF)
    · have e : m = 7 := by omega
      subst e
      refine OK.t (by decide) (last _ _ ?_ hF)
      rcases hy with ⟨rfl, hno⟩ | h
      · exact Or.inr ⟨rfl, hno.all⟩
      · exact Or.inl h
  unfold f_X3_fewestChanges
  refine OK.l (OK.l (OK.l ?_))
  have hF1 : FX PCF w (wI (wI (wI w 28 3 (nI p)) 28 4 (nI t)) 28 5 (nI q)) := ((FX.w w _ (by unfold PCF PCS; omega)).tr (FX.w _ _ (by unfold PCF PCS; omega))).tr (FX.w _ _ (by unfold PCF PCS; omega))
  have hA1 : ASK3 (wI (wI (wI w 28 3 (nI p)) 28 4 (nI t)) 28 5 (nI q)) p t q := by
    refine ⟨?_, ?_, ?_⟩
    · rw [wI_g, if_neg (by omega), wI_g, if_neg (by omega), wI_s]
    · rw [wI_g, if_neg (by omega), wI_s]
    · rw [wI_s]
  generalize wI (wI (wI w 28 3 (nI p)) 28 4 (nI t)) 28 5 (nI q) = w1 at hF1 hA1 ⊢
  obtain ⟨r, e1, e2, -⟩ := zc_law2 (hL.fr hN (PCF_t hF1)).1 hN hI.2.1 h0 (x := nI t) (Or.inr ⟨t, ht, rfl⟩)
  rw [e1, cl_s, e2]
  refine OK.l ?_
  rw [zc_fill (by omega), cv_s]
  have hF2 : FX PCF w1 (wC (wI w1 28 6 (nI (lwX A (nI t)))) 29 (fun k => if k < 8 then 0 else (wI w1 28 6 (nI (lwX A (nI t)))).1 29 k)) := (FX.w w1 _ (by unfold PCF PCS; omega)).tr (FX.c _ _ (fun k => by unfold PCF PCS; omega))
  refine loop _ (hF1.tr hF2) ⟨?_, ?_, ?_⟩ ?_ (fun G U L => Or.inl ?_)
  · rw [wC_g, if_neg (by omega), wI_g, if_neg (by omega)]; exact hA1.1
  · rw [wC_g, if_neg (by omega), wI_g, if_neg (by omega)]; exact hA1.2.1
  · rw [wC_g, if_neg (by omega), wI_g, if_neg (by omega)]; exact hA1.2.2
  · rw [wC_g, if_neg (by omega), wI_s]; rfl
  · rw [wC_g, if_pos rfl, if_pos (kyM_lt G U L)]
end
