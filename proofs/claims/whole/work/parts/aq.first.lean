/-! the start: the desk and the reference as they are made -/
def w1M : Wd := wI (wI (wI w0M 0 75 0) 0 78 0) 0 75 1
theorem w1M_o : f_X12_findOrders w0M = some w1M := by
  unfold f_X12_findOrders f_X12_orderFrom f_X12_orderFrom_n
  rfl
def A0 : Wd := tol w1M
theorem A0_1 : nLa A0 = 0 ∧ nPe A0 = 0 ∧ nTh A0 = 0 ∧ nPa A0 = 0 ∧ nEv A0 = 0 ∧ nOr A0 = 1 ∧ nSt w1M = 0 := ⟨rfl, rfl, rfl, rfl, rfl, rfl, rfl⟩
theorem A0_2 : A0.1 0 10 = 0 ∧ A0.1 0 11 = 0 ∧ A0.1 0 12 = 0 ∧ A0.1 0 49 = 0 ∧ A0.1 0 50 = 0 ∧ A0.1 0 75 = 1 ∧ A0.1 0 80 = -1 ∧ A0.1 0 19 = -1 ∧ A0.1 0 13 = 0 ∧ A0.1 0 14 = 0 ∧ A0.1 0 15 = 0 := ⟨rfl, rfl, rfl, rfl, rfl, rfl, rfl, rfl, rfl, rfl, rfl⟩
theorem bt_nul (k : Nat) : bt 0 k = false := by unfold bt; simp
theorem EST_0 : EST w0C A0 := by
  obtain ⟨a, b, c, _⟩ := A0_1
  unfold EST
  rw [a, b, c]
  refine ⟨⟨rfl, rfl, rfl⟩, fun k hk => by omega, fun k hk => by omega, fun k hk => by omega, ⟨rfl, rfl, rfl, rfl⟩, fun _ => ⟨rfl, rfl, rfl⟩, fun h => by omega, fun k _ _ => bt_nul k, fun k hk => by omega, fun k hk => by omega, fun k hk => by omega⟩
theorem TLD_0 : TLD w0C A0 := by
  obtain ⟨a, b, c, d, e, f, g⟩ := A0_1
  have i : nIt A0 = 0 := by unfold nIt; rw [d, e]
  refine ⟨EST_0, ⟨rfl, rfl⟩, ⟨rfl, fun o ho i hi => by omega⟩, fun p hp => by omega, fun e he => by omega⟩
theorem INV_0 : INV A0 := by
  obtain ⟨a, b, c, d, e, f, g⟩ := A0_1
  have i : nIt A0 = 0 := by unfold nIt; rw [d, e]
  refine ⟨⟨⟨rfl, by omega⟩, ⟨rfl, by omega⟩, ⟨rfl, by omega⟩, ⟨rfl, by omega⟩, ⟨rfl, by omega⟩, by omega, ⟨rfl, by omega⟩, trivial⟩, ⟨fun h => by omega, fun l hl => by omega, fun t ht => by omega⟩, fun p hp => by omega, fun e he => by omega, fun o ho => ⟨fun i hi => by omega, fun i j hi hj => by omega⟩⟩
theorem KRN_0 : KRN w0C w1M A0 := by
  obtain ⟨a, b, c, d, e, f, g⟩ := A0_1
  refine ⟨TLD_0, ⟨fun i hi => ?_, fun k hk => by omega⟩, INV_0, ⟨fun k hk => by omega, Or.inl rfl, fun t ht => by omega, ⟨0, by omega, rfl⟩, ⟨0, by omega, rfl⟩, fun l hl => by omega⟩, rfl, rfl, ⟨0, by omega, rfl, Or.inl rfl, Or.inl rfl⟩, ⟨rfl, fun j => ?_, rfl, 0, by omega, rfl⟩, rfl, rfl⟩
  · have q : ssS A0 (-1) i = false := by unfold ssS; rw [b, decide_eq_false (by omega), Bool.false_and]
    rw [q]; exact bt_nul i
  · have q : w1M.1 1 j = 0 := rfl
    rw [q]; unfold bRg; decide
theorem rl_0 : RELN 0 w0C 32 w1M := by
  obtain ⟨a, b, c, d, e, f, g⟩ := A0_1
  refine ⟨A0, KRN_0, ⟨fun h => absurd h (by decide), KRN_0.2.2.2.2.2.2.1⟩, ⟨rfl, fun s hs => by omega⟩, ⟨⟨rfl, by omega⟩, fun s hs => by omega⟩, ⟨⟨rfl, Or.inl rfl⟩, fun h => absurd h (by decide)⟩, Or.inl rfl, ⟨0, by omega, rfl, fun k _ => ⟨0, by omega, rfl⟩⟩, ⟨0, by omega, rfl⟩⟩
