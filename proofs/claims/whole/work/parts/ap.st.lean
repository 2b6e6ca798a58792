/-! every call answers alike -/
theorem st_feed : ST_feed RELN := fun n wc cap wm hn ⟨A, h⟩ a b c d e => h.f (q_feed h.1.2.2.2.2.2.2.2.1 a b c d e)
theorem st_end : ST_end RELN := fun n wc cap wm hn ⟨A, h⟩ a => h.f (q_end h.1.2.2.2.2.2.2.2.1 a)
theorem st_estate : ST_estate RELN := fun n wc cap wm hn ⟨A, h⟩ => h.h hn (q_estate h.1 (h.cb hn) cap)
theorem st_paper : ST_paper RELN := fun n wc cap wm hn ⟨A, h⟩ => h.g hn (q_paper h.1 (h.cb hn))
theorem st_fault : ST_fault RELN := fun n wc cap wm hn ⟨A, h⟩ a => h.i (q_fault h.1.2.2.2.2.2.2.2.2 a)
theorem st_event : ST_event RELN := fun n wc cap wm hn ⟨A, h⟩ a b c d e => h.g hn (q_event h.1 (h.cb hn) a b c d e)
theorem st_told : ST_told RELN := fun n wc cap wm hn ⟨A, h⟩ a => h.i (q_told h.1.1 h.1.2.2.1.1 h.1.2.2.2.1 h.1.2.2.2.2.2.1 a)
theorem st_rule : ST_rule RELN := fun n wc cap wm hn ⟨A, h⟩ a b => h.i (q_rule h.1.1.1 h.1.2.2.1.1 h.1.2.2.2.2.2.1 a b)
theorem st_look : ST_look RELN := fun n wc cap wm hn ⟨A, h⟩ a b => h.i (q_look h.1.1.2.2.2.1 h.1.1.2.1 h.1.2.2.1.1 h.1.2.2.1.2.2.1 h.1.2.2.2.2.2.1 a b)
theorem st_orders : ST_orders RELN := fun n wc cap wm hn ⟨A, h⟩ => h.i ⟨_, q_orders h.1.1.2.2.1 h.1.2.2.2.2.2.1⟩
theorem st_item : ST_item RELN := fun n wc cap wm hn ⟨A, h⟩ a b => h.i (q_item h.1.1.2.2.1 h.1.1.2.1 h.1.2.2.1.1 h.1.2.2.2.2.2.1 a b)
theorem st_ahead : ST_ahead RELN := fun n wc cap wm hn ⟨A, h⟩ a b => h.i (q_ahead h.1.1.2.2.1 h.1.1.2.1 h.1.2.2.1.1 h.1.2.2.2.2.2.1 a b)
theorem st_law : ST_law RELN := fun n wc cap wm hn ⟨A, h⟩ a => h.l (q_law h.1.1.1 h.1.2.2.1.1 h.1.2.2.1.2.1 h.1.2.2.2.2.2.1 a)
theorem st_ring : ST_ring RELN := fun n wc cap wm hn ⟨A, h⟩ a => h.l (q_ring h.1.1.1 h.1.2.2.1.1 h.1.2.2.1.2.1 h.1.2.2.2.2.2.1 a)
theorem st_good : ST_good RELN := fun n wc cap wm hn ⟨A, h⟩ a b => h.i (q_good h.1.1.1 h.1.1.2.2.2.1 h.1.1.2.1 h.1.2.2.1.1 h.1.2.2.1.2.2.1 h.1.2.2.2.2.1 h.1.2.2.2.2.2.1 a b)
theorem st_counts : ST_counts RELN := fun n wc cap wm hn ⟨A, h⟩ a b => h.qq (q_counts h.1.1 h.1.2.2.1 h.1.2.2.2.2.1 h.2.1 h.1.2.2.2.2.2.1 a b)
theorem st_undone : ST_undone RELN := fun n wc cap wm hn ⟨A, h⟩ x a b => h.qq (q_undone h.1.1 h.1.2.2.1 h.1.2.2.2.2.1 h.2.1 h.1.2.2.2.2.2.1 x a b)
theorem st_ways : ST_ways RELN := fun n wc cap wm hn ⟨A, h⟩ => h.i ⟨_, q_ways h.1.1.1 h.1.1.2.2.1 h.1.2.2.1.1 h.1.2.2.2.2.2.1⟩
theorem st_goes : ST_goes RELN := fun n wc cap wm hn ⟨A, h⟩ a b => h.qq (q_goes h.1.1 h.1.2.1 h.1.2.2.1 h.1.2.2.2.1 h.1.2.2.2.2.1 h.2.1 h.1.2.2.2.2.2.1 a b)
theorem st_how : ST_how RELN := fun n wc cap wm hn ⟨A, h⟩ a b => h.qq (q_how h.1.1 h.1.2.1 h.1.2.2.1 h.1.2.2.2.1 h.1.2.2.2.2.1 h.2.1 h.1.2.2.2.2.2.1 a b)
theorem st_paid : ST_paid RELN := fun n wc cap wm hn ⟨A, h⟩ a b => h.qq (q_paid h.1.1 h.1.2.1 h.1.2.2.1 h.1.2.2.2.1 h.1.2.2.2.2.1 h.2.1 h.1.2.2.2.2.2.1 a b)
theorem st_sum : ST_sum RELN := fun n wc cap wm hn ⟨A, h⟩ a b => h.qr (q_sum h.1.1 h.1.2.1 h.1.2.2.1 h.1.2.2.2.1 h.1.2.2.2.2.1 h.2.1 h.1.2.2.2.2.2.1 h.2.2.2.2.2.1 a b)
theorem st_lack : ST_lack RELN := fun n wc cap wm hn ⟨A, h⟩ a => h.qr (q_lack h.1.1 h.1.2.1 h.1.2.2.1 h.1.2.2.2.1 h.1.2.2.2.2.1 h.2.1 h.1.2.2.2.2.2.1 h.2.2.2.2.2.1 a)
theorem st_sure : ST_sure RELN := fun n wc cap wm hn ⟨A, h⟩ a b _ => h.qm (q_sure h.1.1 h.1.2.1 h.1.2.2.1 h.1.2.2.2.1 h.1.2.2.2.2.1 h.2.1 h.2.2.2.2.1 h.1.2.2.2.2.2.1 h.2.2.2.2.2.1 a b)
theorem st_surely : ST_surely RELN := fun n wc cap wm hn ⟨A, h⟩ a => h.qq (q_surely h.1.1 h.1.2.1 h.1.2.2.1 h.1.2.2.2.1 h.1.2.2.2.2.1 h.2.1 h.1.2.2.2.2.2.1 a)
theorem st_hangs : ST_hangs RELN := fun n wc cap wm hn ⟨A, h⟩ a => h.qm (q_hangs h.1.1 h.1.2.1 h.1.2.2.1 h.1.2.2.2.1 h.1.2.2.2.2.1 h.2.1 h.2.2.2.2.1 h.1.2.2.2.2.2.1 h.2.2.2.2.2.1 a)
theorem st_outcomes : ST_outcomes RELN := fun n wc cap wm hn ⟨A, h⟩ => h.qm (q_outcomes h.1.1 h.1.2.1 h.1.2.2.1 h.1.2.2.2.1 h.1.2.2.2.2.1 h.2.1 h.2.2.2.2.1 h.1.2.2.2.2.2.1 h.2.2.2.2.2.1)
theorem st_ask : ST_ask RELN := fun n wc cap wm hn ⟨A, h⟩ => by
  obtain ⟨s, hs, hS⟩ := h.2.2.2.2.2.2.1
  obtain ⟨r, wc1, cp1, wm1, e1, e2, hF, hp, hO, hM, hR, ⟨t, ht, hSt⟩, hcp⟩ := q_ask h.1.1 h.1.2.1 h.1.2.2.1 h.1.2.2.2.1 h.1.2.2.2.2.1 h.2.1 h.2.2.2.2.1 h.1.2.2.2.2.2.1 h.2.2.2.2.2.1 hS (by omega)
  exact ⟨r, wc1, cp1, wm1, e1, e2, hcp, h.q (hF.xl.mo (fun a k q => by unfold PBu PCS at q; unfold PZc; omega) (fun _ _ q => q)) (hM.mo (fun a k q => by unfold PAk PAs PRk PMS at q; unfold PZm; omega)) (h.t (fun k => hF.2 _ _ (by unfold PBu PCS; omega)) (hF.2 _ _ (by unfold PBu PCS; omega)) (fun k => hM.2 _ _ (by unfold PAk PAs PRk PMS; omega)) (hM.2 _ _ (by unfold PAk PAs PRk PMS; omega))) hp hO hR ⟨t, by omega, hSt⟩⟩
theorem st_says : ST_says RELN := fun n wc cap wm hn ⟨A, h⟩ a b c => h.y (q_says h.1.1 h.1.2.2.1.1 h.2.2.1 h.2.2.2.1 h.1.2.2.2.2.2.1 a b c)
theorem st_tells : ST_tells RELN := fun n wc cap wm hn ⟨A, h⟩ a b c => h.y (q_tells h.1.1 h.1.2.2.1.1 h.2.2.1 h.2.2.2.1 h.1.2.2.2.2.2.1 a b c)
theorem st_stories : ST_stories RELN := fun n wc cap wm hn ⟨A, h⟩ a => by
  obtain ⟨r, wc1, e1, e2, hF⟩ := q_stories h.1.1 h.1.2.2.1.1 h.2.2.1 h.2.2.2.1 h.1.2.2.2.2.2.1 a
  exact h.z e1 e2 hF (FX.rf _ _)
theorem st_gain : ST_gain RELN := fun n wc cap wm hn ⟨A, h⟩ a => h.qm (q_gain h.1.1 h.1.2.1 h.1.2.2.1 h.1.2.2.2.1 h.1.2.2.2.2.1 h.2.1 h.2.2.2.2.1 h.2.2.1 h.2.2.2.1 h.1.2.2.2.2.2.1 h.2.2.2.2.2.1 a)
theorem st_settle : ST_settle RELN := fun n wc cap wm hn ⟨A, h⟩ => by
  obtain ⟨r, wc1, cp1, wm1, e1, e2, hF, hM, hp, hO, hR, hT, hcp⟩ := q_settle h.1 h.2.1 h.2.2.2.2.1 h.2.2.2.2.2.1
  exact ⟨r, wc1, cp1, wm1, e1, e2, hcp, h.q (hF.mo (fun a k q => by unfold PSet PBu PCS at q; unfold PZc; omega) (fun _ _ q => q)) (hM.mo (fun a k q => by unfold PSem PRk PMS at q; unfold PZm; omega)) hT hp hO hR (h.s (fun a k _ => hM.2 a k (by unfold PSem PRk PMS; omega)))⟩
theorem st_floor : ST_floor RELN := fun n wc cap wm hn ⟨A, h⟩ a => h.qm (q_floor h.1.1 h.1.2.1 h.1.2.2.1 h.1.2.2.2.1 h.1.2.2.2.2.1 h.2.1 h.2.2.2.2.1 h.1.2.2.2.2.2.1 h.2.2.2.2.2.1 a)
theorem st_mend : ST_mend RELN := fun n wc cap wm hn ⟨A, h⟩ a b c => h.qe (q_mend h.1.1 h.1.2.1 h.1.2.2.1 h.1.2.2.2.1 h.1.2.2.2.2.1 h.2.1 h.1.2.2.2.2.2.1 a b c)
theorem st_count : ST_count RELN := fun n wc cap wm hn ⟨A, h⟩ a => h.i (q_count h.1.1 h.1.2.2.1.1 h.1.2.2.2.2.2.1 h.2.2.1.1 h.1.2.2.2.2.2.2.2.1 a)
theorem st_all : STall RELN := ⟨st_feed, st_end, st_estate, st_paper, st_fault, st_event, st_told, st_rule, st_look, st_orders, st_item, st_ahead, st_law, st_ring, st_good, st_counts, st_undone, st_ways, st_goes, st_how, st_paid, st_sum, st_lack, st_sure, st_surely, st_hangs, st_outcomes, st_ask, st_says, st_tells, st_stories, st_gain, st_settle, st_floor, st_mend, st_count⟩
