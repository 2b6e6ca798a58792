theorem lay_0_18 : u_lay RX0 TX0 18 ∈ GT := gt_1 181 rfl rfl
theorem lay_0_17 : u_lay RX0 TX0 17 ∈ GT := gt_1 179 rfl rfl
theorem lay_0_16 : u_lay RX0 TX0 16 ∈ GT := gt_1 177 rfl rfl
theorem lay_0_15 : u_lay RX0 TX0 15 ∈ GT := gt_1 175 rfl rfl
theorem lay_0_14 : u_lay RX0 TX0 14 ∈ GT := gt_1 173 rfl rfl
theorem lay_0_13 : u_lay RX0 TX0 13 ∈ GT := gt_1 171 rfl rfl
theorem lay_0_12 : u_lay RX0 TX0 12 ∈ GT := gt_1 169 rfl rfl
theorem lay_0_11 : u_lay RX0 TX0 11 ∈ GT := gt_1 167 rfl rfl
theorem lay_0_10 : u_lay RX0 TX0 10 ∈ GT := gt_1 165 rfl rfl
theorem lay_0_9 : u_lay RX0 TX0 9 ∈ GT := gt_1 163 rfl rfl
theorem lay_0_8 : u_lay RX0 TX0 8 ∈ GT := gt_1 161 rfl rfl
theorem lay_0_7 : u_lay RX0 TX0 7 ∈ GT := gt_1 159 rfl rfl
theorem lay_0_6 : u_lay RX0 TX0 6 ∈ GT := gt_1 157 rfl rfl
theorem lay_0_5 : u_lay RX0 TX0 5 ∈ GT := gt_1 155 rfl rfl
theorem lay_0_4 : u_lay RX0 TX0 4 ∈ GT := gt_1 153 rfl rfl
theorem lay_0_3 : u_lay RX0 TX0 3 ∈ GT := gt_1 151 rfl rfl
theorem lay_0_2 : u_lay RX0 TX0 2 ∈ GT := gt_1 149 rfl rfl
theorem lay_0_1 : u_lay RX0 TX0 1 ∈ GT := gt_1 147 rfl rfl
theorem lay_0_0 : u_lay RX0 TX0 0 ∈ GT := gt_1 145 rfl rfl
set_option maxRecDepth 100000 in
theorem inG0 : ∀ w ∈ u_ws RX0 TX0 19, w ∈ GT := by
  show ∀ w ∈ [u_lay RX0 TX0 0, u_lay RX0 TX0 1, u_lay RX0 TX0 2, u_lay RX0 TX0 3, u_lay RX0 TX0 4, u_lay RX0 TX0 5, u_lay RX0 TX0 6, u_lay RX0 TX0 7, u_lay RX0 TX0 8, u_lay RX0 TX0 9, u_lay RX0 TX0 10, u_lay RX0 TX0 11, u_lay RX0 TX0 12, u_lay RX0 TX0 13, u_lay RX0 TX0 14, u_lay RX0 TX0 15, u_lay RX0 TX0 16, u_lay RX0 TX0 17, u_lay RX0 TX0 18], w ∈ GT
  exact List.forall_mem_cons.mpr ⟨lay_0_0, List.forall_mem_cons.mpr ⟨lay_0_1, List.forall_mem_cons.mpr ⟨lay_0_2, List.forall_mem_cons.mpr ⟨lay_0_3, List.forall_mem_cons.mpr ⟨lay_0_4, List.forall_mem_cons.mpr ⟨lay_0_5, List.forall_mem_cons.mpr ⟨lay_0_6, List.forall_mem_cons.mpr ⟨lay_0_7, List.forall_mem_cons.mpr ⟨lay_0_8, List.forall_mem_cons.mpr ⟨lay_0_9, List.forall_mem_cons.mpr ⟨lay_0_10, List.forall_mem_cons.mpr ⟨lay_0_11, List.forall_mem_cons.mpr ⟨lay_0_12, List.forall_mem_cons.mpr ⟨lay_0_13, List.forall_mem_cons.mpr ⟨lay_0_14, List.forall_mem_cons.mpr ⟨lay_0_15, List.forall_mem_cons.mpr ⟨lay_0_16, List.forall_mem_cons.mpr ⟨lay_0_17, List.forall_mem_cons.mpr ⟨lay_0_18, fun _ h => absurd h List.not_mem_nil⟩⟩⟩⟩⟩⟩⟩⟩⟩⟩⟩⟩⟩⟩⟩⟩⟩⟩⟩
theorem ty_0 : ∀ k, k < nfl 0 → parseFieldDescriptor (TX0 k).2.2.1 = some (tyOf 0 k) := tyX0_ok
theorem rc_0 : RC 0 RX0 := ⟨by decide, TX0, 19, rfl⟩
theorem lay_1_4 : u_lay RX1 TX1 4 ∈ GT := gt_2 49 rfl rfl
theorem lay_1_3 : u_lay RX1 TX1 3 ∈ GT := gt_2 47 rfl rfl
theorem lay_1_2 : u_lay RX1 TX1 2 ∈ GT := gt_2 45 rfl rfl
theorem lay_1_1 : u_lay RX1 TX1 1 ∈ GT := gt_2 43 rfl rfl
theorem lay_1_0 : u_lay RX1 TX1 0 ∈ GT := gt_2 41 rfl rfl
set_option maxRecDepth 100000 in
theorem inG1 : ∀ w ∈ u_ws RX1 TX1 5, w ∈ GT := by
  show ∀ w ∈ [u_lay RX1 TX1 0, u_lay RX1 TX1 1, u_lay RX1 TX1 2, u_lay RX1 TX1 3, u_lay RX1 TX1 4], w ∈ GT
  exact List.forall_mem_cons.mpr ⟨lay_1_0, List.forall_mem_cons.mpr ⟨lay_1_1, List.forall_mem_cons.mpr ⟨lay_1_2, List.forall_mem_cons.mpr ⟨lay_1_3, List.forall_mem_cons.mpr ⟨lay_1_4, fun _ h => absurd h List.not_mem_nil⟩⟩⟩⟩⟩
theorem ty_1 : ∀ k, k < nfl 1 → parseFieldDescriptor (TX1 k).2.2.1 = some (tyOf 1 k) := tyX1_ok
theorem rc_1 : RC 1 RX1 := ⟨by decide, TX1, 5, rfl⟩
theorem lay_2_9 : u_lay RX2 TX2 9 ∈ GT := gt_2 99 rfl rfl
theorem lay_2_8 : u_lay RX2 TX2 8 ∈ GT := gt_2 97 rfl rfl
theorem lay_2_7 : u_lay RX2 TX2 7 ∈ GT := gt_2 95 rfl rfl
theorem lay_2_6 : u_lay RX2 TX2 6 ∈ GT := gt_2 93 rfl rfl
theorem lay_2_5 : u_lay RX2 TX2 5 ∈ GT := gt_2 91 rfl rfl
theorem lay_2_4 : u_lay RX2 TX2 4 ∈ GT := gt_2 89 rfl rfl
theorem lay_2_3 : u_lay RX2 TX2 3 ∈ GT := gt_2 87 rfl rfl
theorem lay_2_2 : u_lay RX2 TX2 2 ∈ GT := gt_2 85 rfl rfl
theorem lay_2_1 : u_lay RX2 TX2 1 ∈ GT := gt_2 83 rfl rfl
theorem lay_2_0 : u_lay RX2 TX2 0 ∈ GT := gt_2 81 rfl rfl
set_option maxRecDepth 100000 in
theorem inG2 : ∀ w ∈ u_ws RX2 TX2 10, w ∈ GT := by
  show ∀ w ∈ [u_lay RX2 TX2 0, u_lay RX2 TX2 1, u_lay RX2 TX2 2, u_lay RX2 TX2 3, u_lay RX2 TX2 4, u_lay RX2 TX2 5, u_lay RX2 TX2 6, u_lay RX2 TX2 7, u_lay RX2 TX2 8, u_lay RX2 TX2 9], w ∈ GT
  exact List.forall_mem_cons.mpr ⟨lay_2_0, List.forall_mem_cons.mpr ⟨lay_2_1, List.forall_mem_cons.mpr ⟨lay_2_2, List.forall_mem_cons.mpr ⟨lay_2_3, List.forall_mem_cons.mpr ⟨lay_2_4, List.forall_mem_cons.mpr ⟨lay_2_5, List.forall_mem_cons.mpr ⟨lay_2_6, List.forall_mem_cons.mpr ⟨lay_2_7, List.forall_mem_cons.mpr ⟨lay_2_8, List.forall_mem_cons.mpr ⟨lay_2_9, fun _ h => absurd h List.not_mem_nil⟩⟩⟩⟩⟩⟩⟩⟩⟩⟩
theorem ty_2 : ∀ k, k < nfl 2 → parseFieldDescriptor (TX2 k).2.2.1 = some (tyOf 2 k) := tyX2_ok
theorem rc_2 : RC 2 RX2 := ⟨by decide, TX2, 10, rfl⟩
theorem lay_3_6 : u_lay RX3 TX3 6 ∈ GT := gt_3 65 rfl rfl
theorem lay_3_5 : u_lay RX3 TX3 5 ∈ GT := gt_3 63 rfl rfl
theorem lay_3_4 : u_lay RX3 TX3 4 ∈ GT := gt_3 61 rfl rfl
theorem lay_3_3 : u_lay RX3 TX3 3 ∈ GT := gt_3 59 rfl rfl
theorem lay_3_2 : u_lay RX3 TX3 2 ∈ GT := gt_3 57 rfl rfl
theorem lay_3_1 : u_lay RX3 TX3 1 ∈ GT := gt_3 55 rfl rfl
theorem lay_3_0 : u_lay RX3 TX3 0 ∈ GT := gt_3 53 rfl rfl
set_option maxRecDepth 100000 in
theorem inG3 : ∀ w ∈ u_ws RX3 TX3 7, w ∈ GT := by
  show ∀ w ∈ [u_lay RX3 TX3 0, u_lay RX3 TX3 1, u_lay RX3 TX3 2, u_lay RX3 TX3 3, u_lay RX3 TX3 4, u_lay RX3 TX3 5, u_lay RX3 TX3 6], w ∈ GT
  exact List.forall_mem_cons.mpr ⟨lay_3_0, List.forall_mem_cons.mpr ⟨lay_3_1, List.forall_mem_cons.mpr ⟨lay_3_2, List.forall_mem_cons.mpr ⟨lay_3_3, List.forall_mem_cons.mpr ⟨lay_3_4, List.forall_mem_cons.mpr ⟨lay_3_5, List.forall_mem_cons.mpr ⟨lay_3_6, fun _ h => absurd h List.not_mem_nil⟩⟩⟩⟩⟩⟩⟩
theorem ty_3 : ∀ k, k < nfl 3 → parseFieldDescriptor (TX3 k).2.2.1 = some (tyOf 3 k) := tyX3_ok
theorem rc_3 : RC 3 RX3 := ⟨by decide, TX3, 7, rfl⟩
theorem lay_4_1 : u_lay RX4 TX4 1 ∈ GT := gt_1 97 rfl rfl
theorem lay_4_0 : u_lay RX4 TX4 0 ∈ GT := gt_1 95 rfl rfl
set_option maxRecDepth 100000 in
theorem inG4 : ∀ w ∈ u_ws RX4 TX4 2, w ∈ GT := by
  show ∀ w ∈ [u_lay RX4 TX4 0, u_lay RX4 TX4 1], w ∈ GT
  exact List.forall_mem_cons.mpr ⟨lay_4_0, List.forall_mem_cons.mpr ⟨lay_4_1, fun _ h => absurd h List.not_mem_nil⟩⟩
theorem ty_4 : ∀ k, k < nfl 4 → parseFieldDescriptor (TX4 k).2.2.1 = some (tyOf 4 k) := tyX4_ok
theorem rc_4 : RC 4 RX4 := ⟨by decide, TX4, 2, rfl⟩
theorem lay_5_9 : u_lay RX5 TX5 9 ∈ GT := gt_2 233 rfl rfl
theorem lay_5_8 : u_lay RX5 TX5 8 ∈ GT := gt_2 231 rfl rfl
theorem lay_5_7 : u_lay RX5 TX5 7 ∈ GT := gt_2 229 rfl rfl
theorem lay_5_6 : u_lay RX5 TX5 6 ∈ GT := gt_2 227 rfl rfl
theorem lay_5_5 : u_lay RX5 TX5 5 ∈ GT := gt_2 225 rfl rfl
theorem lay_5_4 : u_lay RX5 TX5 4 ∈ GT := gt_2 223 rfl rfl
theorem lay_5_3 : u_lay RX5 TX5 3 ∈ GT := gt_2 221 rfl rfl
theorem lay_5_2 : u_lay RX5 TX5 2 ∈ GT := gt_2 219 rfl rfl
theorem lay_5_1 : u_lay RX5 TX5 1 ∈ GT := gt_2 217 rfl rfl
theorem lay_5_0 : u_lay RX5 TX5 0 ∈ GT := gt_2 215 rfl rfl
set_option maxRecDepth 100000 in
theorem inG5 : ∀ w ∈ u_ws RX5 TX5 10, w ∈ GT := by
  show ∀ w ∈ [u_lay RX5 TX5 0, u_lay RX5 TX5 1, u_lay RX5 TX5 2, u_lay RX5 TX5 3, u_lay RX5 TX5 4, u_lay RX5 TX5 5, u_lay RX5 TX5 6, u_lay RX5 TX5 7, u_lay RX5 TX5 8, u_lay RX5 TX5 9], w ∈ GT
  exact List.forall_mem_cons.mpr ⟨lay_5_0, List.forall_mem_cons.mpr ⟨lay_5_1, List.forall_mem_cons.mpr ⟨lay_5_2, List.forall_mem_cons.mpr ⟨lay_5_3, List.forall_mem_cons.mpr ⟨lay_5_4, List.forall_mem_cons.mpr ⟨lay_5_5, List.forall_mem_cons.mpr ⟨lay_5_6, List.forall_mem_cons.mpr ⟨lay_5_7, List.forall_mem_cons.mpr ⟨lay_5_8, List.forall_mem_cons.mpr ⟨lay_5_9, fun _ h => absurd h List.not_mem_nil⟩⟩⟩⟩⟩⟩⟩⟩⟩⟩
theorem ty_5 : ∀ k, k < nfl 5 → parseFieldDescriptor (TX5 k).2.2.1 = some (tyOf 5 k) := tyX5_ok
theorem rc_5 : RC 5 RX5 := ⟨by decide, TX5, 10, rfl⟩
theorem lay_6_16 : u_lay RX6 TX6 16 ∈ GT := gt_2 25 rfl rfl
theorem lay_6_15 : u_lay RX6 TX6 15 ∈ GT := gt_2 23 rfl rfl
theorem lay_6_14 : u_lay RX6 TX6 14 ∈ GT := gt_2 21 rfl rfl
theorem lay_6_13 : u_lay RX6 TX6 13 ∈ GT := gt_2 19 rfl rfl
theorem lay_6_12 : u_lay RX6 TX6 12 ∈ GT := gt_2 17 rfl rfl
theorem lay_6_11 : u_lay RX6 TX6 11 ∈ GT := gt_2 15 rfl rfl
theorem lay_6_10 : u_lay RX6 TX6 10 ∈ GT := gt_2 13 rfl rfl
theorem lay_6_9 : u_lay RX6 TX6 9 ∈ GT := gt_2 11 rfl rfl
theorem lay_6_8 : u_lay RX6 TX6 8 ∈ GT := gt_2 9 rfl rfl
theorem lay_6_7 : u_lay RX6 TX6 7 ∈ GT := gt_2 7 rfl rfl
theorem lay_6_6 : u_lay RX6 TX6 6 ∈ GT := gt_2 5 rfl rfl
theorem lay_6_5 : u_lay RX6 TX6 5 ∈ GT := gt_2 3 rfl rfl
theorem lay_6_4 : u_lay RX6 TX6 4 ∈ GT := gt_2 1 rfl rfl
theorem lay_6_3 : u_lay RX6 TX6 3 ∈ GT := gt_1 239 rfl rfl
theorem lay_6_2 : u_lay RX6 TX6 2 ∈ GT := gt_1 237 rfl rfl
theorem lay_6_1 : u_lay RX6 TX6 1 ∈ GT := gt_1 235 rfl rfl
theorem lay_6_0 : u_lay RX6 TX6 0 ∈ GT := gt_1 233 rfl rfl
set_option maxRecDepth 100000 in
theorem inG6 : ∀ w ∈ u_ws RX6 TX6 17, w ∈ GT := by
  show ∀ w ∈ [u_lay RX6 TX6 0, u_lay RX6 TX6 1, u_lay RX6 TX6 2, u_lay RX6 TX6 3, u_lay RX6 TX6 4, u_lay RX6 TX6 5, u_lay RX6 TX6 6, u_lay RX6 TX6 7, u_lay RX6 TX6 8, u_lay RX6 TX6 9, u_lay RX6 TX6 10, u_lay RX6 TX6 11, u_lay RX6 TX6 12, u_lay RX6 TX6 13, u_lay RX6 TX6 14, u_lay RX6 TX6 15, u_lay RX6 TX6 16], w ∈ GT
  exact List.forall_mem_cons.mpr ⟨lay_6_0, List.forall_mem_cons.mpr ⟨lay_6_1, List.forall_mem_cons.mpr ⟨lay_6_2, List.forall_mem_cons.mpr ⟨lay_6_3, List.forall_mem_cons.mpr ⟨lay_6_4, List.forall_mem_cons.mpr ⟨lay_6_5, List.forall_mem_cons.mpr ⟨lay_6_6, List.forall_mem_cons.mpr ⟨lay_6_7, List.forall_mem_cons.mpr ⟨lay_6_8, List.forall_mem_cons.mpr ⟨lay_6_9, List.forall_mem_cons.mpr ⟨lay_6_10, List.forall_mem_cons.mpr ⟨lay_6_11, List.forall_mem_cons.mpr ⟨lay_6_12, List.forall_mem_cons.mpr ⟨lay_6_13, List.forall_mem_cons.mpr ⟨lay_6_14, List.forall_mem_cons.mpr ⟨lay_6_15, List.forall_mem_cons.mpr ⟨lay_6_16, fun _ h => absurd h List.not_mem_nil⟩⟩⟩⟩⟩⟩⟩⟩⟩⟩⟩⟩⟩⟩⟩⟩⟩
theorem ty_6 : ∀ k, k < nfl 6 → parseFieldDescriptor (TX6 k).2.2.1 = some (tyOf 6 k) := tyX6_ok
theorem rc_6 : RC 6 RX6 := ⟨by decide, TX6, 17, rfl⟩
theorem lay_7_13 : u_lay RX7 TX7 13 ∈ GT := gt_2 195 rfl rfl
theorem lay_7_12 : u_lay RX7 TX7 12 ∈ GT := gt_2 193 rfl rfl
theorem lay_7_11 : u_lay RX7 TX7 11 ∈ GT := gt_2 191 rfl rfl
theorem lay_7_10 : u_lay RX7 TX7 10 ∈ GT := gt_2 189 rfl rfl
theorem lay_7_9 : u_lay RX7 TX7 9 ∈ GT := gt_2 187 rfl rfl
theorem lay_7_8 : u_lay RX7 TX7 8 ∈ GT := gt_2 185 rfl rfl
theorem lay_7_7 : u_lay RX7 TX7 7 ∈ GT := gt_2 183 rfl rfl
theorem lay_7_6 : u_lay RX7 TX7 6 ∈ GT := gt_2 181 rfl rfl
theorem lay_7_5 : u_lay RX7 TX7 5 ∈ GT := gt_2 179 rfl rfl
theorem lay_7_4 : u_lay RX7 TX7 4 ∈ GT := gt_2 177 rfl rfl
theorem lay_7_3 : u_lay RX7 TX7 3 ∈ GT := gt_2 175 rfl rfl
theorem lay_7_2 : u_lay RX7 TX7 2 ∈ GT := gt_2 173 rfl rfl
theorem lay_7_1 : u_lay RX7 TX7 1 ∈ GT := gt_2 171 rfl rfl
theorem lay_7_0 : u_lay RX7 TX7 0 ∈ GT := gt_2 169 rfl rfl
set_option maxRecDepth 100000 in
theorem inG7 : ∀ w ∈ u_ws RX7 TX7 14, w ∈ GT := by
  show ∀ w ∈ [u_lay RX7 TX7 0, u_lay RX7 TX7 1, u_lay RX7 TX7 2, u_lay RX7 TX7 3, u_lay RX7 TX7 4, u_lay RX7 TX7 5, u_lay RX7 TX7 6, u_lay RX7 TX7 7, u_lay RX7 TX7 8, u_lay RX7 TX7 9, u_lay RX7 TX7 10, u_lay RX7 TX7 11, u_lay RX7 TX7 12, u_lay RX7 TX7 13], w ∈ GT
  exact List.forall_mem_cons.mpr ⟨lay_7_0, List.forall_mem_cons.mpr ⟨lay_7_1, List.forall_mem_cons.mpr ⟨lay_7_2, List.forall_mem_cons.mpr ⟨lay_7_3, List.forall_mem_cons.mpr ⟨lay_7_4, List.forall_mem_cons.mpr ⟨lay_7_5, List.forall_mem_cons.mpr ⟨lay_7_6, List.forall_mem_cons.mpr ⟨lay_7_7, List.forall_mem_cons.mpr ⟨lay_7_8, List.forall_mem_cons.mpr ⟨lay_7_9, List.forall_mem_cons.mpr ⟨lay_7_10, List.forall_mem_cons.mpr ⟨lay_7_11, List.forall_mem_cons.mpr ⟨lay_7_12, List.forall_mem_cons.mpr ⟨lay_7_13, fun _ h => absurd h List.not_mem_nil⟩⟩⟩⟩⟩⟩⟩⟩⟩⟩⟩⟩⟩⟩
theorem ty_7 : ∀ k, k < nfl 7 → parseFieldDescriptor (TX7 k).2.2.1 = some (tyOf 7 k) := tyX7_ok
theorem rc_7 : RC 7 RX7 := ⟨by decide, TX7, 14, rfl⟩
theorem lay_8_10 : u_lay RX8 TX8 10 ∈ GT := gt_2 148 rfl rfl
theorem lay_8_9 : u_lay RX8 TX8 9 ∈ GT := gt_2 146 rfl rfl
theorem lay_8_8 : u_lay RX8 TX8 8 ∈ GT := gt_2 144 rfl rfl
theorem lay_8_7 : u_lay RX8 TX8 7 ∈ GT := gt_2 142 rfl rfl
theorem lay_8_6 : u_lay RX8 TX8 6 ∈ GT := gt_2 140 rfl rfl
theorem lay_8_5 : u_lay RX8 TX8 5 ∈ GT := gt_2 138 rfl rfl
theorem lay_8_4 : u_lay RX8 TX8 4 ∈ GT := gt_2 136 rfl rfl
theorem lay_8_3 : u_lay RX8 TX8 3 ∈ GT := gt_2 134 rfl rfl
theorem lay_8_2 : u_lay RX8 TX8 2 ∈ GT := gt_2 132 rfl rfl
theorem lay_8_1 : u_lay RX8 TX8 1 ∈ GT := gt_2 130 rfl rfl
theorem lay_8_0 : u_lay RX8 TX8 0 ∈ GT := gt_2 128 rfl rfl
set_option maxRecDepth 100000 in
theorem inG8 : ∀ w ∈ u_ws RX8 TX8 11, w ∈ GT := by
  show ∀ w ∈ [u_lay RX8 TX8 0, u_lay RX8 TX8 1, u_lay RX8 TX8 2, u_lay RX8 TX8 3, u_lay RX8 TX8 4, u_lay RX8 TX8 5, u_lay RX8 TX8 6, u_lay RX8 TX8 7, u_lay RX8 TX8 8, u_lay RX8 TX8 9, u_lay RX8 TX8 10], w ∈ GT
  exact List.forall_mem_cons.mpr ⟨lay_8_0, List.forall_mem_cons.mpr ⟨lay_8_1, List.forall_mem_cons.mpr ⟨lay_8_2, List.forall_mem_cons.mpr ⟨lay_8_3, List.forall_mem_cons.mpr ⟨lay_8_4, List.forall_mem_cons.mpr ⟨lay_8_5, List.forall_mem_cons.mpr ⟨lay_8_6, List.forall_mem_cons.mpr ⟨lay_8_7, List.forall_mem_cons.mpr ⟨lay_8_8, List.forall_mem_cons.mpr ⟨lay_8_9, List.forall_mem_cons.mpr ⟨lay_8_10, fun _ h => absurd h List.not_mem_nil⟩⟩⟩⟩⟩⟩⟩⟩⟩⟩⟩
theorem ty_8 : ∀ k, k < nfl 8 → parseFieldDescriptor (TX8 k).2.2.1 = some (tyOf 8 k) := tyX8_ok
theorem rc_8 : RC 8 RX8 := ⟨by decide, TX8, 11, rfl⟩
theorem lay_9_10 : u_lay RX9 TX9 10 ∈ GT := gt_3 37 rfl rfl
theorem lay_9_9 : u_lay RX9 TX9 9 ∈ GT := gt_3 35 rfl rfl
theorem lay_9_8 : u_lay RX9 TX9 8 ∈ GT := gt_3 33 rfl rfl
theorem lay_9_7 : u_lay RX9 TX9 7 ∈ GT := gt_3 31 rfl rfl
theorem lay_9_6 : u_lay RX9 TX9 6 ∈ GT := gt_3 29 rfl rfl
theorem lay_9_5 : u_lay RX9 TX9 5 ∈ GT := gt_3 27 rfl rfl
theorem lay_9_4 : u_lay RX9 TX9 4 ∈ GT := gt_3 25 rfl rfl
theorem lay_9_3 : u_lay RX9 TX9 3 ∈ GT := gt_3 23 rfl rfl
theorem lay_9_2 : u_lay RX9 TX9 2 ∈ GT := gt_3 21 rfl rfl
theorem lay_9_1 : u_lay RX9 TX9 1 ∈ GT := gt_3 19 rfl rfl
theorem lay_9_0 : u_lay RX9 TX9 0 ∈ GT := gt_3 17 rfl rfl
set_option maxRecDepth 100000 in
theorem inG9 : ∀ w ∈ u_ws RX9 TX9 11, w ∈ GT := by
  show ∀ w ∈ [u_lay RX9 TX9 0, u_lay RX9 TX9 1, u_lay RX9 TX9 2, u_lay RX9 TX9 3, u_lay RX9 TX9 4, u_lay RX9 TX9 5, u_lay RX9 TX9 6, u_lay RX9 TX9 7, u_lay RX9 TX9 8, u_lay RX9 TX9 9, u_lay RX9 TX9 10], w ∈ GT
  exact List.forall_mem_cons.mpr ⟨lay_9_0, List.forall_mem_cons.mpr ⟨lay_9_1, List.forall_mem_cons.mpr ⟨lay_9_2, List.forall_mem_cons.mpr ⟨lay_9_3, List.forall_mem_cons.mpr ⟨lay_9_4, List.forall_mem_cons.mpr ⟨lay_9_5, List.forall_mem_cons.mpr ⟨lay_9_6, List.forall_mem_cons.mpr ⟨lay_9_7, List.forall_mem_cons.mpr ⟨lay_9_8, List.forall_mem_cons.mpr ⟨lay_9_9, List.forall_mem_cons.mpr ⟨lay_9_10, fun _ h => absurd h List.not_mem_nil⟩⟩⟩⟩⟩⟩⟩⟩⟩⟩⟩
theorem ty_9 : ∀ k, k < nfl 9 → parseFieldDescriptor (TX9 k).2.2.1 = some (tyOf 9 k) := tyX9_ok
theorem rc_9 : RC 9 RX9 := ⟨by decide, TX9, 11, rfl⟩
theorem lay_10_8 : u_lay RX10 TX10 8 ∈ GT := gt_1 67 rfl rfl
theorem lay_10_7 : u_lay RX10 TX10 7 ∈ GT := gt_1 65 rfl rfl
theorem lay_10_6 : u_lay RX10 TX10 6 ∈ GT := gt_1 63 rfl rfl
theorem lay_10_5 : u_lay RX10 TX10 5 ∈ GT := gt_1 61 rfl rfl
theorem lay_10_4 : u_lay RX10 TX10 4 ∈ GT := gt_1 59 rfl rfl
theorem lay_10_3 : u_lay RX10 TX10 3 ∈ GT := gt_1 57 rfl rfl
theorem lay_10_2 : u_lay RX10 TX10 2 ∈ GT := gt_1 55 rfl rfl
theorem lay_10_1 : u_lay RX10 TX10 1 ∈ GT := gt_1 53 rfl rfl
theorem lay_10_0 : u_lay RX10 TX10 0 ∈ GT := gt_1 51 rfl rfl
set_option maxRecDepth 100000 in
theorem inG10 : ∀ w ∈ u_ws RX10 TX10 9, w ∈ GT := by
  show ∀ w ∈ [u_lay RX10 TX10 0, u_lay RX10 TX10 1, u_lay RX10 TX10 2, u_lay RX10 TX10 3, u_lay RX10 TX10 4, u_lay RX10 TX10 5, u_lay RX10 TX10 6, u_lay RX10 TX10 7, u_lay RX10 TX10 8], w ∈ GT
  exact List.forall_mem_cons.mpr ⟨lay_10_0, List.forall_mem_cons.mpr ⟨lay_10_1, List.forall_mem_cons.mpr ⟨lay_10_2, List.forall_mem_cons.mpr ⟨lay_10_3, List.forall_mem_cons.mpr ⟨lay_10_4, List.forall_mem_cons.mpr ⟨lay_10_5, List.forall_mem_cons.mpr ⟨lay_10_6, List.forall_mem_cons.mpr ⟨lay_10_7, List.forall_mem_cons.mpr ⟨lay_10_8, fun _ h => absurd h List.not_mem_nil⟩⟩⟩⟩⟩⟩⟩⟩⟩
theorem ty_10 : ∀ k, k < nfl 10 → parseFieldDescriptor (TX10 k).2.2.1 = some (tyOf 10 k) := tyX10_ok
theorem rc_10 : RC 10 RX10 := ⟨by decide, TX10, 9, rfl⟩
theorem lay_11_8 : u_lay RX11 TX11 8 ∈ GT := gt_3 93 rfl rfl
theorem lay_11_7 : u_lay RX11 TX11 7 ∈ GT := gt_3 91 rfl rfl
theorem lay_11_6 : u_lay RX11 TX11 6 ∈ GT := gt_3 89 rfl rfl
theorem lay_11_5 : u_lay RX11 TX11 5 ∈ GT := gt_3 87 rfl rfl
theorem lay_11_4 : u_lay RX11 TX11 4 ∈ GT := gt_3 85 rfl rfl
theorem lay_11_3 : u_lay RX11 TX11 3 ∈ GT := gt_3 83 rfl rfl
theorem lay_11_2 : u_lay RX11 TX11 2 ∈ GT := gt_3 81 rfl rfl
theorem lay_11_1 : u_lay RX11 TX11 1 ∈ GT := gt_3 79 rfl rfl
theorem lay_11_0 : u_lay RX11 TX11 0 ∈ GT := gt_3 77 rfl rfl
set_option maxRecDepth 100000 in
theorem inG11 : ∀ w ∈ u_ws RX11 TX11 9, w ∈ GT := by
  show ∀ w ∈ [u_lay RX11 TX11 0, u_lay RX11 TX11 1, u_lay RX11 TX11 2, u_lay RX11 TX11 3, u_lay RX11 TX11 4, u_lay RX11 TX11 5, u_lay RX11 TX11 6, u_lay RX11 TX11 7, u_lay RX11 TX11 8], w ∈ GT
  exact List.forall_mem_cons.mpr ⟨lay_11_0, List.forall_mem_cons.mpr ⟨lay_11_1, List.forall_mem_cons.mpr ⟨lay_11_2, List.forall_mem_cons.mpr ⟨lay_11_3, List.forall_mem_cons.mpr ⟨lay_11_4, List.forall_mem_cons.mpr ⟨lay_11_5, List.forall_mem_cons.mpr ⟨lay_11_6, List.forall_mem_cons.mpr ⟨lay_11_7, List.forall_mem_cons.mpr ⟨lay_11_8, fun _ h => absurd h List.not_mem_nil⟩⟩⟩⟩⟩⟩⟩⟩⟩
theorem ty_11 : ∀ k, k < nfl 11 → parseFieldDescriptor (TX11 k).2.2.1 = some (tyOf 11 k) := tyX11_ok
theorem rc_11 : RC 11 RX11 := ⟨by decide, TX11, 9, rfl⟩
theorem lay_12_105 : u_lay RX12 TX12 105 ∈ GT := gt_8 125 rfl rfl
theorem lay_12_104 : u_lay RX12 TX12 104 ∈ GT := gt_8 123 rfl rfl
theorem lay_12_103 : u_lay RX12 TX12 103 ∈ GT := gt_8 121 rfl rfl
theorem lay_12_102 : u_lay RX12 TX12 102 ∈ GT := gt_8 119 rfl rfl
theorem lay_12_101 : u_lay RX12 TX12 101 ∈ GT := gt_8 117 rfl rfl
theorem lay_12_100 : u_lay RX12 TX12 100 ∈ GT := gt_8 115 rfl rfl
theorem lay_12_99 : u_lay RX12 TX12 99 ∈ GT := gt_8 113 rfl rfl
theorem lay_12_98 : u_lay RX12 TX12 98 ∈ GT := gt_8 111 rfl rfl
theorem lay_12_97 : u_lay RX12 TX12 97 ∈ GT := gt_8 109 rfl rfl
theorem lay_12_96 : u_lay RX12 TX12 96 ∈ GT := gt_8 107 rfl rfl
theorem lay_12_95 : u_lay RX12 TX12 95 ∈ GT := gt_8 105 rfl rfl
theorem lay_12_94 : u_lay RX12 TX12 94 ∈ GT := gt_8 103 rfl rfl
theorem lay_12_93 : u_lay RX12 TX12 93 ∈ GT := gt_8 101 rfl rfl
theorem lay_12_92 : u_lay RX12 TX12 92 ∈ GT := gt_8 99 rfl rfl
theorem lay_12_91 : u_lay RX12 TX12 91 ∈ GT := gt_8 97 rfl rfl
theorem lay_12_90 : u_lay RX12 TX12 90 ∈ GT := gt_8 95 rfl rfl
theorem lay_12_89 : u_lay RX12 TX12 89 ∈ GT := gt_8 93 rfl rfl
theorem lay_12_88 : u_lay RX12 TX12 88 ∈ GT := gt_8 91 rfl rfl
theorem lay_12_87 : u_lay RX12 TX12 87 ∈ GT := gt_8 89 rfl rfl
theorem lay_12_86 : u_lay RX12 TX12 86 ∈ GT := gt_8 87 rfl rfl
theorem lay_12_85 : u_lay RX12 TX12 85 ∈ GT := gt_8 85 rfl rfl
theorem lay_12_84 : u_lay RX12 TX12 84 ∈ GT := gt_8 83 rfl rfl
theorem lay_12_83 : u_lay RX12 TX12 83 ∈ GT := gt_8 81 rfl rfl
theorem lay_12_82 : u_lay RX12 TX12 82 ∈ GT := gt_8 79 rfl rfl
theorem lay_12_81 : u_lay RX12 TX12 81 ∈ GT := gt_8 77 rfl rfl
theorem lay_12_80 : u_lay RX12 TX12 80 ∈ GT := gt_8 75 rfl rfl
theorem lay_12_79 : u_lay RX12 TX12 79 ∈ GT := gt_8 73 rfl rfl
theorem lay_12_78 : u_lay RX12 TX12 78 ∈ GT := gt_8 71 rfl rfl
theorem lay_12_77 : u_lay RX12 TX12 77 ∈ GT := gt_8 69 rfl rfl
theorem lay_12_76 : u_lay RX12 TX12 76 ∈ GT := gt_8 67 rfl rfl
theorem lay_12_75 : u_lay RX12 TX12 75 ∈ GT := gt_8 65 rfl rfl
theorem lay_12_74 : u_lay RX12 TX12 74 ∈ GT := gt_8 63 rfl rfl
theorem lay_12_73 : u_lay RX12 TX12 73 ∈ GT := gt_8 61 rfl rfl
theorem lay_12_72 : u_lay RX12 TX12 72 ∈ GT := gt_8 59 rfl rfl
theorem lay_12_71 : u_lay RX12 TX12 71 ∈ GT := gt_8 57 rfl rfl
theorem lay_12_70 : u_lay RX12 TX12 70 ∈ GT := gt_8 55 rfl rfl
theorem lay_12_69 : u_lay RX12 TX12 69 ∈ GT := gt_8 53 rfl rfl
theorem lay_12_68 : u_lay RX12 TX12 68 ∈ GT := gt_8 51 rfl rfl
theorem lay_12_67 : u_lay RX12 TX12 67 ∈ GT := gt_8 49 rfl rfl
theorem lay_12_66 : u_lay RX12 TX12 66 ∈ GT := gt_8 47 rfl rfl
theorem lay_12_65 : u_lay RX12 TX12 65 ∈ GT := gt_8 45 rfl rfl
theorem lay_12_64 : u_lay RX12 TX12 64 ∈ GT := gt_8 43 rfl rfl
theorem lay_12_63 : u_lay RX12 TX12 63 ∈ GT := gt_8 41 rfl rfl
theorem lay_12_62 : u_lay RX12 TX12 62 ∈ GT := gt_8 39 rfl rfl
theorem lay_12_61 : u_lay RX12 TX12 61 ∈ GT := gt_8 37 rfl rfl
theorem lay_12_60 : u_lay RX12 TX12 60 ∈ GT := gt_8 35 rfl rfl
theorem lay_12_59 : u_lay RX12 TX12 59 ∈ GT := gt_8 33 rfl rfl
theorem lay_12_58 : u_lay RX12 TX12 58 ∈ GT := gt_8 31 rfl rfl
theorem lay_12_57 : u_lay RX12 TX12 57 ∈ GT := gt_8 29 rfl rfl
theorem lay_12_56 : u_lay RX12 TX12 56 ∈ GT := gt_8 27 rfl rfl
theorem lay_12_55 : u_lay RX12 TX12 55 ∈ GT := gt_8 25 rfl rfl
theorem lay_12_54 : u_lay RX12 TX12 54 ∈ GT := gt_8 23 rfl rfl
theorem lay_12_53 : u_lay RX12 TX12 53 ∈ GT := gt_8 21 rfl rfl
theorem lay_12_52 : u_lay RX12 TX12 52 ∈ GT := gt_8 19 rfl rfl
theorem lay_12_51 : u_lay RX12 TX12 51 ∈ GT := gt_8 17 rfl rfl
theorem lay_12_50 : u_lay RX12 TX12 50 ∈ GT := gt_8 15 rfl rfl
theorem lay_12_49 : u_lay RX12 TX12 49 ∈ GT := gt_8 13 rfl rfl
theorem lay_12_48 : u_lay RX12 TX12 48 ∈ GT := gt_8 11 rfl rfl
theorem lay_12_47 : u_lay RX12 TX12 47 ∈ GT := gt_8 9 rfl rfl
theorem lay_12_46 : u_lay RX12 TX12 46 ∈ GT := gt_8 7 rfl rfl
theorem lay_12_45 : u_lay RX12 TX12 45 ∈ GT := gt_8 5 rfl rfl
theorem lay_12_44 : u_lay RX12 TX12 44 ∈ GT := gt_8 3 rfl rfl
theorem lay_12_43 : u_lay RX12 TX12 43 ∈ GT := gt_8 1 rfl rfl
theorem lay_12_42 : u_lay RX12 TX12 42 ∈ GT := gt_7 239 rfl rfl
theorem lay_12_41 : u_lay RX12 TX12 41 ∈ GT := gt_7 237 rfl rfl
theorem lay_12_40 : u_lay RX12 TX12 40 ∈ GT := gt_7 235 rfl rfl
theorem lay_12_39 : u_lay RX12 TX12 39 ∈ GT := gt_7 233 rfl rfl
theorem lay_12_38 : u_lay RX12 TX12 38 ∈ GT := gt_7 231 rfl rfl
theorem lay_12_37 : u_lay RX12 TX12 37 ∈ GT := gt_7 229 rfl rfl
theorem lay_12_36 : u_lay RX12 TX12 36 ∈ GT := gt_7 227 rfl rfl
theorem lay_12_35 : u_lay RX12 TX12 35 ∈ GT := gt_7 225 rfl rfl
theorem lay_12_34 : u_lay RX12 TX12 34 ∈ GT := gt_7 223 rfl rfl
theorem lay_12_33 : u_lay RX12 TX12 33 ∈ GT := gt_7 221 rfl rfl
theorem lay_12_32 : u_lay RX12 TX12 32 ∈ GT := gt_7 219 rfl rfl
theorem lay_12_31 : u_lay RX12 TX12 31 ∈ GT := gt_7 217 rfl rfl
theorem lay_12_30 : u_lay RX12 TX12 30 ∈ GT := gt_7 215 rfl rfl
theorem lay_12_29 : u_lay RX12 TX12 29 ∈ GT := gt_7 213 rfl rfl
theorem lay_12_28 : u_lay RX12 TX12 28 ∈ GT := gt_7 211 rfl rfl
theorem lay_12_27 : u_lay RX12 TX12 27 ∈ GT := gt_7 209 rfl rfl
theorem lay_12_26 : u_lay RX12 TX12 26 ∈ GT := gt_7 207 rfl rfl
theorem lay_12_25 : u_lay RX12 TX12 25 ∈ GT := gt_7 205 rfl rfl
theorem lay_12_24 : u_lay RX12 TX12 24 ∈ GT := gt_7 203 rfl rfl
theorem lay_12_23 : u_lay RX12 TX12 23 ∈ GT := gt_7 201 rfl rfl
theorem lay_12_22 : u_lay RX12 TX12 22 ∈ GT := gt_7 199 rfl rfl
theorem lay_12_21 : u_lay RX12 TX12 21 ∈ GT := gt_7 197 rfl rfl
theorem lay_12_20 : u_lay RX12 TX12 20 ∈ GT := gt_7 195 rfl rfl
theorem lay_12_19 : u_lay RX12 TX12 19 ∈ GT := gt_7 193 rfl rfl
theorem lay_12_18 : u_lay RX12 TX12 18 ∈ GT := gt_7 191 rfl rfl
theorem lay_12_17 : u_lay RX12 TX12 17 ∈ GT := gt_7 189 rfl rfl
theorem lay_12_16 : u_lay RX12 TX12 16 ∈ GT := gt_7 187 rfl rfl
theorem lay_12_15 : u_lay RX12 TX12 15 ∈ GT := gt_7 185 rfl rfl
theorem lay_12_14 : u_lay RX12 TX12 14 ∈ GT := gt_7 183 rfl rfl
theorem lay_12_13 : u_lay RX12 TX12 13 ∈ GT := gt_7 181 rfl rfl
theorem lay_12_12 : u_lay RX12 TX12 12 ∈ GT := gt_7 179 rfl rfl
theorem lay_12_11 : u_lay RX12 TX12 11 ∈ GT := gt_7 177 rfl rfl
theorem lay_12_10 : u_lay RX12 TX12 10 ∈ GT := gt_7 175 rfl rfl
theorem lay_12_9 : u_lay RX12 TX12 9 ∈ GT := gt_7 173 rfl rfl
theorem lay_12_8 : u_lay RX12 TX12 8 ∈ GT := gt_7 171 rfl rfl
theorem lay_12_7 : u_lay RX12 TX12 7 ∈ GT := gt_7 169 rfl rfl
theorem lay_12_6 : u_lay RX12 TX12 6 ∈ GT := gt_7 167 rfl rfl
theorem lay_12_5 : u_lay RX12 TX12 5 ∈ GT := gt_7 165 rfl rfl
theorem lay_12_4 : u_lay RX12 TX12 4 ∈ GT := gt_7 163 rfl rfl
theorem lay_12_3 : u_lay RX12 TX12 3 ∈ GT := gt_7 161 rfl rfl
theorem lay_12_2 : u_lay RX12 TX12 2 ∈ GT := gt_7 159 rfl rfl
theorem lay_12_1 : u_lay RX12 TX12 1 ∈ GT := gt_7 157 rfl rfl
theorem lay_12_0 : u_lay RX12 TX12 0 ∈ GT := gt_7 155 rfl rfl
set_option maxRecDepth 100000 in
theorem inG12 : ∀ w ∈ u_ws RX12 TX12 106, w ∈ GT := by
  show ∀ w ∈ [u_lay RX12 TX12 0, u_lay RX12 TX12 1, u_lay RX12 TX12 2, u_lay RX12 TX12 3, u_lay RX12 TX12 4, u_lay RX12 TX12 5, u_lay RX12 TX12 6, u_lay RX12 TX12 7, u_lay RX12 TX12 8, u_lay RX12 TX12 9, u_lay RX12 TX12 10, u_lay RX12 TX12 11, u_lay RX12 TX12 12, u_lay RX12 TX12 13, u_lay RX12 TX12 14, u_lay RX12 TX12 15, u_lay RX12 TX12 16, u_lay RX12 TX12 17, u_lay RX12 TX12 18, u_lay RX12 TX12 19, u_lay RX12 TX12 20, u_lay RX12 TX12 21, u_lay RX12 TX12 22, u_lay RX12 TX12 23, u_lay RX12 TX12 24, u_lay RX12 TX12 25, u_lay RX12 TX12 26, u_lay RX12 TX12 27, u_lay RX12 TX12 28, u_lay RX12 TX12 29, u_lay RX12 TX12 30, u_lay RX12 TX12 31, u_lay RX12 TX12 32, u_lay RX12 TX12 33, u_lay RX12 TX12 34, u_lay RX12 TX12 35, u_lay RX12 TX12 36, u_lay RX12 TX12 37, u_lay RX12 TX12 38, u_lay RX12 TX12 39, u_lay RX12 TX12 40, u_lay RX12 TX12 41, u_lay RX12 TX12 42, u_lay RX12 TX12 43, u_lay RX12 TX12 44, u_lay RX12 TX12 45, u_lay RX12 TX12 46, u_lay RX12 TX12 47, u_lay RX12 TX12 48, u_lay RX12 TX12 49, u_lay RX12 TX12 50, u_lay RX12 TX12 51, u_lay RX12 TX12 52, u_lay RX12 TX12 53, u_lay RX12 TX12 54, u_lay RX12 TX12 55, u_lay RX12 TX12 56, u_lay RX12 TX12 57, u_lay RX12 TX12 58, u_lay RX12 TX12 59, u_lay RX12 TX12 60, u_lay RX12 TX12 61, u_lay RX12 TX12 62, u_lay RX12 TX12 63, u_lay RX12 TX12 64, u_lay RX12 TX12 65, u_lay RX12 TX12 66, u_lay RX12 TX12 67, u_lay RX12 TX12 68, u_lay RX12 TX12 69, u_lay RX12 TX12 70, u_lay RX12 TX12 71, u_lay RX12 TX12 72, u_lay RX12 TX12 73, u_lay RX12 TX12 74, u_lay RX12 TX12 75, u_lay RX12 TX12 76, u_lay RX12 TX12 77, u_lay RX12 TX12 78, u_lay RX12 TX12 79, u_lay RX12 TX12 80, u_lay RX12 TX12 81, u_lay RX12 TX12 82, u_lay RX12 TX12 83, u_lay RX12 TX12 84, u_lay RX12 TX12 85, u_lay RX12 TX12 86, u_lay RX12 TX12 87, u_lay RX12 TX12 88, u_lay RX12 TX12 89, u_lay RX12 TX12 90, u_lay RX12 TX12 91, u_lay RX12 TX12 92, u_lay RX12 TX12 93, u_lay RX12 TX12 94, u_lay RX12 TX12 95, u_lay RX12 TX12 96, u_lay RX12 TX12 97, u_lay RX12 TX12 98, u_lay RX12 TX12 99, u_lay RX12 TX12 100, u_lay RX12 TX12 101, u_lay RX12 TX12 102, u_lay RX12 TX12 103, u_lay RX12 TX12 104, u_lay RX12 TX12 105], w ∈ GT
  exact List.forall_mem_cons.mpr ⟨lay_12_0, List.forall_mem_cons.mpr ⟨lay_12_1, List.forall_mem_cons.mpr ⟨lay_12_2, List.forall_mem_cons.mpr ⟨lay_12_3, List.forall_mem_cons.mpr ⟨lay_12_4, List.forall_mem_cons.mpr ⟨lay_12_5, List.forall_mem_cons.mpr ⟨lay_12_6, List.forall_mem_cons.mpr ⟨lay_12_7, List.forall_mem_cons.mpr ⟨lay_12_8, List.forall_mem_cons.mpr ⟨lay_12_9, List.forall_mem_cons.mpr ⟨lay_12_10, List.forall_mem_cons.mpr ⟨lay_12_11, List.forall_mem_cons.mpr ⟨lay_12_12, List.forall_mem_cons.mpr ⟨lay_12_13, List.forall_mem_cons.mpr ⟨lay_12_14, List.forall_mem_cons.mpr ⟨lay_12_15, List.forall_mem_cons.mpr ⟨lay_12_16, List.forall_mem_cons.mpr ⟨lay_12_17, List.forall_mem_cons.mpr ⟨lay_12_18, List.forall_mem_cons.mpr ⟨lay_12_19, List.forall_mem_cons.mpr ⟨lay_12_20, List.forall_mem_cons.mpr ⟨lay_12_21, List.forall_mem_cons.mpr ⟨lay_12_22, List.forall_mem_cons.mpr ⟨lay_12_23, List.forall_mem_cons.mpr ⟨lay_12_24, List.forall_mem_cons.mpr ⟨lay_12_25, List.forall_mem_cons.mpr ⟨lay_12_26, List.forall_mem_cons.mpr ⟨lay_12_27, List.forall_mem_cons.mpr ⟨lay_12_28, List.forall_mem_cons.mpr ⟨lay_12_29, List.forall_mem_cons.mpr ⟨lay_12_30, List.forall_mem_cons.mpr ⟨lay_12_31, List.forall_mem_cons.mpr ⟨lay_12_32, List.forall_mem_cons.mpr ⟨lay_12_33, List.forall_mem_cons.mpr ⟨lay_12_34, List.forall_mem_cons.mpr ⟨lay_12_35, List.forall_mem_cons.mpr ⟨lay_12_36, List.forall_mem_cons.mpr ⟨lay_12_37, List.forall_mem_cons.mpr ⟨lay_12_38, List.forall_mem_cons.mpr ⟨lay_12_39, List.forall_mem_cons.mpr ⟨lay_12_40, List.forall_mem_cons.mpr ⟨lay_12_41, List.forall_mem_cons.mpr ⟨lay_12_42, List.forall_mem_cons.mpr ⟨lay_12_43, List.forall_mem_cons.mpr ⟨lay_12_44, List.forall_mem_cons.mpr ⟨lay_12_45, List.forall_mem_cons.mpr ⟨lay_12_46, List.forall_mem_cons.mpr ⟨lay_12_47, List.forall_mem_cons.mpr ⟨lay_12_48, List.forall_mem_cons.mpr ⟨lay_12_49, List.forall_mem_cons.mpr ⟨lay_12_50, List.forall_mem_cons.mpr ⟨lay_12_51, List.forall_mem_cons.mpr ⟨lay_12_52, List.forall_mem_cons.mpr ⟨lay_12_53, List.forall_mem_cons.mpr ⟨lay_12_54, List.forall_mem_cons.mpr ⟨lay_12_55, List.forall_mem_cons.mpr ⟨lay_12_56, List.forall_mem_cons.mpr ⟨lay_12_57, List.forall_mem_cons.mpr ⟨lay_12_58, List.forall_mem_cons.mpr ⟨lay_12_59, List.forall_mem_cons.mpr ⟨lay_12_60, List.forall_mem_cons.mpr ⟨lay_12_61, List.forall_mem_cons.mpr ⟨lay_12_62, List.forall_mem_cons.mpr ⟨lay_12_63, List.forall_mem_cons.mpr ⟨lay_12_64, List.forall_mem_cons.mpr ⟨lay_12_65, List.forall_mem_cons.mpr ⟨lay_12_66, List.forall_mem_cons.mpr ⟨lay_12_67, List.forall_mem_cons.mpr ⟨lay_12_68, List.forall_mem_cons.mpr ⟨lay_12_69, List.forall_mem_cons.mpr ⟨lay_12_70, List.forall_mem_cons.mpr ⟨lay_12_71, List.forall_mem_cons.mpr ⟨lay_12_72, List.forall_mem_cons.mpr ⟨lay_12_73, List.forall_mem_cons.mpr ⟨lay_12_74, List.forall_mem_cons.mpr ⟨lay_12_75, List.forall_mem_cons.mpr ⟨lay_12_76, List.forall_mem_cons.mpr ⟨lay_12_77, List.forall_mem_cons.mpr ⟨lay_12_78, List.forall_mem_cons.mpr ⟨lay_12_79, List.forall_mem_cons.mpr ⟨lay_12_80, List.forall_mem_cons.mpr ⟨lay_12_81, List.forall_mem_cons.mpr ⟨lay_12_82, List.forall_mem_cons.mpr ⟨lay_12_83, List.forall_mem_cons.mpr ⟨lay_12_84, List.forall_mem_cons.mpr ⟨lay_12_85, List.forall_mem_cons.mpr ⟨lay_12_86, List.forall_mem_cons.mpr ⟨lay_12_87, List.forall_mem_cons.mpr ⟨lay_12_88, List.forall_mem_cons.mpr ⟨lay_12_89, List.forall_mem_cons.mpr ⟨lay_12_90, List.forall_mem_cons.mpr ⟨lay_12_91, List.forall_mem_cons.mpr ⟨lay_12_92, List.forall_mem_cons.mpr ⟨lay_12_93, List.forall_mem_cons.mpr ⟨lay_12_94, List.forall_mem_cons.mpr ⟨lay_12_95, List.forall_mem_cons.mpr ⟨lay_12_96, List.forall_mem_cons.mpr ⟨lay_12_97, List.forall_mem_cons.mpr ⟨lay_12_98, List.forall_mem_cons.mpr ⟨lay_12_99, List.forall_mem_cons.mpr ⟨lay_12_100, List.forall_mem_cons.mpr ⟨lay_12_101, List.forall_mem_cons.mpr ⟨lay_12_102, List.forall_mem_cons.mpr ⟨lay_12_103, List.forall_mem_cons.mpr ⟨lay_12_104, List.forall_mem_cons.mpr ⟨lay_12_105, fun _ h => absurd h List.not_mem_nil⟩⟩⟩⟩⟩⟩⟩⟩⟩⟩⟩⟩⟩⟩⟩⟩⟩⟩⟩⟩⟩⟩⟩⟩⟩⟩⟩⟩⟩⟩⟩⟩⟩⟩⟩⟩⟩⟩⟩⟩⟩⟩⟩⟩⟩⟩⟩⟩⟩⟩⟩⟩⟩⟩⟩⟩⟩⟩⟩⟩⟩⟩⟩⟩⟩⟩⟩⟩⟩⟩⟩⟩⟩⟩⟩⟩⟩⟩⟩⟩⟩⟩⟩⟩⟩⟩⟩⟩⟩⟩⟩⟩⟩⟩⟩⟩⟩⟩⟩⟩⟩⟩⟩⟩⟩⟩
theorem ty_12 : ∀ k, k < nfl 12 → parseFieldDescriptor (TX12 k).2.2.1 = some (tyOf 12 k) := tyX12_ok
theorem rc_12 : RC 12 RX12 := ⟨by decide, TX12, 106, rfl⟩
theorem fl_RX0_14 : FL RX0 14 0 0 2 := ⟨RX0, TX0, rfl, inG0, by decide, by decide, gt_1 101 rfl rfl, rfl, ty_0, nmX0, Or.inr rfl⟩
theorem fl_RX0_20 : FL RX0 20 0 1 2 := ⟨RX0, TX0, rfl, inG0, by decide, by decide, gt_1 105 rfl rfl, rfl, ty_0, nmX0, Or.inr rfl⟩
theorem fl_RX0_23 : FL RX0 23 0 2 2 := ⟨RX0, TX0, rfl, inG0, by decide, by decide, gt_1 109 rfl rfl, rfl, ty_0, nmX0, Or.inr rfl⟩
theorem fl_RX0_26 : FL RX0 26 0 3 2 := ⟨RX0, TX0, rfl, inG0, by decide, by decide, gt_1 113 rfl rfl, rfl, ty_0, nmX0, Or.inr rfl⟩
theorem fl_RX0_30 : FL RX0 30 0 4 2 := ⟨RX0, TX0, rfl, inG0, by decide, by decide, gt_1 114 rfl rfl, rfl, ty_0, nmX0, Or.inr rfl⟩
theorem fl_RX0_33 : FL RX0 33 0 5 2 := ⟨RX0, TX0, rfl, inG0, by decide, by decide, gt_1 115 rfl rfl, rfl, ty_0, nmX0, Or.inr rfl⟩
theorem fl_RX0_36 : FL RX0 36 0 6 2 := ⟨RX0, TX0, rfl, inG0, by decide, by decide, gt_1 116 rfl rfl, rfl, ty_0, nmX0, Or.inr rfl⟩
theorem fl_RX0_39 : FL RX0 39 0 7 2 := ⟨RX0, TX0, rfl, inG0, by decide, by decide, gt_1 120 rfl rfl, rfl, ty_0, nmX0, Or.inr rfl⟩
theorem fl_RX0_42 : FL RX0 42 0 8 2 := ⟨RX0, TX0, rfl, inG0, by decide, by decide, gt_1 122 rfl rfl, rfl, ty_0, nmX0, Or.inr rfl⟩
theorem fl_RX0_45 : FL RX0 45 0 11 0 := ⟨RX0, TX0, rfl, inG0, by decide, by decide, gt_1 128 rfl rfl, rfl, ty_0, nmX0, Or.inl rfl⟩
theorem fl_RX0_49 : FL RX0 49 0 12 0 := ⟨RX0, TX0, rfl, inG0, by decide, by decide, gt_1 132 rfl rfl, rfl, ty_0, nmX0, Or.inl rfl⟩
theorem fl_RX0_52 : FL RX0 52 0 13 0 := ⟨RX0, TX0, rfl, inG0, by decide, by decide, gt_1 134 rfl rfl, rfl, ty_0, nmX0, Or.inl rfl⟩
theorem fl_RX0_55 : FL RX0 55 0 14 0 := ⟨RX0, TX0, rfl, inG0, by decide, by decide, gt_1 136 rfl rfl, rfl, ty_0, nmX0, Or.inl rfl⟩
theorem fl_RX0_58 : FL RX0 58 4 1 0 := ⟨RX4, TX4, rfl, inG4, by decide, by decide, gt_1 91 rfl rfl, rfl, ty_4, nmX4, Or.inl rfl⟩
theorem fl_RX0_61 : FL RX0 61 0 9 0 := ⟨RX0, TX0, rfl, inG0, by decide, by decide, gt_1 124 rfl rfl, rfl, ty_0, nmX0, Or.inl rfl⟩
theorem fl_RX0_64 : FL RX0 64 0 10 0 := ⟨RX0, TX0, rfl, inG0, by decide, by decide, gt_1 126 rfl rfl, rfl, ty_0, nmX0, Or.inl rfl⟩
theorem fl_RX0_67 : FL RX0 67 0 15 0 := ⟨RX0, TX0, rfl, inG0, by decide, by decide, gt_1 138 rfl rfl, rfl, ty_0, nmX0, Or.inl rfl⟩
theorem fl_RX0_70 : FL RX0 70 0 16 0 := ⟨RX0, TX0, rfl, inG0, by decide, by decide, gt_1 140 rfl rfl, rfl, ty_0, nmX0, Or.inl rfl⟩
theorem fl_RX0_73 : FL RX0 73 0 17 0 := ⟨RX0, TX0, rfl, inG0, by decide, by decide, gt_1 142 rfl rfl, rfl, ty_0, nmX0, Or.inl rfl⟩
theorem fl_RX0_76 : FL RX0 76 0 18 0 := ⟨RX0, TX0, rfl, inG0, by decide, by decide, gt_1 144 rfl rfl, rfl, ty_0, nmX0, Or.inl rfl⟩
theorem fl_RX0_168 : FL RX0 168 10 3 1 := ⟨RX10, TX10, rfl, inG10, by decide, by decide, gt_1 42 rfl rfl, rfl, ty_10, nmX10, Or.inl rfl⟩
theorem fl_RX0_179 : FL RX0 179 10 2 0 := ⟨RX10, TX10, rfl, inG10, by decide, by decide, gt_1 40 rfl rfl, rfl, ty_10, nmX10, Or.inl rfl⟩
theorem fl_RX1_7 : FL RX1 7 1 4 0 := ⟨RX1, TX1, rfl, inG1, by decide, by decide, gt_2 39 rfl rfl, rfl, ty_1, nmX1, Or.inl rfl⟩
theorem fl_RX10_11 : FL RX10 11 10 0 2 := ⟨RX10, TX10, rfl, inG10, by decide, by decide, gt_1 36 rfl rfl, rfl, ty_10, nmX10, Or.inr rfl⟩
theorem fl_RX10_15 : FL RX10 15 10 5 0 := ⟨RX10, TX10, rfl, inG10, by decide, by decide, gt_1 46 rfl rfl, rfl, ty_10, nmX10, Or.inl rfl⟩
theorem fl_RX10_19 : FL RX10 19 10 1 0 := ⟨RX10, TX10, rfl, inG10, by decide, by decide, gt_1 37 rfl rfl, rfl, ty_10, nmX10, Or.inl rfl⟩
theorem fl_RX10_22 : FL RX10 22 10 4 0 := ⟨RX10, TX10, rfl, inG10, by decide, by decide, gt_1 44 rfl rfl, rfl, ty_10, nmX10, Or.inl rfl⟩
theorem fl_RX10_25 : FL RX10 25 10 8 0 := ⟨RX10, TX10, rfl, inG10, by decide, by decide, gt_1 50 rfl rfl, rfl, ty_10, nmX10, Or.inl rfl⟩
theorem fl_RX10_31 : FL RX10 31 10 2 0 := ⟨RX10, TX10, rfl, inG10, by decide, by decide, gt_1 39 rfl rfl, rfl, ty_10, nmX10, Or.inl rfl⟩
theorem fl_RX10_34 : FL RX10 34 10 7 0 := ⟨RX10, TX10, rfl, inG10, by decide, by decide, gt_1 49 rfl rfl, rfl, ty_10, nmX10, Or.inl rfl⟩
theorem fl_RX10_37 : FL RX10 37 10 3 1 := ⟨RX10, TX10, rfl, inG10, by decide, by decide, gt_1 43 rfl rfl, rfl, ty_10, nmX10, Or.inl rfl⟩
theorem fl_RX10_41 : FL RX10 41 10 6 0 := ⟨RX10, TX10, rfl, inG10, by decide, by decide, gt_1 48 rfl rfl, rfl, ty_10, nmX10, Or.inl rfl⟩
theorem fl_RX11_10 : FL RX11 10 11 0 2 := ⟨RX11, TX11, rfl, inG11, by decide, by decide, gt_3 68 rfl rfl, rfl, ty_11, nmX11, Or.inr rfl⟩
theorem fl_RX11_19 : FL RX11 19 11 1 2 := ⟨RX11, TX11, rfl, inG11, by decide, by decide, gt_3 69 rfl rfl, rfl, ty_11, nmX11, Or.inr rfl⟩
theorem fl_RX11_28 : FL RX11 28 11 2 2 := ⟨RX11, TX11, rfl, inG11, by decide, by decide, gt_3 70 rfl rfl, rfl, ty_11, nmX11, Or.inr rfl⟩
theorem fl_RX11_37 : FL RX11 37 11 3 2 := ⟨RX11, TX11, rfl, inG11, by decide, by decide, gt_3 71 rfl rfl, rfl, ty_11, nmX11, Or.inr rfl⟩
theorem fl_RX11_46 : FL RX11 46 11 4 2 := ⟨RX11, TX11, rfl, inG11, by decide, by decide, gt_3 72 rfl rfl, rfl, ty_11, nmX11, Or.inr rfl⟩
theorem fl_RX11_53 : FL RX11 53 11 5 2 := ⟨RX11, TX11, rfl, inG11, by decide, by decide, gt_3 73 rfl rfl, rfl, ty_11, nmX11, Or.inr rfl⟩
theorem fl_RX11_57 : FL RX11 57 11 6 2 := ⟨RX11, TX11, rfl, inG11, by decide, by decide, gt_3 74 rfl rfl, rfl, ty_11, nmX11, Or.inr rfl⟩
theorem fl_RX11_61 : FL RX11 61 11 7 0 := ⟨RX11, TX11, rfl, inG11, by decide, by decide, gt_3 75 rfl rfl, rfl, ty_11, nmX11, Or.inl rfl⟩
theorem fl_RX11_65 : FL RX11 65 11 8 0 := ⟨RX11, TX11, rfl, inG11, by decide, by decide, gt_3 76 rfl rfl, rfl, ty_11, nmX11, Or.inl rfl⟩
theorem fl_RX11_76 : FL RX11 76 10 1 0 := ⟨RX10, TX10, rfl, inG10, by decide, by decide, gt_1 38 rfl rfl, rfl, ty_10, nmX10, Or.inl rfl⟩
theorem fl_RX11_79 : FL RX11 79 2 7 2 := ⟨RX2, TX2, rfl, inG2, by decide, by decide, gt_2 78 rfl rfl, rfl, ty_2, nmX2, Or.inr rfl⟩
theorem fl_RX11_95 : FL RX11 95 9 0 0 := ⟨RX9, TX9, rfl, inG9, by decide, by decide, gt_3 3 rfl rfl, rfl, ty_9, nmX9, Or.inl rfl⟩
theorem fl_RX11_98 : FL RX11 98 2 0 2 := ⟨RX2, TX2, rfl, inG2, by decide, by decide, gt_2 55 rfl rfl, rfl, ty_2, nmX2, Or.inr rfl⟩
theorem fl_RX11_101 : FL RX11 101 0 17 0 := ⟨RX0, TX0, rfl, inG0, by decide, by decide, gt_1 143 rfl rfl, rfl, ty_0, nmX0, Or.inl rfl⟩
theorem fl_RX11_104 : FL RX11 104 2 3 0 := ⟨RX2, TX2, rfl, inG2, by decide, by decide, gt_2 67 rfl rfl, rfl, ty_2, nmX2, Or.inl rfl⟩
theorem fl_RX11_114 : FL RX11 114 2 1 2 := ⟨RX2, TX2, rfl, inG2, by decide, by decide, gt_2 60 rfl rfl, rfl, ty_2, nmX2, Or.inr rfl⟩
theorem fl_RX11_132 : FL RX11 132 2 4 0 := ⟨RX2, TX2, rfl, inG2, by decide, by decide, gt_2 71 rfl rfl, rfl, ty_2, nmX2, Or.inl rfl⟩
theorem fl_RX11_139 : FL RX11 139 0 0 2 := ⟨RX0, TX0, rfl, inG0, by decide, by decide, gt_1 104 rfl rfl, rfl, ty_0, nmX0, Or.inr rfl⟩
theorem fl_RX11_143 : FL RX11 143 4 1 0 := ⟨RX4, TX4, rfl, inG4, by decide, by decide, gt_1 94 rfl rfl, rfl, ty_4, nmX4, Or.inl rfl⟩
theorem fl_RX11_148 : FL RX11 148 0 1 2 := ⟨RX0, TX0, rfl, inG0, by decide, by decide, gt_1 106 rfl rfl, rfl, ty_0, nmX0, Or.inr rfl⟩
theorem fl_RX11_151 : FL RX11 151 0 2 2 := ⟨RX0, TX0, rfl, inG0, by decide, by decide, gt_1 111 rfl rfl, rfl, ty_0, nmX0, Or.inr rfl⟩
theorem fl_RX11_154 : FL RX11 154 0 15 0 := ⟨RX0, TX0, rfl, inG0, by decide, by decide, gt_1 139 rfl rfl, rfl, ty_0, nmX0, Or.inl rfl⟩
theorem fl_RX11_157 : FL RX11 157 0 16 0 := ⟨RX0, TX0, rfl, inG0, by decide, by decide, gt_1 141 rfl rfl, rfl, ty_0, nmX0, Or.inl rfl⟩
theorem fl_RX11_160 : FL RX11 160 0 12 0 := ⟨RX0, TX0, rfl, inG0, by decide, by decide, gt_1 133 rfl rfl, rfl, ty_0, nmX0, Or.inl rfl⟩
theorem fl_RX11_163 : FL RX11 163 0 13 0 := ⟨RX0, TX0, rfl, inG0, by decide, by decide, gt_1 135 rfl rfl, rfl, ty_0, nmX0, Or.inl rfl⟩
theorem fl_RX11_166 : FL RX11 166 0 14 0 := ⟨RX0, TX0, rfl, inG0, by decide, by decide, gt_1 137 rfl rfl, rfl, ty_0, nmX0, Or.inl rfl⟩
theorem fl_RX11_169 : FL RX11 169 0 11 0 := ⟨RX0, TX0, rfl, inG0, by decide, by decide, gt_1 129 rfl rfl, rfl, ty_0, nmX0, Or.inl rfl⟩
theorem fl_RX11_183 : FL RX11 183 6 0 0 := ⟨RX6, TX6, rfl, inG6, by decide, by decide, gt_1 195 rfl rfl, rfl, ty_6, nmX6, Or.inl rfl⟩
theorem fl_RX11_186 : FL RX11 186 6 1 0 := ⟨RX6, TX6, rfl, inG6, by decide, by decide, gt_1 198 rfl rfl, rfl, ty_6, nmX6, Or.inl rfl⟩
theorem fl_RX11_192 : FL RX11 192 6 2 0 := ⟨RX6, TX6, rfl, inG6, by decide, by decide, gt_1 201 rfl rfl, rfl, ty_6, nmX6, Or.inl rfl⟩
theorem fl_RX11_195 : FL RX11 195 6 8 0 := ⟨RX6, TX6, rfl, inG6, by decide, by decide, gt_1 220 rfl rfl, rfl, ty_6, nmX6, Or.inl rfl⟩
theorem fl_RX11_198 : FL RX11 198 6 3 0 := ⟨RX6, TX6, rfl, inG6, by decide, by decide, gt_1 204 rfl rfl, rfl, ty_6, nmX6, Or.inl rfl⟩
theorem fl_RX11_201 : FL RX11 201 6 4 3 := ⟨RX6, TX6, rfl, inG6, by decide, by decide, gt_1 209 rfl rfl, rfl, ty_6, nmX6, Or.inl rfl⟩
theorem fl_RX11_205 : FL RX11 205 6 5 0 := ⟨RX6, TX6, rfl, inG6, by decide, by decide, gt_1 212 rfl rfl, rfl, ty_6, nmX6, Or.inl rfl⟩
theorem fl_RX11_208 : FL RX11 208 6 6 0 := ⟨RX6, TX6, rfl, inG6, by decide, by decide, gt_1 215 rfl rfl, rfl, ty_6, nmX6, Or.inl rfl⟩
theorem fl_RX11_211 : FL RX11 211 6 7 0 := ⟨RX6, TX6, rfl, inG6, by decide, by decide, gt_1 218 rfl rfl, rfl, ty_6, nmX6, Or.inl rfl⟩
theorem fl_RX11_214 : FL RX11 214 2 5 0 := ⟨RX2, TX2, rfl, inG2, by decide, by decide, gt_2 73 rfl rfl, rfl, ty_2, nmX2, Or.inl rfl⟩
theorem fl_RX11_248 : FL RX11 248 8 1 0 := ⟨RX8, TX8, rfl, inG8, by decide, by decide, gt_2 118 rfl rfl, rfl, ty_8, nmX8, Or.inl rfl⟩
theorem fl_RX11_253 : FL RX11 253 8 0 2 := ⟨RX8, TX8, rfl, inG8, by decide, by decide, gt_2 116 rfl rfl, rfl, ty_8, nmX8, Or.inr rfl⟩
theorem fl_RX11_278 : FL RX11 278 7 1 2 := ⟨RX7, TX7, rfl, inG7, by decide, by decide, gt_2 154 rfl rfl, rfl, ty_7, nmX7, Or.inr rfl⟩
theorem fl_RX11_284 : FL RX11 284 7 2 2 := ⟨RX7, TX7, rfl, inG7, by decide, by decide, gt_2 157 rfl rfl, rfl, ty_7, nmX7, Or.inr rfl⟩
theorem fl_RX11_305 : FL RX11 305 5 1 0 := ⟨RX5, TX5, rfl, inG5, by decide, by decide, gt_2 206 rfl rfl, rfl, ty_5, nmX5, Or.inl rfl⟩
theorem fl_RX11_319 : FL RX11 319 9 1 0 := ⟨RX9, TX9, rfl, inG9, by decide, by decide, gt_3 5 rfl rfl, rfl, ty_9, nmX9, Or.inl rfl⟩
theorem fl_RX11_322 : FL RX11 322 9 2 0 := ⟨RX9, TX9, rfl, inG9, by decide, by decide, gt_3 7 rfl rfl, rfl, ty_9, nmX9, Or.inl rfl⟩
theorem fl_RX11_325 : FL RX11 325 9 3 0 := ⟨RX9, TX9, rfl, inG9, by decide, by decide, gt_3 9 rfl rfl, rfl, ty_9, nmX9, Or.inl rfl⟩
theorem fl_RX11_341 : FL RX11 341 0 6 2 := ⟨RX0, TX0, rfl, inG0, by decide, by decide, gt_1 119 rfl rfl, rfl, ty_0, nmX0, Or.inr rfl⟩
theorem fl_RX11_344 : FL RX11 344 0 7 2 := ⟨RX0, TX0, rfl, inG0, by decide, by decide, gt_1 121 rfl rfl, rfl, ty_0, nmX0, Or.inr rfl⟩
theorem fl_RX11_350 : FL RX11 350 10 4 0 := ⟨RX10, TX10, rfl, inG10, by decide, by decide, gt_1 45 rfl rfl, rfl, ty_10, nmX10, Or.inl rfl⟩
theorem fl_RX11_351 : FL RX11 351 10 5 0 := ⟨RX10, TX10, rfl, inG10, by decide, by decide, gt_1 47 rfl rfl, rfl, ty_10, nmX10, Or.inl rfl⟩
theorem fl_RX11_362 : FL RX11 362 10 2 0 := ⟨RX10, TX10, rfl, inG10, by decide, by decide, gt_1 41 rfl rfl, rfl, ty_10, nmX10, Or.inl rfl⟩
theorem fl_RX12_1 : FL RX12 1 12 8 0 := ⟨RX12, TX12, rfl, inG12, by decide, by decide, gt_7 57 rfl rfl, rfl, ty_12, nmX12, Or.inl rfl⟩
theorem fl_RX12_7 : FL RX12 7 12 3 0 := ⟨RX12, TX12, rfl, inG12, by decide, by decide, gt_7 52 rfl rfl, rfl, ty_12, nmX12, Or.inl rfl⟩
theorem fl_RX12_10 : FL RX12 10 12 9 0 := ⟨RX12, TX12, rfl, inG12, by decide, by decide, gt_7 58 rfl rfl, rfl, ty_12, nmX12, Or.inl rfl⟩
theorem fl_RX12_13 : FL RX12 13 12 2 0 := ⟨RX12, TX12, rfl, inG12, by decide, by decide, gt_7 51 rfl rfl, rfl, ty_12, nmX12, Or.inl rfl⟩
theorem fl_RX12_16 : FL RX12 16 12 0 2 := ⟨RX12, TX12, rfl, inG12, by decide, by decide, gt_7 49 rfl rfl, rfl, ty_12, nmX12, Or.inr rfl⟩
theorem fl_RX12_20 : FL RX12 20 12 4 0 := ⟨RX12, TX12, rfl, inG12, by decide, by decide, gt_7 53 rfl rfl, rfl, ty_12, nmX12, Or.inl rfl⟩
theorem fl_RX12_27 : FL RX12 27 12 5 0 := ⟨RX12, TX12, rfl, inG12, by decide, by decide, gt_7 54 rfl rfl, rfl, ty_12, nmX12, Or.inl rfl⟩
theorem fl_RX12_37 : FL RX12 37 12 6 0 := ⟨RX12, TX12, rfl, inG12, by decide, by decide, gt_7 55 rfl rfl, rfl, ty_12, nmX12, Or.inl rfl⟩
theorem fl_RX12_64 : FL RX12 64 12 7 0 := ⟨RX12, TX12, rfl, inG12, by decide, by decide, gt_7 56 rfl rfl, rfl, ty_12, nmX12, Or.inl rfl⟩
theorem fl_RX12_79 : FL RX12 79 12 1 0 := ⟨RX12, TX12, rfl, inG12, by decide, by decide, gt_7 50 rfl rfl, rfl, ty_12, nmX12, Or.inl rfl⟩
theorem fl_RX12_125 : FL RX12 125 12 43 2 := ⟨RX12, TX12, rfl, inG12, by decide, by decide, gt_7 92 rfl rfl, rfl, ty_12, nmX12, Or.inr rfl⟩
theorem fl_RX12_129 : FL RX12 129 12 26 0 := ⟨RX12, TX12, rfl, inG12, by decide, by decide, gt_7 75 rfl rfl, rfl, ty_12, nmX12, Or.inl rfl⟩
theorem fl_RX12_132 : FL RX12 132 12 40 2 := ⟨RX12, TX12, rfl, inG12, by decide, by decide, gt_7 89 rfl rfl, rfl, ty_12, nmX12, Or.inr rfl⟩
theorem fl_RX12_146 : FL RX12 146 12 27 0 := ⟨RX12, TX12, rfl, inG12, by decide, by decide, gt_7 76 rfl rfl, rfl, ty_12, nmX12, Or.inl rfl⟩
theorem fl_RX12_149 : FL RX12 149 12 41 2 := ⟨RX12, TX12, rfl, inG12, by decide, by decide, gt_7 90 rfl rfl, rfl, ty_12, nmX12, Or.inr rfl⟩
theorem fl_RX12_158 : FL RX12 158 12 34 0 := ⟨RX12, TX12, rfl, inG12, by decide, by decide, gt_7 83 rfl rfl, rfl, ty_12, nmX12, Or.inl rfl⟩
theorem fl_RX12_161 : FL RX12 161 12 45 2 := ⟨RX12, TX12, rfl, inG12, by decide, by decide, gt_7 94 rfl rfl, rfl, ty_12, nmX12, Or.inr rfl⟩
theorem fl_RX12_167 : FL RX12 167 12 44 2 := ⟨RX12, TX12, rfl, inG12, by decide, by decide, gt_7 93 rfl rfl, rfl, ty_12, nmX12, Or.inr rfl⟩
theorem fl_RX12_170 : FL RX12 170 12 48 2 := ⟨RX12, TX12, rfl, inG12, by decide, by decide, gt_7 97 rfl rfl, rfl, ty_12, nmX12, Or.inr rfl⟩
theorem fl_RX12_176 : FL RX12 176 12 28 0 := ⟨RX12, TX12, rfl, inG12, by decide, by decide, gt_7 77 rfl rfl, rfl, ty_12, nmX12, Or.inl rfl⟩
theorem fl_RX12_179 : FL RX12 179 12 42 2 := ⟨RX12, TX12, rfl, inG12, by decide, by decide, gt_7 91 rfl rfl, rfl, ty_12, nmX12, Or.inr rfl⟩
theorem fl_RX12_182 : FL RX12 182 12 46 2 := ⟨RX12, TX12, rfl, inG12, by decide, by decide, gt_7 95 rfl rfl, rfl, ty_12, nmX12, Or.inr rfl⟩
theorem fl_RX12_185 : FL RX12 185 12 47 2 := ⟨RX12, TX12, rfl, inG12, by decide, by decide, gt_7 96 rfl rfl, rfl, ty_12, nmX12, Or.inr rfl⟩
theorem fl_RX12_195 : FL RX12 195 12 36 0 := ⟨RX12, TX12, rfl, inG12, by decide, by decide, gt_7 85 rfl rfl, rfl, ty_12, nmX12, Or.inl rfl⟩
theorem fl_RX12_199 : FL RX12 199 12 31 0 := ⟨RX12, TX12, rfl, inG12, by decide, by decide, gt_7 80 rfl rfl, rfl, ty_12, nmX12, Or.inl rfl⟩
theorem fl_RX12_202 : FL RX12 202 12 32 0 := ⟨RX12, TX12, rfl, inG12, by decide, by decide, gt_7 81 rfl rfl, rfl, ty_12, nmX12, Or.inl rfl⟩
theorem fl_RX12_205 : FL RX12 205 12 33 0 := ⟨RX12, TX12, rfl, inG12, by decide, by decide, gt_7 82 rfl rfl, rfl, ty_12, nmX12, Or.inl rfl⟩
theorem fl_RX12_208 : FL RX12 208 12 29 0 := ⟨RX12, TX12, rfl, inG12, by decide, by decide, gt_7 78 rfl rfl, rfl, ty_12, nmX12, Or.inl rfl⟩
theorem fl_RX12_211 : FL RX12 211 12 30 0 := ⟨RX12, TX12, rfl, inG12, by decide, by decide, gt_7 79 rfl rfl, rfl, ty_12, nmX12, Or.inl rfl⟩
theorem fl_RX12_214 : FL RX12 214 12 35 0 := ⟨RX12, TX12, rfl, inG12, by decide, by decide, gt_7 84 rfl rfl, rfl, ty_12, nmX12, Or.inl rfl⟩
theorem fl_RX12_241 : FL RX12 241 12 19 0 := ⟨RX12, TX12, rfl, inG12, by decide, by decide, gt_7 68 rfl rfl, rfl, ty_12, nmX12, Or.inl rfl⟩
theorem fl_RX12_243 : FL RX12 243 12 20 2 := ⟨RX12, TX12, rfl, inG12, by decide, by decide, gt_7 69 rfl rfl, rfl, ty_12, nmX12, Or.inr rfl⟩
theorem fl_RX12_246 : FL RX12 246 12 21 2 := ⟨RX12, TX12, rfl, inG12, by decide, by decide, gt_7 70 rfl rfl, rfl, ty_12, nmX12, Or.inr rfl⟩
theorem fl_RX12_249 : FL RX12 249 12 22 2 := ⟨RX12, TX12, rfl, inG12, by decide, by decide, gt_7 71 rfl rfl, rfl, ty_12, nmX12, Or.inr rfl⟩
theorem fl_RX12_252 : FL RX12 252 12 23 2 := ⟨RX12, TX12, rfl, inG12, by decide, by decide, gt_7 72 rfl rfl, rfl, ty_12, nmX12, Or.inr rfl⟩
theorem fl_RX12_255 : FL RX12 255 12 24 2 := ⟨RX12, TX12, rfl, inG12, by decide, by decide, gt_7 73 rfl rfl, rfl, ty_12, nmX12, Or.inr rfl⟩
theorem fl_RX12_258 : FL RX12 258 12 25 2 := ⟨RX12, TX12, rfl, inG12, by decide, by decide, gt_7 74 rfl rfl, rfl, ty_12, nmX12, Or.inr rfl⟩
theorem fl_RX12_261 : FL RX12 261 12 37 2 := ⟨RX12, TX12, rfl, inG12, by decide, by decide, gt_7 86 rfl rfl, rfl, ty_12, nmX12, Or.inr rfl⟩
theorem fl_RX12_264 : FL RX12 264 12 38 2 := ⟨RX12, TX12, rfl, inG12, by decide, by decide, gt_7 87 rfl rfl, rfl, ty_12, nmX12, Or.inr rfl⟩
theorem fl_RX12_267 : FL RX12 267 12 39 2 := ⟨RX12, TX12, rfl, inG12, by decide, by decide, gt_7 88 rfl rfl, rfl, ty_12, nmX12, Or.inr rfl⟩
theorem fl_RX12_270 : FL RX12 270 12 51 2 := ⟨RX12, TX12, rfl, inG12, by decide, by decide, gt_7 100 rfl rfl, rfl, ty_12, nmX12, Or.inr rfl⟩
theorem fl_RX12_273 : FL RX12 273 12 52 2 := ⟨RX12, TX12, rfl, inG12, by decide, by decide, gt_7 101 rfl rfl, rfl, ty_12, nmX12, Or.inr rfl⟩
theorem fl_RX12_276 : FL RX12 276 12 53 2 := ⟨RX12, TX12, rfl, inG12, by decide, by decide, gt_7 102 rfl rfl, rfl, ty_12, nmX12, Or.inr rfl⟩
theorem fl_RX12_279 : FL RX12 279 12 54 2 := ⟨RX12, TX12, rfl, inG12, by decide, by decide, gt_7 103 rfl rfl, rfl, ty_12, nmX12, Or.inr rfl⟩
theorem fl_RX12_282 : FL RX12 282 12 55 2 := ⟨RX12, TX12, rfl, inG12, by decide, by decide, gt_7 104 rfl rfl, rfl, ty_12, nmX12, Or.inr rfl⟩
theorem fl_RX12_285 : FL RX12 285 12 56 2 := ⟨RX12, TX12, rfl, inG12, by decide, by decide, gt_7 105 rfl rfl, rfl, ty_12, nmX12, Or.inr rfl⟩
theorem fl_RX12_288 : FL RX12 288 12 57 2 := ⟨RX12, TX12, rfl, inG12, by decide, by decide, gt_7 106 rfl rfl, rfl, ty_12, nmX12, Or.inr rfl⟩
theorem fl_RX12_291 : FL RX12 291 12 58 2 := ⟨RX12, TX12, rfl, inG12, by decide, by decide, gt_7 107 rfl rfl, rfl, ty_12, nmX12, Or.inr rfl⟩
theorem fl_RX12_294 : FL RX12 294 12 59 2 := ⟨RX12, TX12, rfl, inG12, by decide, by decide, gt_7 108 rfl rfl, rfl, ty_12, nmX12, Or.inr rfl⟩
theorem fl_RX12_297 : FL RX12 297 12 60 2 := ⟨RX12, TX12, rfl, inG12, by decide, by decide, gt_7 109 rfl rfl, rfl, ty_12, nmX12, Or.inr rfl⟩
theorem fl_RX12_300 : FL RX12 300 12 61 2 := ⟨RX12, TX12, rfl, inG12, by decide, by decide, gt_7 110 rfl rfl, rfl, ty_12, nmX12, Or.inr rfl⟩
theorem fl_RX12_303 : FL RX12 303 12 62 2 := ⟨RX12, TX12, rfl, inG12, by decide, by decide, gt_7 111 rfl rfl, rfl, ty_12, nmX12, Or.inr rfl⟩
theorem fl_RX12_306 : FL RX12 306 12 63 2 := ⟨RX12, TX12, rfl, inG12, by decide, by decide, gt_7 112 rfl rfl, rfl, ty_12, nmX12, Or.inr rfl⟩
theorem fl_RX12_309 : FL RX12 309 12 64 2 := ⟨RX12, TX12, rfl, inG12, by decide, by decide, gt_7 113 rfl rfl, rfl, ty_12, nmX12, Or.inr rfl⟩
theorem fl_RX12_312 : FL RX12 312 12 65 2 := ⟨RX12, TX12, rfl, inG12, by decide, by decide, gt_7 114 rfl rfl, rfl, ty_12, nmX12, Or.inr rfl⟩
theorem fl_RX12_315 : FL RX12 315 12 66 2 := ⟨RX12, TX12, rfl, inG12, by decide, by decide, gt_7 115 rfl rfl, rfl, ty_12, nmX12, Or.inr rfl⟩
theorem fl_RX12_318 : FL RX12 318 12 67 2 := ⟨RX12, TX12, rfl, inG12, by decide, by decide, gt_7 116 rfl rfl, rfl, ty_12, nmX12, Or.inr rfl⟩
theorem fl_RX12_321 : FL RX12 321 12 68 2 := ⟨RX12, TX12, rfl, inG12, by decide, by decide, gt_7 117 rfl rfl, rfl, ty_12, nmX12, Or.inr rfl⟩
theorem fl_RX12_324 : FL RX12 324 12 70 2 := ⟨RX12, TX12, rfl, inG12, by decide, by decide, gt_7 119 rfl rfl, rfl, ty_12, nmX12, Or.inr rfl⟩
theorem fl_RX12_327 : FL RX12 327 12 71 2 := ⟨RX12, TX12, rfl, inG12, by decide, by decide, gt_7 120 rfl rfl, rfl, ty_12, nmX12, Or.inr rfl⟩
theorem fl_RX12_330 : FL RX12 330 12 72 2 := ⟨RX12, TX12, rfl, inG12, by decide, by decide, gt_7 121 rfl rfl, rfl, ty_12, nmX12, Or.inr rfl⟩
theorem fl_RX12_333 : FL RX12 333 12 73 2 := ⟨RX12, TX12, rfl, inG12, by decide, by decide, gt_7 122 rfl rfl, rfl, ty_12, nmX12, Or.inr rfl⟩
theorem fl_RX12_336 : FL RX12 336 12 74 2 := ⟨RX12, TX12, rfl, inG12, by decide, by decide, gt_7 123 rfl rfl, rfl, ty_12, nmX12, Or.inr rfl⟩
theorem fl_RX12_339 : FL RX12 339 12 76 2 := ⟨RX12, TX12, rfl, inG12, by decide, by decide, gt_7 125 rfl rfl, rfl, ty_12, nmX12, Or.inr rfl⟩
theorem fl_RX12_342 : FL RX12 342 12 77 2 := ⟨RX12, TX12, rfl, inG12, by decide, by decide, gt_7 126 rfl rfl, rfl, ty_12, nmX12, Or.inr rfl⟩
theorem fl_RX12_345 : FL RX12 345 12 80 0 := ⟨RX12, TX12, rfl, inG12, by decide, by decide, gt_7 129 rfl rfl, rfl, ty_12, nmX12, Or.inl rfl⟩
theorem fl_RX12_348 : FL RX12 348 12 85 2 := ⟨RX12, TX12, rfl, inG12, by decide, by decide, gt_7 134 rfl rfl, rfl, ty_12, nmX12, Or.inr rfl⟩
theorem fl_RX12_351 : FL RX12 351 12 86 2 := ⟨RX12, TX12, rfl, inG12, by decide, by decide, gt_7 135 rfl rfl, rfl, ty_12, nmX12, Or.inr rfl⟩
theorem fl_RX12_354 : FL RX12 354 12 87 2 := ⟨RX12, TX12, rfl, inG12, by decide, by decide, gt_7 136 rfl rfl, rfl, ty_12, nmX12, Or.inr rfl⟩
theorem fl_RX12_357 : FL RX12 357 12 90 2 := ⟨RX12, TX12, rfl, inG12, by decide, by decide, gt_7 139 rfl rfl, rfl, ty_12, nmX12, Or.inr rfl⟩
theorem fl_RX12_359 : FL RX12 359 12 91 2 := ⟨RX12, TX12, rfl, inG12, by decide, by decide, gt_7 140 rfl rfl, rfl, ty_12, nmX12, Or.inr rfl⟩
theorem fl_RX12_362 : FL RX12 362 12 92 2 := ⟨RX12, TX12, rfl, inG12, by decide, by decide, gt_7 141 rfl rfl, rfl, ty_12, nmX12, Or.inr rfl⟩
theorem fl_RX12_366 : FL RX12 366 12 93 2 := ⟨RX12, TX12, rfl, inG12, by decide, by decide, gt_7 142 rfl rfl, rfl, ty_12, nmX12, Or.inr rfl⟩
theorem fl_RX12_369 : FL RX12 369 12 94 2 := ⟨RX12, TX12, rfl, inG12, by decide, by decide, gt_7 143 rfl rfl, rfl, ty_12, nmX12, Or.inr rfl⟩
theorem fl_RX12_372 : FL RX12 372 12 95 2 := ⟨RX12, TX12, rfl, inG12, by decide, by decide, gt_7 144 rfl rfl, rfl, ty_12, nmX12, Or.inr rfl⟩
theorem fl_RX12_375 : FL RX12 375 12 96 2 := ⟨RX12, TX12, rfl, inG12, by decide, by decide, gt_7 145 rfl rfl, rfl, ty_12, nmX12, Or.inr rfl⟩
theorem fl_RX12_378 : FL RX12 378 12 100 2 := ⟨RX12, TX12, rfl, inG12, by decide, by decide, gt_7 149 rfl rfl, rfl, ty_12, nmX12, Or.inr rfl⟩
theorem fl_RX12_381 : FL RX12 381 12 101 2 := ⟨RX12, TX12, rfl, inG12, by decide, by decide, gt_7 150 rfl rfl, rfl, ty_12, nmX12, Or.inr rfl⟩
theorem fl_RX12_384 : FL RX12 384 12 102 2 := ⟨RX12, TX12, rfl, inG12, by decide, by decide, gt_7 151 rfl rfl, rfl, ty_12, nmX12, Or.inr rfl⟩
theorem fl_RX12_387 : FL RX12 387 12 103 2 := ⟨RX12, TX12, rfl, inG12, by decide, by decide, gt_7 152 rfl rfl, rfl, ty_12, nmX12, Or.inr rfl⟩
theorem fl_RX12_390 : FL RX12 390 12 104 2 := ⟨RX12, TX12, rfl, inG12, by decide, by decide, gt_7 153 rfl rfl, rfl, ty_12, nmX12, Or.inr rfl⟩
theorem fl_RX12_393 : FL RX12 393 12 105 2 := ⟨RX12, TX12, rfl, inG12, by decide, by decide, gt_7 154 rfl rfl, rfl, ty_12, nmX12, Or.inr rfl⟩
theorem fl_RX12_409 : FL RX12 409 12 10 0 := ⟨RX12, TX12, rfl, inG12, by decide, by decide, gt_7 59 rfl rfl, rfl, ty_12, nmX12, Or.inl rfl⟩
theorem fl_RX12_412 : FL RX12 412 12 11 0 := ⟨RX12, TX12, rfl, inG12, by decide, by decide, gt_7 60 rfl rfl, rfl, ty_12, nmX12, Or.inl rfl⟩
theorem fl_RX12_415 : FL RX12 415 12 12 0 := ⟨RX12, TX12, rfl, inG12, by decide, by decide, gt_7 61 rfl rfl, rfl, ty_12, nmX12, Or.inl rfl⟩
theorem fl_RX12_418 : FL RX12 418 12 14 0 := ⟨RX12, TX12, rfl, inG12, by decide, by decide, gt_7 63 rfl rfl, rfl, ty_12, nmX12, Or.inl rfl⟩
theorem fl_RX12_420 : FL RX12 420 12 15 0 := ⟨RX12, TX12, rfl, inG12, by decide, by decide, gt_7 64 rfl rfl, rfl, ty_12, nmX12, Or.inl rfl⟩
theorem fl_RX12_422 : FL RX12 422 12 16 0 := ⟨RX12, TX12, rfl, inG12, by decide, by decide, gt_7 65 rfl rfl, rfl, ty_12, nmX12, Or.inl rfl⟩
theorem fl_RX12_424 : FL RX12 424 12 17 0 := ⟨RX12, TX12, rfl, inG12, by decide, by decide, gt_7 66 rfl rfl, rfl, ty_12, nmX12, Or.inl rfl⟩
theorem fl_RX12_426 : FL RX12 426 12 18 0 := ⟨RX12, TX12, rfl, inG12, by decide, by decide, gt_7 67 rfl rfl, rfl, ty_12, nmX12, Or.inl rfl⟩
theorem fl_RX12_428 : FL RX12 428 12 13 0 := ⟨RX12, TX12, rfl, inG12, by decide, by decide, gt_7 62 rfl rfl, rfl, ty_12, nmX12, Or.inl rfl⟩
theorem fl_RX12_431 : FL RX12 431 12 49 0 := ⟨RX12, TX12, rfl, inG12, by decide, by decide, gt_7 98 rfl rfl, rfl, ty_12, nmX12, Or.inl rfl⟩
theorem fl_RX12_434 : FL RX12 434 12 50 0 := ⟨RX12, TX12, rfl, inG12, by decide, by decide, gt_7 99 rfl rfl, rfl, ty_12, nmX12, Or.inl rfl⟩
theorem fl_RX12_437 : FL RX12 437 12 99 0 := ⟨RX12, TX12, rfl, inG12, by decide, by decide, gt_7 148 rfl rfl, rfl, ty_12, nmX12, Or.inl rfl⟩
theorem fl_RX12_490 : FL RX12 490 12 69 0 := ⟨RX12, TX12, rfl, inG12, by decide, by decide, gt_7 118 rfl rfl, rfl, ty_12, nmX12, Or.inl rfl⟩
theorem fl_RX12_541 : FL RX12 541 12 75 0 := ⟨RX12, TX12, rfl, inG12, by decide, by decide, gt_7 124 rfl rfl, rfl, ty_12, nmX12, Or.inl rfl⟩
theorem fl_RX12_544 : FL RX12 544 12 78 3 := ⟨RX12, TX12, rfl, inG12, by decide, by decide, gt_7 127 rfl rfl, rfl, ty_12, nmX12, Or.inl rfl⟩
theorem fl_RX12_577 : FL RX12 577 12 79 3 := ⟨RX12, TX12, rfl, inG12, by decide, by decide, gt_7 128 rfl rfl, rfl, ty_12, nmX12, Or.inl rfl⟩
theorem fl_RX12_595 : FL RX12 595 12 81 0 := ⟨RX12, TX12, rfl, inG12, by decide, by decide, gt_7 130 rfl rfl, rfl, ty_12, nmX12, Or.inl rfl⟩
theorem fl_RX12_601 : FL RX12 601 12 82 0 := ⟨RX12, TX12, rfl, inG12, by decide, by decide, gt_7 131 rfl rfl, rfl, ty_12, nmX12, Or.inl rfl⟩
theorem fl_RX12_604 : FL RX12 604 12 83 0 := ⟨RX12, TX12, rfl, inG12, by decide, by decide, gt_7 132 rfl rfl, rfl, ty_12, nmX12, Or.inl rfl⟩
theorem fl_RX12_613 : FL RX12 613 12 84 0 := ⟨RX12, TX12, rfl, inG12, by decide, by decide, gt_7 133 rfl rfl, rfl, ty_12, nmX12, Or.inl rfl⟩
theorem fl_RX12_634 : FL RX12 634 12 88 0 := ⟨RX12, TX12, rfl, inG12, by decide, by decide, gt_7 137 rfl rfl, rfl, ty_12, nmX12, Or.inl rfl⟩
theorem fl_RX12_637 : FL RX12 637 12 89 0 := ⟨RX12, TX12, rfl, inG12, by decide, by decide, gt_7 138 rfl rfl, rfl, ty_12, nmX12, Or.inl rfl⟩
theorem fl_RX12_691 : FL RX12 691 12 97 0 := ⟨RX12, TX12, rfl, inG12, by decide, by decide, gt_7 146 rfl rfl, rfl, ty_12, nmX12, Or.inl rfl⟩
theorem fl_RX12_703 : FL RX12 703 12 98 0 := ⟨RX12, TX12, rfl, inG12, by decide, by decide, gt_7 147 rfl rfl, rfl, ty_12, nmX12, Or.inl rfl⟩
theorem fl_RX2_12 : FL RX2 12 2 0 2 := ⟨RX2, TX2, rfl, inG2, by decide, by decide, gt_2 52 rfl rfl, rfl, ty_2, nmX2, Or.inr rfl⟩
theorem fl_RX2_20 : FL RX2 20 2 1 2 := ⟨RX2, TX2, rfl, inG2, by decide, by decide, gt_2 57 rfl rfl, rfl, ty_2, nmX2, Or.inr rfl⟩
theorem fl_RX2_26 : FL RX2 26 2 2 2 := ⟨RX2, TX2, rfl, inG2, by decide, by decide, gt_2 62 rfl rfl, rfl, ty_2, nmX2, Or.inr rfl⟩
theorem fl_RX2_30 : FL RX2 30 2 7 2 := ⟨RX2, TX2, rfl, inG2, by decide, by decide, gt_2 77 rfl rfl, rfl, ty_2, nmX2, Or.inr rfl⟩
theorem fl_RX2_33 : FL RX2 33 2 8 2 := ⟨RX2, TX2, rfl, inG2, by decide, by decide, gt_2 79 rfl rfl, rfl, ty_2, nmX2, Or.inr rfl⟩
theorem fl_RX2_37 : FL RX2 37 2 9 2 := ⟨RX2, TX2, rfl, inG2, by decide, by decide, gt_2 80 rfl rfl, rfl, ty_2, nmX2, Or.inr rfl⟩
theorem fl_RX2_42 : FL RX2 42 2 5 0 := ⟨RX2, TX2, rfl, inG2, by decide, by decide, gt_2 72 rfl rfl, rfl, ty_2, nmX2, Or.inl rfl⟩
theorem fl_RX2_46 : FL RX2 46 2 3 0 := ⟨RX2, TX2, rfl, inG2, by decide, by decide, gt_2 64 rfl rfl, rfl, ty_2, nmX2, Or.inl rfl⟩
theorem fl_RX2_49 : FL RX2 49 2 4 0 := ⟨RX2, TX2, rfl, inG2, by decide, by decide, gt_2 69 rfl rfl, rfl, ty_2, nmX2, Or.inl rfl⟩
theorem fl_RX2_55 : FL RX2 55 1 0 0 := ⟨RX1, TX1, rfl, inG1, by decide, by decide, gt_2 34 rfl rfl, rfl, ty_1, nmX1, Or.inl rfl⟩
theorem fl_RX2_58 : FL RX2 58 1 1 0 := ⟨RX1, TX1, rfl, inG1, by decide, by decide, gt_2 35 rfl rfl, rfl, ty_1, nmX1, Or.inl rfl⟩
theorem fl_RX2_61 : FL RX2 61 1 2 0 := ⟨RX1, TX1, rfl, inG1, by decide, by decide, gt_2 37 rfl rfl, rfl, ty_1, nmX1, Or.inl rfl⟩
theorem fl_RX2_64 : FL RX2 64 1 3 0 := ⟨RX1, TX1, rfl, inG1, by decide, by decide, gt_2 38 rfl rfl, rfl, ty_1, nmX1, Or.inl rfl⟩
theorem fl_RX2_67 : FL RX2 67 1 4 0 := ⟨RX1, TX1, rfl, inG1, by decide, by decide, gt_2 40 rfl rfl, rfl, ty_1, nmX1, Or.inl rfl⟩
theorem fl_RX2_70 : FL RX2 70 0 0 2 := ⟨RX0, TX0, rfl, inG0, by decide, by decide, gt_1 102 rfl rfl, rfl, ty_0, nmX0, Or.inr rfl⟩
theorem fl_RX2_74 : FL RX2 74 4 1 0 := ⟨RX4, TX4, rfl, inG4, by decide, by decide, gt_1 92 rfl rfl, rfl, ty_4, nmX4, Or.inl rfl⟩
theorem fl_RX2_90 : FL RX2 90 2 6 0 := ⟨RX2, TX2, rfl, inG2, by decide, by decide, gt_2 76 rfl rfl, rfl, ty_2, nmX2, Or.inl rfl⟩
theorem fl_RX2_115 : FL RX2 115 6 0 0 := ⟨RX6, TX6, rfl, inG6, by decide, by decide, gt_1 196 rfl rfl, rfl, ty_6, nmX6, Or.inl rfl⟩
theorem fl_RX2_116 : FL RX2 116 6 1 0 := ⟨RX6, TX6, rfl, inG6, by decide, by decide, gt_1 199 rfl rfl, rfl, ty_6, nmX6, Or.inl rfl⟩
theorem fl_RX3_9 : FL RX3 9 3 2 2 := ⟨RX3, TX3, rfl, inG3, by decide, by decide, gt_3 48 rfl rfl, rfl, ty_3, nmX3, Or.inr rfl⟩
theorem fl_RX3_15 : FL RX3 15 3 0 2 := ⟨RX3, TX3, rfl, inG3, by decide, by decide, gt_3 46 rfl rfl, rfl, ty_3, nmX3, Or.inr rfl⟩
theorem fl_RX3_19 : FL RX3 19 3 1 2 := ⟨RX3, TX3, rfl, inG3, by decide, by decide, gt_3 47 rfl rfl, rfl, ty_3, nmX3, Or.inr rfl⟩
theorem fl_RX3_23 : FL RX3 23 3 3 0 := ⟨RX3, TX3, rfl, inG3, by decide, by decide, gt_3 49 rfl rfl, rfl, ty_3, nmX3, Or.inl rfl⟩
theorem fl_RX3_27 : FL RX3 27 3 4 0 := ⟨RX3, TX3, rfl, inG3, by decide, by decide, gt_3 50 rfl rfl, rfl, ty_3, nmX3, Or.inl rfl⟩
theorem fl_RX3_30 : FL RX3 30 3 5 0 := ⟨RX3, TX3, rfl, inG3, by decide, by decide, gt_3 51 rfl rfl, rfl, ty_3, nmX3, Or.inl rfl⟩
theorem fl_RX3_33 : FL RX3 33 2 0 2 := ⟨RX2, TX2, rfl, inG2, by decide, by decide, gt_2 54 rfl rfl, rfl, ty_2, nmX2, Or.inr rfl⟩
theorem fl_RX3_45 : FL RX3 45 3 6 0 := ⟨RX3, TX3, rfl, inG3, by decide, by decide, gt_3 52 rfl rfl, rfl, ty_3, nmX3, Or.inl rfl⟩
theorem fl_RX3_68 : FL RX3 68 2 1 2 := ⟨RX2, TX2, rfl, inG2, by decide, by decide, gt_2 59 rfl rfl, rfl, ty_2, nmX2, Or.inr rfl⟩
theorem fl_RX3_78 : FL RX3 78 6 4 3 := ⟨RX6, TX6, rfl, inG6, by decide, by decide, gt_1 208 rfl rfl, rfl, ty_6, nmX6, Or.inl rfl⟩
theorem fl_RX3_90 : FL RX3 90 0 6 2 := ⟨RX0, TX0, rfl, inG0, by decide, by decide, gt_1 117 rfl rfl, rfl, ty_0, nmX0, Or.inr rfl⟩
theorem fl_RX3_114 : FL RX3 114 7 0 2 := ⟨RX7, TX7, rfl, inG7, by decide, by decide, gt_2 152 rfl rfl, rfl, ty_7, nmX7, Or.inr rfl⟩
theorem fl_RX4_9 : FL RX4 9 4 0 2 := ⟨RX4, TX4, rfl, inG4, by decide, by decide, gt_1 89 rfl rfl, rfl, ty_4, nmX4, Or.inr rfl⟩
theorem fl_RX4_15 : FL RX4 15 4 1 0 := ⟨RX4, TX4, rfl, inG4, by decide, by decide, gt_1 90 rfl rfl, rfl, ty_4, nmX4, Or.inl rfl⟩
theorem fl_RX5_9 : FL RX5 9 5 0 2 := ⟨RX5, TX5, rfl, inG5, by decide, by decide, gt_2 204 rfl rfl, rfl, ty_5, nmX5, Or.inr rfl⟩
theorem fl_RX5_15 : FL RX5 15 5 4 0 := ⟨RX5, TX5, rfl, inG5, by decide, by decide, gt_2 209 rfl rfl, rfl, ty_5, nmX5, Or.inl rfl⟩
theorem fl_RX5_19 : FL RX5 19 5 5 2 := ⟨RX5, TX5, rfl, inG5, by decide, by decide, gt_2 210 rfl rfl, rfl, ty_5, nmX5, Or.inr rfl⟩
theorem fl_RX5_22 : FL RX5 22 5 6 2 := ⟨RX5, TX5, rfl, inG5, by decide, by decide, gt_2 211 rfl rfl, rfl, ty_5, nmX5, Or.inr rfl⟩
theorem fl_RX5_25 : FL RX5 25 5 7 2 := ⟨RX5, TX5, rfl, inG5, by decide, by decide, gt_2 212 rfl rfl, rfl, ty_5, nmX5, Or.inr rfl⟩
theorem fl_RX5_28 : FL RX5 28 5 8 2 := ⟨RX5, TX5, rfl, inG5, by decide, by decide, gt_2 213 rfl rfl, rfl, ty_5, nmX5, Or.inr rfl⟩
theorem fl_RX5_31 : FL RX5 31 5 9 0 := ⟨RX5, TX5, rfl, inG5, by decide, by decide, gt_2 214 rfl rfl, rfl, ty_5, nmX5, Or.inl rfl⟩
theorem fl_RX5_34 : FL RX5 34 5 2 2 := ⟨RX5, TX5, rfl, inG5, by decide, by decide, gt_2 207 rfl rfl, rfl, ty_5, nmX5, Or.inr rfl⟩
theorem fl_RX5_38 : FL RX5 38 5 3 2 := ⟨RX5, TX5, rfl, inG5, by decide, by decide, gt_2 208 rfl rfl, rfl, ty_5, nmX5, Or.inr rfl⟩
theorem fl_RX5_42 : FL RX5 42 2 6 0 := ⟨RX2, TX2, rfl, inG2, by decide, by decide, gt_2 75 rfl rfl, rfl, ty_2, nmX2, Or.inl rfl⟩
theorem fl_RX5_47 : FL RX5 47 5 1 0 := ⟨RX5, TX5, rfl, inG5, by decide, by decide, gt_2 205 rfl rfl, rfl, ty_5, nmX5, Or.inl rfl⟩
theorem fl_RX5_75 : FL RX5 75 7 2 2 := ⟨RX7, TX7, rfl, inG7, by decide, by decide, gt_2 156 rfl rfl, rfl, ty_7, nmX7, Or.inr rfl⟩
theorem fl_RX6_9 : FL RX6 9 6 9 2 := ⟨RX6, TX6, rfl, inG6, by decide, by decide, gt_1 222 rfl rfl, rfl, ty_6, nmX6, Or.inr rfl⟩
theorem fl_RX6_15 : FL RX6 15 6 10 2 := ⟨RX6, TX6, rfl, inG6, by decide, by decide, gt_1 224 rfl rfl, rfl, ty_6, nmX6, Or.inr rfl⟩
theorem fl_RX6_18 : FL RX6 18 6 11 2 := ⟨RX6, TX6, rfl, inG6, by decide, by decide, gt_1 226 rfl rfl, rfl, ty_6, nmX6, Or.inr rfl⟩
theorem fl_RX6_21 : FL RX6 21 6 12 2 := ⟨RX6, TX6, rfl, inG6, by decide, by decide, gt_1 228 rfl rfl, rfl, ty_6, nmX6, Or.inr rfl⟩
theorem fl_RX6_24 : FL RX6 24 6 13 2 := ⟨RX6, TX6, rfl, inG6, by decide, by decide, gt_1 229 rfl rfl, rfl, ty_6, nmX6, Or.inr rfl⟩
theorem fl_RX6_27 : FL RX6 27 6 0 0 := ⟨RX6, TX6, rfl, inG6, by decide, by decide, gt_1 194 rfl rfl, rfl, ty_6, nmX6, Or.inl rfl⟩
theorem fl_RX6_31 : FL RX6 31 6 1 0 := ⟨RX6, TX6, rfl, inG6, by decide, by decide, gt_1 197 rfl rfl, rfl, ty_6, nmX6, Or.inl rfl⟩
theorem fl_RX6_34 : FL RX6 34 6 2 0 := ⟨RX6, TX6, rfl, inG6, by decide, by decide, gt_1 200 rfl rfl, rfl, ty_6, nmX6, Or.inl rfl⟩
theorem fl_RX6_37 : FL RX6 37 6 3 0 := ⟨RX6, TX6, rfl, inG6, by decide, by decide, gt_1 203 rfl rfl, rfl, ty_6, nmX6, Or.inl rfl⟩
theorem fl_RX6_40 : FL RX6 40 6 4 3 := ⟨RX6, TX6, rfl, inG6, by decide, by decide, gt_1 206 rfl rfl, rfl, ty_6, nmX6, Or.inl rfl⟩
theorem fl_RX6_44 : FL RX6 44 6 5 0 := ⟨RX6, TX6, rfl, inG6, by decide, by decide, gt_1 210 rfl rfl, rfl, ty_6, nmX6, Or.inl rfl⟩
theorem fl_RX6_47 : FL RX6 47 6 6 0 := ⟨RX6, TX6, rfl, inG6, by decide, by decide, gt_1 213 rfl rfl, rfl, ty_6, nmX6, Or.inl rfl⟩
theorem fl_RX6_50 : FL RX6 50 6 7 0 := ⟨RX6, TX6, rfl, inG6, by decide, by decide, gt_1 216 rfl rfl, rfl, ty_6, nmX6, Or.inl rfl⟩
theorem fl_RX6_53 : FL RX6 53 6 8 0 := ⟨RX6, TX6, rfl, inG6, by decide, by decide, gt_1 219 rfl rfl, rfl, ty_6, nmX6, Or.inl rfl⟩
theorem fl_RX6_56 : FL RX6 56 6 14 0 := ⟨RX6, TX6, rfl, inG6, by decide, by decide, gt_1 230 rfl rfl, rfl, ty_6, nmX6, Or.inl rfl⟩
theorem fl_RX6_59 : FL RX6 59 6 15 0 := ⟨RX6, TX6, rfl, inG6, by decide, by decide, gt_1 231 rfl rfl, rfl, ty_6, nmX6, Or.inl rfl⟩
theorem fl_RX6_62 : FL RX6 62 6 16 0 := ⟨RX6, TX6, rfl, inG6, by decide, by decide, gt_1 232 rfl rfl, rfl, ty_6, nmX6, Or.inl rfl⟩
theorem fl_RX6_162 : FL RX6 162 0 1 2 := ⟨RX0, TX0, rfl, inG0, by decide, by decide, gt_1 107 rfl rfl, rfl, ty_0, nmX0, Or.inr rfl⟩
theorem fl_RX6_172 : FL RX6 172 0 2 2 := ⟨RX0, TX0, rfl, inG0, by decide, by decide, gt_1 112 rfl rfl, rfl, ty_0, nmX0, Or.inr rfl⟩
theorem fl_RX7_9 : FL RX7 9 7 0 2 := ⟨RX7, TX7, rfl, inG7, by decide, by decide, gt_2 151 rfl rfl, rfl, ty_7, nmX7, Or.inr rfl⟩
theorem fl_RX7_15 : FL RX7 15 7 1 2 := ⟨RX7, TX7, rfl, inG7, by decide, by decide, gt_2 153 rfl rfl, rfl, ty_7, nmX7, Or.inr rfl⟩
theorem fl_RX7_18 : FL RX7 18 7 2 2 := ⟨RX7, TX7, rfl, inG7, by decide, by decide, gt_2 155 rfl rfl, rfl, ty_7, nmX7, Or.inr rfl⟩
theorem fl_RX7_23 : FL RX7 23 7 4 2 := ⟨RX7, TX7, rfl, inG7, by decide, by decide, gt_2 159 rfl rfl, rfl, ty_7, nmX7, Or.inr rfl⟩
theorem fl_RX7_27 : FL RX7 27 7 5 2 := ⟨RX7, TX7, rfl, inG7, by decide, by decide, gt_2 160 rfl rfl, rfl, ty_7, nmX7, Or.inr rfl⟩
theorem fl_RX7_30 : FL RX7 30 7 6 2 := ⟨RX7, TX7, rfl, inG7, by decide, by decide, gt_2 161 rfl rfl, rfl, ty_7, nmX7, Or.inr rfl⟩
theorem fl_RX7_33 : FL RX7 33 7 7 2 := ⟨RX7, TX7, rfl, inG7, by decide, by decide, gt_2 162 rfl rfl, rfl, ty_7, nmX7, Or.inr rfl⟩
theorem fl_RX7_36 : FL RX7 36 7 13 0 := ⟨RX7, TX7, rfl, inG7, by decide, by decide, gt_2 168 rfl rfl, rfl, ty_7, nmX7, Or.inl rfl⟩
theorem fl_RX7_40 : FL RX7 40 7 3 2 := ⟨RX7, TX7, rfl, inG7, by decide, by decide, gt_2 158 rfl rfl, rfl, ty_7, nmX7, Or.inr rfl⟩
theorem fl_RX7_47 : FL RX7 47 2 6 0 := ⟨RX2, TX2, rfl, inG2, by decide, by decide, gt_2 74 rfl rfl, rfl, ty_2, nmX2, Or.inl rfl⟩
theorem fl_RX7_59 : FL RX7 59 7 10 0 := ⟨RX7, TX7, rfl, inG7, by decide, by decide, gt_2 165 rfl rfl, rfl, ty_7, nmX7, Or.inl rfl⟩
theorem fl_RX7_62 : FL RX7 62 7 11 0 := ⟨RX7, TX7, rfl, inG7, by decide, by decide, gt_2 166 rfl rfl, rfl, ty_7, nmX7, Or.inl rfl⟩
theorem fl_RX7_65 : FL RX7 65 7 12 0 := ⟨RX7, TX7, rfl, inG7, by decide, by decide, gt_2 167 rfl rfl, rfl, ty_7, nmX7, Or.inl rfl⟩
theorem fl_RX7_72 : FL RX7 72 2 0 2 := ⟨RX2, TX2, rfl, inG2, by decide, by decide, gt_2 56 rfl rfl, rfl, ty_2, nmX2, Or.inr rfl⟩
theorem fl_RX7_76 : FL RX7 76 0 0 2 := ⟨RX0, TX0, rfl, inG0, by decide, by decide, gt_1 103 rfl rfl, rfl, ty_0, nmX0, Or.inr rfl⟩
theorem fl_RX7_82 : FL RX7 82 4 1 0 := ⟨RX4, TX4, rfl, inG4, by decide, by decide, gt_1 93 rfl rfl, rfl, ty_4, nmX4, Or.inl rfl⟩
theorem fl_RX7_94 : FL RX7 94 7 9 0 := ⟨RX7, TX7, rfl, inG7, by decide, by decide, gt_2 164 rfl rfl, rfl, ty_7, nmX7, Or.inl rfl⟩
theorem fl_RX7_97 : FL RX7 97 0 2 2 := ⟨RX0, TX0, rfl, inG0, by decide, by decide, gt_1 110 rfl rfl, rfl, ty_0, nmX0, Or.inr rfl⟩
theorem fl_RX7_110 : FL RX7 110 0 6 2 := ⟨RX0, TX0, rfl, inG0, by decide, by decide, gt_1 118 rfl rfl, rfl, ty_0, nmX0, Or.inr rfl⟩
theorem fl_RX7_128 : FL RX7 128 2 3 0 := ⟨RX2, TX2, rfl, inG2, by decide, by decide, gt_2 68 rfl rfl, rfl, ty_2, nmX2, Or.inl rfl⟩
theorem fl_RX7_135 : FL RX7 135 2 1 2 := ⟨RX2, TX2, rfl, inG2, by decide, by decide, gt_2 61 rfl rfl, rfl, ty_2, nmX2, Or.inr rfl⟩
theorem fl_RX7_142 : FL RX7 142 6 8 0 := ⟨RX6, TX6, rfl, inG6, by decide, by decide, gt_1 221 rfl rfl, rfl, ty_6, nmX6, Or.inl rfl⟩
theorem fl_RX7_147 : FL RX7 147 6 9 2 := ⟨RX6, TX6, rfl, inG6, by decide, by decide, gt_1 223 rfl rfl, rfl, ty_6, nmX6, Or.inr rfl⟩
theorem fl_RX7_154 : FL RX7 154 6 11 2 := ⟨RX6, TX6, rfl, inG6, by decide, by decide, gt_1 227 rfl rfl, rfl, ty_6, nmX6, Or.inr rfl⟩
theorem fl_RX7_157 : FL RX7 157 0 10 0 := ⟨RX0, TX0, rfl, inG0, by decide, by decide, gt_1 127 rfl rfl, rfl, ty_0, nmX0, Or.inl rfl⟩
theorem fl_RX7_171 : FL RX7 171 0 11 0 := ⟨RX0, TX0, rfl, inG0, by decide, by decide, gt_1 131 rfl rfl, rfl, ty_0, nmX0, Or.inl rfl⟩
theorem fl_RX7_177 : FL RX7 177 0 9 0 := ⟨RX0, TX0, rfl, inG0, by decide, by decide, gt_1 125 rfl rfl, rfl, ty_0, nmX0, Or.inl rfl⟩
theorem fl_RX7_183 : FL RX7 183 0 1 2 := ⟨RX0, TX0, rfl, inG0, by decide, by decide, gt_1 108 rfl rfl, rfl, ty_0, nmX0, Or.inr rfl⟩
theorem fl_RX7_186 : FL RX7 186 0 8 2 := ⟨RX0, TX0, rfl, inG0, by decide, by decide, gt_1 123 rfl rfl, rfl, ty_0, nmX0, Or.inr rfl⟩
theorem fl_RX7_189 : FL RX7 189 6 3 0 := ⟨RX6, TX6, rfl, inG6, by decide, by decide, gt_1 205 rfl rfl, rfl, ty_6, nmX6, Or.inl rfl⟩
theorem fl_RX7_204 : FL RX7 204 7 8 0 := ⟨RX7, TX7, rfl, inG7, by decide, by decide, gt_2 163 rfl rfl, rfl, ty_7, nmX7, Or.inl rfl⟩
theorem fl_RX7_219 : FL RX7 219 6 10 2 := ⟨RX6, TX6, rfl, inG6, by decide, by decide, gt_1 225 rfl rfl, rfl, ty_6, nmX6, Or.inr rfl⟩
theorem fl_RX8_9 : FL RX8 9 8 0 2 := ⟨RX8, TX8, rfl, inG8, by decide, by decide, gt_2 115 rfl rfl, rfl, ty_8, nmX8, Or.inr rfl⟩
theorem fl_RX8_15 : FL RX8 15 8 3 2 := ⟨RX8, TX8, rfl, inG8, by decide, by decide, gt_2 120 rfl rfl, rfl, ty_8, nmX8, Or.inr rfl⟩
theorem fl_RX8_18 : FL RX8 18 8 2 2 := ⟨RX8, TX8, rfl, inG8, by decide, by decide, gt_2 119 rfl rfl, rfl, ty_8, nmX8, Or.inr rfl⟩
theorem fl_RX8_22 : FL RX8 22 2 0 2 := ⟨RX2, TX2, rfl, inG2, by decide, by decide, gt_2 53 rfl rfl, rfl, ty_2, nmX2, Or.inr rfl⟩
theorem fl_RX8_34 : FL RX8 34 8 4 3 := ⟨RX8, TX8, rfl, inG8, by decide, by decide, gt_2 121 rfl rfl, rfl, ty_8, nmX8, Or.inl rfl⟩
theorem fl_RX8_38 : FL RX8 38 8 5 3 := ⟨RX8, TX8, rfl, inG8, by decide, by decide, gt_2 122 rfl rfl, rfl, ty_8, nmX8, Or.inl rfl⟩
theorem fl_RX8_41 : FL RX8 41 2 4 0 := ⟨RX2, TX2, rfl, inG2, by decide, by decide, gt_2 70 rfl rfl, rfl, ty_2, nmX2, Or.inl rfl⟩
theorem fl_RX8_45 : FL RX8 45 2 2 2 := ⟨RX2, TX2, rfl, inG2, by decide, by decide, gt_2 63 rfl rfl, rfl, ty_2, nmX2, Or.inr rfl⟩
theorem fl_RX8_49 : FL RX8 49 1 0 0 := ⟨RX1, TX1, rfl, inG1, by decide, by decide, gt_2 33 rfl rfl, rfl, ty_1, nmX1, Or.inl rfl⟩
theorem fl_RX8_57 : FL RX8 57 8 6 0 := ⟨RX8, TX8, rfl, inG8, by decide, by decide, gt_2 123 rfl rfl, rfl, ty_8, nmX8, Or.inl rfl⟩
theorem fl_RX8_60 : FL RX8 60 8 7 0 := ⟨RX8, TX8, rfl, inG8, by decide, by decide, gt_2 124 rfl rfl, rfl, ty_8, nmX8, Or.inl rfl⟩
theorem fl_RX8_63 : FL RX8 63 2 3 0 := ⟨RX2, TX2, rfl, inG2, by decide, by decide, gt_2 65 rfl rfl, rfl, ty_2, nmX2, Or.inl rfl⟩
theorem fl_RX8_66 : FL RX8 66 2 1 2 := ⟨RX2, TX2, rfl, inG2, by decide, by decide, gt_2 58 rfl rfl, rfl, ty_2, nmX2, Or.inr rfl⟩
theorem fl_RX8_76 : FL RX8 76 6 4 3 := ⟨RX6, TX6, rfl, inG6, by decide, by decide, gt_1 207 rfl rfl, rfl, ty_6, nmX6, Or.inl rfl⟩
theorem fl_RX8_79 : FL RX8 79 8 8 0 := ⟨RX8, TX8, rfl, inG8, by decide, by decide, gt_2 125 rfl rfl, rfl, ty_8, nmX8, Or.inl rfl⟩
theorem fl_RX8_82 : FL RX8 82 8 9 0 := ⟨RX8, TX8, rfl, inG8, by decide, by decide, gt_2 126 rfl rfl, rfl, ty_8, nmX8, Or.inl rfl⟩
theorem fl_RX8_85 : FL RX8 85 8 10 0 := ⟨RX8, TX8, rfl, inG8, by decide, by decide, gt_2 127 rfl rfl, rfl, ty_8, nmX8, Or.inl rfl⟩
theorem fl_RX8_113 : FL RX8 113 1 1 0 := ⟨RX1, TX1, rfl, inG1, by decide, by decide, gt_2 36 rfl rfl, rfl, ty_1, nmX1, Or.inl rfl⟩
theorem fl_RX8_122 : FL RX8 122 6 5 0 := ⟨RX6, TX6, rfl, inG6, by decide, by decide, gt_1 211 rfl rfl, rfl, ty_6, nmX6, Or.inl rfl⟩
theorem fl_RX8_125 : FL RX8 125 6 6 0 := ⟨RX6, TX6, rfl, inG6, by decide, by decide, gt_1 214 rfl rfl, rfl, ty_6, nmX6, Or.inl rfl⟩
theorem fl_RX8_131 : FL RX8 131 8 1 0 := ⟨RX8, TX8, rfl, inG8, by decide, by decide, gt_2 117 rfl rfl, rfl, ty_8, nmX8, Or.inl rfl⟩
theorem fl_RX8_134 : FL RX8 134 6 7 0 := ⟨RX6, TX6, rfl, inG6, by decide, by decide, gt_1 217 rfl rfl, rfl, ty_6, nmX6, Or.inl rfl⟩
theorem fl_RX8_137 : FL RX8 137 6 2 0 := ⟨RX6, TX6, rfl, inG6, by decide, by decide, gt_1 202 rfl rfl, rfl, ty_6, nmX6, Or.inl rfl⟩
theorem fl_RX8_140 : FL RX8 140 0 11 0 := ⟨RX0, TX0, rfl, inG0, by decide, by decide, gt_1 130 rfl rfl, rfl, ty_0, nmX0, Or.inl rfl⟩
theorem fl_RX9_9 : FL RX9 9 9 6 2 := ⟨RX9, TX9, rfl, inG9, by decide, by decide, gt_3 12 rfl rfl, rfl, ty_9, nmX9, Or.inr rfl⟩
theorem fl_RX9_15 : FL RX9 15 9 7 2 := ⟨RX9, TX9, rfl, inG9, by decide, by decide, gt_3 13 rfl rfl, rfl, ty_9, nmX9, Or.inr rfl⟩
theorem fl_RX9_18 : FL RX9 18 9 8 2 := ⟨RX9, TX9, rfl, inG9, by decide, by decide, gt_3 14 rfl rfl, rfl, ty_9, nmX9, Or.inr rfl⟩
theorem fl_RX9_21 : FL RX9 21 9 9 2 := ⟨RX9, TX9, rfl, inG9, by decide, by decide, gt_3 15 rfl rfl, rfl, ty_9, nmX9, Or.inr rfl⟩
theorem fl_RX9_24 : FL RX9 24 9 10 2 := ⟨RX9, TX9, rfl, inG9, by decide, by decide, gt_3 16 rfl rfl, rfl, ty_9, nmX9, Or.inr rfl⟩
theorem fl_RX9_27 : FL RX9 27 9 4 2 := ⟨RX9, TX9, rfl, inG9, by decide, by decide, gt_3 10 rfl rfl, rfl, ty_9, nmX9, Or.inr rfl⟩
theorem fl_RX9_31 : FL RX9 31 9 5 2 := ⟨RX9, TX9, rfl, inG9, by decide, by decide, gt_3 11 rfl rfl, rfl, ty_9, nmX9, Or.inr rfl⟩
theorem fl_RX9_35 : FL RX9 35 9 0 0 := ⟨RX9, TX9, rfl, inG9, by decide, by decide, gt_3 2 rfl rfl, rfl, ty_9, nmX9, Or.inl rfl⟩
theorem fl_RX9_43 : FL RX9 43 2 3 0 := ⟨RX2, TX2, rfl, inG2, by decide, by decide, gt_2 66 rfl rfl, rfl, ty_2, nmX2, Or.inl rfl⟩
theorem fl_RX9_59 : FL RX9 59 9 1 0 := ⟨RX9, TX9, rfl, inG9, by decide, by decide, gt_3 4 rfl rfl, rfl, ty_9, nmX9, Or.inl rfl⟩
theorem fl_RX9_62 : FL RX9 62 9 2 0 := ⟨RX9, TX9, rfl, inG9, by decide, by decide, gt_3 6 rfl rfl, rfl, ty_9, nmX9, Or.inl rfl⟩
theorem fl_RX9_65 : FL RX9 65 9 3 0 := ⟨RX9, TX9, rfl, inG9, by decide, by decide, gt_3 8 rfl rfl, rfl, ty_9, nmX9, Or.inl rfl⟩
theorem kc_yJ0_coder_7d493 : Cond.code yJ0_coder_7d493 cJ0_coder_7d493 1 (some .byte) ∈ GT := gt_3 152 rfl rfl
theorem ml_RJ0_335 : ML RJ0 335 yJ0_coder_7d493 cJ0_coder_7d493 1 0 (some .byte) := ⟨gt_3 149 rfl rfl, gt_3 150 rfl rfl, gt_3 151 rfl rfl, gt_1 15 rfl rfl, kc_yJ0_coder_7d493, by decide, by decide, by decide +kernel, by decide⟩
theorem kc_yJ0_isLatin1_aae02 : Cond.code yJ0_isLatin1_aae02 cJ0_isLatin1_aae02 1 (some .boolean) ∈ GT := gt_3 162 rfl rfl
theorem ml_RJ0_492 : ML RJ0 492 yJ0_isLatin1_aae02 cJ0_isLatin1_aae02 1 0 (some .boolean) := ⟨gt_3 159 rfl rfl, gt_3 160 rfl rfl, gt_3 161 rfl rfl, gt_1 15 rfl rfl, kc_yJ0_isLatin1_aae02, by decide, by decide, by decide +kernel, by decide⟩
theorem kc_yJ1_charAt_3b067 : Cond.code yJ1_charAt_3b067 cJ1_charAt_3b067 2 (some .char) ∈ GT := gt_3 165 rfl rfl
theorem ms_RJ0_495 : MS RJ0 495 yJ1_charAt_3b067 cJ1_charAt_3b067 2 2 (some .char) := ⟨gt_3 163 rfl rfl, gt_3 164 rfl rfl, gt_1 16 rfl rfl, kc_yJ1_charAt_3b067, by decide, by decide, by decide +kernel, by decide⟩
theorem kc_yJ2_charAt_3b067 : Cond.code yJ2_charAt_3b067 cJ2_charAt_3b067 2 (some .char) ∈ GT := gt_3 176 rfl rfl
theorem ms_RJ0_498 : MS RJ0 498 yJ2_charAt_3b067 cJ2_charAt_3b067 2 2 (some .char) := ⟨gt_3 174 rfl rfl, gt_3 175 rfl rfl, gt_1 18 rfl rfl, kc_yJ2_charAt_3b067, by decide, by decide, by decide +kernel, by decide⟩
theorem kc_yJ3_checkIndex_8e157 : Cond.code yJ3_checkIndex_8e157 cJ3_checkIndex_8e157 3 (some .int) ∈ GT := gt_3 173 rfl rfl
theorem ms_RJ0_1059 : MS RJ0 1059 yJ3_checkIndex_8e157 cJ3_checkIndex_8e157 3 3 (some .int) := ⟨gt_3 171 rfl rfl, gt_3 172 rfl rfl, gt_1 17 rfl rfl, kc_yJ3_checkIndex_8e157, by decide, by decide, by decide +kernel, by decide⟩
theorem kc_yJ0_checkIndex_df160 : Cond.code yJ0_checkIndex_df160 cJ0_checkIndex_df160 2 none ∈ GT := gt_3 168 rfl rfl
theorem ms_RJ1_9 : MS RJ1 9 yJ0_checkIndex_df160 cJ0_checkIndex_df160 2 2 none := ⟨gt_3 166 rfl rfl, gt_3 167 rfl rfl, gt_1 15 rfl rfl, kc_yJ0_checkIndex_df160, by decide, by decide, by decide +kernel, by decide⟩
theorem kc_yJ2_length_9d52b : Cond.code yJ2_length_9d52b cJ2_length_9d52b 1 (some .int) ∈ GT := gt_3 182 rfl rfl
theorem ms_RJ2_48 : MS RJ2 48 yJ2_length_9d52b cJ2_length_9d52b 1 1 (some .int) := ⟨gt_3 180 rfl rfl, gt_3 181 rfl rfl, gt_1 18 rfl rfl, kc_yJ2_length_9d52b, by decide, by decide, by decide +kernel, by decide⟩
theorem kc_yJ2_checkIndex_2214a : Cond.code yJ2_checkIndex_2214a cJ2_checkIndex_2214a 2 none ∈ GT := gt_3 179 rfl rfl
theorem ms_RJ2_67 : MS RJ2 67 yJ2_checkIndex_2214a cJ2_checkIndex_2214a 2 2 none := ⟨gt_3 177 rfl rfl, gt_3 178 rfl rfl, gt_1 18 rfl rfl, kc_yJ2_checkIndex_2214a, by decide, by decide, by decide +kernel, by decide⟩
theorem kc_yJ2_getChar_3b067 : Cond.code yJ2_getChar_3b067 cJ2_getChar_3b067 2 (some .char) ∈ GT := gt_3 186 rfl rfl
theorem ms_RJ2_71 : MS RJ2 71 yJ2_getChar_3b067 cJ2_getChar_3b067 2 2 (some .char) := ⟨gt_3 184 rfl rfl, gt_3 185 rfl rfl, gt_1 18 rfl rfl, kc_yJ2_getChar_3b067, by decide, by decide, by decide +kernel, by decide⟩
theorem ms_RJ2_414 : MS RJ2 414 yJ0_checkIndex_df160 cJ0_checkIndex_df160 2 2 none := ⟨gt_3 183 rfl rfl, gt_3 167 rfl rfl, gt_1 15 rfl rfl, kc_yJ0_checkIndex_df160, by decide, by decide, by decide +kernel, by decide⟩
theorem kc_yJ9_min_7cf53 : Cond.code yJ9_min_7cf53 cJ9_min_7cf53 2 (some .int) ∈ GT := gt_6 88 rfl rfl
theorem ms_RJ7_304 : MS RJ7 304 yJ9_min_7cf53 cJ9_min_7cf53 2 2 (some .int) := ⟨gt_6 86 rfl rfl, gt_6 87 rfl rfl, gt_1 14 rfl rfl, kc_yJ9_min_7cf53, by decide, by decide, by decide +kernel, by decide⟩
theorem kc_yX11_init : Cond.code yX11_init cX11_init 1 none ∈ GT := gt_1 26 rfl rfl
theorem kc_yX12_init : Cond.code yX12_init cX12_init 1 none ∈ GT := gt_7 25 rfl rfl
theorem kc_yX11_feed : Cond.code yX11_feed cX11_feed 6 (some .int) ∈ GT := gt_3 99 rfl rfl
theorem ml_RL_13 : ML RL 13 yX11_feed cX11_feed 6 5 (some .int) := ⟨gt_3 96 rfl rfl, gt_3 97 rfl rfl, gt_3 98 rfl rfl, gt_1 1 rfl rfl, kc_yX11_feed, by decide, by decide, by decide +kernel, by decide⟩
theorem kc_yX12_feed : Cond.code yX12_feed cX12_feed 6 (some .int) ∈ GT := gt_8 132 rfl rfl
theorem ml_RL_17 : ML RL 17 yX12_feed cX12_feed 6 5 (some .int) := ⟨gt_8 129 rfl rfl, gt_8 130 rfl rfl, gt_8 131 rfl rfl, gt_1 13 rfl rfl, kc_yX12_feed, by decide, by decide, by decide +kernel, by decide⟩
theorem kc_yX11_end : Cond.code yX11_end cX11_end 2 (some .int) ∈ GT := gt_3 111 rfl rfl
theorem ml_RL_18 : ML RL 18 yX11_end cX11_end 2 1 (some .int) := ⟨gt_3 108 rfl rfl, gt_3 109 rfl rfl, gt_3 110 rfl rfl, gt_1 1 rfl rfl, kc_yX11_end, by decide, by decide, by decide +kernel, by decide⟩
theorem kc_yX12_end : Cond.code yX12_end cX12_end 2 (some .int) ∈ GT := gt_8 140 rfl rfl
theorem ml_RL_22 : ML RL 22 yX12_end cX12_end 2 1 (some .int) := ⟨gt_8 137 rfl rfl, gt_8 138 rfl rfl, gt_8 139 rfl rfl, gt_1 13 rfl rfl, kc_yX12_end, by decide, by decide, by decide +kernel, by decide⟩
theorem kc_yX11_estate : Cond.code yX11_estate cX11_estate 2 (some .int) ∈ GT := gt_3 115 rfl rfl
theorem ml_RL_23 : ML RL 23 yX11_estate cX11_estate 2 0 (some .int) := ⟨gt_3 112 rfl rfl, gt_3 113 rfl rfl, gt_3 114 rfl rfl, gt_1 1 rfl rfl, kc_yX11_estate, by decide, by decide, by decide +kernel, by decide⟩
theorem kc_yX12_estate : Cond.code yX12_estate cX12_estate 3 (some .int) ∈ GT := gt_8 147 rfl rfl
theorem ml_RL_27 : ML RL 27 yX12_estate cX12_estate 3 0 (some .int) := ⟨gt_8 144 rfl rfl, gt_8 145 rfl rfl, gt_8 146 rfl rfl, gt_1 13 rfl rfl, kc_yX12_estate, by decide, by decide, by decide +kernel, by decide⟩
theorem kc_yX11_paper : Cond.code yX11_paper cX11_paper 3 (some .int) ∈ GT := gt_4 135 rfl rfl
theorem ml_RL_28 : ML RL 28 yX11_paper cX11_paper 3 0 (some .int) := ⟨gt_4 132 rfl rfl, gt_4 133 rfl rfl, gt_4 134 rfl rfl, gt_1 1 rfl rfl, kc_yX11_paper, by decide, by decide, by decide +kernel, by decide⟩
theorem kc_yX12_paper : Cond.code yX12_paper cX12_paper 1 (some .int) ∈ GT := gt_9 49 rfl rfl
theorem ml_RL_31 : ML RL 31 yX12_paper cX12_paper 1 0 (some .int) := ⟨gt_9 46 rfl rfl, gt_9 47 rfl rfl, gt_9 48 rfl rfl, gt_1 13 rfl rfl, kc_yX12_paper, by decide, by decide, by decide +kernel, by decide⟩
theorem kc_yX11_fault : Cond.code yX11_fault cX11_fault 2 (some .int) ∈ GT := gt_4 236 rfl rfl
theorem ml_RL_32 : ML RL 32 yX11_fault cX11_fault 2 1 (some .int) := ⟨gt_4 233 rfl rfl, gt_4 234 rfl rfl, gt_4 235 rfl rfl, gt_1 1 rfl rfl, kc_yX11_fault, by decide, by decide, by decide +kernel, by decide⟩
theorem kc_yX12_fault : Cond.code yX12_fault cX12_fault 2 (some .int) ∈ GT := gt_9 26 rfl rfl
theorem ml_RL_35 : ML RL 35 yX12_fault cX12_fault 2 1 (some .int) := ⟨gt_9 23 rfl rfl, gt_9 24 rfl rfl, gt_9 25 rfl rfl, gt_1 13 rfl rfl, kc_yX12_fault, by decide, by decide, by decide +kernel, by decide⟩
theorem kc_yX11_event : Cond.code yX11_event cX11_event 6 (some .int) ∈ GT := gt_5 0 rfl rfl
theorem ml_RL_36 : ML RL 36 yX11_event cX11_event 6 5 (some .int) := ⟨gt_4 237 rfl rfl, gt_4 238 rfl rfl, gt_4 239 rfl rfl, gt_1 1 rfl rfl, kc_yX11_event, by decide, by decide, by decide +kernel, by decide⟩
theorem kc_yX12_event : Cond.code yX12_event cX12_event 6 (some .int) ∈ GT := gt_9 126 rfl rfl
theorem ml_RL_39 : ML RL 39 yX12_event cX12_event 6 5 (some .int) := ⟨gt_9 123 rfl rfl, gt_9 124 rfl rfl, gt_9 125 rfl rfl, gt_1 13 rfl rfl, kc_yX12_event, by decide, by decide, by decide +kernel, by decide⟩
theorem kc_yX11_told : Cond.code yX11_told cX11_told 3 (some .int) ∈ GT := gt_5 12 rfl rfl
theorem ml_RL_40 : ML RL 40 yX11_told cX11_told 3 1 (some .int) := ⟨gt_5 9 rfl rfl, gt_5 10 rfl rfl, gt_5 11 rfl rfl, gt_1 1 rfl rfl, kc_yX11_told, by decide, by decide, by decide +kernel, by decide⟩
theorem kc_yX12_told : Cond.code yX12_told cX12_told 2 (some .int) ∈ GT := gt_9 30 rfl rfl
theorem ml_RL_43 : ML RL 43 yX12_told cX12_told 2 1 (some .int) := ⟨gt_9 27 rfl rfl, gt_9 28 rfl rfl, gt_9 29 rfl rfl, gt_1 13 rfl rfl, kc_yX12_told, by decide, by decide, by decide +kernel, by decide⟩
theorem kc_yX11_rule : Cond.code yX11_rule cX11_rule 3 (some .int) ∈ GT := gt_5 20 rfl rfl
theorem ml_RL_44 : ML RL 44 yX11_rule cX11_rule 3 2 (some .int) := ⟨gt_5 17 rfl rfl, gt_5 18 rfl rfl, gt_5 19 rfl rfl, gt_1 1 rfl rfl, kc_yX11_rule, by decide, by decide, by decide +kernel, by decide⟩
theorem kc_yX12_rule : Cond.code yX12_rule cX12_rule 3 (some .int) ∈ GT := gt_9 40 rfl rfl
theorem ml_RL_48 : ML RL 48 yX12_rule cX12_rule 3 2 (some .int) := ⟨gt_9 37 rfl rfl, gt_9 38 rfl rfl, gt_9 39 rfl rfl, gt_1 13 rfl rfl, kc_yX12_rule, by decide, by decide, by decide +kernel, by decide⟩
theorem kc_yX11_look : Cond.code yX11_look cX11_look 4 (some .int) ∈ GT := gt_5 32 rfl rfl
theorem ml_RL_49 : ML RL 49 yX11_look cX11_look 4 2 (some .int) := ⟨gt_5 29 rfl rfl, gt_5 30 rfl rfl, gt_5 31 rfl rfl, gt_1 1 rfl rfl, kc_yX11_look, by decide, by decide, by decide +kernel, by decide⟩
theorem kc_yX12_look : Cond.code yX12_look cX12_look 3 (some .int) ∈ GT := gt_9 113 rfl rfl
theorem ml_RL_52 : ML RL 52 yX12_look cX12_look 3 2 (some .int) := ⟨gt_9 110 rfl rfl, gt_9 111 rfl rfl, gt_9 112 rfl rfl, gt_1 13 rfl rfl, kc_yX12_look, by decide, by decide, by decide +kernel, by decide⟩
theorem kc_yX11_orders : Cond.code yX11_orders cX11_orders 1 (some .int) ∈ GT := gt_5 37 rfl rfl
theorem ml_RL_53 : ML RL 53 yX11_orders cX11_orders 1 0 (some .int) := ⟨gt_5 34 rfl rfl, gt_5 35 rfl rfl, gt_5 36 rfl rfl, gt_1 1 rfl rfl, kc_yX11_orders, by decide, by decide, by decide +kernel, by decide⟩
theorem kc_yX12_orders : Cond.code yX12_orders cX12_orders 1 (some .int) ∈ GT := gt_9 134 rfl rfl
theorem ml_RL_56 : ML RL 56 yX12_orders cX12_orders 1 0 (some .int) := ⟨gt_9 131 rfl rfl, gt_9 132 rfl rfl, gt_9 133 rfl rfl, gt_1 13 rfl rfl, kc_yX12_orders, by decide, by decide, by decide +kernel, by decide⟩
theorem kc_yX11_item : Cond.code yX11_item cX11_item 3 (some .int) ∈ GT := gt_5 41 rfl rfl
theorem ml_RL_57 : ML RL 57 yX11_item cX11_item 3 2 (some .int) := ⟨gt_5 38 rfl rfl, gt_5 39 rfl rfl, gt_5 40 rfl rfl, gt_1 1 rfl rfl, kc_yX11_item, by decide, by decide, by decide +kernel, by decide⟩
theorem kc_yX12_item : Cond.code yX12_item cX12_item 3 (some .int) ∈ GT := gt_9 138 rfl rfl
theorem ml_RL_60 : ML RL 60 yX12_item cX12_item 3 2 (some .int) := ⟨gt_9 135 rfl rfl, gt_9 136 rfl rfl, gt_9 137 rfl rfl, gt_1 13 rfl rfl, kc_yX12_item, by decide, by decide, by decide +kernel, by decide⟩
theorem kc_yX11_ahead : Cond.code yX11_ahead cX11_ahead 5 (some .int) ∈ GT := gt_5 49 rfl rfl
theorem ml_RL_61 : ML RL 61 yX11_ahead cX11_ahead 5 2 (some .int) := ⟨gt_5 46 rfl rfl, gt_5 47 rfl rfl, gt_5 48 rfl rfl, gt_1 1 rfl rfl, kc_yX11_ahead, by decide, by decide, by decide +kernel, by decide⟩
theorem kc_yX12_ahead : Cond.code yX12_ahead cX12_ahead 5 (some .int) ∈ GT := gt_9 150 rfl rfl
theorem ml_RL_64 : ML RL 64 yX12_ahead cX12_ahead 5 2 (some .int) := ⟨gt_9 147 rfl rfl, gt_9 148 rfl rfl, gt_9 149 rfl rfl, gt_1 13 rfl rfl, kc_yX12_ahead, by decide, by decide, by decide +kernel, by decide⟩
theorem kc_yX11_law : Cond.code yX11_law cX11_law 2 (some .int) ∈ GT := gt_5 62 rfl rfl
theorem ml_RL_65 : ML RL 65 yX11_law cX11_law 2 1 (some .int) := ⟨gt_5 59 rfl rfl, gt_5 60 rfl rfl, gt_5 61 rfl rfl, gt_1 1 rfl rfl, kc_yX11_law, by decide, by decide, by decide +kernel, by decide⟩
theorem kc_yX12_law : Cond.code yX12_law cX12_law 2 (some .int) ∈ GT := gt_9 158 rfl rfl
theorem ml_RL_68 : ML RL 68 yX12_law cX12_law 2 1 (some .int) := ⟨gt_9 155 rfl rfl, gt_9 156 rfl rfl, gt_9 157 rfl rfl, gt_1 13 rfl rfl, kc_yX12_law, by decide, by decide, by decide +kernel, by decide⟩
theorem kc_yX11_ring : Cond.code yX11_ring cX11_ring 2 (some .int) ∈ GT := gt_5 79 rfl rfl
theorem ml_RL_69 : ML RL 69 yX11_ring cX11_ring 2 1 (some .int) := ⟨gt_5 76 rfl rfl, gt_5 77 rfl rfl, gt_5 78 rfl rfl, gt_1 1 rfl rfl, kc_yX11_ring, by decide, by decide, by decide +kernel, by decide⟩
theorem kc_yX12_ring : Cond.code yX12_ring cX12_ring 2 (some .int) ∈ GT := gt_9 174 rfl rfl
theorem ml_RL_72 : ML RL 72 yX12_ring cX12_ring 2 1 (some .int) := ⟨gt_9 171 rfl rfl, gt_9 172 rfl rfl, gt_9 173 rfl rfl, gt_1 13 rfl rfl, kc_yX12_ring, by decide, by decide, by decide +kernel, by decide⟩
theorem kc_yX11_good : Cond.code yX11_good cX11_good 3 (some .int) ∈ GT := gt_5 83 rfl rfl
theorem ml_RL_73 : ML RL 73 yX11_good cX11_good 3 2 (some .int) := ⟨gt_5 80 rfl rfl, gt_5 81 rfl rfl, gt_5 82 rfl rfl, gt_1 1 rfl rfl, kc_yX11_good, by decide, by decide, by decide +kernel, by decide⟩
theorem kc_yX12_good : Cond.code yX12_good cX12_good 3 (some .int) ∈ GT := gt_9 178 rfl rfl
theorem ml_RL_76 : ML RL 76 yX12_good cX12_good 3 2 (some .int) := ⟨gt_9 175 rfl rfl, gt_9 176 rfl rfl, gt_9 177 rfl rfl, gt_1 13 rfl rfl, kc_yX12_good, by decide, by decide, by decide +kernel, by decide⟩
theorem kc_yX11_counts : Cond.code yX11_counts cX11_counts 3 (some .int) ∈ GT := gt_5 92 rfl rfl
theorem ml_RL_77 : ML RL 77 yX11_counts cX11_counts 3 2 (some .int) := ⟨gt_5 89 rfl rfl, gt_5 90 rfl rfl, gt_5 91 rfl rfl, gt_1 1 rfl rfl, kc_yX11_counts, by decide, by decide, by decide +kernel, by decide⟩
theorem kc_yX12_counts : Cond.code yX12_counts cX12_counts 3 (some .int) ∈ GT := gt_9 194 rfl rfl
theorem ml_RL_80 : ML RL 80 yX12_counts cX12_counts 3 2 (some .int) := ⟨gt_9 191 rfl rfl, gt_9 192 rfl rfl, gt_9 193 rfl rfl, gt_1 13 rfl rfl, kc_yX12_counts, by decide, by decide, by decide +kernel, by decide⟩
theorem kc_yX11_undone : Cond.code yX11_undone cX11_undone 4 (some .int) ∈ GT := gt_5 164 rfl rfl
theorem ml_RL_81 : ML RL 81 yX11_undone cX11_undone 4 3 (some .int) := ⟨gt_5 161 rfl rfl, gt_5 162 rfl rfl, gt_5 163 rfl rfl, gt_1 1 rfl rfl, kc_yX11_undone, by decide, by decide, by decide +kernel, by decide⟩
theorem kc_yX12_undone : Cond.code yX12_undone cX12_undone 4 (some .int) ∈ GT := gt_9 230 rfl rfl
theorem ml_RL_85 : ML RL 85 yX12_undone cX12_undone 4 3 (some .int) := ⟨gt_9 227 rfl rfl, gt_9 228 rfl rfl, gt_9 229 rfl rfl, gt_1 13 rfl rfl, kc_yX12_undone, by decide, by decide, by decide +kernel, by decide⟩
theorem kc_yX11_ways : Cond.code yX11_ways cX11_ways 1 (some .int) ∈ GT := gt_5 168 rfl rfl
theorem ml_RL_86 : ML RL 86 yX11_ways cX11_ways 1 0 (some .int) := ⟨gt_5 165 rfl rfl, gt_5 166 rfl rfl, gt_5 167 rfl rfl, gt_1 1 rfl rfl, kc_yX11_ways, by decide, by decide, by decide +kernel, by decide⟩
theorem kc_yX12_ways : Cond.code yX12_ways cX12_ways 1 (some .int) ∈ GT := gt_9 234 rfl rfl
theorem ml_RL_89 : ML RL 89 yX12_ways cX12_ways 1 0 (some .int) := ⟨gt_9 231 rfl rfl, gt_9 232 rfl rfl, gt_9 233 rfl rfl, gt_1 13 rfl rfl, kc_yX12_ways, by decide, by decide, by decide +kernel, by decide⟩
theorem kc_yX11_goes : Cond.code yX11_goes cX11_goes 3 (some .int) ∈ GT := gt_5 172 rfl rfl
theorem ml_RL_90 : ML RL 90 yX11_goes cX11_goes 3 2 (some .int) := ⟨gt_5 169 rfl rfl, gt_5 170 rfl rfl, gt_5 171 rfl rfl, gt_1 1 rfl rfl, kc_yX11_goes, by decide, by decide, by decide +kernel, by decide⟩
theorem kc_yX12_goes : Cond.code yX12_goes cX12_goes 3 (some .int) ∈ GT := gt_9 238 rfl rfl
theorem ml_RL_93 : ML RL 93 yX12_goes cX12_goes 3 2 (some .int) := ⟨gt_9 235 rfl rfl, gt_9 236 rfl rfl, gt_9 237 rfl rfl, gt_1 13 rfl rfl, kc_yX12_goes, by decide, by decide, by decide +kernel, by decide⟩
theorem kc_yX11_how : Cond.code yX11_how cX11_how 3 (some .int) ∈ GT := gt_5 226 rfl rfl
theorem ml_RL_94 : ML RL 94 yX11_how cX11_how 3 2 (some .int) := ⟨gt_5 223 rfl rfl, gt_5 224 rfl rfl, gt_5 225 rfl rfl, gt_1 1 rfl rfl, kc_yX11_how, by decide, by decide, by decide +kernel, by decide⟩
theorem kc_yX12_how : Cond.code yX12_how cX12_how 3 (some .int) ∈ GT := gt_10 54 rfl rfl
theorem ml_RL_97 : ML RL 97 yX12_how cX12_how 3 2 (some .int) := ⟨gt_10 51 rfl rfl, gt_10 52 rfl rfl, gt_10 53 rfl rfl, gt_1 13 rfl rfl, kc_yX12_how, by decide, by decide, by decide +kernel, by decide⟩
theorem kc_yX11_paid : Cond.code yX11_paid cX11_paid 3 (some .int) ∈ GT := gt_5 230 rfl rfl
theorem ml_RL_98 : ML RL 98 yX11_paid cX11_paid 3 2 (some .int) := ⟨gt_5 227 rfl rfl, gt_5 228 rfl rfl, gt_5 229 rfl rfl, gt_1 1 rfl rfl, kc_yX11_paid, by decide, by decide, by decide +kernel, by decide⟩
theorem kc_yX12_paid : Cond.code yX12_paid cX12_paid 3 (some .int) ∈ GT := gt_10 58 rfl rfl
theorem ml_RL_101 : ML RL 101 yX12_paid cX12_paid 3 2 (some .int) := ⟨gt_10 55 rfl rfl, gt_10 56 rfl rfl, gt_10 57 rfl rfl, gt_1 13 rfl rfl, kc_yX12_paid, by decide, by decide, by decide +kernel, by decide⟩
theorem kc_yX11_sum : Cond.code yX11_sum cX11_sum 3 (some .int) ∈ GT := gt_6 24 rfl rfl
theorem ml_RL_102 : ML RL 102 yX11_sum cX11_sum 3 2 (some .int) := ⟨gt_6 21 rfl rfl, gt_6 22 rfl rfl, gt_6 23 rfl rfl, gt_1 1 rfl rfl, kc_yX11_sum, by decide, by decide, by decide +kernel, by decide⟩
theorem kc_yX12_sum : Cond.code yX12_sum cX12_sum 3 (some .int) ∈ GT := gt_10 74 rfl rfl
theorem ml_RL_105 : ML RL 105 yX12_sum cX12_sum 3 2 (some .int) := ⟨gt_10 71 rfl rfl, gt_10 72 rfl rfl, gt_10 73 rfl rfl, gt_1 13 rfl rfl, kc_yX12_sum, by decide, by decide, by decide +kernel, by decide⟩
theorem kc_yX11_lack : Cond.code yX11_lack cX11_lack 2 (some .int) ∈ GT := gt_6 34 rfl rfl
theorem ml_RL_106 : ML RL 106 yX11_lack cX11_lack 2 1 (some .int) := ⟨gt_6 31 rfl rfl, gt_6 32 rfl rfl, gt_6 33 rfl rfl, gt_1 1 rfl rfl, kc_yX11_lack, by decide, by decide, by decide +kernel, by decide⟩
theorem kc_yX12_lack : Cond.code yX12_lack cX12_lack 5 (some .int) ∈ GT := gt_10 94 rfl rfl
theorem ml_RL_109 : ML RL 109 yX12_lack cX12_lack 5 1 (some .int) := ⟨gt_10 91 rfl rfl, gt_10 92 rfl rfl, gt_10 93 rfl rfl, gt_1 13 rfl rfl, kc_yX12_lack, by decide, by decide, by decide +kernel, by decide⟩
theorem kc_yX11_sure : Cond.code yX11_sure cX11_sure 3 (some .int) ∈ GT := gt_6 46 rfl rfl
theorem ml_RL_110 : ML RL 110 yX11_sure cX11_sure 3 2 (some .int) := ⟨gt_6 43 rfl rfl, gt_6 44 rfl rfl, gt_6 45 rfl rfl, gt_1 1 rfl rfl, kc_yX11_sure, by decide, by decide, by decide +kernel, by decide⟩
theorem kc_yX12_sure : Cond.code yX12_sure cX12_sure 6 (some .int) ∈ GT := gt_10 98 rfl rfl
theorem ml_RL_114 : ML RL 114 yX12_sure cX12_sure 6 2 (some .int) := ⟨gt_10 95 rfl rfl, gt_10 96 rfl rfl, gt_10 97 rfl rfl, gt_1 13 rfl rfl, kc_yX12_sure, by decide, by decide, by decide +kernel, by decide⟩
theorem kc_yX11_surely : Cond.code yX11_surely cX11_surely 7 (some .int) ∈ GT := gt_6 106 rfl rfl
theorem ml_RL_115 : ML RL 115 yX11_surely cX11_surely 7 1 (some .int) := ⟨gt_6 103 rfl rfl, gt_6 104 rfl rfl, gt_6 105 rfl rfl, gt_1 1 rfl rfl, kc_yX11_surely, by decide, by decide, by decide +kernel, by decide⟩
theorem kc_yX12_surely : Cond.code yX12_surely cX12_surely 4 (some .int) ∈ GT := gt_10 102 rfl rfl
theorem ml_RL_118 : ML RL 118 yX12_surely cX12_surely 4 1 (some .int) := ⟨gt_10 99 rfl rfl, gt_10 100 rfl rfl, gt_10 101 rfl rfl, gt_1 13 rfl rfl, kc_yX12_surely, by decide, by decide, by decide +kernel, by decide⟩
theorem kc_yX11_hangs : Cond.code yX11_hangs cX11_hangs 2 (some .int) ∈ GT := gt_6 111 rfl rfl
theorem ml_RL_119 : ML RL 119 yX11_hangs cX11_hangs 2 1 (some .int) := ⟨gt_6 108 rfl rfl, gt_6 109 rfl rfl, gt_6 110 rfl rfl, gt_1 1 rfl rfl, kc_yX11_hangs, by decide, by decide, by decide +kernel, by decide⟩
theorem kc_yX12_hangs : Cond.code yX12_hangs cX12_hangs 3 (some .int) ∈ GT := gt_10 106 rfl rfl
theorem ml_RL_122 : ML RL 122 yX12_hangs cX12_hangs 3 1 (some .int) := ⟨gt_10 103 rfl rfl, gt_10 104 rfl rfl, gt_10 105 rfl rfl, gt_1 13 rfl rfl, kc_yX12_hangs, by decide, by decide, by decide +kernel, by decide⟩
theorem kc_yX11_outcomes : Cond.code yX11_outcomes cX11_outcomes 1 (some .int) ∈ GT := gt_6 119 rfl rfl
theorem ml_RL_123 : ML RL 123 yX11_outcomes cX11_outcomes 1 0 (some .int) := ⟨gt_6 116 rfl rfl, gt_6 117 rfl rfl, gt_6 118 rfl rfl, gt_1 1 rfl rfl, kc_yX11_outcomes, by decide, by decide, by decide +kernel, by decide⟩
theorem kc_yX12_outcomes : Cond.code yX12_outcomes cX12_outcomes 1 (some .int) ∈ GT := gt_10 110 rfl rfl
theorem ml_RL_126 : ML RL 126 yX12_outcomes cX12_outcomes 1 0 (some .int) := ⟨gt_10 107 rfl rfl, gt_10 108 rfl rfl, gt_10 109 rfl rfl, gt_1 13 rfl rfl, kc_yX12_outcomes, by decide, by decide, by decide +kernel, by decide⟩
theorem kc_yX11_ask : Cond.code yX11_ask cX11_ask 1 (some .int) ∈ GT := gt_6 123 rfl rfl
theorem ml_RL_127 : ML RL 127 yX11_ask cX11_ask 1 0 (some .int) := ⟨gt_6 120 rfl rfl, gt_6 121 rfl rfl, gt_6 122 rfl rfl, gt_1 1 rfl rfl, kc_yX11_ask, by decide, by decide, by decide +kernel, by decide⟩
theorem kc_yX12_ask : Cond.code yX12_ask cX12_ask 6 (some .int) ∈ GT := gt_10 114 rfl rfl
theorem ml_RL_130 : ML RL 130 yX12_ask cX12_ask 6 0 (some .int) := ⟨gt_10 111 rfl rfl, gt_10 112 rfl rfl, gt_10 113 rfl rfl, gt_1 13 rfl rfl, kc_yX12_ask, by decide, by decide, by decide +kernel, by decide⟩
theorem kc_yX11_says : Cond.code yX11_says cX11_says 4 (some .int) ∈ GT := gt_6 145 rfl rfl
theorem ml_RL_131 : ML RL 131 yX11_says cX11_says 4 3 (some .int) := ⟨gt_6 142 rfl rfl, gt_6 143 rfl rfl, gt_6 144 rfl rfl, gt_1 1 rfl rfl, kc_yX11_says, by decide, by decide, by decide +kernel, by decide⟩
theorem kc_yX12_says : Cond.code yX12_says cX12_says 4 (some .int) ∈ GT := gt_10 126 rfl rfl
theorem ml_RL_134 : ML RL 134 yX12_says cX12_says 4 3 (some .int) := ⟨gt_10 123 rfl rfl, gt_10 124 rfl rfl, gt_10 125 rfl rfl, gt_1 13 rfl rfl, kc_yX12_says, by decide, by decide, by decide +kernel, by decide⟩
theorem kc_yX11_tells : Cond.code yX11_tells cX11_tells 4 (some .int) ∈ GT := gt_6 153 rfl rfl
theorem ml_RL_135 : ML RL 135 yX11_tells cX11_tells 4 3 (some .int) := ⟨gt_6 150 rfl rfl, gt_6 151 rfl rfl, gt_6 152 rfl rfl, gt_1 1 rfl rfl, kc_yX11_tells, by decide, by decide, by decide +kernel, by decide⟩
theorem kc_yX12_tells : Cond.code yX12_tells cX12_tells 4 (some .int) ∈ GT := gt_10 130 rfl rfl
theorem ml_RL_138 : ML RL 138 yX12_tells cX12_tells 4 3 (some .int) := ⟨gt_10 127 rfl rfl, gt_10 128 rfl rfl, gt_10 129 rfl rfl, gt_1 13 rfl rfl, kc_yX12_tells, by decide, by decide, by decide +kernel, by decide⟩
theorem kc_yX11_stories : Cond.code yX11_stories cX11_stories 2 (some .int) ∈ GT := gt_6 165 rfl rfl
theorem ml_RL_139 : ML RL 139 yX11_stories cX11_stories 2 1 (some .int) := ⟨gt_6 162 rfl rfl, gt_6 163 rfl rfl, gt_6 164 rfl rfl, gt_1 1 rfl rfl, kc_yX11_stories, by decide, by decide, by decide +kernel, by decide⟩
theorem kc_yX12_stories : Cond.code yX12_stories cX12_stories 8 (some .int) ∈ GT := gt_10 138 rfl rfl
theorem ml_RL_142 : ML RL 142 yX12_stories cX12_stories 8 1 (some .int) := ⟨gt_10 135 rfl rfl, gt_10 136 rfl rfl, gt_10 137 rfl rfl, gt_1 13 rfl rfl, kc_yX12_stories, by decide, by decide, by decide +kernel, by decide⟩
theorem kc_yX11_gain : Cond.code yX11_gain cX11_gain 2 (some .int) ∈ GT := gt_6 188 rfl rfl
theorem ml_RL_143 : ML RL 143 yX11_gain cX11_gain 2 1 (some .int) := ⟨gt_6 185 rfl rfl, gt_6 186 rfl rfl, gt_6 187 rfl rfl, gt_1 1 rfl rfl, kc_yX11_gain, by decide, by decide, by decide +kernel, by decide⟩
theorem kc_yX12_gain : Cond.code yX12_gain cX12_gain 6 (some .int) ∈ GT := gt_10 157 rfl rfl
theorem ml_RL_146 : ML RL 146 yX12_gain cX12_gain 6 1 (some .int) := ⟨gt_10 154 rfl rfl, gt_10 155 rfl rfl, gt_10 156 rfl rfl, gt_1 13 rfl rfl, kc_yX12_gain, by decide, by decide, by decide +kernel, by decide⟩
theorem kc_yX11_settle : Cond.code yX11_settle cX11_settle 4 (some .int) ∈ GT := gt_6 202 rfl rfl
theorem ml_RL_147 : ML RL 147 yX11_settle cX11_settle 4 0 (some .int) := ⟨gt_6 199 rfl rfl, gt_6 200 rfl rfl, gt_6 201 rfl rfl, gt_1 1 rfl rfl, kc_yX11_settle, by decide, by decide, by decide +kernel, by decide⟩
theorem kc_yX12_settle : Cond.code yX12_settle cX12_settle 7 (some .int) ∈ GT := gt_10 175 rfl rfl
theorem ml_RL_150 : ML RL 150 yX12_settle cX12_settle 7 0 (some .int) := ⟨gt_10 172 rfl rfl, gt_10 173 rfl rfl, gt_10 174 rfl rfl, gt_1 13 rfl rfl, kc_yX12_settle, by decide, by decide, by decide +kernel, by decide⟩
theorem kc_yX11_floor : Cond.code yX11_floor cX11_floor 2 (some .int) ∈ GT := gt_6 218 rfl rfl
theorem ml_RL_151 : ML RL 151 yX11_floor cX11_floor 2 1 (some .int) := ⟨gt_6 215 rfl rfl, gt_6 216 rfl rfl, gt_6 217 rfl rfl, gt_1 1 rfl rfl, kc_yX11_floor, by decide, by decide, by decide +kernel, by decide⟩
theorem kc_yX12_floor : Cond.code yX12_floor cX12_floor 2 (some .int) ∈ GT := gt_10 162 rfl rfl
theorem ml_RL_154 : ML RL 154 yX12_floor cX12_floor 2 1 (some .int) := ⟨gt_10 159 rfl rfl, gt_10 160 rfl rfl, gt_10 161 rfl rfl, gt_1 13 rfl rfl, kc_yX12_floor, by decide, by decide, by decide +kernel, by decide⟩
theorem kc_yX11_mend : Cond.code yX11_mend cX11_mend 4 (some .int) ∈ GT := gt_6 222 rfl rfl
theorem ml_RL_155 : ML RL 155 yX11_mend cX11_mend 4 3 (some .int) := ⟨gt_6 219 rfl rfl, gt_6 220 rfl rfl, gt_6 221 rfl rfl, gt_1 1 rfl rfl, kc_yX11_mend, by decide, by decide, by decide +kernel, by decide⟩
theorem kc_yX12_mend : Cond.code yX12_mend cX12_mend 6 (some .int) ∈ GT := gt_10 179 rfl rfl
theorem ml_RL_158 : ML RL 158 yX12_mend cX12_mend 6 3 (some .int) := ⟨gt_10 176 rfl rfl, gt_10 177 rfl rfl, gt_10 178 rfl rfl, gt_1 13 rfl rfl, kc_yX12_mend, by decide, by decide, by decide +kernel, by decide⟩
theorem kc_yX11_count : Cond.code yX11_count cX11_count 2 (some .int) ∈ GT := gt_7 20 rfl rfl
theorem ml_RL_159 : ML RL 159 yX11_count cX11_count 2 1 (some .int) := ⟨gt_7 17 rfl rfl, gt_7 18 rfl rfl, gt_7 19 rfl rfl, gt_1 1 rfl rfl, kc_yX11_count, by decide, by decide, by decide +kernel, by decide⟩
theorem kc_yX12_count : Cond.code yX12_count cX12_count 2 (some .int) ∈ GT := gt_10 191 rfl rfl
theorem ml_RL_162 : ML RL 162 yX12_count cX12_count 2 1 (some .int) := ⟨gt_10 188 rfl rfl, gt_10 189 rfl rfl, gt_10 190 rfl rfl, gt_1 13 rfl rfl, kc_yX12_count, by decide, by decide, by decide +kernel, by decide⟩
theorem kc_yX4_init : Cond.code yX4_init cX4_init 2 none ∈ GT := gt_1 87 rfl rfl
theorem kc_yX0_clear : Cond.code yX0_clear cX0_clear 1 none ∈ GT := gt_3 123 rfl rfl
theorem ml_RX0_79 : ML RX0 79 yX0_clear cX0_clear 1 0 none := ⟨gt_3 120 rfl rfl, gt_3 122 rfl rfl, gt_s (q := (yX0_clear, _)) 0 rfl rfl, gt_1 4 rfl rfl, kc_yX0_clear, by decide, by decide, by decide +kernel, by decide⟩
theorem kc_yX10_open : Cond.code yX10_open cX10_open 1 none ∈ GT := gt_3 127 rfl rfl
theorem ml_RX0_82 : ML RX0 82 yX10_open cX10_open 1 0 none := ⟨gt_3 124 rfl rfl, gt_3 125 rfl rfl, gt_3 126 rfl rfl, gt_1 2 rfl rfl, kc_yX10_open, by decide, by decide, by decide +kernel, by decide⟩
theorem kc_yX10_goesOn : Cond.code yX10_goesOn cX10_goesOn 1 (some .boolean) ∈ GT := gt_3 135 rfl rfl
theorem ml_RX0_87 : ML RX0 87 yX10_goesOn cX10_goesOn 1 0 (some .boolean) := ⟨gt_3 132 rfl rfl, gt_3 133 rfl rfl, gt_3 134 rfl rfl, gt_1 2 rfl rfl, kc_yX10_goesOn, by decide, by decide, by decide +kernel, by decide⟩
theorem kc_yX0_readClause : Cond.code yX0_readClause cX0_readClause 2 none ∈ GT := gt_3 139 rfl rfl
theorem ml_RX0_91 : ML RX0 91 yX0_readClause cX0_readClause 2 1 none := ⟨gt_3 136 rfl rfl, gt_3 138 rfl rfl, gt_s (q := (yX0_readClause, _)) 1 rfl rfl, gt_1 4 rfl rfl, kc_yX0_readClause, by decide, by decide, by decide +kernel, by decide⟩
theorem kc_yX10_needMark : Cond.code yX10_needMark cX10_needMark 1 none ∈ GT := gt_4 71 rfl rfl
theorem ml_RX0_95 : ML RX0 95 yX10_needMark cX10_needMark 1 0 none := ⟨gt_4 68 rfl rfl, gt_4 69 rfl rfl, gt_4 70 rfl rfl, gt_1 2 rfl rfl, kc_yX10_needMark, by decide, by decide, by decide +kernel, by decide⟩
theorem kc_yX10_hasFailed : Cond.code yX10_hasFailed cX10_hasFailed 1 (some .boolean) ∈ GT := gt_3 221 rfl rfl
theorem ml_RX0_98 : ML RX0 98 yX10_hasFailed cX10_hasFailed 1 0 (some .boolean) := ⟨gt_4 72 rfl rfl, gt_3 219 rfl rfl, gt_3 220 rfl rfl, gt_1 2 rfl rfl, kc_yX10_hasFailed, by decide, by decide, by decide +kernel, by decide⟩
theorem kc_yX0_fillUntoldLands : Cond.code yX0_fillUntoldLands cX0_fillUntoldLands 1 none ∈ GT := gt_4 76 rfl rfl
theorem ml_RX0_101 : ML RX0 101 yX0_fillUntoldLands cX0_fillUntoldLands 1 0 none := ⟨gt_4 73 rfl rfl, gt_4 75 rfl rfl, gt_s (q := (yX0_fillUntoldLands, _)) 10 rfl rfl, gt_1 4 rfl rfl, kc_yX0_fillUntoldLands, by decide, by decide, by decide +kernel, by decide⟩
theorem kc_yX0_findStems : Cond.code yX0_findStems cX0_findStems 3 none ∈ GT := gt_4 80 rfl rfl
theorem ml_RX0_104 : ML RX0 104 yX0_findStems cX0_findStems 3 0 none := ⟨gt_4 77 rfl rfl, gt_4 79 rfl rfl, gt_s (q := (yX0_findStems, _)) 11 rfl rfl, gt_1 4 rfl rfl, kc_yX0_findStems, by decide, by decide, by decide +kernel, by decide⟩
theorem kc_yX10_is : Cond.code yX10_is cX10_is 3 (some .boolean) ∈ GT := gt_3 144 rfl rfl
theorem ml_RX0_109 : ML RX0 109 yX10_is cX10_is 3 1 (some .boolean) := ⟨gt_3 141 rfl rfl, gt_3 142 rfl rfl, gt_3 143 rfl rfl, gt_1 2 rfl rfl, kc_yX10_is, by decide, by decide, by decide +kernel, by decide⟩
theorem kc_yX0_readLand : Cond.code yX0_readLand cX0_readLand 6 none ∈ GT := gt_3 196 rfl rfl
theorem ml_RX0_113 : ML RX0 113 yX0_readLand cX0_readLand 6 1 none := ⟨gt_3 193 rfl rfl, gt_3 195 rfl rfl, gt_s (q := (yX0_readLand, _)) 2 rfl rfl, gt_1 4 rfl rfl, kc_yX0_readLand, by decide, by decide, by decide +kernel, by decide⟩
theorem kc_yX0_readSeat : Cond.code yX0_readSeat cX0_readSeat 3 (some .int) ∈ GT := gt_4 29 rfl rfl
theorem ml_RX0_117 : ML RX0 117 yX0_readSeat cX0_readSeat 3 2 (some .int) := ⟨gt_4 26 rfl rfl, gt_4 28 rfl rfl, gt_s (q := (yX0_readSeat, _)) 4 rfl rfl, gt_1 4 rfl rfl, kc_yX0_readSeat, by decide, by decide, by decide +kernel, by decide⟩
theorem kc_yX0_readPerson : Cond.code yX0_readPerson cX0_readPerson 5 none ∈ GT := gt_4 42 rfl rfl
theorem ml_RX0_125 : ML RX0 125 yX0_readPerson cX0_readPerson 5 1 none := ⟨gt_4 39 rfl rfl, gt_4 41 rfl rfl, gt_s (q := (yX0_readPerson, _)) 6 rfl rfl, gt_1 4 rfl rfl, kc_yX0_readPerson, by decide, by decide, by decide +kernel, by decide⟩
theorem kc_yX0_readThing : Cond.code yX0_readThing cX0_readThing 3 none ∈ GT := gt_4 59 rfl rfl
theorem ml_RX0_130 : ML RX0 130 yX0_readThing cX0_readThing 3 1 none := ⟨gt_4 56 rfl rfl, gt_4 58 rfl rfl, gt_s (q := (yX0_readThing, _)) 8 rfl rfl, gt_1 4 rfl rfl, kc_yX0_readThing, by decide, by decide, by decide +kernel, by decide⟩
theorem kc_yX0_readAmount : Cond.code yX0_readAmount cX0_readAmount 3 (some .int) ∈ GT := gt_4 65 rfl rfl
theorem ml_RX0_134 : ML RX0 134 yX0_readAmount cX0_readAmount 3 2 (some .int) := ⟨gt_4 62 rfl rfl, gt_4 64 rfl rfl, gt_s (q := (yX0_readAmount, _)) 9 rfl rfl, gt_1 4 rfl rfl, kc_yX0_readAmount, by decide, by decide, by decide +kernel, by decide⟩
theorem kc_yX10_fail : Cond.code yX10_fail cX10_fail 2 none ∈ GT := gt_3 207 rfl rfl
theorem ml_RX0_138 : ML RX0 138 yX10_fail cX10_fail 2 1 none := ⟨gt_3 204 rfl rfl, gt_3 205 rfl rfl, gt_3 206 rfl rfl, gt_1 2 rfl rfl, kc_yX10_fail, by decide, by decide, by decide +kernel, by decide⟩
theorem kc_yX10_step : Cond.code yX10_step cX10_step 1 none ∈ GT := gt_3 131 rfl rfl
theorem ml_RX0_141 : ML RX0 141 yX10_step cX10_step 1 0 none := ⟨gt_3 208 rfl rfl, gt_3 129 rfl rfl, gt_3 130 rfl rfl, gt_1 2 rfl rfl, kc_yX10_step, by decide, by decide, by decide +kernel, by decide⟩
theorem kc_yX0_passOnce : Cond.code yX0_passOnce cX0_passOnce 3 none ∈ GT := gt_4 33 rfl rfl
theorem ml_RX0_144 : ML RX0 144 yX0_passOnce cX0_passOnce 3 2 none := ⟨gt_4 30 rfl rfl, gt_4 32 rfl rfl, gt_s (q := (yX0_passOnce, _)) 5 rfl rfl, gt_1 4 rfl rfl, kc_yX0_passOnce, by decide, by decide, by decide +kernel, by decide⟩
theorem kc_yX10_known : Cond.code yX10_known cX10_known 4 (some .int) ∈ GT := gt_4 37 rfl rfl
theorem ml_RX0_148 : ML RX0 148 yX10_known cX10_known 4 2 (some .int) := ⟨gt_4 34 rfl rfl, gt_4 35 rfl rfl, gt_4 36 rfl rfl, gt_1 2 rfl rfl, kc_yX10_known, by decide, by decide, by decide +kernel, by decide⟩
theorem kc_yX10_number : Cond.code yX10_number cX10_number 4 (some .int) ∈ GT := gt_4 12 rfl rfl
theorem ml_RX0_153 : ML RX0 153 yX10_number cX10_number 4 2 (some .int) := ⟨gt_4 9 rfl rfl, gt_4 10 rfl rfl, gt_4 11 rfl rfl, gt_1 2 rfl rfl, kc_yX10_number, by decide, by decide, by decide +kernel, by decide⟩
theorem kc_yX4_isFull : Cond.code yX4_isFull cX4_isFull 1 (some .boolean) ∈ GT := gt_3 203 rfl rfl
theorem ml_RX0_157 : ML RX0 157 yX4_isFull cX4_isFull 1 0 (some .boolean) := ⟨gt_3 200 rfl rfl, gt_3 201 rfl rfl, gt_3 202 rfl rfl, gt_1 5 rfl rfl, kc_yX4_isFull, by decide, by decide, by decide +kernel, by decide⟩
theorem kc_yX0_passUnlessFull : Cond.code yX0_passUnlessFull cX0_passUnlessFull 2 none ∈ GT := gt_3 199 rfl rfl
theorem ms_RX0_160 : MS RX0 160 yX0_passUnlessFull cX0_passUnlessFull 2 2 none := ⟨gt_3 197 rfl rfl, gt_3 198 rfl rfl, gt_1 4 rfl rfl, kc_yX0_passUnlessFull, by decide, by decide, by decide +kernel, by decide⟩
theorem kc_yX10_hasNewName : Cond.code yX10_hasNewName cX10_hasNewName 2 (some .boolean) ∈ GT := gt_3 212 rfl rfl
theorem ml_RX0_164 : ML RX0 164 yX10_hasNewName cX10_hasNewName 2 1 (some .boolean) := ⟨gt_3 209 rfl rfl, gt_3 210 rfl rfl, gt_3 211 rfl rfl, gt_1 2 rfl rfl, kc_yX10_hasNewName, by decide, by decide, by decide +kernel, by decide⟩
theorem kc_yX4_add : Cond.code yX4_add cX4_add 3 none ∈ GT := gt_3 225 rfl rfl
theorem ml_RX0_172 : ML RX0 172 yX4_add cX4_add 3 1 none := ⟨gt_3 222 rfl rfl, gt_3 223 rfl rfl, gt_3 224 rfl rfl, gt_1 5 rfl rfl, kc_yX4_add, by decide, by decide, by decide +kernel, by decide⟩
theorem kc_yX0_setUntoldRules : Cond.code yX0_setUntoldRules cX0_setUntoldRules 4 none ∈ GT := gt_3 229 rfl rfl
theorem ml_RX0_176 : ML RX0 176 yX0_setUntoldRules cX0_setUntoldRules 4 1 none := ⟨gt_3 226 rfl rfl, gt_3 228 rfl rfl, gt_s (q := (yX0_setUntoldRules, _)) 3 rfl rfl, gt_1 4 rfl rfl, kc_yX0_setUntoldRules, by decide, by decide, by decide +kernel, by decide⟩
theorem kc_yX0_ruleNamed : Cond.code yX0_ruleNamed cX0_ruleNamed 1 (some .int) ∈ GT := gt_3 232 rfl rfl
theorem ms_RX0_182 : MS RX0 182 yX0_ruleNamed cX0_ruleNamed 1 1 (some .int) := ⟨gt_3 230 rfl rfl, gt_3 231 rfl rfl, gt_1 4 rfl rfl, kc_yX0_ruleNamed, by decide, by decide, by decide +kernel, by decide⟩
theorem kc_yX0_readRule : Cond.code yX0_readRule cX0_readRule 2 (some .int) ∈ GT := gt_4 8 rfl rfl
theorem ms_RX0_186 : MS RX0 186 yX0_readRule cX0_readRule 2 2 (some .int) := ⟨gt_4 6 rfl rfl, gt_4 7 rfl rfl, gt_1 4 rfl rfl, kc_yX0_readRule, by decide, by decide, by decide +kernel, by decide⟩
theorem kc_yX10_chosen : Cond.code yX10_chosen cX10_chosen 6 (some .int) ∈ GT := gt_4 19 rfl rfl
theorem ml_RX0_220 : ML RX0 220 yX10_chosen cX10_chosen 6 4 (some .int) := ⟨gt_4 16 rfl rfl, gt_4 17 rfl rfl, gt_4 18 rfl rfl, gt_1 2 rfl rfl, kc_yX10_chosen, by decide, by decide, by decide +kernel, by decide⟩
theorem kc_yX0_readRole : Cond.code yX0_readRole cX0_readRole 4 (some .int) ∈ GT := gt_4 46 rfl rfl
theorem ml_RX0_228 : ML RX0 228 yX0_readRole cX0_readRole 4 2 (some .int) := ⟨gt_4 43 rfl rfl, gt_4 45 rfl rfl, gt_s (q := (yX0_readRole, _)) 7 rfl rfl, gt_1 4 rfl rfl, kc_yX0_readRole, by decide, by decide, by decide +kernel, by decide⟩
theorem kc_yX10_passes : Cond.code yX10_passes cX10_passes 2 (some .boolean) ∈ GT := gt_4 54 rfl rfl
theorem ml_RX0_232 : ML RX0 232 yX10_passes cX10_passes 2 1 (some .boolean) := ⟨gt_4 51 rfl rfl, gt_4 52 rfl rfl, gt_4 53 rfl rfl, gt_1 2 rfl rfl, kc_yX10_passes, by decide, by decide, by decide +kernel, by decide⟩
theorem kc_yX0_isDead : Cond.code yX0_isDead cX0_isDead 2 (some .boolean) ∈ GT := gt_4 84 rfl rfl
theorem ml_RX0_243 : ML RX0 243 yX0_isDead cX0_isDead 2 1 (some .boolean) := ⟨gt_4 81 rfl rfl, gt_4 82 rfl rfl, gt_4 83 rfl rfl, gt_1 4 rfl rfl, kc_yX0_isDead, by decide, by decide, by decide +kernel, by decide⟩
theorem kc_yJ9_max_7cf53 : Cond.code yJ9_max_7cf53 cJ9_max_7cf53 2 (some .int) ∈ GT := gt_4 115 rfl rfl
theorem ms_RX0_247 : MS RX0 247 yJ9_max_7cf53 cJ9_max_7cf53 2 2 (some .int) := ⟨gt_6 15 rfl rfl, gt_4 114 rfl rfl, gt_1 14 rfl rfl, kc_yJ9_max_7cf53, by decide, by decide, by decide +kernel, by decide⟩
theorem kc_yX0_landNamedBy : Cond.code yX0_landNamedBy cX0_landNamedBy 3 (some .int) ∈ GT := gt_5 74 rfl rfl
theorem ml_RX0_252 : ML RX0 252 yX0_landNamedBy cX0_landNamedBy 3 2 (some .int) := ⟨gt_5 71 rfl rfl, gt_5 73 rfl rfl, gt_s (q := (yX0_landNamedBy, _)) 33 rfl rfl, gt_1 4 rfl rfl, kc_yX0_landNamedBy, by decide, by decide, by decide +kernel, by decide⟩
theorem kc_yX0_ruleOf : Cond.code yX0_ruleOf cX0_ruleOf 3 (some .int) ∈ GT := gt_5 28 rfl rfl
theorem ml_RX0_255 : ML RX0 255 yX0_ruleOf cX0_ruleOf 3 2 (some .int) := ⟨gt_5 75 rfl rfl, gt_5 26 rfl rfl, gt_5 27 rfl rfl, gt_1 4 rfl rfl, kc_yX0_ruleOf, by decide, by decide, by decide +kernel, by decide⟩
theorem ml_RX10_28 : ML RX10 28 yX10_step cX10_step 1 0 none := ⟨gt_3 128 rfl rfl, gt_3 129 rfl rfl, gt_3 130 rfl rfl, gt_1 2 rfl rfl, kc_yX10_step, by decide, by decide, by decide +kernel, by decide⟩
theorem kc_yJ0_length_8abf5 : Cond.code yJ0_length_8abf5 cJ0_length_8abf5 1 (some .int) ∈ GT := gt_3 148 rfl rfl
theorem ml_RX10_44 : ML RX10 44 yJ0_length_8abf5 cJ0_length_8abf5 1 0 (some .int) := ⟨gt_3 145 rfl rfl, gt_3 146 rfl rfl, gt_3 147 rfl rfl, gt_1 15 rfl rfl, kc_yJ0_length_8abf5, by decide, by decide, by decide +kernel, by decide⟩
theorem kc_yJ0_charAt_5068e : Cond.code yJ0_charAt_5068e cJ0_charAt_5068e 2 (some .char) ∈ GT := gt_3 158 rfl rfl
theorem ml_RX10_49 : ML RX10 49 yJ0_charAt_5068e cJ0_charAt_5068e 2 1 (some .char) := ⟨gt_3 155 rfl rfl, gt_3 156 rfl rfl, gt_3 157 rfl rfl, gt_1 15 rfl rfl, kc_yJ0_charAt_5068e, by decide, by decide, by decide +kernel, by decide⟩
theorem ml_RX10_53 : ML RX10 53 yX10_is cX10_is 3 1 (some .boolean) := ⟨gt_4 20 rfl rfl, gt_3 142 rfl rfl, gt_3 143 rfl rfl, gt_1 2 rfl rfl, kc_yX10_is, by decide, by decide, by decide +kernel, by decide⟩
theorem ml_RX10_57 : ML RX10 57 yX10_fail cX10_fail 2 1 none := ⟨gt_3 213 rfl rfl, gt_3 205 rfl rfl, gt_3 206 rfl rfl, gt_1 2 rfl rfl, kc_yX10_fail, by decide, by decide, by decide +kernel, by decide⟩
theorem ml_RX10_61 : ML RX10 61 yX10_number cX10_number 4 2 (some .int) := ⟨gt_4 224 rfl rfl, gt_4 10 rfl rfl, gt_4 11 rfl rfl, gt_1 2 rfl rfl, kc_yX10_number, by decide, by decide, by decide +kernel, by decide⟩
theorem ml_RX10_65 : ML RX10 65 yX10_hasFailed cX10_hasFailed 1 0 (some .boolean) := ⟨gt_3 218 rfl rfl, gt_3 219 rfl rfl, gt_3 220 rfl rfl, gt_1 2 rfl rfl, kc_yX10_hasFailed, by decide, by decide, by decide +kernel, by decide⟩
theorem kc_yX4_find : Cond.code yX4_find cX4_find 4 (some .int) ∈ GT := gt_3 217 rfl rfl
theorem ml_RX10_69 : ML RX10 69 yX4_find cX4_find 4 1 (some .int) := ⟨gt_3 214 rfl rfl, gt_3 215 rfl rfl, gt_3 216 rfl rfl, gt_1 5 rfl rfl, kc_yX4_find, by decide, by decide, by decide +kernel, by decide⟩
theorem kc_yX2_init : Cond.code yX2_init cX2_init 2 none ∈ GT := gt_1 75 rfl rfl
theorem kc_yX7_init : Cond.code yX7_init cX7_init 3 none ∈ GT := gt_2 106 rfl rfl
theorem kc_yX5_init : Cond.code yX5_init cX5_init 3 none ∈ GT := gt_2 202 rfl rfl
theorem kc_yX9_init : Cond.code yX9_init cX9_init 3 none ∈ GT := gt_3 0 rfl rfl
theorem kc_yX3_init : Cond.code yX3_init cX3_init 3 none ∈ GT := gt_3 44 rfl rfl
theorem kc_yX10_hasRoomForFeed : Cond.code yX10_hasRoomForFeed cX10_hasRoomForFeed 1 (some .boolean) ∈ GT := gt_3 103 rfl rfl
theorem ml_RX11_68 : ML RX11 68 yX10_hasRoomForFeed cX10_hasRoomForFeed 1 0 (some .boolean) := ⟨gt_3 100 rfl rfl, gt_3 101 rfl rfl, gt_3 102 rfl rfl, gt_1 2 rfl rfl, kc_yX10_hasRoomForFeed, by decide, by decide, by decide +kernel, by decide⟩
theorem kc_yX10_putFour : Cond.code yX10_putFour cX10_putFour 3 none ∈ GT := gt_3 107 rfl rfl
theorem ml_RX11_72 : ML RX11 72 yX10_putFour cX10_putFour 3 1 none := ⟨gt_3 104 rfl rfl, gt_3 105 rfl rfl, gt_3 106 rfl rfl, gt_1 2 rfl rfl, kc_yX10_putFour, by decide, by decide, by decide +kernel, by decide⟩
theorem kc_yX0_readText : Cond.code yX0_readText cX0_readText 3 (some .boolean) ∈ GT := gt_3 119 rfl rfl
theorem ml_RX11_83 : ML RX11 83 yX0_readText cX0_readText 3 1 (some .boolean) := ⟨gt_3 116 rfl rfl, gt_3 117 rfl rfl, gt_3 118 rfl rfl, gt_1 4 rfl rfl, kc_yX0_readText, by decide, by decide, by decide +kernel, by decide⟩
theorem kc_yX11_keepFault : Cond.code yX11_keepFault cX11_keepFault 1 none ∈ GT := gt_4 88 rfl rfl
theorem ml_RX11_89 : ML RX11 89 yX11_keepFault cX11_keepFault 1 0 none := ⟨gt_4 85 rfl rfl, gt_4 87 rfl rfl, gt_s (q := (yX11_keepFault, _)) 12 rfl rfl, gt_1 1 rfl rfl, kc_yX11_keepFault, by decide, by decide, by decide +kernel, by decide⟩
theorem kc_yX2_takeDraft : Cond.code yX2_takeDraft cX2_takeDraft 2 none ∈ GT := gt_4 96 rfl rfl
theorem ml_RX11_92 : ML RX11 92 yX2_takeDraft cX2_takeDraft 2 0 none := ⟨gt_4 93 rfl rfl, gt_4 94 rfl rfl, gt_4 95 rfl rfl, gt_1 3 rfl rfl, kc_yX2_takeDraft, by decide, by decide, by decide +kernel, by decide⟩
theorem kc_yX2_itemsTold : Cond.code yX2_itemsTold cX2_itemsTold 1 (some .int) ∈ GT := gt_4 104 rfl rfl
theorem ml_RX11_107 : ML RX11 107 yX2_itemsTold cX2_itemsTold 1 0 (some .int) := ⟨gt_4 136 rfl rfl, gt_4 102 rfl rfl, gt_4 103 rfl rfl, gt_1 3 rfl rfl, kc_yX2_itemsTold, by decide, by decide, by decide +kernel, by decide⟩
theorem kc_yX10_empty : Cond.code yX10_empty cX10_empty 1 none ∈ GT := gt_4 92 rfl rfl
theorem ml_RX11_111 : ML RX11 111 yX10_empty cX10_empty 1 0 none := ⟨gt_4 89 rfl rfl, gt_4 90 rfl rfl, gt_4 91 rfl rfl, gt_1 2 rfl rfl, kc_yX10_empty, by decide, by decide, by decide +kernel, by decide⟩
theorem kc_yX6_readText : Cond.code yX6_readText cX6_readText 5 (some .boolean) ∈ GT := gt_4 140 rfl rfl
theorem ml_RX11_118 : ML RX11 118 yX6_readText cX6_readText 5 3 (some .boolean) := ⟨gt_4 137 rfl rfl, gt_4 138 rfl rfl, gt_4 139 rfl rfl, gt_1 6 rfl rfl, kc_yX6_readText, by decide, by decide, by decide +kernel, by decide⟩
theorem kc_yX2_takePaper : Cond.code yX2_takePaper cX2_takePaper 1 none ∈ GT := gt_4 232 rfl rfl
theorem ml_RX11_123 : ML RX11 123 yX2_takePaper cX2_takePaper 1 0 none := ⟨gt_4 229 rfl rfl, gt_4 230 rfl rfl, gt_4 231 rfl rfl, gt_1 3 rfl rfl, kc_yX2_takePaper, by decide, by decide, by decide +kernel, by decide⟩
theorem kc_yX11_isPaper : Cond.code yX11_isPaper cX11_isPaper 2 (some .boolean) ∈ GT := gt_5 4 rfl rfl
theorem ml_RX11_128 : ML RX11 128 yX11_isPaper cX11_isPaper 2 1 (some .boolean) := ⟨gt_5 1 rfl rfl, gt_5 3 rfl rfl, gt_s (q := (yX11_isPaper, _)) 29 rfl rfl, gt_1 1 rfl rfl, kc_yX11_isPaper, by decide, by decide, by decide +kernel, by decide⟩
theorem kc_yX2_addEvent : Cond.code yX2_addEvent cX2_addEvent 7 none ∈ GT := gt_5 8 rfl rfl
theorem ml_RX11_135 : ML RX11 135 yX2_addEvent cX2_addEvent 7 5 none := ⟨gt_5 5 rfl rfl, gt_5 6 rfl rfl, gt_5 7 rfl rfl, gt_1 3 rfl rfl, kc_yX2_addEvent, by decide, by decide, by decide +kernel, by decide⟩
theorem kc_yX11_toldOfOne : Cond.code yX11_toldOfOne cX11_toldOfOne 2 (some .int) ∈ GT := gt_5 15 rfl rfl
theorem ms_RX11_172 : MS RX11 172 yX11_toldOfOne cX11_toldOfOne 2 2 (some .int) := ⟨gt_5 13 rfl rfl, gt_5 14 rfl rfl, gt_1 1 rfl rfl, kc_yX11_toldOfOne, by decide, by decide, by decide +kernel, by decide⟩
theorem kc_yX11_isLand : Cond.code yX11_isLand cX11_isLand 2 (some .boolean) ∈ GT := gt_5 24 rfl rfl
theorem ml_RX11_176 : ML RX11 176 yX11_isLand cX11_isLand 2 1 (some .boolean) := ⟨gt_5 21 rfl rfl, gt_5 23 rfl rfl, gt_s (q := (yX11_isLand, _)) 30 rfl rfl, gt_1 1 rfl rfl, kc_yX11_isLand, by decide, by decide, by decide +kernel, by decide⟩
theorem ml_RX11_179 : ML RX11 179 yX0_ruleOf cX0_ruleOf 3 2 (some .int) := ⟨gt_5 25 rfl rfl, gt_5 26 rfl rfl, gt_5 27 rfl rfl, gt_1 4 rfl rfl, kc_yX0_ruleOf, by decide, by decide, by decide +kernel, by decide⟩
theorem kc_yX6_isMarked : Cond.code yX6_isMarked cX6_isMarked 2 (some .boolean) ∈ GT := gt_4 164 rfl rfl
theorem ml_RX11_189 : ML RX11 189 yX6_isMarked cX6_isMarked 2 1 (some .boolean) := ⟨gt_5 33 rfl rfl, gt_4 162 rfl rfl, gt_4 163 rfl rfl, gt_1 6 rfl rfl, kc_yX6_isMarked, by decide, by decide, by decide +kernel, by decide⟩
theorem kc_yX2_itemAt : Cond.code yX2_itemAt cX2_itemAt 3 (some .int) ∈ GT := gt_5 45 rfl rfl
theorem ml_RX11_217 : ML RX11 217 yX2_itemAt cX2_itemAt 3 2 (some .int) := ⟨gt_5 42 rfl rfl, gt_5 43 rfl rfl, gt_5 44 rfl rfl, gt_1 3 rfl rfl, kc_yX2_itemAt, by decide, by decide, by decide +kernel, by decide⟩
theorem kc_yX11_isItem : Cond.code yX11_isItem cX11_isItem 2 (some .boolean) ∈ GT := gt_5 53 rfl rfl
theorem ml_RX11_220 : ML RX11 220 yX11_isItem cX11_isItem 2 1 (some .boolean) := ⟨gt_5 50 rfl rfl, gt_5 52 rfl rfl, gt_s (q := (yX11_isItem, _)) 31 rfl rfl, gt_1 1 rfl rfl, kc_yX11_isItem, by decide, by decide, by decide +kernel, by decide⟩
theorem kc_yX2_isAhead : Cond.code yX2_isAhead cX2_isAhead 7 (some .boolean) ∈ GT := gt_5 57 rfl rfl
theorem ml_RX11_223 : ML RX11 223 yX2_isAhead cX2_isAhead 7 3 (some .boolean) := ⟨gt_5 54 rfl rfl, gt_5 55 rfl rfl, gt_5 56 rfl rfl, gt_1 3 rfl rfl, kc_yX2_isAhead, by decide, by decide, by decide +kernel, by decide⟩
theorem kc_yX11_isThing : Cond.code yX11_isThing cX11_isThing 2 (some .boolean) ∈ GT := gt_5 66 rfl rfl
theorem ml_RX11_227 : ML RX11 227 yX11_isThing cX11_isThing 2 1 (some .boolean) := ⟨gt_5 63 rfl rfl, gt_5 65 rfl rfl, gt_s (q := (yX11_isThing, _)) 32 rfl rfl, gt_1 1 rfl rfl, kc_yX11_isThing, by decide, by decide, by decide +kernel, by decide⟩
theorem kc_yX0_lawAndRing : Cond.code yX0_lawAndRing cX0_lawAndRing 7 (some .int) ∈ GT := gt_5 70 rfl rfl
theorem ml_RX11_230 : ML RX11 230 yX0_lawAndRing cX0_lawAndRing 7 1 (some .int) := ⟨gt_5 67 rfl rfl, gt_5 68 rfl rfl, gt_5 69 rfl rfl, gt_1 4 rfl rfl, kc_yX0_lawAndRing, by decide, by decide, by decide +kernel, by decide⟩
theorem kc_yX6_isGoodBy : Cond.code yX6_isGoodBy cX6_isGoodBy 9 (some .boolean) ∈ GT := gt_5 87 rfl rfl
theorem ml_RX11_234 : ML RX11 234 yX6_isGoodBy cX6_isGoodBy 9 3 (some .boolean) := ⟨gt_5 84 rfl rfl, gt_5 85 rfl rfl, gt_5 86 rfl rfl, gt_1 6 rfl rfl, kc_yX6_isGoodBy, by decide, by decide, by decide +kernel, by decide⟩
theorem kc_yX11_isWay : Cond.code yX11_isWay cX11_isWay 2 (some .boolean) ∈ GT := gt_5 96 rfl rfl
theorem ml_RX11_238 : ML RX11 238 yX11_isWay cX11_isWay 2 1 (some .boolean) := ⟨gt_5 93 rfl rfl, gt_5 95 rfl rfl, gt_s (q := (yX11_isWay, _)) 34 rfl rfl, gt_1 1 rfl rfl, kc_yX11_isWay, by decide, by decide, by decide +kernel, by decide⟩
theorem kc_yX7_makeReady : Cond.code yX7_makeReady cX7_makeReady 1 none ∈ GT := gt_5 104 rfl rfl
theorem ml_RX11_241 : ML RX11 241 yX7_makeReady cX7_makeReady 1 0 none := ⟨gt_5 101 rfl rfl, gt_5 102 rfl rfl, gt_5 103 rfl rfl, gt_1 8 rfl rfl, kc_yX7_makeReady, by decide, by decide, by decide +kernel, by decide⟩
theorem kc_yX7_standingIn : Cond.code yX7_standingIn cX7_standingIn 3 (some (.object "WhichWill$Standing")) ∈ GT := gt_5 123 rfl rfl
theorem ml_RX11_244 : ML RX11 244 yX7_standingIn cX7_standingIn 3 2 (some (.object "WhichWill$Standing")) := ⟨gt_5 120 rfl rfl, gt_5 121 rfl rfl, gt_5 122 rfl rfl, gt_1 8 rfl rfl, kc_yX7_standingIn, by decide, by decide, by decide +kernel, by decide⟩
theorem kc_yX2_waysFound : Cond.code yX2_waysFound cX2_waysFound 1 (some .int) ∈ GT := gt_5 100 rfl rfl
theorem ml_RX11_256 : ML RX11 256 yX2_waysFound cX2_waysFound 1 0 (some .int) := ⟨gt_5 97 rfl rfl, gt_5 98 rfl rfl, gt_5 99 rfl rfl, gt_1 3 rfl rfl, kc_yX2_waysFound, by decide, by decide, by decide +kernel, by decide⟩
theorem kc_yX7_takeWayFor : Cond.code yX7_takeWayFor cX7_takeWayFor 3 none ∈ GT := gt_5 176 rfl rfl
theorem ml_RX11_259 : ML RX11 259 yX7_takeWayFor cX7_takeWayFor 3 2 none := ⟨gt_5 173 rfl rfl, gt_5 174 rfl rfl, gt_5 175 rfl rfl, gt_1 8 rfl rfl, kc_yX7_takeWayFor, by decide, by decide, by decide +kernel, by decide⟩
theorem kc_yX7_partThing : Cond.code yX7_partThing cX7_partThing 4 (some .int) ∈ GT := gt_5 180 rfl rfl
theorem ml_RX11_263 : ML RX11 263 yX7_partThing cX7_partThing 4 1 (some .int) := ⟨gt_5 177 rfl rfl, gt_5 178 rfl rfl, gt_5 179 rfl rfl, gt_1 8 rfl rfl, kc_yX7_partThing, by decide, by decide, by decide +kernel, by decide⟩
theorem kc_yX7_gettersOfParts : Cond.code yX7_gettersOfParts cX7_gettersOfParts 3 (some .int) ∈ GT := gt_5 222 rfl rfl
theorem ml_RX11_266 : ML RX11 266 yX7_gettersOfParts cX7_gettersOfParts 3 0 (some .int) := ⟨gt_5 219 rfl rfl, gt_5 220 rfl rfl, gt_5 221 rfl rfl, gt_1 8 rfl rfl, kc_yX7_gettersOfParts, by decide, by decide, by decide +kernel, by decide⟩
theorem kc_yX11_isPerson : Cond.code yX11_isPerson cX11_isPerson 2 (some .boolean) ∈ GT := gt_5 234 rfl rfl
theorem ml_RX11_269 : ML RX11 269 yX11_isPerson cX11_isPerson 2 1 (some .boolean) := ⟨gt_5 231 rfl rfl, gt_5 233 rfl rfl, gt_s (q := (yX11_isPerson, _)) 48 rfl rfl, gt_1 1 rfl rfl, kc_yX11_isPerson, by decide, by decide, by decide +kernel, by decide⟩
theorem kc_yX7_takeWay : Cond.code yX7_takeWay cX7_takeWay 3 none ∈ GT := gt_5 238 rfl rfl
theorem ml_RX11_272 : ML RX11 272 yX7_takeWay cX7_takeWay 3 1 none := ⟨gt_5 235 rfl rfl, gt_5 236 rfl rfl, gt_5 237 rfl rfl, gt_1 8 rfl rfl, kc_yX7_takeWay, by decide, by decide, by decide +kernel, by decide⟩
theorem kc_yX7_partMoney : Cond.code yX7_partMoney cX7_partMoney 4 none ∈ GT := gt_6 2 rfl rfl
theorem ml_RX11_275 : ML RX11 275 yX7_partMoney cX7_partMoney 4 0 none := ⟨gt_5 239 rfl rfl, gt_6 0 rfl rfl, gt_6 1 rfl rfl, gt_1 8 rfl rfl, kc_yX7_partMoney, by decide, by decide, by decide +kernel, by decide⟩
theorem kc_yX7_addUp : Cond.code yX7_addUp cX7_addUp 3 none ∈ GT := gt_6 28 rfl rfl
theorem ml_RX11_281 : ML RX11 281 yX7_addUp cX7_addUp 3 0 none := ⟨gt_6 25 rfl rfl, gt_6 26 rfl rfl, gt_6 27 rfl rfl, gt_1 8 rfl rfl, kc_yX7_addUp, by decide, by decide, by decide +kernel, by decide⟩
theorem kc_yX7_shortOfForce : Cond.code yX7_shortOfForce cX7_shortOfForce 5 (some .int) ∈ GT := gt_6 38 rfl rfl
theorem ml_RX11_287 : ML RX11 287 yX7_shortOfForce cX7_shortOfForce 5 0 (some .int) := ⟨gt_6 35 rfl rfl, gt_6 36 rfl rfl, gt_6 37 rfl rfl, gt_1 8 rfl rfl, kc_yX7_shortOfForce, by decide, by decide, by decide +kernel, by decide⟩
theorem kc_yX5_bringUpToDate : Cond.code yX5_bringUpToDate cX5_bringUpToDate 4 none ∈ GT := gt_6 50 rfl rfl
theorem ml_RX11_290 : ML RX11 290 yX5_bringUpToDate cX5_bringUpToDate 4 0 none := ⟨gt_6 47 rfl rfl, gt_6 48 rfl rfl, gt_6 49 rfl rfl, gt_1 10 rfl rfl, kc_yX5_bringUpToDate, by decide, by decide, by decide +kernel, by decide⟩
theorem kc_yX5_greatestOf : Cond.code yX5_greatestOf cX5_greatestOf 4 (some .int) ∈ GT := gt_6 96 rfl rfl
theorem ml_RX11_293 : ML RX11 293 yX5_greatestOf cX5_greatestOf 4 1 (some .int) := ⟨gt_6 93 rfl rfl, gt_6 94 rfl rfl, gt_6 95 rfl rfl, gt_1 10 rfl rfl, kc_yX5_greatestOf, by decide, by decide, by decide +kernel, by decide⟩
theorem kc_yX5_leastOf : Cond.code yX5_leastOf cX5_leastOf 6 (some .int) ∈ GT := gt_6 101 rfl rfl
theorem ml_RX11_296 : ML RX11 296 yX5_leastOf cX5_leastOf 6 1 (some .int) := ⟨gt_6 98 rfl rfl, gt_6 99 rfl rfl, gt_6 100 rfl rfl, gt_1 10 rfl rfl, kc_yX5_leastOf, by decide, by decide, by decide +kernel, by decide⟩
theorem kc_yX2_unusedFacts : Cond.code yX2_unusedFacts cX2_unusedFacts 3 (some .int) ∈ GT := gt_6 57 rfl rfl
theorem ml_RX11_299 : ML RX11 299 yX2_unusedFacts cX2_unusedFacts 3 0 (some .int) := ⟨gt_6 107 rfl rfl, gt_6 55 rfl rfl, gt_6 56 rfl rfl, gt_1 3 rfl rfl, kc_yX2_unusedFacts, by decide, by decide, by decide +kernel, by decide⟩
theorem kc_yX5_hangOn : Cond.code yX5_hangOn cX5_hangOn 4 (some .boolean) ∈ GT := gt_6 115 rfl rfl
theorem ml_RX11_302 : ML RX11 302 yX5_hangOn cX5_hangOn 4 1 (some .boolean) := ⟨gt_6 112 rfl rfl, gt_6 113 rfl rfl, gt_6 114 rfl rfl, gt_1 10 rfl rfl, kc_yX5_hangOn, by decide, by decide, by decide +kernel, by decide⟩
theorem kc_yX5_bestQuestion : Cond.code yX5_bestQuestion cX5_bestQuestion 7 (some .int) ∈ GT := gt_6 127 rfl rfl
theorem ml_RX11_306 : ML RX11 306 yX5_bestQuestion cX5_bestQuestion 7 0 (some .int) := ⟨gt_6 124 rfl rfl, gt_6 125 rfl rfl, gt_6 126 rfl rfl, gt_1 10 rfl rfl, kc_yX5_bestQuestion, by decide, by decide, by decide +kernel, by decide⟩
theorem kc_yX9_addFact : Cond.code yX9_addFact cX9_addFact 4 (some .int) ∈ GT := gt_6 149 rfl rfl
theorem ml_RX11_309 : ML RX11 309 yX9_addFact cX9_addFact 4 3 (some .int) := ⟨gt_6 146 rfl rfl, gt_6 147 rfl rfl, gt_6 148 rfl rfl, gt_1 11 rfl rfl, kc_yX9_addFact, by decide, by decide, by decide +kernel, by decide⟩
theorem kc_yX9_addAhead : Cond.code yX9_addAhead cX9_addAhead 4 (some .int) ∈ GT := gt_6 157 rfl rfl
theorem ml_RX11_313 : ML RX11 313 yX9_addAhead cX9_addAhead 4 3 (some .int) := ⟨gt_6 154 rfl rfl, gt_6 155 rfl rfl, gt_6 156 rfl rfl, gt_1 11 rfl rfl, kc_yX9_addAhead, by decide, by decide, by decide +kernel, by decide⟩
theorem kc_yX9_weigh : Cond.code yX9_weigh cX9_weigh 5 none ∈ GT := gt_6 169 rfl rfl
theorem ml_RX11_316 : ML RX11 316 yX9_weigh cX9_weigh 5 0 none := ⟨gt_6 166 rfl rfl, gt_6 167 rfl rfl, gt_6 168 rfl rfl, gt_1 11 rfl rfl, kc_yX9_weigh, by decide, by decide, by decide +kernel, by decide⟩
theorem kc_yX9_gainBy : Cond.code yX9_gainBy cX9_gainBy 7 (some .int) ∈ GT := gt_6 193 rfl rfl
theorem ml_RX11_329 : ML RX11 329 yX9_gainBy cX9_gainBy 7 1 (some .int) := ⟨gt_6 190 rfl rfl, gt_6 191 rfl rfl, gt_6 192 rfl rfl, gt_1 11 rfl rfl, kc_yX9_gainBy, by decide, by decide, by decide +kernel, by decide⟩
theorem kc_yX11_readOffers : Cond.code yX11_readOffers cX11_readOffers 3 (some .boolean) ∈ GT := gt_6 206 rfl rfl
theorem ml_RX11_332 : ML RX11 332 yX11_readOffers cX11_readOffers 3 0 (some .boolean) := ⟨gt_6 203 rfl rfl, gt_6 205 rfl rfl, gt_s (q := (yX11_readOffers, _)) 62 rfl rfl, gt_1 1 rfl rfl, kc_yX11_readOffers, by decide, by decide, by decide +kernel, by decide⟩
theorem kc_yX11_offeredTo : Cond.code yX11_offeredTo cX11_offeredTo 4 (some .int) ∈ GT := gt_6 214 rfl rfl
theorem ml_RX11_335 : ML RX11 335 yX11_offeredTo cX11_offeredTo 4 1 (some .int) := ⟨gt_6 211 rfl rfl, gt_6 213 rfl rfl, gt_s (q := (yX11_offeredTo, _)) 63 rfl rfl, gt_1 1 rfl rfl, kc_yX11_offeredTo, by decide, by decide, by decide +kernel, by decide⟩
theorem kc_yX3_fewestChanges : Cond.code yX3_fewestChanges cX3_fewestChanges 7 (some .int) ∈ GT := gt_6 226 rfl rfl
theorem ml_RX11_338 : ML RX11 338 yX3_fewestChanges cX3_fewestChanges 7 3 (some .int) := ⟨gt_6 223 rfl rfl, gt_6 224 rfl rfl, gt_6 225 rfl rfl, gt_1 12 rfl rfl, kc_yX3_fewestChanges, by decide, by decide, by decide +kernel, by decide⟩
theorem ml_RX11_347 : ML RX11 347 yX0_isDead cX0_isDead 2 1 (some .boolean) := ⟨gt_5 16 rfl rfl, gt_4 82 rfl rfl, gt_4 83 rfl rfl, gt_1 4 rfl rfl, kc_yX0_isDead, by decide, by decide, by decide +kernel, by decide⟩
theorem ml_RX11_352 : ML RX11 352 yX10_open cX10_open 1 0 none := ⟨gt_6 207 rfl rfl, gt_3 125 rfl rfl, gt_3 126 rfl rfl, gt_1 2 rfl rfl, kc_yX10_open, by decide, by decide, by decide +kernel, by decide⟩
theorem ml_RX11_356 : ML RX11 356 yX10_number cX10_number 4 2 (some .int) := ⟨gt_6 209 rfl rfl, gt_4 10 rfl rfl, gt_4 11 rfl rfl, gt_1 2 rfl rfl, kc_yX10_number, by decide, by decide, by decide +kernel, by decide⟩
theorem ml_RX11_359 : ML RX11 359 yX10_hasFailed cX10_hasFailed 1 0 (some .boolean) := ⟨gt_6 210 rfl rfl, gt_3 219 rfl rfl, gt_3 220 rfl rfl, gt_1 2 rfl rfl, kc_yX10_hasFailed, by decide, by decide, by decide +kernel, by decide⟩
theorem kc_yX12_byteAt : Cond.code yX12_byteAt cX12_byteAt 2 (some .int) ∈ GT := gt_8 159 rfl rfl
theorem ml_RX12_23 : ML RX12 23 yX12_byteAt cX12_byteAt 2 1 (some .int) := ⟨gt_8 156 rfl rfl, gt_8 158 rfl rfl, gt_s (q := (yX12_byteAt, _)) 74 rfl rfl, gt_1 13 rfl rfl, kc_yX12_byteAt, by decide, by decide, by decide +kernel, by decide⟩
theorem kc_yX12_isSmall : Cond.code yX12_isSmall cX12_isSmall 1 (some .boolean) ∈ GT := gt_8 162 rfl rfl
theorem ms_RX12_30 : MS RX12 30 yX12_isSmall cX12_isSmall 1 1 (some .boolean) := ⟨gt_8 160 rfl rfl, gt_8 161 rfl rfl, gt_1 13 rfl rfl, kc_yX12_isSmall, by decide, by decide, by decide +kernel, by decide⟩
theorem kc_yX12_isDigit : Cond.code yX12_isDigit cX12_isDigit 1 (some .boolean) ∈ GT := gt_8 165 rfl rfl
theorem ms_RX12_34 : MS RX12 34 yX12_isDigit cX12_isDigit 1 1 (some .boolean) := ⟨gt_8 163 rfl rfl, gt_8 164 rfl rfl, gt_1 13 rfl rfl, kc_yX12_isDigit, by decide, by decide, by decide +kernel, by decide⟩
theorem ml_RX12_40 : ML RX12 40 yJ0_length_8abf5 cJ0_length_8abf5 1 0 (some .int) := ⟨gt_8 175 rfl rfl, gt_3 146 rfl rfl, gt_3 147 rfl rfl, gt_1 15 rfl rfl, kc_yJ0_length_8abf5, by decide, by decide, by decide +kernel, by decide⟩
theorem ml_RX12_45 : ML RX12 45 yJ0_charAt_5068e cJ0_charAt_5068e 2 1 (some .char) := ⟨gt_8 176 rfl rfl, gt_3 156 rfl rfl, gt_3 157 rfl rfl, gt_1 15 rfl rfl, kc_yJ0_charAt_5068e, by decide, by decide, by decide +kernel, by decide⟩
theorem kc_yX12_is : Cond.code yX12_is cX12_is 4 (some .boolean) ∈ GT := gt_8 174 rfl rfl
theorem ml_RX12_49 : ML RX12 49 yX12_is cX12_is 4 1 (some .boolean) := ⟨gt_8 171 rfl rfl, gt_8 173 rfl rfl, gt_s (q := (yX12_is, _)) 76 rfl rfl, gt_1 13 rfl rfl, kc_yX12_is, by decide, by decide, by decide +kernel, by decide⟩
theorem kc_yX12_bad : Cond.code yX12_bad cX12_bad 2 (some .boolean) ∈ GT := gt_8 184 rfl rfl
theorem ml_RX12_53 : ML RX12 53 yX12_bad cX12_bad 2 1 (some .boolean) := ⟨gt_8 181 rfl rfl, gt_8 183 rfl rfl, gt_s (q := (yX12_bad, _)) 78 rfl rfl, gt_1 13 rfl rfl, kc_yX12_bad, by decide, by decide, by decide +kernel, by decide⟩
theorem kc_yX12_scan : Cond.code yX12_scan cX12_scan 2 none ∈ GT := gt_8 155 rfl rfl
theorem ml_RX12_56 : ML RX12 56 yX12_scan cX12_scan 2 0 none := ⟨gt_8 152 rfl rfl, gt_8 154 rfl rfl, gt_s (q := (yX12_scan, _)) 73 rfl rfl, gt_1 13 rfl rfl, kc_yX12_scan, by decide, by decide, by decide +kernel, by decide⟩
theorem kc_yX12_in : Cond.code yX12_in cX12_in 6 (some .boolean) ∈ GT := gt_8 143 rfl rfl
theorem ms_RX12_60 : MS RX12 60 yX12_in cX12_in 6 3 (some .boolean) := ⟨gt_8 141 rfl rfl, gt_8 142 rfl rfl, gt_1 13 rfl rfl, kc_yX12_in, by decide, by decide, by decide +kernel, by decide⟩
theorem kc_yX12_peek : Cond.code yX12_peek cX12_peek 3 (some .boolean) ∈ GT := gt_8 225 rfl rfl
theorem ml_RX12_67 : ML RX12 67 yX12_peek cX12_peek 3 2 (some .boolean) := ⟨gt_8 222 rfl rfl, gt_8 224 rfl rfl, gt_s (q := (yX12_peek, _)) 85 rfl rfl, gt_1 13 rfl rfl, kc_yX12_peek, by decide, by decide, by decide +kernel, by decide⟩
theorem kc_yX12_name : Cond.code yX12_name cX12_name 4 (some .long) ∈ GT := gt_8 196 rfl rfl
theorem ml_RX12_71 : ML RX12 71 yX12_name cX12_name 4 0 (some .long) := ⟨gt_8 193 rfl rfl, gt_8 195 rfl rfl, gt_s (q := (yX12_name, _)) 81 rfl rfl, gt_1 13 rfl rfl, kc_yX12_name, by decide, by decide, by decide +kernel, by decide⟩
theorem kc_yX12_find : Cond.code yX12_find cX12_find 4 (some .int) ∈ GT := gt_8 192 rfl rfl
theorem ml_RX12_75 : ML RX12 75 yX12_find cX12_find 4 2 (some .int) := ⟨gt_8 189 rfl rfl, gt_8 191 rfl rfl, gt_s (q := (yX12_find, _)) 80 rfl rfl, gt_1 13 rfl rfl, kc_yX12_find, by decide, by decide, by decide +kernel, by decide⟩
theorem kc_yX12_number : Cond.code yX12_number cX12_number 3 (some .boolean) ∈ GT := gt_8 221 rfl rfl
theorem ml_RX12_119 : ML RX12 119 yX12_number cX12_number 3 2 (some .boolean) := ⟨gt_8 218 rfl rfl, gt_8 220 rfl rfl, gt_s (q := (yX12_number, _)) 84 rfl rfl, gt_1 13 rfl rfl, kc_yX12_number, by decide, by decide, by decide +kernel, by decide⟩
theorem kc_yX12_pick : Cond.code yX12_pick cX12_pick 3 (some .boolean) ∈ GT := gt_8 229 rfl rfl
theorem ml_RX12_122 : ML RX12 122 yX12_pick cX12_pick 3 1 (some .boolean) := ⟨gt_8 226 rfl rfl, gt_8 228 rfl rfl, gt_s (q := (yX12_pick, _)) 86 rfl rfl, gt_1 13 rfl rfl, kc_yX12_pick, by decide, by decide, by decide +kernel, by decide⟩
theorem kc_yX12_fresh : Cond.code yX12_fresh cX12_fresh 3 (some .boolean) ∈ GT := gt_8 188 rfl rfl
theorem ml_RX12_136 : ML RX12 136 yX12_fresh cX12_fresh 3 2 (some .boolean) := ⟨gt_8 185 rfl rfl, gt_8 187 rfl rfl, gt_s (q := (yX12_fresh, _)) 79 rfl rfl, gt_1 13 rfl rfl, kc_yX12_fresh, by decide, by decide, by decide +kernel, by decide⟩
theorem kc_yX12_ruleAt : Cond.code yX12_ruleAt cX12_ruleAt 1 (some .int) ∈ GT := gt_8 200 rfl rfl
theorem ml_RX12_140 : ML RX12 140 yX12_ruleAt cX12_ruleAt 1 0 (some .int) := ⟨gt_8 197 rfl rfl, gt_8 199 rfl rfl, gt_s (q := (yX12_ruleAt, _)) 82 rfl rfl, gt_1 13 rfl rfl, kc_yX12_ruleAt, by decide, by decide, by decide +kernel, by decide⟩
theorem kc_yX12_readRule : Cond.code yX12_readRule cX12_readRule 5 (some .boolean) ∈ GT := gt_8 217 rfl rfl
theorem ml_RX12_143 : ML RX12 143 yX12_readRule cX12_readRule 5 2 (some .boolean) := ⟨gt_8 214 rfl rfl, gt_8 216 rfl rfl, gt_s (q := (yX12_readRule, _)) 83 rfl rfl, gt_1 13 rfl rfl, kc_yX12_readRule, by decide, by decide, by decide +kernel, by decide⟩
theorem kc_yX12_known : Cond.code yX12_known cX12_known 3 (some .boolean) ∈ GT := gt_9 7 rfl rfl
theorem ml_RX12_164 : ML RX12 164 yX12_known cX12_known 3 2 (some .boolean) := ⟨gt_9 4 rfl rfl, gt_9 6 rfl rfl, gt_s (q := (yX12_known, _)) 88 rfl rfl, gt_1 13 rfl rfl, kc_yX12_known, by decide, by decide, by decide +kernel, by decide⟩
theorem kc_yX12_readLand : Cond.code yX12_readLand cX12_readLand 3 (some .boolean) ∈ GT := gt_8 180 rfl rfl
theorem ml_RX12_219 : ML RX12 219 yX12_readLand cX12_readLand 3 0 (some .boolean) := ⟨gt_8 177 rfl rfl, gt_8 179 rfl rfl, gt_s (q := (yX12_readLand, _)) 77 rfl rfl, gt_1 13 rfl rfl, kc_yX12_readLand, by decide, by decide, by decide +kernel, by decide⟩
theorem kc_yX12_readPerson : Cond.code yX12_readPerson cX12_readPerson 2 (some .boolean) ∈ GT := gt_9 0 rfl rfl
theorem ml_RX12_225 : ML RX12 225 yX12_readPerson cX12_readPerson 2 0 (some .boolean) := ⟨gt_8 237 rfl rfl, gt_8 239 rfl rfl, gt_s (q := (yX12_readPerson, _)) 87 rfl rfl, gt_1 13 rfl rfl, kc_yX12_readPerson, by decide, by decide, by decide +kernel, by decide⟩
theorem kc_yX12_readThing : Cond.code yX12_readThing cX12_readThing 1 (some .boolean) ∈ GT := gt_9 13 rfl rfl
theorem ml_RX12_230 : ML RX12 230 yX12_readThing cX12_readThing 1 0 (some .boolean) := ⟨gt_9 10 rfl rfl, gt_9 12 rfl rfl, gt_s (q := (yX12_readThing, _)) 89 rfl rfl, gt_1 13 rfl rfl, kc_yX12_readThing, by decide, by decide, by decide +kernel, by decide⟩
theorem kc_yX12_readSmall : Cond.code yX12_readSmall cX12_readSmall 2 (some .boolean) ∈ GT := gt_9 18 rfl rfl
theorem ml_RX12_233 : ML RX12 233 yX12_readSmall cX12_readSmall 2 0 (some .boolean) := ⟨gt_9 15 rfl rfl, gt_9 17 rfl rfl, gt_s (q := (yX12_readSmall, _)) 90 rfl rfl, gt_1 13 rfl rfl, kc_yX12_readSmall, by decide, by decide, by decide +kernel, by decide⟩
theorem kc_yX12_findOrders : Cond.code yX12_findOrders cX12_findOrders 1 none ∈ GT := gt_7 31 rfl rfl
theorem ml_RX12_396 : ML RX12 396 yX12_findOrders cX12_findOrders 1 0 none := ⟨gt_7 28 rfl rfl, gt_7 30 rfl rfl, gt_s (q := (yX12_findOrders, _)) 66 rfl rfl, gt_1 13 rfl rfl, kc_yX12_findOrders, by decide, by decide, by decide +kernel, by decide⟩
theorem kc_yX12_putFour : Cond.code yX12_putFour cX12_putFour 3 none ∈ GT := gt_8 136 rfl rfl
theorem ml_RX12_399 : ML RX12 399 yX12_putFour cX12_putFour 3 1 none := ⟨gt_8 133 rfl rfl, gt_8 135 rfl rfl, gt_s (q := (yX12_putFour, _)) 71 rfl rfl, gt_1 13 rfl rfl, kc_yX12_putFour, by decide, by decide, by decide +kernel, by decide⟩
theorem kc_yX12_open : Cond.code yX12_open cX12_open 1 none ∈ GT := gt_8 151 rfl rfl
theorem ml_RX12_403 : ML RX12 403 yX12_open cX12_open 1 0 none := ⟨gt_8 148 rfl rfl, gt_8 150 rfl rfl, gt_s (q := (yX12_open, _)) 72 rfl rfl, gt_1 13 rfl rfl, kc_yX12_open, by decide, by decide, by decide +kernel, by decide⟩
theorem kc_yX12_readEstate : Cond.code yX12_readEstate cX12_readEstate 2 (some .boolean) ∈ GT := gt_8 169 rfl rfl
theorem ml_RX12_406 : ML RX12 406 yX12_readEstate cX12_readEstate 2 0 (some .boolean) := ⟨gt_8 166 rfl rfl, gt_8 168 rfl rfl, gt_s (q := (yX12_readEstate, _)) 75 rfl rfl, gt_1 13 rfl rfl, kc_yX12_readEstate, by decide, by decide, by decide +kernel, by decide⟩
theorem kc_yX12_isLand : Cond.code yX12_isLand cX12_isLand 2 (some .boolean) ∈ GT := gt_9 44 rfl rfl
theorem ml_RX12_452 : ML RX12 452 yX12_isLand cX12_isLand 2 1 (some .boolean) := ⟨gt_9 41 rfl rfl, gt_9 43 rfl rfl, gt_s (q := (yX12_isLand, _)) 91 rfl rfl, gt_1 13 rfl rfl, kc_yX12_isLand, by decide, by decide, by decide +kernel, by decide⟩
theorem kc_yX12_expect : Cond.code yX12_expect cX12_expect 2 (some .boolean) ∈ GT := gt_9 63 rfl rfl
theorem ml_RX12_467 : ML RX12 467 yX12_expect cX12_expect 2 1 (some .boolean) := ⟨gt_9 60 rfl rfl, gt_9 62 rfl rfl, gt_s (q := (yX12_expect, _)) 94 rfl rfl, gt_1 13 rfl rfl, kc_yX12_expect, by decide, by decide, by decide +kernel, by decide⟩
theorem kc_yX12_readIf : Cond.code yX12_readIf cX12_readIf 2 (some .boolean) ∈ GT := gt_9 67 rfl rfl
theorem ml_RX12_470 : ML RX12 470 yX12_readIf cX12_readIf 2 1 (some .boolean) := ⟨gt_9 64 rfl rfl, gt_9 66 rfl rfl, gt_s (q := (yX12_readIf, _)) 95 rfl rfl, gt_1 13 rfl rfl, kc_yX12_readIf, by decide, by decide, by decide +kernel, by decide⟩
theorem kc_yX12_readHeir : Cond.code yX12_readHeir cX12_readHeir 4 (some .boolean) ∈ GT := gt_9 108 rfl rfl
theorem ml_RX12_473 : ML RX12 473 yX12_readHeir cX12_readHeir 4 0 (some .boolean) := ⟨gt_9 105 rfl rfl, gt_9 107 rfl rfl, gt_s (q := (yX12_readHeir, _)) 102 rfl rfl, gt_1 13 rfl rfl, kc_yX12_readHeir, by decide, by decide, by decide +kernel, by decide⟩
theorem kc_yX12_paperNot : Cond.code yX12_paperNot cX12_paperNot 2 (some .boolean) ∈ GT := gt_9 82 rfl rfl
theorem ml_RX12_480 : ML RX12 480 yX12_paperNot cX12_paperNot 2 1 (some .boolean) := ⟨gt_9 79 rfl rfl, gt_9 81 rfl rfl, gt_s (q := (yX12_paperNot, _)) 97 rfl rfl, gt_1 13 rfl rfl, kc_yX12_paperNot, by decide, by decide, by decide +kernel, by decide⟩
theorem kc_yX12_readRest : Cond.code yX12_readRest cX12_readRest 1 (some .boolean) ∈ GT := gt_9 104 rfl rfl
theorem ml_RX12_493 : ML RX12 493 yX12_readRest cX12_readRest 1 0 (some .boolean) := ⟨gt_9 101 rfl rfl, gt_9 103 rfl rfl, gt_s (q := (yX12_readRest, _)) 101 rfl rfl, gt_1 13 rfl rfl, kc_yX12_readRest, by decide, by decide, by decide +kernel, by decide⟩
theorem kc_yX12_readGift : Cond.code yX12_readGift cX12_readGift 6 (some .boolean) ∈ GT := gt_9 58 rfl rfl
theorem ml_RX12_498 : ML RX12 498 yX12_readGift cX12_readGift 6 1 (some .boolean) := ⟨gt_9 55 rfl rfl, gt_9 57 rfl rfl, gt_s (q := (yX12_readGift, _)) 93 rfl rfl, gt_1 13 rfl rfl, kc_yX12_readGift, by decide, by decide, by decide +kernel, by decide⟩
theorem kc_yX12_readUndo : Cond.code yX12_readUndo cX12_readUndo 2 (some .boolean) ∈ GT := gt_9 77 rfl rfl
theorem ml_RX12_506 : ML RX12 506 yX12_readUndo cX12_readUndo 2 0 (some .boolean) := ⟨gt_9 74 rfl rfl, gt_9 76 rfl rfl, gt_s (q := (yX12_readUndo, _)) 96 rfl rfl, gt_1 13 rfl rfl, kc_yX12_readUndo, by decide, by decide, by decide +kernel, by decide⟩
theorem kc_yX12_readWitness : Cond.code yX12_readWitness cX12_readWitness 4 (some .boolean) ∈ GT := gt_9 87 rfl rfl
theorem ml_RX12_511 : ML RX12 511 yX12_readWitness cX12_readWitness 4 0 (some .boolean) := ⟨gt_9 84 rfl rfl, gt_9 86 rfl rfl, gt_s (q := (yX12_readWitness, _)) 98 rfl rfl, gt_1 13 rfl rfl, kc_yX12_readWitness, by decide, by decide, by decide +kernel, by decide⟩
theorem kc_yX12_readAgain : Cond.code yX12_readAgain cX12_readAgain 1 (some .boolean) ∈ GT := gt_9 92 rfl rfl
theorem ml_RX12_516 : ML RX12 516 yX12_readAgain cX12_readAgain 1 0 (some .boolean) := ⟨gt_9 89 rfl rfl, gt_9 91 rfl rfl, gt_s (q := (yX12_readAgain, _)) 99 rfl rfl, gt_1 13 rfl rfl, kc_yX12_readAgain, by decide, by decide, by decide +kernel, by decide⟩
theorem kc_yX12_readOnce : Cond.code yX12_readOnce cX12_readOnce 3 (some .boolean) ∈ GT := gt_9 96 rfl rfl
theorem ml_RX12_519 : ML RX12 519 yX12_readOnce cX12_readOnce 3 0 (some .boolean) := ⟨gt_9 93 rfl rfl, gt_9 95 rfl rfl, gt_s (q := (yX12_readOnce, _)) 100 rfl rfl, gt_1 13 rfl rfl, kc_yX12_readOnce, by decide, by decide, by decide +kernel, by decide⟩
theorem kc_yX12_readPaper : Cond.code yX12_readPaper cX12_readPaper 3 (some .boolean) ∈ GT := gt_9 53 rfl rfl
theorem ml_RX12_522 : ML RX12 522 yX12_readPaper cX12_readPaper 3 0 (some .boolean) := ⟨gt_9 50 rfl rfl, gt_9 52 rfl rfl, gt_s (q := (yX12_readPaper, _)) 92 rfl rfl, gt_1 13 rfl rfl, kc_yX12_readPaper, by decide, by decide, by decide +kernel, by decide⟩
theorem kc_yX12_isPaper : Cond.code yX12_isPaper cX12_isPaper 2 (some .boolean) ∈ GT := gt_9 117 rfl rfl
theorem ml_RX12_525 : ML RX12 525 yX12_isPaper cX12_isPaper 2 1 (some .boolean) := ⟨gt_9 114 rfl rfl, gt_9 116 rfl rfl, gt_s (q := (yX12_isPaper, _)) 103 rfl rfl, gt_1 13 rfl rfl, kc_yX12_isPaper, by decide, by decide, by decide +kernel, by decide⟩
theorem kc_yX12_heirsOf : Cond.code yX12_heirsOf cX12_heirsOf 4 (some .int) ∈ GT := gt_9 122 rfl rfl
theorem ml_RX12_530 : ML RX12 530 yX12_heirsOf cX12_heirsOf 4 1 (some .int) := ⟨gt_9 119 rfl rfl, gt_9 121 rfl rfl, gt_s (q := (yX12_heirsOf, _)) 104 rfl rfl, gt_1 13 rfl rfl, kc_yX12_heirsOf, by decide, by decide, by decide +kernel, by decide⟩
theorem kc_yX12_orderFrom : Cond.code yX12_orderFrom cX12_orderFrom 6 none ∈ GT := gt_7 35 rfl rfl
theorem ml_RX12_548 : ML RX12 548 yX12_orderFrom cX12_orderFrom 6 3 none := ⟨gt_7 32 rfl rfl, gt_7 34 rfl rfl, gt_s (q := (yX12_orderFrom, _)) 67 rfl rfl, gt_1 13 rfl rfl, kc_yX12_orderFrom, by decide, by decide, by decide +kernel, by decide⟩
theorem kc_yX12_items : Cond.code yX12_items cX12_items 1 (some .int) ∈ GT := gt_7 39 rfl rfl
theorem ml_RX12_552 : ML RX12 552 yX12_items cX12_items 1 0 (some .int) := ⟨gt_7 36 rfl rfl, gt_7 38 rfl rfl, gt_s (q := (yX12_items, _)) 68 rfl rfl, gt_1 13 rfl rfl, kc_yX12_items, by decide, by decide, by decide +kernel, by decide⟩
theorem kc_yX12_firstOf : Cond.code yX12_firstOf cX12_firstOf 2 (some .int) ∈ GT := gt_7 43 rfl rfl
theorem ml_RX12_555 : ML RX12 555 yX12_firstOf cX12_firstOf 2 1 (some .int) := ⟨gt_7 40 rfl rfl, gt_7 42 rfl rfl, gt_s (q := (yX12_firstOf, _)) 69 rfl rfl, gt_1 13 rfl rfl, kc_yX12_firstOf, by decide, by decide, by decide +kernel, by decide⟩
theorem ms_RX12_558 : MS RX12 558 yJ9_max_7cf53 cJ9_max_7cf53 2 2 (some .int) := ⟨gt_7 44 rfl rfl, gt_4 114 rfl rfl, gt_1 14 rfl rfl, kc_yJ9_max_7cf53, by decide, by decide, by decide +kernel, by decide⟩
theorem kc_yX12_lastOf : Cond.code yX12_lastOf cX12_lastOf 2 (some .int) ∈ GT := gt_7 48 rfl rfl
theorem ml_RX12_564 : ML RX12 564 yX12_lastOf cX12_lastOf 2 1 (some .int) := ⟨gt_7 45 rfl rfl, gt_7 47 rfl rfl, gt_s (q := (yX12_lastOf, _)) 70 rfl rfl, gt_1 13 rfl rfl, kc_yX12_lastOf, by decide, by decide, by decide +kernel, by decide⟩
theorem kc_yX12_isOrder : Cond.code yX12_isOrder cX12_isOrder 2 (some .boolean) ∈ GT := gt_9 142 rfl rfl
theorem ml_RX12_567 : ML RX12 567 yX12_isOrder cX12_isOrder 2 1 (some .boolean) := ⟨gt_9 139 rfl rfl, gt_9 141 rfl rfl, gt_s (q := (yX12_isOrder, _)) 105 rfl rfl, gt_1 13 rfl rfl, kc_yX12_isOrder, by decide, by decide, by decide +kernel, by decide⟩
theorem kc_yX12_isItem : Cond.code yX12_isItem cX12_isItem 2 (some .boolean) ∈ GT := gt_9 146 rfl rfl
theorem ml_RX12_570 : ML RX12 570 yX12_isItem cX12_isItem 2 1 (some .boolean) := ⟨gt_9 143 rfl rfl, gt_9 145 rfl rfl, gt_s (q := (yX12_isItem, _)) 106 rfl rfl, gt_1 13 rfl rfl, kc_yX12_isItem, by decide, by decide, by decide +kernel, by decide⟩
theorem kc_yX12_isAhead : Cond.code yX12_isAhead cX12_isAhead 5 (some .boolean) ∈ GT := gt_9 154 rfl rfl
theorem ml_RX12_573 : ML RX12 573 yX12_isAhead cX12_isAhead 5 3 (some .boolean) := ⟨gt_9 151 rfl rfl, gt_9 153 rfl rfl, gt_s (q := (yX12_isAhead, _)) 107 rfl rfl, gt_1 13 rfl rfl, kc_yX12_isAhead, by decide, by decide, by decide +kernel, by decide⟩
theorem kc_yX12_lawOf : Cond.code yX12_lawOf cX12_lawOf 6 (some .int) ∈ GT := gt_9 170 rfl rfl
theorem ml_RX12_580 : ML RX12 580 yX12_lawOf cX12_lawOf 6 1 (some .int) := ⟨gt_9 167 rfl rfl, gt_9 169 rfl rfl, gt_s (q := (yX12_lawOf, _)) 110 rfl rfl, gt_1 13 rfl rfl, kc_yX12_lawOf, by decide, by decide, by decide +kernel, by decide⟩
theorem kc_yX12_isThing : Cond.code yX12_isThing cX12_isThing 2 (some .boolean) ∈ GT := gt_9 162 rfl rfl
theorem ml_RX12_583 : ML RX12 583 yX12_isThing cX12_isThing 2 1 (some .boolean) := ⟨gt_9 159 rfl rfl, gt_9 161 rfl rfl, gt_s (q := (yX12_isThing, _)) 108 rfl rfl, gt_1 13 rfl rfl, kc_yX12_isThing, by decide, by decide, by decide +kernel, by decide⟩
theorem kc_yX12_lawFor : Cond.code yX12_lawFor cX12_lawFor 2 (some .int) ∈ GT := gt_9 166 rfl rfl
theorem ml_RX12_586 : ML RX12 586 yX12_lawFor cX12_lawFor 2 1 (some .int) := ⟨gt_9 163 rfl rfl, gt_9 165 rfl rfl, gt_s (q := (yX12_lawFor, _)) 109 rfl rfl, gt_1 13 rfl rfl, kc_yX12_lawFor, by decide, by decide, by decide +kernel, by decide⟩
theorem kc_yX12_has : Cond.code yX12_has cX12_has 3 (some .boolean) ∈ GT := gt_9 186 rfl rfl
theorem ml_RX12_589 : ML RX12 589 yX12_has cX12_has 3 2 (some .boolean) := ⟨gt_9 183 rfl rfl, gt_9 185 rfl rfl, gt_s (q := (yX12_has, _)) 112 rfl rfl, gt_1 13 rfl rfl, kc_yX12_has, by decide, by decide, by decide +kernel, by decide⟩
theorem kc_yX12_gainers : Cond.code yX12_gainers cX12_gainers 4 (some .int) ∈ GT := gt_9 190 rfl rfl
theorem ml_RX12_592 : ML RX12 592 yX12_gainers cX12_gainers 4 1 (some .int) := ⟨gt_9 187 rfl rfl, gt_9 189 rfl rfl, gt_s (q := (yX12_gainers, _)) 113 rfl rfl, gt_1 13 rfl rfl, kc_yX12_gainers, by decide, by decide, by decide +kernel, by decide⟩
theorem kc_yX12_isGood : Cond.code yX12_isGood cX12_isGood 6 (some .boolean) ∈ GT := gt_9 182 rfl rfl
theorem ml_RX12_598 : ML RX12 598 yX12_isGood cX12_isGood 6 2 (some .boolean) := ⟨gt_9 179 rfl rfl, gt_9 181 rfl rfl, gt_s (q := (yX12_isGood, _)) 111 rfl rfl, gt_1 13 rfl rfl, kc_yX12_isGood, by decide, by decide, by decide +kernel, by decide⟩
theorem kc_yX12_undo : Cond.code yX12_undo cX12_undo 4 none ∈ GT := gt_9 214 rfl rfl
theorem ml_RX12_607 : ML RX12 607 yX12_undo cX12_undo 4 2 none := ⟨gt_9 211 rfl rfl, gt_9 213 rfl rfl, gt_s (q := (yX12_undo, _)) 118 rfl rfl, gt_1 13 rfl rfl, kc_yX12_undo, by decide, by decide, by decide +kernel, by decide⟩
theorem kc_yX12_rise : Cond.code yX12_rise cX12_rise 2 none ∈ GT := gt_9 218 rfl rfl
theorem ml_RX12_610 : ML RX12 610 yX12_rise cX12_rise 2 1 none := ⟨gt_9 215 rfl rfl, gt_9 217 rfl rfl, gt_s (q := (yX12_rise, _)) 119 rfl rfl, gt_1 13 rfl rfl, kc_yX12_rise, by decide, by decide, by decide +kernel, by decide⟩
theorem kc_yX12_bringPaper : Cond.code yX12_bringPaper cX12_bringPaper 4 none ∈ GT := gt_9 210 rfl rfl
theorem ml_RX12_616 : ML RX12 616 yX12_bringPaper cX12_bringPaper 4 2 none := ⟨gt_9 207 rfl rfl, gt_9 209 rfl rfl, gt_s (q := (yX12_bringPaper, _)) 117 rfl rfl, gt_1 13 rfl rfl, kc_yX12_bringPaper, by decide, by decide, by decide +kernel, by decide⟩
theorem kc_yX12_bringEvent : Cond.code yX12_bringEvent cX12_bringEvent 7 none ∈ GT := gt_9 222 rfl rfl
theorem ml_RX12_619 : ML RX12 619 yX12_bringEvent cX12_bringEvent 7 2 none := ⟨gt_9 219 rfl rfl, gt_9 221 rfl rfl, gt_s (q := (yX12_bringEvent, _)) 120 rfl rfl, gt_1 13 rfl rfl, kc_yX12_bringEvent, by decide, by decide, by decide +kernel, by decide⟩
theorem kc_yX12_allWays : Cond.code yX12_allWays cX12_allWays 1 (some .int) ∈ GT := gt_9 202 rfl rfl
theorem ml_RX12_622 : ML RX12 622 yX12_allWays cX12_allWays 1 0 (some .int) := ⟨gt_9 199 rfl rfl, gt_9 201 rfl rfl, gt_s (q := (yX12_allWays, _)) 115 rfl rfl, gt_1 13 rfl rfl, kc_yX12_allWays, by decide, by decide, by decide +kernel, by decide⟩
theorem kc_yX12_isWay : Cond.code yX12_isWay cX12_isWay 2 (some .boolean) ∈ GT := gt_9 198 rfl rfl
theorem ml_RX12_625 : ML RX12 625 yX12_isWay cX12_isWay 2 1 (some .boolean) := ⟨gt_9 195 rfl rfl, gt_9 197 rfl rfl, gt_s (q := (yX12_isWay, _)) 114 rfl rfl, gt_1 13 rfl rfl, kc_yX12_isWay, by decide, by decide, by decide +kernel, by decide⟩
theorem kc_yX12_bringAll : Cond.code yX12_bringAll cX12_bringAll 6 none ∈ GT := gt_9 206 rfl rfl
theorem ml_RX12_628 : ML RX12 628 yX12_bringAll cX12_bringAll 6 3 none := ⟨gt_9 203 rfl rfl, gt_9 205 rfl rfl, gt_s (q := (yX12_bringAll, _)) 116 rfl rfl, gt_1 13 rfl rfl, kc_yX12_bringAll, by decide, by decide, by decide +kernel, by decide⟩
theorem kc_yX12_counting : Cond.code yX12_counting cX12_counting 3 (some .int) ∈ GT := gt_9 226 rfl rfl
theorem ml_RX12_631 : ML RX12 631 yX12_counting cX12_counting 3 0 (some .int) := ⟨gt_9 223 rfl rfl, gt_9 225 rfl rfl, gt_s (q := (yX12_counting, _)) 121 rfl rfl, gt_1 13 rfl rfl, kc_yX12_counting, by decide, by decide, by decide +kernel, by decide⟩
theorem kc_yX12_isVoid : Cond.code yX12_isVoid cX12_isVoid 4 (some .boolean) ∈ GT := gt_10 18 rfl rfl
theorem ml_RX12_640 : ML RX12 640 yX12_isVoid cX12_isVoid 4 3 (some .boolean) := ⟨gt_10 15 rfl rfl, gt_10 17 rfl rfl, gt_s (q := (yX12_isVoid, _)) 126 rfl rfl, gt_1 13 rfl rfl, kc_yX12_isVoid, by decide, by decide, by decide +kernel, by decide⟩
theorem kc_yX12_isSo : Cond.code yX12_isSo cX12_isSo 3 (some .boolean) ∈ GT := gt_10 22 rfl rfl
theorem ml_RX12_643 : ML RX12 643 yX12_isSo cX12_isSo 3 1 (some .boolean) := ⟨gt_10 19 rfl rfl, gt_10 21 rfl rfl, gt_s (q := (yX12_isSo, _)) 127 rfl rfl, gt_1 13 rfl rfl, kc_yX12_isSo, by decide, by decide, by decide +kernel, by decide⟩
theorem kc_yX12_heirsIn : Cond.code yX12_heirsIn cX12_heirsIn 5 (some .int) ∈ GT := gt_10 30 rfl rfl
theorem ml_RX12_646 : ML RX12 646 yX12_heirsIn cX12_heirsIn 5 2 (some .int) := ⟨gt_10 27 rfl rfl, gt_10 29 rfl rfl, gt_s (q := (yX12_heirsIn, _)) 129 rfl rfl, gt_1 13 rfl rfl, kc_yX12_heirsIn, by decide, by decide, by decide +kernel, by decide⟩
theorem kc_yX12_isStem : Cond.code yX12_isStem cX12_isStem 4 (some .boolean) ∈ GT := gt_10 42 rfl rfl
theorem ml_RX12_649 : ML RX12 649 yX12_isStem cX12_isStem 4 1 (some .boolean) := ⟨gt_10 39 rfl rfl, gt_10 41 rfl rfl, gt_s (q := (yX12_isStem, _)) 132 rfl rfl, gt_1 13 rfl rfl, kc_yX12_isStem, by decide, by decide, by decide +kernel, by decide⟩
theorem kc_yX12_isStemOf : Cond.code yX12_isStemOf cX12_isStemOf 3 (some .boolean) ∈ GT := gt_10 38 rfl rfl
theorem ml_RX12_652 : ML RX12 652 yX12_isStemOf cX12_isStemOf 3 2 (some .boolean) := ⟨gt_10 35 rfl rfl, gt_10 37 rfl rfl, gt_s (q := (yX12_isStemOf, _)) 131 rfl rfl, gt_1 13 rfl rfl, kc_yX12_isStemOf, by decide, by decide, by decide +kernel, by decide⟩
theorem kc_yX12_toStems : Cond.code yX12_toStems cX12_toStems 7 (some .boolean) ∈ GT := gt_10 46 rfl rfl
theorem ml_RX12_655 : ML RX12 655 yX12_toStems cX12_toStems 7 2 (some .boolean) := ⟨gt_10 43 rfl rfl, gt_10 45 rfl rfl, gt_s (q := (yX12_toStems, _)) 133 rfl rfl, gt_1 13 rfl rfl, kc_yX12_toStems, by decide, by decide, by decide +kernel, by decide⟩
theorem kc_yX12_noParts : Cond.code yX12_noParts cX12_noParts 2 none ∈ GT := gt_10 10 rfl rfl
theorem ml_RX12_658 : ML RX12 658 yX12_noParts cX12_noParts 2 0 none := ⟨gt_10 7 rfl rfl, gt_10 9 rfl rfl, gt_s (q := (yX12_noParts, _)) 124 rfl rfl, gt_1 13 rfl rfl, kc_yX12_noParts, by decide, by decide, by decide +kernel, by decide⟩
theorem kc_yX12_holds : Cond.code yX12_holds cX12_holds 4 (some .boolean) ∈ GT := gt_10 14 rfl rfl
theorem ml_RX12_661 : ML RX12 661 yX12_holds cX12_holds 4 3 (some .boolean) := ⟨gt_10 11 rfl rfl, gt_10 13 rfl rfl, gt_s (q := (yX12_holds, _)) 125 rfl rfl, gt_1 13 rfl rfl, kc_yX12_holds, by decide, by decide, by decide +kernel, by decide⟩
theorem kc_yX12_leave : Cond.code yX12_leave cX12_leave 9 (some .boolean) ∈ GT := gt_10 26 rfl rfl
theorem ml_RX12_664 : ML RX12 664 yX12_leave cX12_leave 9 2 (some .boolean) := ⟨gt_10 23 rfl rfl, gt_10 25 rfl rfl, gt_s (q := (yX12_leave, _)) 128 rfl rfl, gt_1 13 rfl rfl, kc_yX12_leave, by decide, by decide, by decide +kernel, by decide⟩
theorem kc_yX12_byKin : Cond.code yX12_byKin cX12_byKin 6 (some .boolean) ∈ GT := gt_10 34 rfl rfl
theorem ml_RX12_667 : ML RX12 667 yX12_byKin cX12_byKin 6 2 (some .boolean) := ⟨gt_10 31 rfl rfl, gt_10 33 rfl rfl, gt_s (q := (yX12_byKin, _)) 130 rfl rfl, gt_1 13 rfl rfl, kc_yX12_byKin, by decide, by decide, by decide +kernel, by decide⟩
theorem kc_yX12_moneyThere : Cond.code yX12_moneyThere cX12_moneyThere 1 (some .int) ∈ GT := gt_10 70 rfl rfl
theorem ml_RX12_670 : ML RX12 670 yX12_moneyThere cX12_moneyThere 1 0 (some .int) := ⟨gt_10 67 rfl rfl, gt_10 69 rfl rfl, gt_s (q := (yX12_moneyThere, _)) 137 rfl rfl, gt_1 13 rfl rfl, kc_yX12_moneyThere, by decide, by decide, by decide +kernel, by decide⟩
theorem kc_yX12_goWay : Cond.code yX12_goWay cX12_goWay 3 none ∈ GT := gt_10 2 rfl rfl
theorem ml_RX12_673 : ML RX12 673 yX12_goWay cX12_goWay 3 1 none := ⟨gt_9 239 rfl rfl, gt_10 1 rfl rfl, gt_s (q := (yX12_goWay, _)) 122 rfl rfl, gt_1 13 rfl rfl, kc_yX12_goWay, by decide, by decide, by decide +kernel, by decide⟩
theorem kc_yX12_goThing : Cond.code yX12_goThing cX12_goThing 7 (some .int) ∈ GT := gt_10 6 rfl rfl
theorem ml_RX12_676 : ML RX12 676 yX12_goThing cX12_goThing 7 1 (some .int) := ⟨gt_10 3 rfl rfl, gt_10 5 rfl rfl, gt_s (q := (yX12_goThing, _)) 123 rfl rfl, gt_1 13 rfl rfl, kc_yX12_goThing, by decide, by decide, by decide +kernel, by decide⟩
theorem kc_yX12_whoGets : Cond.code yX12_whoGets cX12_whoGets 3 (some .int) ∈ GT := gt_10 50 rfl rfl
theorem ml_RX12_679 : ML RX12 679 yX12_whoGets cX12_whoGets 3 0 (some .int) := ⟨gt_10 47 rfl rfl, gt_10 49 rfl rfl, gt_s (q := (yX12_whoGets, _)) 134 rfl rfl, gt_1 13 rfl rfl, kc_yX12_whoGets, by decide, by decide, by decide +kernel, by decide⟩
theorem kc_yX12_isPerson : Cond.code yX12_isPerson cX12_isPerson 2 (some .boolean) ∈ GT := gt_10 62 rfl rfl
theorem ml_RX12_682 : ML RX12 682 yX12_isPerson cX12_isPerson 2 1 (some .boolean) := ⟨gt_10 59 rfl rfl, gt_10 61 rfl rfl, gt_s (q := (yX12_isPerson, _)) 135 rfl rfl, gt_1 13 rfl rfl, kc_yX12_isPerson, by decide, by decide, by decide +kernel, by decide⟩
theorem kc_yX12_goMoney : Cond.code yX12_goMoney cX12_goMoney 10 none ∈ GT := gt_10 66 rfl rfl
theorem ml_RX12_685 : ML RX12 685 yX12_goMoney cX12_goMoney 10 0 none := ⟨gt_10 63 rfl rfl, gt_10 65 rfl rfl, gt_s (q := (yX12_goMoney, _)) 136 rfl rfl, gt_1 13 rfl rfl, kc_yX12_goMoney, by decide, by decide, by decide +kernel, by decide⟩
theorem kc_yX12_isLike : Cond.code yX12_isLike cX12_isLike 4 (some .boolean) ∈ GT := gt_10 90 rfl rfl
theorem ml_RX12_688 : ML RX12 688 yX12_isLike cX12_isLike 4 2 (some .boolean) := ⟨gt_10 87 rfl rfl, gt_10 89 rfl rfl, gt_s (q := (yX12_isLike, _)) 141 rfl rfl, gt_1 13 rfl rfl, kc_yX12_isLike, by decide, by decide, by decide +kernel, by decide⟩
theorem kc_yX12_sumWay : Cond.code yX12_sumWay cX12_sumWay 4 none ∈ GT := gt_10 82 rfl rfl
theorem ml_RX12_694 : ML RX12 694 yX12_sumWay cX12_sumWay 4 1 none := ⟨gt_10 79 rfl rfl, gt_10 81 rfl rfl, gt_s (q := (yX12_sumWay, _)) 139 rfl rfl, gt_1 13 rfl rfl, kc_yX12_sumWay, by decide, by decide, by decide +kernel, by decide⟩
theorem kc_yX12_nameOutcome : Cond.code yX12_nameOutcome cX12_nameOutcome 4 none ∈ GT := gt_10 86 rfl rfl
theorem ml_RX12_697 : ML RX12 697 yX12_nameOutcome cX12_nameOutcome 4 1 none := ⟨gt_10 83 rfl rfl, gt_10 85 rfl rfl, gt_s (q := (yX12_nameOutcome, _)) 140 rfl rfl, gt_1 13 rfl rfl, kc_yX12_nameOutcome, by decide, by decide, by decide +kernel, by decide⟩
theorem kc_yX12_reckon : Cond.code yX12_reckon cX12_reckon 2 none ∈ GT := gt_10 78 rfl rfl
theorem ml_RX12_700 : ML RX12 700 yX12_reckon cX12_reckon 2 0 none := ⟨gt_10 75 rfl rfl, gt_10 77 rfl rfl, gt_s (q := (yX12_reckon, _)) 138 rfl rfl, gt_1 13 rfl rfl, kc_yX12_reckon, by decide, by decide, by decide +kernel, by decide⟩
theorem kc_yX12_unlike : Cond.code yX12_unlike cX12_unlike 8 (some .int) ∈ GT := gt_10 122 rfl rfl
theorem ml_RX12_706 : ML RX12 706 yX12_unlike cX12_unlike 8 4 (some .int) := ⟨gt_10 119 rfl rfl, gt_10 121 rfl rfl, gt_s (q := (yX12_unlike, _)) 143 rfl rfl, gt_1 13 rfl rfl, kc_yX12_unlike, by decide, by decide, by decide +kernel, by decide⟩
theorem kc_yX12_greater : Cond.code yX12_greater cX12_greater 4 (some .int) ∈ GT := gt_10 118 rfl rfl
theorem ml_RX12_710 : ML RX12 710 yX12_greater cX12_greater 4 3 (some .int) := ⟨gt_10 115 rfl rfl, gt_10 117 rfl rfl, gt_s (q := (yX12_greater, _)) 142 rfl rfl, gt_1 13 rfl rfl, kc_yX12_greater, by decide, by decide, by decide +kernel, by decide⟩
theorem kc_yX12_nameOf : Cond.code yX12_nameOf cX12_nameOf 2 (some .int) ∈ GT := gt_10 134 rfl rfl
theorem ml_RX12_714 : ML RX12 714 yX12_nameOf cX12_nameOf 2 1 (some .int) := ⟨gt_10 131 rfl rfl, gt_10 133 rfl rfl, gt_s (q := (yX12_nameOf, _)) 144 rfl rfl, gt_1 13 rfl rfl, kc_yX12_nameOf, by decide, by decide, by decide +kernel, by decide⟩
theorem kc_yX12_itemOf : Cond.code yX12_itemOf cX12_itemOf 2 (some .int) ∈ GT := gt_10 150 rfl rfl
theorem ml_RX12_717 : ML RX12 717 yX12_itemOf cX12_itemOf 2 1 (some .int) := ⟨gt_10 147 rfl rfl, gt_10 149 rfl rfl, gt_s (q := (yX12_itemOf, _)) 147 rfl rfl, gt_1 13 rfl rfl, kc_yX12_itemOf, by decide, by decide, by decide +kernel, by decide⟩
theorem kc_yX12_isTrue : Cond.code yX12_isTrue cX12_isTrue 3 (some .boolean) ∈ GT := gt_10 146 rfl rfl
theorem ml_RX12_720 : ML RX12 720 yX12_isTrue cX12_isTrue 3 2 (some .boolean) := ⟨gt_10 143 rfl rfl, gt_10 145 rfl rfl, gt_s (q := (yX12_isTrue, _)) 146 rfl rfl, gt_1 13 rfl rfl, kc_yX12_isTrue, by decide, by decide, by decide +kernel, by decide⟩
theorem kc_yX12_falseIn : Cond.code yX12_falseIn cX12_falseIn 4 (some .int) ∈ GT := gt_10 142 rfl rfl
theorem ml_RX12_723 : ML RX12 723 yX12_falseIn cX12_falseIn 4 1 (some .int) := ⟨gt_10 139 rfl rfl, gt_10 141 rfl rfl, gt_s (q := (yX12_falseIn, _)) 145 rfl rfl, gt_1 13 rfl rfl, kc_yX12_falseIn, by decide, by decide, by decide +kernel, by decide⟩
theorem kc_yX12_bits : Cond.code yX12_bits cX12_bits 3 (some .int) ∈ GT := gt_10 153 rfl rfl
theorem ms_RX12_726 : MS RX12 726 yX12_bits cX12_bits 3 1 (some .int) := ⟨gt_10 151 rfl rfl, gt_10 152 rfl rfl, gt_1 13 rfl rfl, kc_yX12_bits, by decide, by decide, by decide +kernel, by decide⟩
theorem kc_yX12_sumOf : Cond.code yX12_sumOf cX12_sumOf 5 (some .int) ∈ GT := gt_10 170 rfl rfl
theorem ml_RX12_730 : ML RX12 730 yX12_sumOf cX12_sumOf 5 2 (some .int) := ⟨gt_10 167 rfl rfl, gt_10 169 rfl rfl, gt_s (q := (yX12_sumOf, _)) 149 rfl rfl, gt_1 13 rfl rfl, kc_yX12_sumOf, by decide, by decide, by decide +kernel, by decide⟩
theorem ms_RX12_733 : MS RX12 733 yJ9_min_7cf53 cJ9_min_7cf53 2 2 (some .int) := ⟨gt_10 171 rfl rfl, gt_6 87 rfl rfl, gt_1 14 rfl rfl, kc_yJ9_min_7cf53, by decide, by decide, by decide +kernel, by decide⟩
theorem kc_yX12_leastOf : Cond.code yX12_leastOf cX12_leastOf 4 (some .int) ∈ GT := gt_10 166 rfl rfl
theorem ml_RX12_736 : ML RX12 736 yX12_leastOf cX12_leastOf 4 1 (some .int) := ⟨gt_10 163 rfl rfl, gt_10 165 rfl rfl, gt_s (q := (yX12_leastOf, _)) 148 rfl rfl, gt_1 13 rfl rfl, kc_yX12_leastOf, by decide, by decide, by decide +kernel, by decide⟩
theorem kc_yX12_goesTo : Cond.code yX12_goesTo cX12_goesTo 6 (some .boolean) ∈ GT := gt_10 187 rfl rfl
theorem ml_RX12_739 : ML RX12 739 yX12_goesTo cX12_goesTo 6 3 (some .boolean) := ⟨gt_10 184 rfl rfl, gt_10 186 rfl rfl, gt_s (q := (yX12_goesTo, _)) 151 rfl rfl, gt_1 13 rfl rfl, kc_yX12_goesTo, by decide, by decide, by decide +kernel, by decide⟩
theorem kc_yX12_isMended : Cond.code yX12_isMended cX12_isMended 10 (some .boolean) ∈ GT := gt_10 183 rfl rfl
theorem ml_RX12_742 : ML RX12 742 yX12_isMended cX12_isMended 10 4 (some .boolean) := ⟨gt_10 180 rfl rfl, gt_10 182 rfl rfl, gt_s (q := (yX12_isMended, _)) 150 rfl rfl, gt_1 13 rfl rfl, kc_yX12_isMended, by decide, by decide, by decide +kernel, by decide⟩
theorem kc_yX2_findOrders : Cond.code yX2_findOrders cX2_findOrders 4 none ∈ GT := gt_4 100 rfl rfl
theorem ml_RX2_52 : ML RX2 52 yX2_findOrders cX2_findOrders 4 0 none := ⟨gt_4 97 rfl rfl, gt_4 99 rfl rfl, gt_s (q := (yX2_findOrders, _)) 13 rfl rfl, gt_1 3 rfl rfl, kc_yX2_findOrders, by decide, by decide, by decide +kernel, by decide⟩
theorem kc_yX6_usedFacts : Cond.code yX6_usedFacts cX6_usedFacts 3 (some .int) ∈ GT := gt_6 61 rfl rfl
theorem ml_RX2_79 : ML RX2 79 yX6_usedFacts cX6_usedFacts 3 0 (some .int) := ⟨gt_6 58 rfl rfl, gt_6 59 rfl rfl, gt_6 60 rfl rfl, gt_1 6 rfl rfl, kc_yX6_usedFacts, by decide, by decide, by decide +kernel, by decide⟩
theorem ml_RX2_83 : ML RX2 83 yX2_itemsTold cX2_itemsTold 1 0 (some .int) := ⟨gt_4 101 rfl rfl, gt_4 102 rfl rfl, gt_4 103 rfl rfl, gt_1 3 rfl rfl, kc_yX2_itemsTold, by decide, by decide, by decide +kernel, by decide⟩
theorem ml_RX2_86 : ML RX2 86 yX2_itemAt cX2_itemAt 3 2 (some .int) := ⟨gt_5 58 rfl rfl, gt_5 43 rfl rfl, gt_5 44 rfl rfl, gt_1 3 rfl rfl, kc_yX2_itemAt, by decide, by decide, by decide +kernel, by decide⟩
theorem kc_yX2_hasDays : Cond.code yX2_hasDays cX2_hasDays 4 (some .boolean) ∈ GT := gt_4 108 rfl rfl
theorem ml_RX2_93 : ML RX2 93 yX2_hasDays cX2_hasDays 4 1 (some .boolean) := ⟨gt_4 105 rfl rfl, gt_4 107 rfl rfl, gt_s (q := (yX2_hasDays, _)) 14 rfl rfl, gt_1 3 rfl rfl, kc_yX2_hasDays, by decide, by decide, by decide +kernel, by decide⟩
theorem kc_yX2_packedRow : Cond.code yX2_packedRow cX2_packedRow 4 (some .int) ∈ GT := gt_4 123 rfl rfl
theorem ml_RX2_97 : ML RX2 97 yX2_packedRow cX2_packedRow 4 1 (some .int) := ⟨gt_4 120 rfl rfl, gt_4 122 rfl rfl, gt_s (q := (yX2_packedRow, _)) 17 rfl rfl, gt_1 3 rfl rfl, kc_yX2_packedRow, by decide, by decide, by decide +kernel, by decide⟩
theorem kc_yX2_stepRow : Cond.code yX2_stepRow cX2_stepRow 6 (some .boolean) ∈ GT := gt_4 127 rfl rfl
theorem ml_RX2_101 : ML RX2 101 yX2_stepRow cX2_stepRow 6 1 (some .boolean) := ⟨gt_4 124 rfl rfl, gt_4 126 rfl rfl, gt_s (q := (yX2_stepRow, _)) 18 rfl rfl, gt_1 3 rfl rfl, kc_yX2_stepRow, by decide, by decide, by decide +kernel, by decide⟩
theorem kc_yX2_firstDay : Cond.code yX2_firstDay cX2_firstDay 2 (some .int) ∈ GT := gt_4 112 rfl rfl
theorem ml_RX2_104 : ML RX2 104 yX2_firstDay cX2_firstDay 2 1 (some .int) := ⟨gt_4 109 rfl rfl, gt_4 111 rfl rfl, gt_s (q := (yX2_firstDay, _)) 15 rfl rfl, gt_1 3 rfl rfl, kc_yX2_firstDay, by decide, by decide, by decide +kernel, by decide⟩
theorem ms_RX2_107 : MS RX2 107 yJ9_max_7cf53 cJ9_max_7cf53 2 2 (some .int) := ⟨gt_4 113 rfl rfl, gt_4 114 rfl rfl, gt_1 14 rfl rfl, kc_yJ9_max_7cf53, by decide, by decide, by decide +kernel, by decide⟩
theorem kc_yX2_lastDay : Cond.code yX2_lastDay cX2_lastDay 2 (some .int) ∈ GT := gt_4 119 rfl rfl
theorem ml_RX2_112 : ML RX2 112 yX2_lastDay cX2_lastDay 2 1 (some .int) := ⟨gt_4 116 rfl rfl, gt_4 118 rfl rfl, gt_s (q := (yX2_lastDay, _)) 16 rfl rfl, gt_1 3 rfl rfl, kc_yX2_lastDay, by decide, by decide, by decide +kernel, by decide⟩
theorem kc_yX2_swapInRow : Cond.code yX2_swapInRow cX2_swapInRow 4 none ∈ GT := gt_4 131 rfl rfl
theorem ml_RX2_117 : ML RX2 117 yX2_swapInRow cX2_swapInRow 4 2 none := ⟨gt_4 128 rfl rfl, gt_4 130 rfl rfl, gt_s (q := (yX2_swapInRow, _)) 19 rfl rfl, gt_1 3 rfl rfl, kc_yX2_swapInRow, by decide, by decide, by decide +kernel, by decide⟩
theorem ml_RX3_39 : ML RX3 39 yX0_lawAndRing cX0_lawAndRing 7 1 (some .int) := ⟨gt_6 227 rfl rfl, gt_5 68 rfl rfl, gt_5 69 rfl rfl, gt_1 4 rfl rfl, kc_yX0_lawAndRing, by decide, by decide, by decide +kernel, by decide⟩
theorem kc_yJ7_fill_53178 : Cond.code yJ7_fill_53178 cJ7_fill_53178 4 none ∈ GT := gt_5 134 rfl rfl
theorem ms_RX3_48 : MS RX3 48 yJ7_fill_53178 cJ7_fill_53178 4 2 none := ⟨gt_6 228 rfl rfl, gt_5 133 rfl rfl, gt_1 20 rfl rfl, kc_yJ7_fill_53178, by decide, by decide, by decide +kernel, by decide⟩
theorem kc_yJ6_bitCount_0f7a4 : Cond.code yJ6_bitCount_0f7a4 cJ6_bitCount_0f7a4 1 (some .int) ∈ GT := gt_4 178 rfl rfl
theorem ms_RX3_54 : MS RX3 54 yJ6_bitCount_0f7a4 cJ6_bitCount_0f7a4 1 1 (some .int) := ⟨gt_6 229 rfl rfl, gt_4 177 rfl rfl, gt_1 19 rfl rfl, kc_yJ6_bitCount_0f7a4, by decide, by decide, by decide +kernel, by decide⟩
theorem kc_yX3_isEnough : Cond.code yX3_isEnough cX3_isEnough 6 (some .boolean) ∈ GT := gt_6 233 rfl rfl
theorem ml_RX3_59 : ML RX3 59 yX3_isEnough cX3_isEnough 6 1 (some .boolean) := ⟨gt_6 230 rfl rfl, gt_6 232 rfl rfl, gt_s (q := (yX3_isEnough, _)) 64 rfl rfl, gt_1 12 rfl rfl, kc_yX3_isEnough, by decide, by decide, by decide +kernel, by decide⟩
theorem kc_yX7_forgetMending : Cond.code yX7_forgetMending cX7_forgetMending 1 none ∈ GT := gt_7 16 rfl rfl
theorem ml_RX3_63 : ML RX3 63 yX7_forgetMending cX7_forgetMending 1 0 none := ⟨gt_7 13 rfl rfl, gt_7 14 rfl rfl, gt_7 15 rfl rfl, gt_1 8 rfl rfl, kc_yX7_forgetMending, by decide, by decide, by decide +kernel, by decide⟩
theorem ml_RX3_72 : ML RX3 72 yX6_isGoodBy cX6_isGoodBy 9 3 (some .boolean) := ⟨gt_6 234 rfl rfl, gt_5 85 rfl rfl, gt_5 86 rfl rfl, gt_1 6 rfl rfl, kc_yX6_isGoodBy, by decide, by decide, by decide +kernel, by decide⟩
theorem kc_yX7_mendFor : Cond.code yX7_mendFor cX7_mendFor 5 none ∈ GT := gt_6 238 rfl rfl
theorem ml_RX3_82 : ML RX3 82 yX7_mendFor cX7_mendFor 5 4 none := ⟨gt_6 235 rfl rfl, gt_6 236 rfl rfl, gt_6 237 rfl rfl, gt_1 8 rfl rfl, kc_yX7_mendFor, by decide, by decide, by decide +kernel, by decide⟩
theorem kc_yX3_goesRightInAll : Cond.code yX3_goesRightInAll cX3_goesRightInAll 9 (some .boolean) ∈ GT := gt_7 6 rfl rfl
theorem ml_RX3_86 : ML RX3 86 yX3_goesRightInAll cX3_goesRightInAll 9 1 (some .boolean) := ⟨gt_7 3 rfl rfl, gt_7 5 rfl rfl, gt_s (q := (yX3_goesRightInAll, _)) 65 rfl rfl, gt_1 12 rfl rfl, kc_yX3_goesRightInAll, by decide, by decide, by decide +kernel, by decide⟩
theorem ml_RX3_93 : ML RX3 93 yX2_itemsTold cX2_itemsTold 1 0 (some .int) := ⟨gt_7 7 rfl rfl, gt_4 102 rfl rfl, gt_4 103 rfl rfl, gt_1 3 rfl rfl, kc_yX2_itemsTold, by decide, by decide, by decide +kernel, by decide⟩
theorem ml_RX3_97 : ML RX3 97 yX2_unusedFacts cX2_unusedFacts 3 0 (some .int) := ⟨gt_7 8 rfl rfl, gt_6 55 rfl rfl, gt_6 56 rfl rfl, gt_1 3 rfl rfl, kc_yX2_unusedFacts, by decide, by decide, by decide +kernel, by decide⟩
theorem ml_RX3_100 : ML RX3 100 yX2_waysFound cX2_waysFound 1 0 (some .int) := ⟨gt_7 9 rfl rfl, gt_5 98 rfl rfl, gt_5 99 rfl rfl, gt_1 3 rfl rfl, kc_yX2_waysFound, by decide, by decide, by decide +kernel, by decide⟩
theorem ml_RX3_103 : ML RX3 103 yX2_itemAt cX2_itemAt 3 2 (some .int) := ⟨gt_7 10 rfl rfl, gt_5 43 rfl rfl, gt_5 44 rfl rfl, gt_1 3 rfl rfl, kc_yX2_itemAt, by decide, by decide, by decide +kernel, by decide⟩
theorem ml_RX3_107 : ML RX3 107 yX7_takeWayFor cX7_takeWayFor 3 2 none := ⟨gt_7 11 rfl rfl, gt_5 174 rfl rfl, gt_5 175 rfl rfl, gt_1 8 rfl rfl, kc_yX7_takeWayFor, by decide, by decide, by decide +kernel, by decide⟩
theorem ml_RX3_111 : ML RX3 111 yX7_partThing cX7_partThing 4 1 (some .int) := ⟨gt_7 12 rfl rfl, gt_5 178 rfl rfl, gt_5 179 rfl rfl, gt_1 8 rfl rfl, kc_yX7_partThing, by decide, by decide, by decide +kernel, by decide⟩
theorem ms_RX5_50 : MS RX5 50 yJ7_fill_53178 cJ7_fill_53178 4 2 none := ⟨gt_6 51 rfl rfl, gt_5 133 rfl rfl, gt_1 20 rfl rfl, kc_yJ7_fill_53178, by decide, by decide, by decide +kernel, by decide⟩
theorem ml_RX5_56 : ML RX5 56 yX2_waysFound cX2_waysFound 1 0 (some .int) := ⟨gt_6 52 rfl rfl, gt_5 98 rfl rfl, gt_5 99 rfl rfl, gt_1 3 rfl rfl, kc_yX2_waysFound, by decide, by decide, by decide +kernel, by decide⟩
theorem ml_RX5_60 : ML RX5 60 yX7_makeReady cX7_makeReady 1 0 none := ⟨gt_6 53 rfl rfl, gt_5 102 rfl rfl, gt_5 103 rfl rfl, gt_1 8 rfl rfl, kc_yX7_makeReady, by decide, by decide, by decide +kernel, by decide⟩
theorem ml_RX5_65 : ML RX5 65 yX2_unusedFacts cX2_unusedFacts 3 0 (some .int) := ⟨gt_6 54 rfl rfl, gt_6 55 rfl rfl, gt_6 56 rfl rfl, gt_1 3 rfl rfl, kc_yX2_unusedFacts, by decide, by decide, by decide +kernel, by decide⟩
theorem ml_RX5_68 : ML RX5 68 yX7_takeWay cX7_takeWay 3 1 none := ⟨gt_6 62 rfl rfl, gt_5 236 rfl rfl, gt_5 237 rfl rfl, gt_1 8 rfl rfl, kc_yX7_takeWay, by decide, by decide, by decide +kernel, by decide⟩
theorem ml_RX5_72 : ML RX5 72 yX7_addUp cX7_addUp 3 0 none := ⟨gt_6 63 rfl rfl, gt_6 26 rfl rfl, gt_6 27 rfl rfl, gt_1 8 rfl rfl, kc_yX7_addUp, by decide, by decide, by decide +kernel, by decide⟩
theorem kc_yX5_numberOf : Cond.code yX5_numberOf cX5_numberOf 5 (some .int) ∈ GT := gt_6 67 rfl rfl
theorem ml_RX5_78 : ML RX5 78 yX5_numberOf cX5_numberOf 5 1 (some .int) := ⟨gt_6 64 rfl rfl, gt_6 66 rfl rfl, gt_s (q := (yX5_numberOf, _)) 52 rfl rfl, gt_1 10 rfl rfl, kc_yX5_numberOf, by decide, by decide, by decide +kernel, by decide⟩
theorem kc_yX5_isRow : Cond.code yX5_isRow cX5_isRow 4 (some .boolean) ∈ GT := gt_6 71 rfl rfl
theorem ml_RX5_82 : ML RX5 82 yX5_isRow cX5_isRow 4 2 (some .boolean) := ⟨gt_6 68 rfl rfl, gt_6 70 rfl rfl, gt_s (q := (yX5_isRow, _)) 53 rfl rfl, gt_1 10 rfl rfl, kc_yX5_isRow, by decide, by decide, by decide +kernel, by decide⟩
theorem kc_yX5_addRow : Cond.code yX5_addRow cX5_addRow 3 (some .int) ∈ GT := gt_6 75 rfl rfl
theorem ml_RX5_86 : ML RX5 86 yX5_addRow cX5_addRow 3 2 (some .int) := ⟨gt_6 72 rfl rfl, gt_6 74 rfl rfl, gt_s (q := (yX5_addRow, _)) 54 rfl rfl, gt_1 10 rfl rfl, kc_yX5_addRow, by decide, by decide, by decide +kernel, by decide⟩
theorem kc_yJ7_copyOf_59c91 : Cond.code yJ7_copyOf_59c91 cJ7_copyOf_59c91 3 (some (.array .int)) ∈ GT := gt_6 78 rfl rfl
theorem ms_RX5_90 : MS RX5 90 yJ7_copyOf_59c91 cJ7_copyOf_59c91 3 2 (some (.array .int)) := ⟨gt_6 76 rfl rfl, gt_6 77 rfl rfl, gt_1 20 rfl rfl, kc_yJ7_copyOf_59c91, by decide, by decide, by decide +kernel, by decide⟩
theorem ms_RX5_100 : MS RX5 100 yJ9_min_7cf53 cJ9_min_7cf53 2 2 (some .int) := ⟨gt_6 102 rfl rfl, gt_6 87 rfl rfl, gt_1 14 rfl rfl, kc_yJ9_min_7cf53, by decide, by decide, by decide +kernel, by decide⟩
theorem ms_RX5_106 : MS RX5 106 yJ9_max_7cf53 cJ9_max_7cf53 2 2 (some .int) := ⟨gt_6 97 rfl rfl, gt_4 114 rfl rfl, gt_1 14 rfl rfl, kc_yJ9_max_7cf53, by decide, by decide, by decide +kernel, by decide⟩
theorem kc_yX5_unlikeByFact : Cond.code yX5_unlikeByFact cX5_unlikeByFact 4 (some .int) ∈ GT := gt_6 131 rfl rfl
theorem ml_RX5_109 : ML RX5 109 yX5_unlikeByFact cX5_unlikeByFact 4 1 (some .int) := ⟨gt_6 128 rfl rfl, gt_6 130 rfl rfl, gt_s (q := (yX5_unlikeByFact, _)) 55 rfl rfl, gt_1 10 rfl rfl, kc_yX5_unlikeByFact, by decide, by decide, by decide +kernel, by decide⟩
theorem ml_RX5_113 : ML RX5 113 yX2_itemsTold cX2_itemsTold 1 0 (some .int) := ⟨gt_6 136 rfl rfl, gt_4 102 rfl rfl, gt_4 103 rfl rfl, gt_1 3 rfl rfl, kc_yX2_itemsTold, by decide, by decide, by decide +kernel, by decide⟩
theorem kc_yX5_unlikeByOrder : Cond.code yX5_unlikeByOrder cX5_unlikeByOrder 6 (some .int) ∈ GT := gt_6 140 rfl rfl
theorem ml_RX5_116 : ML RX5 116 yX5_unlikeByOrder cX5_unlikeByOrder 6 2 (some .int) := ⟨gt_6 137 rfl rfl, gt_6 139 rfl rfl, gt_s (q := (yX5_unlikeByOrder, _)) 57 rfl rfl, gt_1 10 rfl rfl, kc_yX5_unlikeByOrder, by decide, by decide, by decide +kernel, by decide⟩
theorem kc_yX5_greaterOfAnswers : Cond.code yX5_greaterOfAnswers cX5_greaterOfAnswers 4 (some .int) ∈ GT := gt_6 135 rfl rfl
theorem ml_RX5_119 : ML RX5 119 yX5_greaterOfAnswers cX5_greaterOfAnswers 4 0 (some .int) := ⟨gt_6 132 rfl rfl, gt_6 134 rfl rfl, gt_s (q := (yX5_greaterOfAnswers, _)) 56 rfl rfl, gt_1 10 rfl rfl, kc_yX5_greaterOfAnswers, by decide, by decide, by decide +kernel, by decide⟩
theorem ml_RX5_122 : ML RX5 122 yX2_isAhead cX2_isAhead 7 3 (some .boolean) := ⟨gt_6 141 rfl rfl, gt_5 55 rfl rfl, gt_5 56 rfl rfl, gt_1 3 rfl rfl, kc_yX2_isAhead, by decide, by decide, by decide +kernel, by decide⟩
theorem kc_yX6_clear : Cond.code yX6_clear cX6_clear 1 none ∈ GT := gt_4 144 rfl rfl
theorem ml_RX6_65 : ML RX6 65 yX6_clear cX6_clear 1 0 none := ⟨gt_4 141 rfl rfl, gt_4 143 rfl rfl, gt_s (q := (yX6_clear, _)) 20 rfl rfl, gt_1 6 rfl rfl, kc_yX6_clear, by decide, by decide, by decide +kernel, by decide⟩
theorem ml_RX6_68 : ML RX6 68 yX10_open cX10_open 1 0 none := ⟨gt_4 145 rfl rfl, gt_3 125 rfl rfl, gt_3 126 rfl rfl, gt_1 2 rfl rfl, kc_yX10_open, by decide, by decide, by decide +kernel, by decide⟩
theorem ml_RX6_73 : ML RX6 73 yX10_goesOn cX10_goesOn 1 0 (some .boolean) := ⟨gt_4 146 rfl rfl, gt_3 133 rfl rfl, gt_3 134 rfl rfl, gt_1 2 rfl rfl, kc_yX10_goesOn, by decide, by decide, by decide +kernel, by decide⟩
theorem kc_yX6_readClause : Cond.code yX6_readClause cX6_readClause 4 none ∈ GT := gt_4 150 rfl rfl
theorem ml_RX6_77 : ML RX6 77 yX6_readClause cX6_readClause 4 3 none := ⟨gt_4 147 rfl rfl, gt_4 149 rfl rfl, gt_s (q := (yX6_readClause, _)) 21 rfl rfl, gt_1 6 rfl rfl, kc_yX6_readClause, by decide, by decide, by decide +kernel, by decide⟩
theorem ml_RX6_81 : ML RX6 81 yX10_needMark cX10_needMark 1 0 none := ⟨gt_4 227 rfl rfl, gt_4 69 rfl rfl, gt_4 70 rfl rfl, gt_1 2 rfl rfl, kc_yX10_needMark, by decide, by decide, by decide +kernel, by decide⟩
theorem ml_RX6_84 : ML RX6 84 yX10_hasFailed cX10_hasFailed 1 0 (some .boolean) := ⟨gt_4 228 rfl rfl, gt_3 219 rfl rfl, gt_3 220 rfl rfl, gt_1 2 rfl rfl, kc_yX10_hasFailed, by decide, by decide, by decide +kernel, by decide⟩
theorem ml_RX6_89 : ML RX6 89 yX10_is cX10_is 3 1 (some .boolean) := ⟨gt_4 152 rfl rfl, gt_3 142 rfl rfl, gt_3 143 rfl rfl, gt_1 2 rfl rfl, kc_yX10_is, by decide, by decide, by decide +kernel, by decide⟩
theorem kc_yX6_readDays : Cond.code yX6_readDays cX6_readDays 2 none ∈ GT := gt_4 156 rfl rfl
theorem ml_RX6_93 : ML RX6 93 yX6_readDays cX6_readDays 2 1 none := ⟨gt_4 153 rfl rfl, gt_4 155 rfl rfl, gt_s (q := (yX6_readDays, _)) 22 rfl rfl, gt_1 6 rfl rfl, kc_yX6_readDays, by decide, by decide, by decide +kernel, by decide⟩
theorem kc_yX6_passOnce : Cond.code yX6_passOnce cX6_passOnce 3 none ∈ GT := gt_4 160 rfl rfl
theorem ml_RX6_99 : ML RX6 99 yX6_passOnce cX6_passOnce 3 2 none := ⟨gt_4 157 rfl rfl, gt_4 159 rfl rfl, gt_s (q := (yX6_passOnce, _)) 23 rfl rfl, gt_1 6 rfl rfl, kc_yX6_passOnce, by decide, by decide, by decide +kernel, by decide⟩
theorem kc_yX6_readWitness : Cond.code yX6_readWitness cX6_readWitness 3 none ∈ GT := gt_4 175 rfl rfl
theorem ml_RX6_109 : ML RX6 109 yX6_readWitness cX6_readWitness 3 2 none := ⟨gt_4 172 rfl rfl, gt_4 174 rfl rfl, gt_s (q := (yX6_readWitness, _)) 24 rfl rfl, gt_1 6 rfl rfl, kc_yX6_readWitness, by decide, by decide, by decide +kernel, by decide⟩
theorem kc_yX6_readGift : Cond.code yX6_readGift cX6_readGift 3 none ∈ GT := gt_4 191 rfl rfl
theorem ml_RX6_117 : ML RX6 117 yX6_readGift cX6_readGift 3 2 none := ⟨gt_4 188 rfl rfl, gt_4 190 rfl rfl, gt_s (q := (yX6_readGift, _)) 25 rfl rfl, gt_1 6 rfl rfl, kc_yX6_readGift, by decide, by decide, by decide +kernel, by decide⟩
theorem kc_yX6_readRest : Cond.code yX6_readRest cX6_readRest 4 none ∈ GT := gt_4 212 rfl rfl
theorem ml_RX6_121 : ML RX6 121 yX6_readRest cX6_readRest 4 2 none := ⟨gt_4 209 rfl rfl, gt_4 211 rfl rfl, gt_s (q := (yX6_readRest, _)) 27 rfl rfl, gt_1 6 rfl rfl, kc_yX6_readRest, by decide, by decide, by decide +kernel, by decide⟩
theorem ml_RX6_126 : ML RX6 126 yX10_passes cX10_passes 2 1 (some .boolean) := ⟨gt_4 192 rfl rfl, gt_4 52 rfl rfl, gt_4 53 rfl rfl, gt_1 2 rfl rfl, kc_yX10_passes, by decide, by decide, by decide +kernel, by decide⟩
theorem kc_yX6_readUndo : Cond.code yX6_readUndo cX6_readUndo 3 none ∈ GT := gt_4 218 rfl rfl
theorem ml_RX6_129 : ML RX6 129 yX6_readUndo cX6_readUndo 3 2 none := ⟨gt_4 215 rfl rfl, gt_4 217 rfl rfl, gt_s (q := (yX6_readUndo, _)) 28 rfl rfl, gt_1 6 rfl rfl, kc_yX6_readUndo, by decide, by decide, by decide +kernel, by decide⟩
theorem kc_yX10_paperNumber : Cond.code yX10_paperNumber cX10_paperNumber 4 (some .int) ∈ GT := gt_4 223 rfl rfl
theorem ml_RX6_134 : ML RX6 134 yX10_paperNumber cX10_paperNumber 4 2 (some .int) := ⟨gt_4 220 rfl rfl, gt_4 221 rfl rfl, gt_4 222 rfl rfl, gt_1 2 rfl rfl, kc_yX10_paperNumber, by decide, by decide, by decide +kernel, by decide⟩
theorem kc_yX6_bit : Cond.code yX6_bit cX6_bit 1 (some .int) ∈ GT := gt_4 185 rfl rfl
theorem ms_RX6_138 : MS RX6 138 yX6_bit cX6_bit 1 1 (some .int) := ⟨gt_4 183 rfl rfl, gt_4 184 rfl rfl, gt_1 6 rfl rfl, kc_yX6_bit, by decide, by decide, by decide +kernel, by decide⟩
theorem ml_RX6_143 : ML RX6 143 yX10_fail cX10_fail 2 1 none := ⟨gt_4 165 rfl rfl, gt_3 205 rfl rfl, gt_3 206 rfl rfl, gt_1 2 rfl rfl, kc_yX10_fail, by decide, by decide, by decide +kernel, by decide⟩
theorem ml_RX6_147 : ML RX6 147 yX6_isMarked cX6_isMarked 2 1 (some .boolean) := ⟨gt_4 161 rfl rfl, gt_4 162 rfl rfl, gt_4 163 rfl rfl, gt_1 6 rfl rfl, kc_yX6_isMarked, by decide, by decide, by decide +kernel, by decide⟩
theorem ml_RX6_151 : ML RX6 151 yX10_step cX10_step 1 0 none := ⟨gt_4 166 rfl rfl, gt_3 129 rfl rfl, gt_3 130 rfl rfl, gt_1 2 rfl rfl, kc_yX10_step, by decide, by decide, by decide +kernel, by decide⟩
theorem ml_RX6_154 : ML RX6 154 yX10_number cX10_number 4 2 (some .int) := ⟨gt_4 167 rfl rfl, gt_4 10 rfl rfl, gt_4 11 rfl rfl, gt_1 2 rfl rfl, kc_yX10_number, by decide, by decide, by decide +kernel, by decide⟩
theorem ms_RX6_157 : MS RX6 157 yJ6_bitCount_0f7a4 cJ6_bitCount_0f7a4 1 1 (some .int) := ⟨gt_4 176 rfl rfl, gt_4 177 rfl rfl, gt_1 19 rfl rfl, kc_yJ6_bitCount_0f7a4, by decide, by decide, by decide +kernel, by decide⟩
theorem ml_RX6_168 : ML RX6 168 yX10_known cX10_known 4 2 (some .int) := ⟨gt_4 182 rfl rfl, gt_4 35 rfl rfl, gt_4 36 rfl rfl, gt_1 2 rfl rfl, kc_yX10_known, by decide, by decide, by decide +kernel, by decide⟩
theorem kc_yX10_need : Cond.code yX10_need cX10_need 2 none ∈ GT := gt_4 196 rfl rfl
theorem ml_RX6_175 : ML RX6 175 yX10_need cX10_need 2 1 none := ⟨gt_4 193 rfl rfl, gt_4 194 rfl rfl, gt_4 195 rfl rfl, gt_1 2 rfl rfl, kc_yX10_need, by decide, by decide, by decide +kernel, by decide⟩
theorem kc_yX6_readIf : Cond.code yX6_readIf cX6_readIf 3 none ∈ GT := gt_4 202 rfl rfl
theorem ml_RX6_182 : ML RX6 182 yX6_readIf cX6_readIf 3 2 none := ⟨gt_4 199 rfl rfl, gt_4 201 rfl rfl, gt_s (q := (yX6_readIf, _)) 26 rfl rfl, gt_1 6 rfl rfl, kc_yX6_readIf, by decide, by decide, by decide +kernel, by decide⟩
theorem ml_RX6_201 : ML RX6 201 yX0_ruleOf cX0_ruleOf 3 2 (some .int) := ⟨gt_5 88 rfl rfl, gt_5 26 rfl rfl, gt_5 27 rfl rfl, gt_1 4 rfl rfl, kc_yX0_ruleOf, by decide, by decide, by decide +kernel, by decide⟩
theorem kc_yX8_init : Cond.code yX8_init cX8_init 2 none ∈ GT := gt_2 113 rfl rfl
theorem kc_yX7_prepare : Cond.code yX7_prepare cX7_prepare 3 none ∈ GT := gt_5 108 rfl rfl
theorem ml_RX7_52 : ML RX7 52 yX7_prepare cX7_prepare 3 0 none := ⟨gt_5 105 rfl rfl, gt_5 107 rfl rfl, gt_s (q := (yX7_prepare, _)) 35 rfl rfl, gt_1 8 rfl rfl, kc_yX7_prepare, by decide, by decide, by decide +kernel, by decide⟩
theorem kc_yX7_setWay : Cond.code yX7_setWay cX7_setWay 2 none ∈ GT := gt_5 127 rfl rfl
theorem ml_RX7_55 : ML RX7 55 yX7_setWay cX7_setWay 2 1 none := ⟨gt_5 124 rfl rfl, gt_5 126 rfl rfl, gt_s (q := (yX7_setWay, _)) 37 rfl rfl, gt_1 8 rfl rfl, kc_yX7_setWay, by decide, by decide, by decide +kernel, by decide⟩
theorem kc_yX8_run : Cond.code yX8_run cX8_run 8 none ∈ GT := gt_5 131 rfl rfl
theorem ml_RX7_68 : ML RX7 68 yX8_run cX8_run 8 2 none := ⟨gt_5 128 rfl rfl, gt_5 129 rfl rfl, gt_5 130 rfl rfl, gt_1 9 rfl rfl, kc_yX8_run, by decide, by decide, by decide +kernel, by decide⟩
theorem kc_yX8_setLaw : Cond.code yX8_setLaw cX8_setLaw 5 none ∈ GT := gt_5 112 rfl rfl
theorem ml_RX7_87 : ML RX7 87 yX8_setLaw cX8_setLaw 5 1 none := ⟨gt_5 109 rfl rfl, gt_5 110 rfl rfl, gt_5 111 rfl rfl, gt_1 9 rfl rfl, kc_yX8_setLaw, by decide, by decide, by decide +kernel, by decide⟩
theorem ml_RX7_90 : ML RX7 90 yX0_lawAndRing cX0_lawAndRing 7 1 (some .int) := ⟨gt_5 119 rfl rfl, gt_5 68 rfl rfl, gt_5 69 rfl rfl, gt_1 4 rfl rfl, kc_yX0_lawAndRing, by decide, by decide, by decide +kernel, by decide⟩
theorem kc_yX8_setMended : Cond.code yX8_setMended cX8_setMended 5 none ∈ GT := gt_7 2 rfl rfl
theorem ml_RX7_100 : ML RX7 100 yX8_setMended cX8_setMended 5 3 none := ⟨gt_6 239 rfl rfl, gt_7 0 rfl rfl, gt_7 1 rfl rfl, gt_1 9 rfl rfl, kc_yX8_setMended, by decide, by decide, by decide +kernel, by decide⟩
theorem ms_RX7_104 : MS RX7 104 yJ7_fill_53178 cJ7_fill_53178 4 2 none := ⟨gt_5 181 rfl rfl, gt_5 133 rfl rfl, gt_1 20 rfl rfl, kc_yJ7_fill_53178, by decide, by decide, by decide +kernel, by decide⟩
theorem kc_yX7_givenTo : Cond.code yX7_givenTo cX7_givenTo 8 (some .int) ∈ GT := gt_5 185 rfl rfl
theorem ml_RX7_113 : ML RX7 113 yX7_givenTo cX7_givenTo 8 2 (some .int) := ⟨gt_5 182 rfl rfl, gt_5 184 rfl rfl, gt_s (q := (yX7_givenTo, _)) 43 rfl rfl, gt_1 8 rfl rfl, kc_yX7_givenTo, by decide, by decide, by decide +kernel, by decide⟩
theorem kc_yX7_partLeft : Cond.code yX7_partLeft cX7_partLeft 9 (some .int) ∈ GT := gt_5 207 rfl rfl
theorem ml_RX7_117 : ML RX7 117 yX7_partLeft cX7_partLeft 9 2 (some .int) := ⟨gt_5 204 rfl rfl, gt_5 206 rfl rfl, gt_s (q := (yX7_partLeft, _)) 45 rfl rfl, gt_1 8 rfl rfl, kc_yX7_partLeft, by decide, by decide, by decide +kernel, by decide⟩
theorem ml_RX7_121 : ML RX7 121 yX2_itemsTold cX2_itemsTold 1 0 (some .int) := ⟨gt_5 186 rfl rfl, gt_4 102 rfl rfl, gt_4 103 rfl rfl, gt_1 3 rfl rfl, kc_yX2_itemsTold, by decide, by decide, by decide +kernel, by decide⟩
theorem ml_RX7_125 : ML RX7 125 yX2_itemAt cX2_itemAt 3 2 (some .int) := ⟨gt_5 187 rfl rfl, gt_5 43 rfl rfl, gt_5 44 rfl rfl, gt_1 3 rfl rfl, kc_yX2_itemAt, by decide, by decide, by decide +kernel, by decide⟩
theorem kc_yX8_isCounting : Cond.code yX8_isCounting cX8_isCounting 2 (some .boolean) ∈ GT := gt_5 191 rfl rfl
theorem ml_RX7_131 : ML RX7 131 yX8_isCounting cX8_isCounting 2 1 (some .boolean) := ⟨gt_5 188 rfl rfl, gt_5 189 rfl rfl, gt_5 190 rfl rfl, gt_1 9 rfl rfl, kc_yX8_isCounting, by decide, by decide, by decide +kernel, by decide⟩
theorem kc_yX8_voidOf : Cond.code yX8_voidOf cX8_voidOf 3 (some .int) ∈ GT := gt_5 195 rfl rfl
theorem ml_RX7_139 : ML RX7 139 yX8_voidOf cX8_voidOf 3 1 (some .int) := ⟨gt_5 192 rfl rfl, gt_5 193 rfl rfl, gt_5 194 rfl rfl, gt_1 9 rfl rfl, kc_yX8_voidOf, by decide, by decide, by decide +kernel, by decide⟩
theorem kc_yX7_isHolding : Cond.code yX7_isHolding cX7_isHolding 5 (some .boolean) ∈ GT := gt_5 199 rfl rfl
theorem ml_RX7_150 : ML RX7 150 yX7_isHolding cX7_isHolding 5 3 (some .boolean) := ⟨gt_5 196 rfl rfl, gt_5 198 rfl rfl, gt_s (q := (yX7_isHolding, _)) 44 rfl rfl, gt_1 8 rfl rfl, kc_yX7_isHolding, by decide, by decide, by decide +kernel, by decide⟩
theorem kc_yX6_isIfSo : Cond.code yX6_isIfSo cX6_isIfSo 5 (some .boolean) ∈ GT := gt_5 203 rfl rfl
theorem ml_RX7_160 : ML RX7 160 yX6_isIfSo cX6_isIfSo 5 3 (some .boolean) := ⟨gt_5 200 rfl rfl, gt_5 201 rfl rfl, gt_5 202 rfl rfl, gt_1 6 rfl rfl, kc_yX6_isIfSo, by decide, by decide, by decide +kernel, by decide⟩
theorem kc_yX7_heirsOfRest : Cond.code yX7_heirsOfRest cX7_heirsOfRest 6 (some .int) ∈ GT := gt_5 211 rfl rfl
theorem ml_RX7_164 : ML RX7 164 yX7_heirsOfRest cX7_heirsOfRest 6 1 (some .int) := ⟨gt_5 208 rfl rfl, gt_5 210 rfl rfl, gt_s (q := (yX7_heirsOfRest, _)) 46 rfl rfl, gt_1 8 rfl rfl, kc_yX7_heirsOfRest, by decide, by decide, by decide +kernel, by decide⟩
theorem kc_yX7_partEqually : Cond.code yX7_partEqually cX7_partEqually 7 none ∈ GT := gt_5 215 rfl rfl
theorem ml_RX7_168 : ML RX7 168 yX7_partEqually cX7_partEqually 7 2 none := ⟨gt_5 212 rfl rfl, gt_5 214 rfl rfl, gt_s (q := (yX7_partEqually, _)) 47 rfl rfl, gt_1 8 rfl rfl, kc_yX7_partEqually, by decide, by decide, by decide +kernel, by decide⟩
theorem ml_RX7_174 : ML RX7 174 yX0_isDead cX0_isDead 2 1 (some .boolean) := ⟨gt_5 217 rfl rfl, gt_4 82 rfl rfl, gt_4 83 rfl rfl, gt_1 4 rfl rfl, kc_yX0_isDead, by decide, by decide, by decide +kernel, by decide⟩
theorem ml_RX7_180 : ML RX7 180 yX0_ruleOf cX0_ruleOf 3 2 (some .int) := ⟨gt_5 218 rfl rfl, gt_5 26 rfl rfl, gt_5 27 rfl rfl, gt_1 4 rfl rfl, kc_yX0_ruleOf, by decide, by decide, by decide +kernel, by decide⟩
theorem ms_RX7_192 : MS RX7 192 yJ6_bitCount_0f7a4 cJ6_bitCount_0f7a4 1 1 (some .int) := ⟨gt_5 216 rfl rfl, gt_4 177 rfl rfl, gt_1 19 rfl rfl, kc_yJ6_bitCount_0f7a4, by decide, by decide, by decide +kernel, by decide⟩
theorem kc_yX7_findPays : Cond.code yX7_findPays cX7_findPays 5 none ∈ GT := gt_6 6 rfl rfl
theorem ml_RX7_197 : ML RX7 197 yX7_findPays cX7_findPays 5 1 none := ⟨gt_6 3 rfl rfl, gt_6 5 rfl rfl, gt_s (q := (yX7_findPays, _)) 49 rfl rfl, gt_1 8 rfl rfl, kc_yX7_findPays, by decide, by decide, by decide +kernel, by decide⟩
theorem kc_yX0_moneyThereIs : Cond.code yX0_moneyThereIs cX0_moneyThereIs 1 (some .int) ∈ GT := gt_6 14 rfl rfl
theorem ml_RX7_201 : ML RX7 201 yX0_moneyThereIs cX0_moneyThereIs 1 0 (some .int) := ⟨gt_6 11 rfl rfl, gt_6 12 rfl rfl, gt_6 13 rfl rfl, gt_1 4 rfl rfl, kc_yX0_moneyThereIs, by decide, by decide, by decide +kernel, by decide⟩
theorem kc_yX7_cutPays : Cond.code yX7_cutPays cX7_cutPays 5 none ∈ GT := gt_6 19 rfl rfl
theorem ml_RX7_207 : ML RX7 207 yX7_cutPays cX7_cutPays 5 2 none := ⟨gt_6 16 rfl rfl, gt_6 18 rfl rfl, gt_s (q := (yX7_cutPays, _)) 51 rfl rfl, gt_1 8 rfl rfl, kc_yX7_cutPays, by decide, by decide, by decide +kernel, by decide⟩
theorem ms_RX7_210 : MS RX7 210 yJ9_max_7cf53 cJ9_max_7cf53 2 2 (some .int) := ⟨gt_6 20 rfl rfl, gt_4 114 rfl rfl, gt_1 14 rfl rfl, kc_yJ9_max_7cf53, by decide, by decide, by decide +kernel, by decide⟩
theorem kc_yX7_findPaysOf : Cond.code yX7_findPaysOf cX7_findPaysOf 4 none ∈ GT := gt_6 10 rfl rfl
theorem ml_RX7_215 : ML RX7 215 yX7_findPaysOf cX7_findPaysOf 4 2 none := ⟨gt_6 7 rfl rfl, gt_6 9 rfl rfl, gt_s (q := (yX7_findPaysOf, _)) 50 rfl rfl, gt_1 8 rfl rfl, kc_yX7_findPaysOf, by decide, by decide, by decide +kernel, by decide⟩
theorem ml_RX7_222 : ML RX7 222 yX7_partMoney cX7_partMoney 4 0 none := ⟨gt_6 29 rfl rfl, gt_6 0 rfl rfl, gt_6 1 rfl rfl, gt_1 8 rfl rfl, kc_yX7_partMoney, by decide, by decide, by decide +kernel, by decide⟩
theorem ml_RX7_225 : ML RX7 225 yX7_partThing cX7_partThing 4 1 (some .int) := ⟨gt_6 30 rfl rfl, gt_5 178 rfl rfl, gt_5 179 rfl rfl, gt_1 8 rfl rfl, kc_yX7_partThing, by decide, by decide, by decide +kernel, by decide⟩
theorem kc_yX0_isOfTheLine : Cond.code yX0_isOfTheLine cX0_isOfTheLine 2 (some .boolean) ∈ GT := gt_6 42 rfl rfl
theorem ml_RX7_228 : ML RX7 228 yX0_isOfTheLine cX0_isOfTheLine 2 1 (some .boolean) := ⟨gt_6 39 rfl rfl, gt_6 40 rfl rfl, gt_6 41 rfl rfl, gt_1 4 rfl rfl, kc_yX0_isOfTheLine, by decide, by decide, by decide +kernel, by decide⟩
theorem ml_RX8_30 : ML RX8 30 yX0_ruleOf cX0_ruleOf 3 2 (some .int) := ⟨gt_5 113 rfl rfl, gt_5 26 rfl rfl, gt_5 27 rfl rfl, gt_1 4 rfl rfl, kc_yX0_ruleOf, by decide, by decide, by decide +kernel, by decide⟩
theorem kc_yX8_effectOf : Cond.code yX8_effectOf cX8_effectOf 4 (some .int) ∈ GT := gt_5 117 rfl rfl
theorem ml_RX8_54 : ML RX8 54 yX8_effectOf cX8_effectOf 4 2 (some .int) := ⟨gt_5 114 rfl rfl, gt_5 116 rfl rfl, gt_s (q := (yX8_effectOf, _)) 36 rfl rfl, gt_1 9 rfl rfl, kc_yX8_effectOf, by decide, by decide, by decide +kernel, by decide⟩
theorem ml_RX8_70 : ML RX8 70 yX6_isGoodBy cX6_isGoodBy 9 3 (some .boolean) := ⟨gt_5 118 rfl rfl, gt_5 85 rfl rfl, gt_5 86 rfl rfl, gt_1 6 rfl rfl, kc_yX6_isGoodBy, by decide, by decide, by decide +kernel, by decide⟩
theorem ms_RX8_88 : MS RX8 88 yJ7_fill_53178 cJ7_fill_53178 4 2 none := ⟨gt_5 132 rfl rfl, gt_5 133 rfl rfl, gt_1 20 rfl rfl, kc_yJ7_fill_53178, by decide, by decide, by decide +kernel, by decide⟩
theorem ml_RX8_94 : ML RX8 94 yX2_itemsTold cX2_itemsTold 1 0 (some .int) := ⟨gt_5 135 rfl rfl, gt_4 102 rfl rfl, gt_4 103 rfl rfl, gt_1 3 rfl rfl, kc_yX2_itemsTold, by decide, by decide, by decide +kernel, by decide⟩
theorem ml_RX8_98 : ML RX8 98 yX2_itemAt cX2_itemAt 3 2 (some .int) := ⟨gt_5 136 rfl rfl, gt_5 43 rfl rfl, gt_5 44 rfl rfl, gt_1 3 rfl rfl, kc_yX2_itemAt, by decide, by decide, by decide +kernel, by decide⟩
theorem kc_yX8_putPaper : Cond.code yX8_putPaper cX8_putPaper 4 none ∈ GT := gt_5 140 rfl rfl
theorem ml_RX8_101 : ML RX8 101 yX8_putPaper cX8_putPaper 4 1 none := ⟨gt_5 137 rfl rfl, gt_5 139 rfl rfl, gt_s (q := (yX8_putPaper, _)) 38 rfl rfl, gt_1 9 rfl rfl, kc_yX8_putPaper, by decide, by decide, by decide +kernel, by decide⟩
theorem kc_yX1_isSo : Cond.code yX1_isSo cX1_isSo 2 (some .boolean) ∈ GT := gt_5 152 rfl rfl
theorem ml_RX8_105 : ML RX8 105 yX1_isSo cX1_isSo 2 1 (some .boolean) := ⟨gt_5 149 rfl rfl, gt_5 150 rfl rfl, gt_5 151 rfl rfl, gt_1 7 rfl rfl, kc_yX1_isSo, by decide, by decide, by decide +kernel, by decide⟩
theorem kc_yX8_undo : Cond.code yX8_undo cX8_undo 4 none ∈ GT := gt_5 144 rfl rfl
theorem ml_RX8_109 : ML RX8 109 yX8_undo cX8_undo 4 2 none := ⟨gt_5 141 rfl rfl, gt_5 143 rfl rfl, gt_s (q := (yX8_undo, _)) 39 rfl rfl, gt_1 9 rfl rfl, kc_yX8_undo, by decide, by decide, by decide +kernel, by decide⟩
theorem kc_yX8_takeAway : Cond.code yX8_takeAway cX8_takeAway 5 none ∈ GT := gt_5 156 rfl rfl
theorem ml_RX8_116 : ML RX8 116 yX8_takeAway cX8_takeAway 5 2 none := ⟨gt_5 153 rfl rfl, gt_5 155 rfl rfl, gt_s (q := (yX8_takeAway, _)) 41 rfl rfl, gt_1 9 rfl rfl, kc_yX8_takeAway, by decide, by decide, by decide +kernel, by decide⟩
theorem kc_yX8_findCounting : Cond.code yX8_findCounting cX8_findCounting 3 none ∈ GT := gt_5 160 rfl rfl
theorem ml_RX8_119 : ML RX8 119 yX8_findCounting cX8_findCounting 3 0 none := ⟨gt_5 157 rfl rfl, gt_5 159 rfl rfl, gt_s (q := (yX8_findCounting, _)) 42 rfl rfl, gt_1 9 rfl rfl, kc_yX8_findCounting, by decide, by decide, by decide +kernel, by decide⟩
theorem kc_yX8_raise : Cond.code yX8_raise cX8_raise 3 none ∈ GT := gt_5 148 rfl rfl
theorem ml_RX8_128 : ML RX8 128 yX8_raise cX8_raise 3 1 none := ⟨gt_5 145 rfl rfl, gt_5 147 rfl rfl, gt_s (q := (yX8_raise, _)) 40 rfl rfl, gt_1 9 rfl rfl, kc_yX8_raise, by decide, by decide, by decide +kernel, by decide⟩
theorem kc_yX9_lasting : Cond.code yX9_lasting cX9_lasting 2 (some .int) ∈ GT := gt_6 161 rfl rfl
theorem ml_RX9_39 : ML RX9 39 yX9_lasting cX9_lasting 2 1 (some .int) := ⟨gt_6 158 rfl rfl, gt_6 160 rfl rfl, gt_s (q := (yX9_lasting, _)) 58 rfl rfl, gt_1 11 rfl rfl, kc_yX9_lasting, by decide, by decide, by decide +kernel, by decide⟩
theorem kc_yX9_itemNow : Cond.code yX9_itemNow cX9_itemNow 2 (some .int) ∈ GT := gt_6 182 rfl rfl
theorem ml_RX9_48 : ML RX9 48 yX9_itemNow cX9_itemNow 2 1 (some .int) := ⟨gt_6 179 rfl rfl, gt_6 181 rfl rfl, gt_s (q := (yX9_itemNow, _)) 61 rfl rfl, gt_1 11 rfl rfl, kc_yX9_itemNow, by decide, by decide, by decide +kernel, by decide⟩
theorem ml_RX9_51 : ML RX9 51 yX2_isAhead cX2_isAhead 7 3 (some .boolean) := ⟨gt_6 183 rfl rfl, gt_5 55 rfl rfl, gt_5 56 rfl rfl, gt_1 3 rfl rfl, kc_yX2_isAhead, by decide, by decide, by decide +kernel, by decide⟩
theorem kc_yX9_isTrue : Cond.code yX9_isTrue cX9_isTrue 5 (some .boolean) ∈ GT := gt_6 178 rfl rfl
theorem ml_RX9_55 : ML RX9 55 yX9_isTrue cX9_isTrue 5 2 (some .boolean) := ⟨gt_6 175 rfl rfl, gt_6 177 rfl rfl, gt_s (q := (yX9_isTrue, _)) 60 rfl rfl, gt_1 11 rfl rfl, kc_yX9_isTrue, by decide, by decide, by decide +kernel, by decide⟩
theorem ml_RX9_68 : ML RX9 68 yX2_waysFound cX2_waysFound 1 0 (some .int) := ⟨gt_6 170 rfl rfl, gt_5 98 rfl rfl, gt_5 99 rfl rfl, gt_1 3 rfl rfl, kc_yX2_waysFound, by decide, by decide, by decide +kernel, by decide⟩
theorem kc_yX9_falseIn : Cond.code yX9_falseIn cX9_falseIn 4 (some .int) ∈ GT := gt_6 174 rfl rfl
theorem ml_RX9_72 : ML RX9 72 yX9_falseIn cX9_falseIn 4 1 (some .int) := ⟨gt_6 171 rfl rfl, gt_6 173 rfl rfl, gt_s (q := (yX9_falseIn, _)) 59 rfl rfl, gt_1 11 rfl rfl, kc_yX9_falseIn, by decide, by decide, by decide +kernel, by decide⟩
theorem ms_RX9_75 : MS RX9 75 yJ6_bitCount_0f7a4 cJ6_bitCount_0f7a4 1 1 (some .int) := ⟨gt_6 184 rfl rfl, gt_4 177 rfl rfl, gt_1 19 rfl rfl, kc_yJ6_bitCount_0f7a4, by decide, by decide, by decide +kernel, by decide⟩
theorem kc_yX5_sumIn : Cond.code yX5_sumIn cX5_sumIn 3 (some .int) ∈ GT := gt_6 197 rfl rfl
theorem ml_RX9_80 : ML RX9 80 yX5_sumIn cX5_sumIn 3 2 (some .int) := ⟨gt_6 194 rfl rfl, gt_6 195 rfl rfl, gt_6 196 rfl rfl, gt_1 10 rfl rfl, kc_yX5_sumIn, by decide, by decide, by decide +kernel, by decide⟩
theorem ms_RX9_86 : MS RX9 86 yJ9_max_7cf53 cJ9_max_7cf53 2 2 (some .int) := ⟨gt_6 198 rfl rfl, gt_4 114 rfl rfl, gt_1 14 rfl rfl, kc_yJ9_max_7cf53, by decide, by decide, by decide +kernel, by decide⟩
theorem kk_RJ6_265 : Cond.constant RJ6 265 (1431655765) ∈ GT := gt_4 179 rfl rfl
theorem kk_RJ6_266 : Cond.constant RJ6 266 (858993459) ∈ GT := gt_4 180 rfl rfl
theorem kk_RJ6_267 : Cond.constant RJ6 267 (252645135) ∈ GT := gt_4 181 rfl rfl
theorem kk_RX0_152 : Cond.constant RX0 152 (99999) ∈ GT := gt_4 66 rfl rfl
theorem kk_RX11_328 : Cond.constant RX11 328 (-1000000) ∈ GT := gt_6 189 rfl rfl
theorem kk_RX11_355 : Cond.constant RX11 355 (99999) ∈ GT := gt_6 208 rfl rfl
theorem kk_RX12_198 : Cond.constant RX12 198 (99999) ∈ GT := gt_9 22 rfl rfl
theorem kk_RX12_365 : Cond.constant RX12 365 (46080) ∈ GT := gt_7 27 rfl rfl
theorem kk_RX12_440 : Cond.constantLong RX12 440 (20) ∈ GT := gt_9 31 rfl rfl
theorem kk_RX12_442 : Cond.constantLong RX12 442 (19) ∈ GT := gt_9 32 rfl rfl
theorem kk_RX12_444 : Cond.constantLong RX12 444 (30) ∈ GT := gt_9 33 rfl rfl
theorem kk_RX12_446 : Cond.constantLong RX12 446 (29) ∈ GT := gt_9 34 rfl rfl
theorem kk_RX12_448 : Cond.constantLong RX12 448 (40) ∈ GT := gt_9 35 rfl rfl
theorem kk_RX12_450 : Cond.constantLong RX12 450 (39) ∈ GT := gt_9 36 rfl rfl
theorem kk_RX12_455 : Cond.constantLong RX12 455 (12) ∈ GT := gt_9 45 rfl rfl
theorem kk_RX12_528 : Cond.constantLong RX12 528 (11) ∈ GT := gt_9 118 rfl rfl
theorem kk_RX12_533 : Cond.constantLong RX12 533 (4) ∈ GT := gt_9 127 rfl rfl
theorem kk_RX12_535 : Cond.constantLong RX12 535 (9999) ∈ GT := gt_9 128 rfl rfl
theorem kk_RX12_537 : Cond.constantLong RX12 537 (-1) ∈ GT := gt_9 129 rfl rfl
theorem kk_RX12_539 : Cond.constantLong RX12 539 (2) ∈ GT := gt_9 130 rfl rfl
theorem kk_RX12_729 : Cond.constant RX12 729 (-1000000) ∈ GT := gt_10 158 rfl rfl
theorem kk_RX6_179 : Cond.constant RX6 179 (99999) ∈ GT := gt_4 197 rfl rfl
theorem km_max : Cond.static Lib.Math.max.name ∈ GT ∧ Cond.initialized "java/lang/Math" ∈ GT ∧ Cond.code Lib.Math.max.name Lib.Math.max.code 2 (some .int) ∈ GT := ⟨gt_4 114 rfl rfl, gt_1 14 rfl rfl, gt_4 115 rfl rfl⟩
theorem km_min : Cond.static Lib.Math.min.name ∈ GT ∧ Cond.initialized "java/lang/Math" ∈ GT ∧ Cond.code Lib.Math.min.name Lib.Math.min.code 2 (some .int) ∈ GT := ⟨gt_6 87 rfl rfl, gt_1 14 rfl rfl, gt_6 88 rfl rfl⟩
theorem kl_RJ7_304 : Cond.methodLink RJ7 304 Lib.Math.min.name ∈ GT := gt_6 86 rfl rfl
theorem kl_RX0_247 : Cond.methodLink RX0 247 Lib.Math.max.name ∈ GT := gt_6 15 rfl rfl
theorem kl_RX12_558 : Cond.methodLink RX12 558 Lib.Math.max.name ∈ GT := gt_7 44 rfl rfl
theorem kl_RX12_733 : Cond.methodLink RX12 733 Lib.Math.min.name ∈ GT := gt_10 171 rfl rfl
theorem kl_RX2_107 : Cond.methodLink RX2 107 Lib.Math.max.name ∈ GT := gt_4 113 rfl rfl
theorem kl_RX5_100 : Cond.methodLink RX5 100 Lib.Math.min.name ∈ GT := gt_6 102 rfl rfl
theorem kl_RX5_106 : Cond.methodLink RX5 106 Lib.Math.max.name ∈ GT := gt_6 97 rfl rfl
theorem kl_RX7_210 : Cond.methodLink RX7 210 Lib.Math.max.name ∈ GT := gt_6 20 rfl rfl
theorem kl_RX9_86 : Cond.methodLink RX9 86 Lib.Math.max.name ∈ GT := gt_6 198 rfl rfl
