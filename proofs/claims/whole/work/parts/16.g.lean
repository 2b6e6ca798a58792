-- WhichWill.says
theorem dX11_says_0 : decode cX11_says 0 = .ok (.aload_n 0, 1) := by decide +kernel
theorem dX11_says_1 : decode cX11_says 1 = .ok (.iload_n 1, 1) := by decide +kernel
theorem dX11_says_2 : decode cX11_says 2 = .ok (.invokevirtual 269, 3) := by decide +kernel
theorem dX11_says_5 : decode cX11_says 5 = .ok (.ifCond .eq 21, 3) := by decide +kernel
theorem dX11_says_8 : decode cX11_says 8 = .ok (.iload_n 2, 1) := by decide +kernel
theorem dX11_says_9 : decode cX11_says 9 = .ok (.ifCond .lt 17, 3) := by decide +kernel
theorem dX11_says_12 : decode cX11_says 12 = .ok (.iload_n 2, 1) := by decide +kernel
theorem dX11_says_13 : decode cX11_says 13 = .ok (.iconst 3, 1) := by decide +kernel
theorem dX11_says_14 : decode cX11_says 14 = .ok (.if_icmp .ge 12, 3) := by decide +kernel
theorem dX11_says_17 : decode cX11_says 17 = .ok (.iload_n 3, 1) := by decide +kernel
theorem dX11_says_18 : decode cX11_says 18 = .ok (.ifCond .lt 8, 3) := by decide +kernel
theorem dX11_says_21 : decode cX11_says 21 = .ok (.iload_n 3, 1) := by decide +kernel
theorem dX11_says_22 : decode cX11_says 22 = .ok (.iconst 1, 1) := by decide +kernel
theorem dX11_says_23 : decode cX11_says 23 = .ok (.if_icmp .le 6, 3) := by decide +kernel
theorem dX11_says_26 : decode cX11_says 26 = .ok (.bipush (-2), 2) := by decide +kernel
theorem dX11_says_28 : decode cX11_says 28 = .ok (.ireturn, 1) := by decide +kernel
theorem dX11_says_29 : decode cX11_says 29 = .ok (.aload_n 0, 1) := by decide +kernel
theorem dX11_says_30 : decode cX11_says 30 = .ok (.getfield 46, 3) := by decide +kernel
theorem dX11_says_33 : decode cX11_says 33 = .ok (.getfield 95, 3) := by decide +kernel
theorem dX11_says_36 : decode cX11_says 36 = .ok (.bipush 8, 2) := by decide +kernel
theorem dX11_says_38 : decode cX11_says 38 = .ok (.if_icmp .lt 8, 3) := by decide +kernel
theorem dX11_says_41 : decode cX11_says 41 = .ok (.bipush (-3), 2) := by decide +kernel
theorem dX11_says_43 : decode cX11_says 43 = .ok (.goto 13, 3) := by decide +kernel
theorem dX11_says_46 : decode cX11_says 46 = .ok (.aload_n 0, 1) := by decide +kernel
theorem dX11_says_47 : decode cX11_says 47 = .ok (.getfield 46, 3) := by decide +kernel
theorem dX11_says_50 : decode cX11_says 50 = .ok (.iload_n 1, 1) := by decide +kernel
theorem dX11_says_51 : decode cX11_says 51 = .ok (.iload_n 2, 1) := by decide +kernel
theorem dX11_says_52 : decode cX11_says 52 = .ok (.iload_n 3, 1) := by decide +kernel
theorem dX11_says_53 : decode cX11_says 53 = .ok (.invokevirtual 309, 3) := by decide +kernel
theorem dX11_says_56 : decode cX11_says 56 = .ok (.ireturn, 1) := by decide +kernel
def f_X11_says (x1 : Int32) (x2 : Int32) (x3 : Int32) (w : Wd) : Option (Int32 × Wd) :=
  cl (f_X11_isPerson x1 w) fun r2 w1 =>
  if r2 = 0 then
  (some ((-2), w1))
  else
  if x2 < 0 then
  (some ((-2), w1))
  else
  if 3 ≤ x2 then
  (some ((-2), w1))
  else
  if x3 < 0 then
  (some ((-2), w1))
  else
  if x3 ≤ 1 then
  (if (w1.1 22 0) < 8 then
  (cl (f_X9_addFact x1 x2 x3 w1) fun r4 w3 =>
  some (r4, w3))
  else
  some ((-3), w1))
  else
  some ((-2), w1)
set_option maxRecDepth 100000 in
set_option maxHeartbeats 4000000 in
theorem t_X11_says {Z : Cz (Int32 × Wd)} (hZ : OKZ Z SC cX11_says RX11 4 (some .int) 2) (hE : EndI Z) (x1 : Int32) (x2 : Int32) (x3 : Int32)  (w : Wd) : BW Z 4 0 [(0, .ref (ph (zY Z) 0)), (1, .int x1), (2, .int x2), (3, .int x3)] [] w (f_X11_says x1 x2 x3 w) :=
  bw_aload_n hZ 0 rfl dX11_says_0 <|
  bw_iload_n hZ 1 rfl dX11_says_1 <|
  bw_callVI (As := [.int x1]) hZ ml_RX11_269 rc_11 obC_0 (by decide) (c_X11_isPerson (zl Z) (zY Z) (hZ_S hZ) x1 w) rfl rfl (Nat.le_of_ble_eq_true rfl) dX11_says_2 fun r2 w1 =>
  bw_if_eq hZ (tgt := 26) (by decide) dX11_says_5 (fun _ =>
  bw_bipush hZ (-2) (by decide) dX11_says_26 <|
  bw_iret hZ hE dX11_says_28) (fun _ =>
  bw_iload_n hZ 2 rfl dX11_says_8 <|
  bw_if_lt hZ (tgt := 26) (by decide) dX11_says_9 (fun _ =>
  bw_bipush hZ (-2) (by decide) dX11_says_26 <|
  bw_iret hZ hE dX11_says_28) (fun _ =>
  bw_iload_n hZ 2 rfl dX11_says_12 <|
  bw_iconst hZ 3 (by decide) dX11_says_13 <|
  bw_icmp_ge hZ (tgt := 26) (by decide) dX11_says_14 (fun _ =>
  bw_bipush hZ (-2) (by decide) dX11_says_26 <|
  bw_iret hZ hE dX11_says_28) (fun _ =>
  bw_iload_n hZ 3 rfl dX11_says_17 <|
  bw_if_lt hZ (tgt := 26) (by decide) dX11_says_18 (fun _ =>
  bw_bipush hZ (-2) (by decide) dX11_says_26 <|
  bw_iret hZ hE dX11_says_28) (fun _ =>
  bw_iload_n hZ 3 rfl dX11_says_21 <|
  bw_iconst hZ 1 (by decide) dX11_says_22 <|
  bw_icmp_le hZ (tgt := 29) (by decide) dX11_says_23 (fun _ =>
  bw_aload_n hZ 0 rfl dX11_says_29 <|
  bw_getR hZ fl_RX11_46 obC_0 rfl dX11_says_30 <|
  bw_getI hZ fl_RX11_95 (by decide) obC_22 dX11_says_33 <|
  bw_bipush hZ 8 (by decide) dX11_says_36 <|
  bw_icmp_lt hZ (tgt := 46) (by decide) dX11_says_38 (fun _ =>
  bw_aload_n hZ 0 rfl dX11_says_46 <|
  bw_getR hZ fl_RX11_46 obC_0 rfl dX11_says_47 <|
  bw_iload_n hZ 1 rfl dX11_says_50 <|
  bw_iload_n hZ 2 rfl dX11_says_51 <|
  bw_iload_n hZ 3 rfl dX11_says_52 <|
  bw_callVI (As := [.int x1, .int x2, .int x3]) hZ ml_RX11_309 rc_9 obC_22 (by decide) (c_X9_addFact (zl Z) (zY Z) (hZ_S hZ) x1 x2 x3 w1) rfl rfl (Nat.le_of_ble_eq_true rfl) dX11_says_53 fun r4 w3 =>
  bw_iret hZ hE dX11_says_56) (fun _ =>
  bw_bipush hZ (-3) (by decide) dX11_says_41 <|
  bw_goto hZ (tgt := 56) (by decide) dX11_says_43 <|
  bw_iret hZ hE dX11_says_56)) (fun _ =>
  bw_bipush hZ (-2) (by decide) dX11_says_26 <|
  bw_iret hZ hE dX11_says_28)))))
theorem c_X11_says (l : Launch) (Y : Ev) (hY : Y.1 = SC) (x1 : Int32) (x2 : Int32) (x3 : Int32)  (w : Wd) : CI l Y yX11_says cX11_says 4 2 [.ref (ph Y 0), .int x1, .int x2, .int x3] w .int (f_X11_says x1 x2 x3 w) := by
  refine CI_of (S := SC) (by decide) (Nat.le_of_ble_eq_true rfl) hY ?_
  intro Z hl hY2 hZ hE
  subst hY2
  exact t_X11_says hZ hE x1 x2 x3 w
-- WhichWill.tells
theorem dX11_tells_0 : decode cX11_tells 0 = .ok (.aload_n 0, 1) := by decide +kernel
theorem dX11_tells_1 : decode cX11_tells 1 = .ok (.iload_n 1, 1) := by decide +kernel
theorem dX11_tells_2 : decode cX11_tells 2 = .ok (.invokevirtual 269, 3) := by decide +kernel
theorem dX11_tells_5 : decode cX11_tells 5 = .ok (.ifCond .eq 24, 3) := by decide +kernel
theorem dX11_tells_8 : decode cX11_tells 8 = .ok (.aload_n 0, 1) := by decide +kernel
theorem dX11_tells_9 : decode cX11_tells 9 = .ok (.iload_n 2, 1) := by decide +kernel
theorem dX11_tells_10 : decode cX11_tells 10 = .ok (.invokevirtual 220, 3) := by decide +kernel
theorem dX11_tells_13 : decode cX11_tells 13 = .ok (.ifCond .eq 16, 3) := by decide +kernel
theorem dX11_tells_16 : decode cX11_tells 16 = .ok (.aload_n 0, 1) := by decide +kernel
theorem dX11_tells_17 : decode cX11_tells 17 = .ok (.iload_n 3, 1) := by decide +kernel
theorem dX11_tells_18 : decode cX11_tells 18 = .ok (.invokevirtual 220, 3) := by decide +kernel
theorem dX11_tells_21 : decode cX11_tells 21 = .ok (.ifCond .eq 8, 3) := by decide +kernel
theorem dX11_tells_24 : decode cX11_tells 24 = .ok (.iload_n 2, 1) := by decide +kernel
theorem dX11_tells_25 : decode cX11_tells 25 = .ok (.iload_n 3, 1) := by decide +kernel
theorem dX11_tells_26 : decode cX11_tells 26 = .ok (.if_icmp .ne 6, 3) := by decide +kernel
theorem dX11_tells_29 : decode cX11_tells 29 = .ok (.bipush (-2), 2) := by decide +kernel
theorem dX11_tells_31 : decode cX11_tells 31 = .ok (.ireturn, 1) := by decide +kernel
theorem dX11_tells_32 : decode cX11_tells 32 = .ok (.aload_n 0, 1) := by decide +kernel
theorem dX11_tells_33 : decode cX11_tells 33 = .ok (.getfield 46, 3) := by decide +kernel
theorem dX11_tells_36 : decode cX11_tells 36 = .ok (.getfield 95, 3) := by decide +kernel
theorem dX11_tells_39 : decode cX11_tells 39 = .ok (.bipush 8, 2) := by decide +kernel
theorem dX11_tells_41 : decode cX11_tells 41 = .ok (.if_icmp .lt 8, 3) := by decide +kernel
theorem dX11_tells_44 : decode cX11_tells 44 = .ok (.bipush (-3), 2) := by decide +kernel
theorem dX11_tells_46 : decode cX11_tells 46 = .ok (.goto 13, 3) := by decide +kernel
theorem dX11_tells_49 : decode cX11_tells 49 = .ok (.aload_n 0, 1) := by decide +kernel
theorem dX11_tells_50 : decode cX11_tells 50 = .ok (.getfield 46, 3) := by decide +kernel
theorem dX11_tells_53 : decode cX11_tells 53 = .ok (.iload_n 1, 1) := by decide +kernel
theorem dX11_tells_54 : decode cX11_tells 54 = .ok (.iload_n 2, 1) := by decide +kernel
theorem dX11_tells_55 : decode cX11_tells 55 = .ok (.iload_n 3, 1) := by decide +kernel
theorem dX11_tells_56 : decode cX11_tells 56 = .ok (.invokevirtual 313, 3) := by decide +kernel
theorem dX11_tells_59 : decode cX11_tells 59 = .ok (.ireturn, 1) := by decide +kernel
def f_X11_tells (x1 : Int32) (x2 : Int32) (x3 : Int32) (w : Wd) : Option (Int32 × Wd) :=
  cl (f_X11_isPerson x1 w) fun r2 w1 =>
  if r2 = 0 then
  (some ((-2), w1))
  else
  cl (f_X11_isItem x2 w1) fun r4 w3 =>
  if r4 = 0 then
  (some ((-2), w3))
  else
  cl (f_X11_isItem x3 w3) fun r6 w5 =>
  if r6 = 0 then
  (some ((-2), w5))
  else
  if x2 = x3 then
  (some ((-2), w5))
  else
  if (w5.1 22 0) < 8 then
  (cl (f_X9_addAhead x1 x2 x3 w5) fun r8 w7 =>
  some (r8, w7))
  else
  some ((-3), w5)
set_option maxRecDepth 100000 in
set_option maxHeartbeats 4000000 in
theorem t_X11_tells {Z : Cz (Int32 × Wd)} (hZ : OKZ Z SC cX11_tells RX11 4 (some .int) 3) (hE : EndI Z) (x1 : Int32) (x2 : Int32) (x3 : Int32)  (w : Wd) : BW Z 4 0 [(0, .ref (ph (zY Z) 0)), (1, .int x1), (2, .int x2), (3, .int x3)] [] w (f_X11_tells x1 x2 x3 w) :=
  bw_aload_n hZ 0 rfl dX11_tells_0 <|
  bw_iload_n hZ 1 rfl dX11_tells_1 <|
  bw_callVI (As := [.int x1]) hZ ml_RX11_269 rc_11 obC_0 (by decide) (c_X11_isPerson (zl Z) (zY Z) (hZ_S hZ) x1 w) rfl rfl (Nat.le_of_ble_eq_true rfl) dX11_tells_2 fun r2 w1 =>
  bw_if_eq hZ (tgt := 29) (by decide) dX11_tells_5 (fun _ =>
  bw_bipush hZ (-2) (by decide) dX11_tells_29 <|
  bw_iret hZ hE dX11_tells_31) (fun _ =>
  bw_aload_n hZ 0 rfl dX11_tells_8 <|
  bw_iload_n hZ 2 rfl dX11_tells_9 <|
  bw_callVI (As := [.int x2]) hZ ml_RX11_220 rc_11 obC_0 (by decide) (c_X11_isItem (zl Z) (zY Z) (hZ_S hZ) x2 w1) rfl rfl (Nat.le_of_ble_eq_true rfl) dX11_tells_10 fun r4 w3 =>
  bw_if_eq hZ (tgt := 29) (by decide) dX11_tells_13 (fun _ =>
  bw_bipush hZ (-2) (by decide) dX11_tells_29 <|
  bw_iret hZ hE dX11_tells_31) (fun _ =>
  bw_aload_n hZ 0 rfl dX11_tells_16 <|
  bw_iload_n hZ 3 rfl dX11_tells_17 <|
  bw_callVI (As := [.int x3]) hZ ml_RX11_220 rc_11 obC_0 (by decide) (c_X11_isItem (zl Z) (zY Z) (hZ_S hZ) x3 w3) rfl rfl (Nat.le_of_ble_eq_true rfl) dX11_tells_18 fun r6 w5 =>
  bw_if_eq hZ (tgt := 29) (by decide) dX11_tells_21 (fun _ =>
  bw_bipush hZ (-2) (by decide) dX11_tells_29 <|
  bw_iret hZ hE dX11_tells_31) (fun _ =>
  bw_iload_n hZ 2 rfl dX11_tells_24 <|
  bw_iload_n hZ 3 rfl dX11_tells_25 <|
  bw_icmp_ne hZ (tgt := 32) (by decide) dX11_tells_26 (fun _ =>
  bw_aload_n hZ 0 rfl dX11_tells_32 <|
  bw_getR hZ fl_RX11_46 obC_0 rfl dX11_tells_33 <|
  bw_getI hZ fl_RX11_95 (by decide) obC_22 dX11_tells_36 <|
  bw_bipush hZ 8 (by decide) dX11_tells_39 <|
  bw_icmp_lt hZ (tgt := 49) (by decide) dX11_tells_41 (fun _ =>
  bw_aload_n hZ 0 rfl dX11_tells_49 <|
  bw_getR hZ fl_RX11_46 obC_0 rfl dX11_tells_50 <|
  bw_iload_n hZ 1 rfl dX11_tells_53 <|
  bw_iload_n hZ 2 rfl dX11_tells_54 <|
  bw_iload_n hZ 3 rfl dX11_tells_55 <|
  bw_callVI (As := [.int x1, .int x2, .int x3]) hZ ml_RX11_313 rc_9 obC_22 (by decide) (c_X9_addAhead (zl Z) (zY Z) (hZ_S hZ) x1 x2 x3 w5) rfl rfl (Nat.le_of_ble_eq_true rfl) dX11_tells_56 fun r8 w7 =>
  bw_iret hZ hE dX11_tells_59) (fun _ =>
  bw_bipush hZ (-3) (by decide) dX11_tells_44 <|
  bw_goto hZ (tgt := 59) (by decide) dX11_tells_46 <|
  bw_iret hZ hE dX11_tells_59)) (fun _ =>
  bw_bipush hZ (-2) (by decide) dX11_tells_29 <|
  bw_iret hZ hE dX11_tells_31))))
theorem c_X11_tells (l : Launch) (Y : Ev) (hY : Y.1 = SC) (x1 : Int32) (x2 : Int32) (x3 : Int32)  (w : Wd) : CI l Y yX11_tells cX11_tells 4 3 [.ref (ph Y 0), .int x1, .int x2, .int x3] w .int (f_X11_tells x1 x2 x3 w) := by
  refine CI_of (S := SC) (by decide) (Nat.le_of_ble_eq_true rfl) hY ?_
  intro Z hl hY2 hZ hE
  subst hY2
  exact t_X11_tells hZ hE x1 x2 x3 w
-- WhichWill.stories
theorem dX11_stories_0 : decode cX11_stories 0 = .ok (.aload_n 0, 1) := by decide +kernel
theorem dX11_stories_1 : decode cX11_stories 1 = .ok (.getfield 19, 3) := by decide +kernel
theorem dX11_stories_4 : decode cX11_stories 4 = .ok (.invokevirtual 256, 3) := by decide +kernel
theorem dX11_stories_7 : decode cX11_stories 7 = .ok (.ifCond .eq 12, 3) := by decide +kernel
theorem dX11_stories_10 : decode cX11_stories 10 = .ok (.iload_n 1, 1) := by decide +kernel
theorem dX11_stories_11 : decode cX11_stories 11 = .ok (.ifCond .lt 8, 3) := by decide +kernel
theorem dX11_stories_14 : decode cX11_stories 14 = .ok (.iload_n 1, 1) := by decide +kernel
theorem dX11_stories_15 : decode cX11_stories 15 = .ok (.iconst 2, 1) := by decide +kernel
theorem dX11_stories_16 : decode cX11_stories 16 = .ok (.if_icmp .le 5, 3) := by decide +kernel
theorem dX11_stories_19 : decode cX11_stories 19 = .ok (.iconst (-1), 1) := by decide +kernel
theorem dX11_stories_20 : decode cX11_stories 20 = .ok (.ireturn, 1) := by decide +kernel
theorem dX11_stories_21 : decode cX11_stories 21 = .ok (.aload_n 0, 1) := by decide +kernel
theorem dX11_stories_22 : decode cX11_stories 22 = .ok (.getfield 46, 3) := by decide +kernel
theorem dX11_stories_25 : decode cX11_stories 25 = .ok (.invokevirtual 316, 3) := by decide +kernel
theorem dX11_stories_28 : decode cX11_stories 28 = .ok (.iload_n 1, 1) := by decide +kernel
theorem dX11_stories_29 : decode cX11_stories 29 = .ok (.ifCond .ne 11, 3) := by decide +kernel
theorem dX11_stories_32 : decode cX11_stories 32 = .ok (.aload_n 0, 1) := by decide +kernel
theorem dX11_stories_33 : decode cX11_stories 33 = .ok (.getfield 46, 3) := by decide +kernel
theorem dX11_stories_36 : decode cX11_stories 36 = .ok (.getfield 319, 3) := by decide +kernel
theorem dX11_stories_39 : decode cX11_stories 39 = .ok (.ireturn, 1) := by decide +kernel
theorem dX11_stories_40 : decode cX11_stories 40 = .ok (.iload_n 1, 1) := by decide +kernel
theorem dX11_stories_41 : decode cX11_stories 41 = .ok (.iconst 1, 1) := by decide +kernel
theorem dX11_stories_42 : decode cX11_stories 42 = .ok (.if_icmp .ne 13, 3) := by decide +kernel
theorem dX11_stories_45 : decode cX11_stories 45 = .ok (.aload_n 0, 1) := by decide +kernel
theorem dX11_stories_46 : decode cX11_stories 46 = .ok (.getfield 46, 3) := by decide +kernel
theorem dX11_stories_49 : decode cX11_stories 49 = .ok (.getfield 322, 3) := by decide +kernel
theorem dX11_stories_52 : decode cX11_stories 52 = .ok (.goto 10, 3) := by decide +kernel
theorem dX11_stories_55 : decode cX11_stories 55 = .ok (.aload_n 0, 1) := by decide +kernel
theorem dX11_stories_56 : decode cX11_stories 56 = .ok (.getfield 46, 3) := by decide +kernel
theorem dX11_stories_59 : decode cX11_stories 59 = .ok (.getfield 325, 3) := by decide +kernel
theorem dX11_stories_62 : decode cX11_stories 62 = .ok (.ireturn, 1) := by decide +kernel
def f_X11_stories (x1 : Int32) (w : Wd) : Option (Int32 × Wd) :=
  cl (f_X2_waysFound w) fun r2 w1 =>
  if r2 = 0 then
  (some ((-1), w1))
  else
  if x1 < 0 then
  (some ((-1), w1))
  else
  if x1 ≤ 2 then
  (cv (f_X9_weigh w1) fun w3 =>
  if x1 = 0 then
  (some (w3.1 22 1, w3))
  else
  if x1 = 1 then
  (some (w3.1 22 2, w3))
  else
  some (w3.1 22 3, w3))
  else
  some ((-1), w1)
set_option maxRecDepth 100000 in
set_option maxHeartbeats 4000000 in
theorem t_X11_stories {Z : Cz (Int32 × Wd)} (hZ : OKZ Z SC cX11_stories RX11 2 (some .int) 6) (hE : EndI Z) (x1 : Int32)  (w : Wd) : BW Z 2 0 [(0, .ref (ph (zY Z) 0)), (1, .int x1)] [] w (f_X11_stories x1 w) :=
  bw_aload_n hZ 0 rfl dX11_stories_0 <|
  bw_getR hZ fl_RX11_19 obC_0 rfl dX11_stories_1 <|
  bw_callVI (As := []) hZ ml_RX11_256 rc_2 obC_3 (by decide) (c_X2_waysFound (zl Z) (zY Z) (hZ_S hZ) w) rfl rfl (Nat.le_of_ble_eq_true rfl) dX11_stories_4 fun r2 w1 =>
  bw_if_eq hZ (tgt := 19) (by decide) dX11_stories_7 (fun _ =>
  bw_iconst hZ (-1) (by decide) dX11_stories_19 <|
  bw_iret hZ hE dX11_stories_20) (fun _ =>
  bw_iload_n hZ 1 rfl dX11_stories_10 <|
  bw_if_lt hZ (tgt := 19) (by decide) dX11_stories_11 (fun _ =>
  bw_iconst hZ (-1) (by decide) dX11_stories_19 <|
  bw_iret hZ hE dX11_stories_20) (fun _ =>
  bw_iload_n hZ 1 rfl dX11_stories_14 <|
  bw_iconst hZ 2 (by decide) dX11_stories_15 <|
  bw_icmp_le hZ (tgt := 21) (by decide) dX11_stories_16 (fun _ =>
  bw_aload_n hZ 0 rfl dX11_stories_21 <|
  bw_getR hZ fl_RX11_46 obC_0 rfl dX11_stories_22 <|
  bw_callVV (As := []) hZ ml_RX11_316 rc_9 obC_22 (by decide) (c_X9_weigh (zl Z) (zY Z) (hZ_S hZ) w1) rfl rfl (Nat.le_of_ble_eq_true rfl) dX11_stories_25 fun w3 =>
  bw_iload_n hZ 1 rfl dX11_stories_28 <|
  bw_if_ne hZ (tgt := 40) (by decide) dX11_stories_29 (fun _ =>
  bw_iload_n hZ 1 rfl dX11_stories_40 <|
  bw_iconst hZ 1 (by decide) dX11_stories_41 <|
  bw_icmp_ne hZ (tgt := 55) (by decide) dX11_stories_42 (fun _ =>
  bw_aload_n hZ 0 rfl dX11_stories_55 <|
  bw_getR hZ fl_RX11_46 obC_0 rfl dX11_stories_56 <|
  bw_getI hZ fl_RX11_325 (by decide) obC_22 dX11_stories_59 <|
  bw_iret hZ hE dX11_stories_62) (fun _ =>
  bw_aload_n hZ 0 rfl dX11_stories_45 <|
  bw_getR hZ fl_RX11_46 obC_0 rfl dX11_stories_46 <|
  bw_getI hZ fl_RX11_322 (by decide) obC_22 dX11_stories_49 <|
  bw_goto hZ (tgt := 62) (by decide) dX11_stories_52 <|
  bw_iret hZ hE dX11_stories_62)) (fun _ =>
  bw_aload_n hZ 0 rfl dX11_stories_32 <|
  bw_getR hZ fl_RX11_46 obC_0 rfl dX11_stories_33 <|
  bw_getI hZ fl_RX11_319 (by decide) obC_22 dX11_stories_36 <|
  bw_iret hZ hE dX11_stories_39)) (fun _ =>
  bw_iconst hZ (-1) (by decide) dX11_stories_19 <|
  bw_iret hZ hE dX11_stories_20)))
theorem c_X11_stories (l : Launch) (Y : Ev) (hY : Y.1 = SC) (x1 : Int32)  (w : Wd) : CI l Y yX11_stories cX11_stories 2 6 [.ref (ph Y 0), .int x1] w .int (f_X11_stories x1 w) := by
  refine CI_of (S := SC) (by decide) (Nat.le_of_ble_eq_true rfl) hY ?_
  intro Z hl hY2 hZ hE
  subst hY2
  exact t_X11_stories hZ hE x1 w
-- WhichWill.mend
theorem dX11_mend_0 : decode cX11_mend 0 = .ok (.aload_n 0, 1) := by decide +kernel
theorem dX11_mend_1 : decode cX11_mend 1 = .ok (.iload_n 1, 1) := by decide +kernel
theorem dX11_mend_2 : decode cX11_mend 2 = .ok (.invokevirtual 128, 3) := by decide +kernel
theorem dX11_mend_5 : decode cX11_mend 5 = .ok (.ifCond .eq 19, 3) := by decide +kernel
theorem dX11_mend_8 : decode cX11_mend 8 = .ok (.aload_n 0, 1) := by decide +kernel
theorem dX11_mend_9 : decode cX11_mend 9 = .ok (.iload_n 2, 1) := by decide +kernel
theorem dX11_mend_10 : decode cX11_mend 10 = .ok (.invokevirtual 227, 3) := by decide +kernel
theorem dX11_mend_13 : decode cX11_mend 13 = .ok (.ifCond .eq 11, 3) := by decide +kernel
theorem dX11_mend_16 : decode cX11_mend 16 = .ok (.aload_n 0, 1) := by decide +kernel
theorem dX11_mend_17 : decode cX11_mend 17 = .ok (.iload_n 3, 1) := by decide +kernel
theorem dX11_mend_18 : decode cX11_mend 18 = .ok (.invokevirtual 269, 3) := by decide +kernel
theorem dX11_mend_21 : decode cX11_mend 21 = .ok (.ifCond .ne 6, 3) := by decide +kernel
theorem dX11_mend_24 : decode cX11_mend 24 = .ok (.bipush (-2), 2) := by decide +kernel
theorem dX11_mend_26 : decode cX11_mend 26 = .ok (.ireturn, 1) := by decide +kernel
theorem dX11_mend_27 : decode cX11_mend 27 = .ok (.aload_n 0, 1) := by decide +kernel
theorem dX11_mend_28 : decode cX11_mend 28 = .ok (.getfield 19, 3) := by decide +kernel
theorem dX11_mend_31 : decode cX11_mend 31 = .ok (.invokevirtual 256, 3) := by decide +kernel
theorem dX11_mend_34 : decode cX11_mend 34 = .ok (.ifCond .ne 7, 3) := by decide +kernel
theorem dX11_mend_37 : decode cX11_mend 37 = .ok (.iconst (-1), 1) := by decide +kernel
theorem dX11_mend_38 : decode cX11_mend 38 = .ok (.goto 13, 3) := by decide +kernel
theorem dX11_mend_41 : decode cX11_mend 41 = .ok (.aload_n 0, 1) := by decide +kernel
theorem dX11_mend_42 : decode cX11_mend 42 = .ok (.getfield 53, 3) := by decide +kernel
theorem dX11_mend_45 : decode cX11_mend 45 = .ok (.iload_n 1, 1) := by decide +kernel
theorem dX11_mend_46 : decode cX11_mend 46 = .ok (.iload_n 2, 1) := by decide +kernel
theorem dX11_mend_47 : decode cX11_mend 47 = .ok (.iload_n 3, 1) := by decide +kernel
theorem dX11_mend_48 : decode cX11_mend 48 = .ok (.invokevirtual 338, 3) := by decide +kernel
theorem dX11_mend_51 : decode cX11_mend 51 = .ok (.ireturn, 1) := by decide +kernel
def f_X11_mend (x1 : Int32) (x2 : Int32) (x3 : Int32) (w : Wd) : Option (Int32 × Wd) :=
  cl (f_X11_isPaper x1 w) fun r2 w1 =>
  if r2 = 0 then
  (some ((-2), w1))
  else
  cl (f_X11_isThing x2 w1) fun r4 w3 =>
  if r4 = 0 then
  (some ((-2), w3))
  else
  cl (f_X11_isPerson x3 w3) fun r6 w5 =>
  if r6 = 0 then
  (some ((-2), w5))
  else
  cl (f_X2_waysFound w5) fun r8 w7 =>
  if r8 = 0 then
  (some ((-1), w7))
  else
  cl (f_X3_fewestChanges x1 x2 x3 w7) fun r10 w9 =>
  some (r10, w9)
set_option maxRecDepth 100000 in
set_option maxHeartbeats 4000000 in
theorem t_X11_mend {Z : Cz (Int32 × Wd)} (hZ : OKZ Z SC cX11_mend RX11 4 (some .int) 8) (hE : EndI Z) (x1 : Int32) (x2 : Int32) (x3 : Int32)  (w : Wd) : BW Z 4 0 [(0, .ref (ph (zY Z) 0)), (1, .int x1), (2, .int x2), (3, .int x3)] [] w (f_X11_mend x1 x2 x3 w) :=
  bw_aload_n hZ 0 rfl dX11_mend_0 <|
  bw_iload_n hZ 1 rfl dX11_mend_1 <|
  bw_callVI (As := [.int x1]) hZ ml_RX11_128 rc_11 obC_0 (by decide) (c_X11_isPaper (zl Z) (zY Z) (hZ_S hZ) x1 w) rfl rfl (Nat.le_of_ble_eq_true rfl) dX11_mend_2 fun r2 w1 =>
  bw_if_eq hZ (tgt := 24) (by decide) dX11_mend_5 (fun _ =>
  bw_bipush hZ (-2) (by decide) dX11_mend_24 <|
  bw_iret hZ hE dX11_mend_26) (fun _ =>
  bw_aload_n hZ 0 rfl dX11_mend_8 <|
  bw_iload_n hZ 2 rfl dX11_mend_9 <|
  bw_callVI (As := [.int x2]) hZ ml_RX11_227 rc_11 obC_0 (by decide) (c_X11_isThing (zl Z) (zY Z) (hZ_S hZ) x2 w1) rfl rfl (Nat.le_of_ble_eq_true rfl) dX11_mend_10 fun r4 w3 =>
  bw_if_eq hZ (tgt := 24) (by decide) dX11_mend_13 (fun _ =>
  bw_bipush hZ (-2) (by decide) dX11_mend_24 <|
  bw_iret hZ hE dX11_mend_26) (fun _ =>
  bw_aload_n hZ 0 rfl dX11_mend_16 <|
  bw_iload_n hZ 3 rfl dX11_mend_17 <|
  bw_callVI (As := [.int x3]) hZ ml_RX11_269 rc_11 obC_0 (by decide) (c_X11_isPerson (zl Z) (zY Z) (hZ_S hZ) x3 w3) rfl rfl (Nat.le_of_ble_eq_true rfl) dX11_mend_18 fun r6 w5 =>
  bw_if_ne hZ (tgt := 27) (by decide) dX11_mend_21 (fun _ =>
  bw_aload_n hZ 0 rfl dX11_mend_27 <|
  bw_getR hZ fl_RX11_19 obC_0 rfl dX11_mend_28 <|
  bw_callVI (As := []) hZ ml_RX11_256 rc_2 obC_3 (by decide) (c_X2_waysFound (zl Z) (zY Z) (hZ_S hZ) w5) rfl rfl (Nat.le_of_ble_eq_true rfl) dX11_mend_31 fun r8 w7 =>
  bw_if_ne hZ (tgt := 41) (by decide) dX11_mend_34 (fun _ =>
  bw_aload_n hZ 0 rfl dX11_mend_41 <|
  bw_getR hZ fl_RX11_53 obC_0 rfl dX11_mend_42 <|
  bw_iload_n hZ 1 rfl dX11_mend_45 <|
  bw_iload_n hZ 2 rfl dX11_mend_46 <|
  bw_iload_n hZ 3 rfl dX11_mend_47 <|
  bw_callVI (As := [.int x1, .int x2, .int x3]) hZ ml_RX11_338 rc_3 obC_28 (by decide) (c_X3_fewestChanges (zl Z) (zY Z) (hZ_S hZ) x1 x2 x3 w7) rfl rfl (Nat.le_of_ble_eq_true rfl) dX11_mend_48 fun r10 w9 =>
  bw_iret hZ hE dX11_mend_51) (fun _ =>
  bw_iconst hZ (-1) (by decide) dX11_mend_37 <|
  bw_goto hZ (tgt := 51) (by decide) dX11_mend_38 <|
  bw_iret hZ hE dX11_mend_51)) (fun _ =>
  bw_bipush hZ (-2) (by decide) dX11_mend_24 <|
  bw_iret hZ hE dX11_mend_26)))
theorem c_X11_mend (l : Launch) (Y : Ev) (hY : Y.1 = SC) (x1 : Int32) (x2 : Int32) (x3 : Int32)  (w : Wd) : CI l Y yX11_mend cX11_mend 4 8 [.ref (ph Y 0), .int x1, .int x2, .int x3] w .int (f_X11_mend x1 x2 x3 w) := by
  refine CI_of (S := SC) (by decide) (Nat.le_of_ble_eq_true rfl) hY ?_
  intro Z hl hY2 hZ hE
  subst hY2
  exact t_X11_mend hZ hE x1 x2 x3 w
-- WhichWill.count
theorem dX11_count_0 : decode cX11_count 0 = .ok (.iload_n 1, 1) := by decide +kernel
theorem dX11_count_1 : decode cX11_count 1 = .ok (.tableswitch 66 0 3 #[31, 42, 50, 58], 31) := by decide +kernel
theorem dX11_count_32 : decode cX11_count 32 = .ok (.aload_n 0, 1) := by decide +kernel
theorem dX11_count_33 : decode cX11_count 33 = .ok (.getfield 19, 3) := by decide +kernel
theorem dX11_count_36 : decode cX11_count 36 = .ok (.getfield 98, 3) := by decide +kernel
theorem dX11_count_39 : decode cX11_count 39 = .ok (.getfield 101, 3) := by decide +kernel
theorem dX11_count_42 : decode cX11_count 42 = .ok (.ireturn, 1) := by decide +kernel
theorem dX11_count_43 : decode cX11_count 43 = .ok (.aload_n 0, 1) := by decide +kernel
theorem dX11_count_44 : decode cX11_count 44 = .ok (.getfield 46, 3) := by decide +kernel
theorem dX11_count_47 : decode cX11_count 47 = .ok (.getfield 95, 3) := by decide +kernel
theorem dX11_count_50 : decode cX11_count 50 = .ok (.ireturn, 1) := by decide +kernel
theorem dX11_count_51 : decode cX11_count 51 = .ok (.aload_n 0, 1) := by decide +kernel
theorem dX11_count_52 : decode cX11_count 52 = .ok (.getfield 19, 3) := by decide +kernel
theorem dX11_count_55 : decode cX11_count 55 = .ok (.invokevirtual 107, 3) := by decide +kernel
theorem dX11_count_58 : decode cX11_count 58 = .ok (.ireturn, 1) := by decide +kernel
theorem dX11_count_59 : decode cX11_count 59 = .ok (.aload_n 0, 1) := by decide +kernel
theorem dX11_count_60 : decode cX11_count 60 = .ok (.getfield 10, 3) := by decide +kernel
theorem dX11_count_63 : decode cX11_count 63 = .ok (.getfield 76, 3) := by decide +kernel
theorem dX11_count_66 : decode cX11_count 66 = .ok (.ireturn, 1) := by decide +kernel
theorem dX11_count_67 : decode cX11_count 67 = .ok (.iconst (-1), 1) := by decide +kernel
theorem dX11_count_68 : decode cX11_count 68 = .ok (.ireturn, 1) := by decide +kernel
def f_X11_count (x1 : Int32) (w : Wd) : Option (Int32 × Wd) :=
  if x1 = 0 then
  (some (w.1 31 17, w))
  else
  if x1 = 1 then
  (some (w.1 22 0, w))
  else
  if x1 = 2 then
  (cl (f_X2_itemsTold w) fun r2 w1 =>
  some (r2, w1))
  else
  if x1 = 3 then
  (some (w.1 1 1, w))
  else
  some ((-1), w)
set_option maxRecDepth 100000 in
set_option maxHeartbeats 4000000 in
theorem t_X11_count {Z : Cz (Int32 × Wd)} (hZ : OKZ Z SC cX11_count RX11 2 (some .int) 2) (hE : EndI Z) (x1 : Int32)  (w : Wd) : BW Z 2 0 [(0, .ref (ph (zY Z) 0)), (1, .int x1)] [] w (f_X11_count x1 w) :=
  bw_iload_n hZ 1 rfl dX11_count_0 <|
  bw_if (fun h => bw_tabIn hZ (tgt := 32) (off := 31) 0 (by rw [h]; decide) (by decide) (by decide) (by decide) (by decide) dX11_count_1 <|
  bw_aload_n hZ 0 rfl dX11_count_32 <|
  bw_getR hZ fl_RX11_19 obC_0 rfl dX11_count_33 <|
  bw_getR hZ fl_RX11_98 obC_3 rfl dX11_count_36 <|
  bw_getI hZ fl_RX11_101 (by decide) obC_31 dX11_count_39 <|
  bw_iret hZ hE dX11_count_42) (fun h0 =>
  bw_if (fun h => bw_tabIn hZ (tgt := 43) (off := 42) 1 (by rw [h]; decide) (by decide) (by decide) (by decide) (by decide) dX11_count_1 <|
  bw_aload_n hZ 0 rfl dX11_count_43 <|
  bw_getR hZ fl_RX11_46 obC_0 rfl dX11_count_44 <|
  bw_getI hZ fl_RX11_95 (by decide) obC_22 dX11_count_47 <|
  bw_iret hZ hE dX11_count_50) (fun h1 =>
  bw_if (fun h => bw_tabIn hZ (tgt := 51) (off := 50) 2 (by rw [h]; decide) (by decide) (by decide) (by decide) (by decide) dX11_count_1 <|
  bw_aload_n hZ 0 rfl dX11_count_51 <|
  bw_getR hZ fl_RX11_19 obC_0 rfl dX11_count_52 <|
  bw_callVI (As := []) hZ ml_RX11_107 rc_2 obC_3 (by decide) (c_X2_itemsTold (zl Z) (zY Z) (hZ_S hZ) w) rfl rfl (Nat.le_of_ble_eq_true rfl) dX11_count_55 fun r2 w1 =>
  bw_iret hZ hE dX11_count_58) (fun h2 =>
  bw_if (fun h => bw_tabIn hZ (tgt := 59) (off := 58) 3 (by rw [h]; decide) (by decide) (by decide) (by decide) (by decide) dX11_count_1 <|
  bw_aload_n hZ 0 rfl dX11_count_59 <|
  bw_getR hZ fl_RX11_10 obC_0 rfl dX11_count_60 <|
  bw_getI hZ fl_RX11_76 (by decide) obC_1 dX11_count_63 <|
  bw_iret hZ hE dX11_count_66) (fun h3 =>
  bw_tabOut hZ (tgt := 67) (by have q0 := ne_int h0 (n := 0) (by decide); have q1 := ne_int h1 (n := 1) (by decide); have q2 := ne_int h2 (n := 2) (by decide); have q3 := ne_int h3 (n := 3) (by decide); omega) (by decide) dX11_count_1 <|
  bw_iconst hZ (-1) (by decide) dX11_count_67 <|
  bw_iret hZ hE dX11_count_68))))
theorem c_X11_count (l : Launch) (Y : Ev) (hY : Y.1 = SC) (x1 : Int32)  (w : Wd) : CI l Y yX11_count cX11_count 2 2 [.ref (ph Y 0), .int x1] w .int (f_X11_count x1 w) := by
  refine CI_of (S := SC) (by decide) (Nat.le_of_ble_eq_true rfl) hY ?_
  intro Z hl hY2 hZ hE
  subst hY2
  exact t_X11_count hZ hE x1 w
-- WhichWill.readOffers
theorem dX11_readOffers_0 : decode cX11_readOffers 0 = .ok (.aload_n 0, 1) := by decide +kernel
theorem dX11_readOffers_1 : decode cX11_readOffers 1 = .ok (.getfield 19, 3) := by decide +kernel
theorem dX11_readOffers_4 : decode cX11_readOffers 4 = .ok (.getfield 98, 3) := by decide +kernel
theorem dX11_readOffers_7 : decode cX11_readOffers 7 = .ok (.getfield 148, 3) := by decide +kernel
theorem dX11_readOffers_10 : decode cX11_readOffers 10 = .ok (.getfield 143, 3) := by decide +kernel
theorem dX11_readOffers_13 : decode cX11_readOffers 13 = .ok (.istore_n 1, 1) := by decide +kernel
theorem dX11_readOffers_14 : decode cX11_readOffers 14 = .ok (.aload_n 0, 1) := by decide +kernel
theorem dX11_readOffers_15 : decode cX11_readOffers 15 = .ok (.getfield 10, 3) := by decide +kernel
theorem dX11_readOffers_18 : decode cX11_readOffers 18 = .ok (.invokevirtual 352, 3) := by decide +kernel
theorem dX11_readOffers_21 : decode cX11_readOffers 21 = .ok (.iconst 0, 1) := by decide +kernel
theorem dX11_readOffers_22 : decode cX11_readOffers 22 = .ok (.istore_n 2, 1) := by decide +kernel
theorem dX11_readOffers_23 : decode cX11_readOffers 23 = .ok (.iload_n 2, 1) := by decide +kernel
theorem dX11_readOffers_24 : decode cX11_readOffers 24 = .ok (.iload_n 1, 1) := by decide +kernel
theorem dX11_readOffers_25 : decode cX11_readOffers 25 = .ok (.if_icmp .ge 26, 3) := by decide +kernel
theorem dX11_readOffers_28 : decode cX11_readOffers 28 = .ok (.aload_n 0, 1) := by decide +kernel
theorem dX11_readOffers_29 : decode cX11_readOffers 29 = .ok (.getfield 57, 3) := by decide +kernel
theorem dX11_readOffers_32 : decode cX11_readOffers 32 = .ok (.iload_n 2, 1) := by decide +kernel
theorem dX11_readOffers_33 : decode cX11_readOffers 33 = .ok (.aload_n 0, 1) := by decide +kernel
theorem dX11_readOffers_34 : decode cX11_readOffers 34 = .ok (.getfield 10, 3) := by decide +kernel
theorem dX11_readOffers_37 : decode cX11_readOffers 37 = .ok (.iconst 0, 1) := by decide +kernel
theorem dX11_readOffers_38 : decode cX11_readOffers 38 = .ok (.ldc_w 355, 3) := by decide +kernel
theorem dX11_readOffers_41 : decode cX11_readOffers 41 = .ok (.invokevirtual 356, 3) := by decide +kernel
theorem dX11_readOffers_44 : decode cX11_readOffers 44 = .ok (.iastore, 1) := by decide +kernel
theorem dX11_readOffers_45 : decode cX11_readOffers 45 = .ok (.iinc 2 1, 3) := by decide +kernel
theorem dX11_readOffers_48 : decode cX11_readOffers 48 = .ok (.goto (-25), 3) := by decide +kernel
theorem dX11_readOffers_51 : decode cX11_readOffers 51 = .ok (.aload_n 0, 1) := by decide +kernel
theorem dX11_readOffers_52 : decode cX11_readOffers 52 = .ok (.getfield 10, 3) := by decide +kernel
theorem dX11_readOffers_55 : decode cX11_readOffers 55 = .ok (.invokevirtual 359, 3) := by decide +kernel
theorem dX11_readOffers_58 : decode cX11_readOffers 58 = .ok (.ifCond .ne 17, 3) := by decide +kernel
theorem dX11_readOffers_61 : decode cX11_readOffers 61 = .ok (.aload_n 0, 1) := by decide +kernel
theorem dX11_readOffers_62 : decode cX11_readOffers 62 = .ok (.getfield 10, 3) := by decide +kernel
theorem dX11_readOffers_65 : decode cX11_readOffers 65 = .ok (.getfield 362, 3) := by decide +kernel
theorem dX11_readOffers_68 : decode cX11_readOffers 68 = .ok (.ifCond .ne 7, 3) := by decide +kernel
theorem dX11_readOffers_71 : decode cX11_readOffers 71 = .ok (.iconst 1, 1) := by decide +kernel
theorem dX11_readOffers_72 : decode cX11_readOffers 72 = .ok (.goto 4, 3) := by decide +kernel
theorem dX11_readOffers_75 : decode cX11_readOffers 75 = .ok (.iconst 0, 1) := by decide +kernel
theorem dX11_readOffers_76 : decode cX11_readOffers 76 = .ok (.ireturn, 1) := by decide +kernel
def X11_readOffers_b23 (k23 : Int32 → Int32 → Wd → Option (Int32 × Wd)) (y1 : Int32) (y2 : Int32) (w : Wd) : Option (Int32 × Wd) :=
  if y1 ≤ y2 then
  (cl (f_X10_hasFailed w) fun r4 w3 =>
  if r4 = 0 then
  (if (w3.1 1 2) = 0 then
  (some (1, w3))
  else
  some (0, w3))
  else
  some (0, w3))
  else
  cl (f_X10_number 0 99999 w) fun r6 w5 =>
  if inb y2 8 = true then
  (lt (wI w5 30 (Int32.toNatClampNeg y2) r6) fun w7 =>
  k23 y1 (y2 + 1) w7)
  else none
set_option maxRecDepth 100000 in
set_option maxHeartbeats 4000000 in
theorem t_X11_readOffers_b23 {Z : Cz (Int32 × Wd)} (hZ : OKZ Z SC cX11_readOffers RX11 3 (some .boolean) 3) (hE : EndI Z) (k23 : Int32 → Int32 → Wd → Option (Int32 × Wd)) (hk23 : ∀ (y1 : Int32) (y2 : Int32)  (w : Wd), BW Z 3 23 [(0, .ref (ph (zY Z) 0)), (1, .int y1), (2, .int y2)] [] w (k23 y1 y2 w)) (y1 : Int32) (y2 : Int32)  (w : Wd) : BW Z 3 23 [(0, .ref (ph (zY Z) 0)), (1, .int y1), (2, .int y2)] [] w (X11_readOffers_b23 k23 y1 y2 w) :=
  bw_iload_n hZ 2 rfl dX11_readOffers_23 <|
  bw_iload_n hZ 1 rfl dX11_readOffers_24 <|
  bw_icmp_ge hZ (tgt := 51) (by decide) dX11_readOffers_25 (fun _ =>
  bw_aload_n hZ 0 rfl dX11_readOffers_51 <|
  bw_getR hZ fl_RX11_10 obC_0 rfl dX11_readOffers_52 <|
  bw_callVI (As := []) hZ ml_RX11_359 rc_10 obC_1 (by decide) (c_X10_hasFailed (zl Z) (zY Z) (hZ_S hZ) w) rfl rfl (Nat.le_of_ble_eq_true rfl) dX11_readOffers_55 fun r4 w3 =>
  bw_if_ne hZ (tgt := 75) (by decide) dX11_readOffers_58 (fun _ =>
  bw_iconst hZ 0 (by decide) dX11_readOffers_75 <|
  bw_zret hZ hE (by decide) dX11_readOffers_76) (fun _ =>
  bw_aload_n hZ 0 rfl dX11_readOffers_61 <|
  bw_getR hZ fl_RX11_10 obC_0 rfl dX11_readOffers_62 <|
  bw_getI hZ fl_RX11_362 (by decide) obC_1 dX11_readOffers_65 <|
  bw_if_ne hZ (tgt := 75) (by decide) dX11_readOffers_68 (fun _ =>
  bw_iconst hZ 0 (by decide) dX11_readOffers_75 <|
  bw_zret hZ hE (by decide) dX11_readOffers_76) (fun _ =>
  bw_iconst hZ 1 (by decide) dX11_readOffers_71 <|
  bw_goto hZ (tgt := 76) (by decide) dX11_readOffers_72 <|
  bw_zret hZ hE (by decide) dX11_readOffers_76))) (fun _ =>
  bw_aload_n hZ 0 rfl dX11_readOffers_28 <|
  bw_getR hZ fl_RX11_57 obC_0 rfl dX11_readOffers_29 <|
  bw_iload_n hZ 2 rfl dX11_readOffers_32 <|
  bw_aload_n hZ 0 rfl dX11_readOffers_33 <|
  bw_getR hZ fl_RX11_10 obC_0 rfl dX11_readOffers_34 <|
  bw_iconst hZ 0 (by decide) dX11_readOffers_37 <|
  bw_ldcw hZ kk_RX11_355 dX11_readOffers_38 <|
  bw_callVI (As := [.int 0, .int 99999]) hZ ml_RX11_356 rc_10 obC_1 (by decide) (c_X10_number (zl Z) (zY Z) (hZ_S hZ) 0 99999 w) rfl rfl (Nat.le_of_ble_eq_true rfl) dX11_readOffers_41 fun r6 w5 =>
  bw_iast hZ (arC_30 _) dX11_readOffers_44 fun w7 =>
  bw_iinc hZ 1 2 rfl (by decide) (by decide) rfl dX11_readOffers_45 <|
  bw_goto hZ (tgt := 23) (by decide) dX11_readOffers_48 <|
  bw_sub [1, 2, 0] rfl (hk23 y1 (y2 + 1) w7))
def X11_readOffers_b23_L  : Int32 → Int32 → Wd → Option (Int32 × Wd) :=
  lp fu (fun _ _ _ => none) (fun k23 => X11_readOffers_b23 k23)
theorem t_X11_readOffers_b23_L {Z : Cz (Int32 × Wd)} (hZ : OKZ Z SC cX11_readOffers RX11 3 (some .boolean) 3) (hE : EndI Z)  : ∀ (y1 : Int32) (y2 : Int32)  (w : Wd), BW Z 3 23 [(0, .ref (ph (zY Z) 0)), (1, .int y1), (2, .int y2)] [] w (X11_readOffers_b23_L y1 y2 w) :=
  lp_bw (fun k23 => ∀ (y1 : Int32) (y2 : Int32)  (w : Wd), BW Z 3 23 [(0, .ref (ph (zY Z) 0)), (1, .int y1), (2, .int y2)] [] w (k23 y1 y2 w)) (fun _ _ _ => bw_none) (fun k23 hk23 y1 y2 w => t_X11_readOffers_b23 hZ hE k23 hk23 y1 y2 w) fu
def f_X11_readOffers (w : Wd) : Option (Int32 × Wd) :=
  lt (w.1 34 1) fun v1 =>
  cv (f_X10_open w) fun w2 =>
  X11_readOffers_b23_L v1 0 w2
set_option maxRecDepth 100000 in
set_option maxHeartbeats 4000000 in
theorem t_X11_readOffers {Z : Cz (Int32 × Wd)} (hZ : OKZ Z SC cX11_readOffers RX11 3 (some .boolean) 3) (hE : EndI Z)   (w : Wd) : BW Z 3 0 [(0, .ref (ph (zY Z) 0))] [] w (f_X11_readOffers w) :=
  bw_aload_n hZ 0 rfl dX11_readOffers_0 <|
  bw_getR hZ fl_RX11_19 obC_0 rfl dX11_readOffers_1 <|
  bw_getR hZ fl_RX11_98 obC_3 rfl dX11_readOffers_4 <|
  bw_getR hZ fl_RX11_148 obC_31 rfl dX11_readOffers_7 <|
  bw_getI hZ fl_RX11_143 (by decide) obC_34 dX11_readOffers_10 <|
  bw_nm fun v1 =>
  bw_istore_n hZ rfl (by decide) rfl dX11_readOffers_13 <|
  bw_aload_n hZ 1 rfl dX11_readOffers_14 <|
  bw_getR hZ fl_RX11_10 obC_0 rfl dX11_readOffers_15 <|
  bw_callVV (As := []) hZ ml_RX11_352 rc_10 obC_1 (by decide) (c_X10_open (zl Z) (zY Z) (hZ_S hZ) w) rfl rfl (Nat.le_of_ble_eq_true rfl) dX11_readOffers_18 fun w2 =>
  bw_iconst hZ 0 (by decide) dX11_readOffers_21 <|
  bw_istore_n hZ rfl (by decide) rfl dX11_readOffers_22 <|
  bw_sub [2, 1, 0] rfl (t_X11_readOffers_b23_L hZ hE v1 0 w2)
theorem c_X11_readOffers (l : Launch) (Y : Ev) (hY : Y.1 = SC)   (w : Wd) : CI l Y yX11_readOffers cX11_readOffers 3 3 [.ref (ph Y 0)] w .boolean (f_X11_readOffers w) := by
  refine CI_of (S := SC) (by decide) (Nat.le_of_ble_eq_true rfl) hY ?_
  intro Z hl hY2 hZ hE
  subst hY2
  exact t_X11_readOffers hZ hE w
-- WhichWill.offeredTo
theorem dX11_offeredTo_0 : decode cX11_offeredTo 0 = .ok (.iconst 0, 1) := by decide +kernel
theorem dX11_offeredTo_1 : decode cX11_offeredTo 1 = .ok (.istore_n 2, 1) := by decide +kernel
theorem dX11_offeredTo_2 : decode cX11_offeredTo 2 = .ok (.iconst 0, 1) := by decide +kernel
theorem dX11_offeredTo_3 : decode cX11_offeredTo 3 = .ok (.istore_n 3, 1) := by decide +kernel
theorem dX11_offeredTo_4 : decode cX11_offeredTo 4 = .ok (.iload_n 3, 1) := by decide +kernel
theorem dX11_offeredTo_5 : decode cX11_offeredTo 5 = .ok (.bipush 8, 2) := by decide +kernel
theorem dX11_offeredTo_7 : decode cX11_offeredTo 7 = .ok (.if_icmp .ge 30, 3) := by decide +kernel
theorem dX11_offeredTo_10 : decode cX11_offeredTo 10 = .ok (.iload_n 2, 1) := by decide +kernel
theorem dX11_offeredTo_11 : decode cX11_offeredTo 11 = .ok (.iload_n 1, 1) := by decide +kernel
theorem dX11_offeredTo_12 : decode cX11_offeredTo 12 = .ok (.iload_n 3, 1) := by decide +kernel
theorem dX11_offeredTo_13 : decode cX11_offeredTo 13 = .ok (.ishr, 1) := by decide +kernel
theorem dX11_offeredTo_14 : decode cX11_offeredTo 14 = .ok (.iconst 1, 1) := by decide +kernel
theorem dX11_offeredTo_15 : decode cX11_offeredTo 15 = .ok (.iand, 1) := by decide +kernel
theorem dX11_offeredTo_16 : decode cX11_offeredTo 16 = .ok (.ifCond .eq 12, 3) := by decide +kernel
theorem dX11_offeredTo_19 : decode cX11_offeredTo 19 = .ok (.aload_n 0, 1) := by decide +kernel
theorem dX11_offeredTo_20 : decode cX11_offeredTo 20 = .ok (.getfield 57, 3) := by decide +kernel
theorem dX11_offeredTo_23 : decode cX11_offeredTo 23 = .ok (.iload_n 3, 1) := by decide +kernel
theorem dX11_offeredTo_24 : decode cX11_offeredTo 24 = .ok (.iaload, 1) := by decide +kernel
theorem dX11_offeredTo_25 : decode cX11_offeredTo 25 = .ok (.goto 4, 3) := by decide +kernel
theorem dX11_offeredTo_28 : decode cX11_offeredTo 28 = .ok (.iconst 0, 1) := by decide +kernel
theorem dX11_offeredTo_29 : decode cX11_offeredTo 29 = .ok (.iadd, 1) := by decide +kernel
theorem dX11_offeredTo_30 : decode cX11_offeredTo 30 = .ok (.istore_n 2, 1) := by decide +kernel
theorem dX11_offeredTo_31 : decode cX11_offeredTo 31 = .ok (.iinc 3 1, 3) := by decide +kernel
theorem dX11_offeredTo_34 : decode cX11_offeredTo 34 = .ok (.goto (-30), 3) := by decide +kernel
theorem dX11_offeredTo_37 : decode cX11_offeredTo 37 = .ok (.iload_n 2, 1) := by decide +kernel
theorem dX11_offeredTo_38 : decode cX11_offeredTo 38 = .ok (.ireturn, 1) := by decide +kernel
def X11_offeredTo_b4 (k4 : Int32 → Int32 → Int32 → Wd → Option (Int32 × Wd)) (y1 : Int32) (y2 : Int32) (y3 : Int32) (w : Wd) : Option (Int32 × Wd) :=
  if 8 ≤ y3 then
  (some (y2, w))
  else
  if ((y1 >>> (y3 &&& 31)) &&& 1) = 0 then
  (lt (y2 + 0) fun v1 =>
  k4 y1 v1 (y3 + 1) w)
  else
  if inb y3 8 = true then
  (lt (y2 + (w.1 30 (Int32.toNatClampNeg y3))) fun v2 =>
  k4 y1 v2 (y3 + 1) w)
  else none
set_option maxRecDepth 100000 in
set_option maxHeartbeats 4000000 in
theorem t_X11_offeredTo_b4 {Z : Cz (Int32 × Wd)} (hZ : OKZ Z SC cX11_offeredTo RX11 4 (some .int) 1) (hE : EndI Z) (k4 : Int32 → Int32 → Int32 → Wd → Option (Int32 × Wd)) (hk4 : ∀ (y1 : Int32) (y2 : Int32) (y3 : Int32)  (w : Wd), BW Z 4 4 [(0, .ref (ph (zY Z) 0)), (1, .int y1), (2, .int y2), (3, .int y3)] [] w (k4 y1 y2 y3 w)) (y1 : Int32) (y2 : Int32) (y3 : Int32)  (w : Wd) : BW Z 4 4 [(0, .ref (ph (zY Z) 0)), (1, .int y1), (2, .int y2), (3, .int y3)] [] w (X11_offeredTo_b4 k4 y1 y2 y3 w) :=
  bw_iload_n hZ 3 rfl dX11_offeredTo_4 <|
  bw_bipush hZ 8 (by decide) dX11_offeredTo_5 <|
  bw_icmp_ge hZ (tgt := 37) (by decide) dX11_offeredTo_7 (fun _ =>
  bw_iload_n hZ 2 rfl dX11_offeredTo_37 <|
  bw_iret hZ hE dX11_offeredTo_38) (fun _ =>
  bw_iload_n hZ 2 rfl dX11_offeredTo_10 <|
  bw_iload_n hZ 1 rfl dX11_offeredTo_11 <|
  bw_iload_n hZ 3 rfl dX11_offeredTo_12 <|
  bw_ishr hZ dX11_offeredTo_13 <|
  bw_iconst hZ 1 (by decide) dX11_offeredTo_14 <|
  bw_iand hZ dX11_offeredTo_15 <|
  bw_if_eq hZ (tgt := 28) (by decide) dX11_offeredTo_16 (fun _ =>
  bw_iconst hZ 0 (by decide) dX11_offeredTo_28 <|
  bw_iadd hZ dX11_offeredTo_29 <|
  bw_nm fun v1 =>
  bw_istore_n hZ rfl (by decide) rfl dX11_offeredTo_30 <|
  bw_iinc hZ 1 3 rfl (by decide) (by decide) rfl dX11_offeredTo_31 <|
  bw_goto hZ (tgt := 4) (by decide) dX11_offeredTo_34 <|
  bw_sub [2, 3, 1, 0] rfl (hk4 y1 v1 (y3 + 1) w)) (fun _ =>
  bw_aload_n hZ 0 rfl dX11_offeredTo_19 <|
  bw_getR hZ fl_RX11_57 obC_0 rfl dX11_offeredTo_20 <|
  bw_iload_n hZ 3 rfl dX11_offeredTo_23 <|
  bw_iald hZ (arC_30 _) dX11_offeredTo_24 <|
  bw_goto hZ (tgt := 29) (by decide) dX11_offeredTo_25 <|
  bw_iadd hZ dX11_offeredTo_29 <|
  bw_nm fun v2 =>
  bw_istore_n hZ rfl (by decide) rfl dX11_offeredTo_30 <|
  bw_iinc hZ 1 3 rfl (by decide) (by decide) rfl dX11_offeredTo_31 <|
  bw_goto hZ (tgt := 4) (by decide) dX11_offeredTo_34 <|
  bw_sub [2, 3, 1, 0] rfl (hk4 y1 v2 (y3 + 1) w)))
def X11_offeredTo_b4_L  : Int32 → Int32 → Int32 → Wd → Option (Int32 × Wd) :=
  lp fu (fun _ _ _ _ => none) (fun k4 => X11_offeredTo_b4 k4)
theorem t_X11_offeredTo_b4_L {Z : Cz (Int32 × Wd)} (hZ : OKZ Z SC cX11_offeredTo RX11 4 (some .int) 1) (hE : EndI Z)  : ∀ (y1 : Int32) (y2 : Int32) (y3 : Int32)  (w : Wd), BW Z 4 4 [(0, .ref (ph (zY Z) 0)), (1, .int y1), (2, .int y2), (3, .int y3)] [] w (X11_offeredTo_b4_L y1 y2 y3 w) :=
  lp_bw (fun k4 => ∀ (y1 : Int32) (y2 : Int32) (y3 : Int32)  (w : Wd), BW Z 4 4 [(0, .ref (ph (zY Z) 0)), (1, .int y1), (2, .int y2), (3, .int y3)] [] w (k4 y1 y2 y3 w)) (fun _ _ _ _ => bw_none) (fun k4 hk4 y1 y2 y3 w => t_X11_offeredTo_b4 hZ hE k4 hk4 y1 y2 y3 w) fu
def f_X11_offeredTo (x1 : Int32) (w : Wd) : Option (Int32 × Wd) :=
  X11_offeredTo_b4_L x1 0 0 w
set_option maxRecDepth 100000 in
set_option maxHeartbeats 4000000 in
theorem t_X11_offeredTo {Z : Cz (Int32 × Wd)} (hZ : OKZ Z SC cX11_offeredTo RX11 4 (some .int) 1) (hE : EndI Z) (x1 : Int32)  (w : Wd) : BW Z 4 0 [(0, .ref (ph (zY Z) 0)), (1, .int x1)] [] w (f_X11_offeredTo x1 w) :=
  bw_iconst hZ 0 (by decide) dX11_offeredTo_0 <|
  bw_istore_n hZ rfl (by decide) rfl dX11_offeredTo_1 <|
  bw_iconst hZ 0 (by decide) dX11_offeredTo_2 <|
  bw_istore_n hZ rfl (by decide) rfl dX11_offeredTo_3 <|
  bw_sub [2, 3, 1, 0] rfl (t_X11_offeredTo_b4_L hZ hE x1 0 0 w)
theorem c_X11_offeredTo (l : Launch) (Y : Ev) (hY : Y.1 = SC) (x1 : Int32)  (w : Wd) : CI l Y yX11_offeredTo cX11_offeredTo 4 1 [.ref (ph Y 0), .int x1] w .int (f_X11_offeredTo x1 w) := by
  refine CI_of (S := SC) (by decide) (Nat.le_of_ble_eq_true rfl) hY ?_
  intro Z hl hY2 hZ hE
  subst hY2
  exact t_X11_offeredTo hZ hE x1 w
-- WhichWillModel.in
theorem dX12_in_0 : decode cX12_in 0 = .ok (.lload_n 0, 1) := by decide +kernel
theorem dX12_in_1 : decode cX12_in 1 = .ok (.lload_n 2, 1) := by decide +kernel
theorem dX12_in_2 : decode cX12_in 2 = .ok (.lcmp, 1) := by decide +kernel
theorem dX12_in_3 : decode cX12_in 3 = .ok (.ifCond .lt 14, 3) := by decide +kernel
theorem dX12_in_6 : decode cX12_in 6 = .ok (.lload_n 0, 1) := by decide +kernel
theorem dX12_in_7 : decode cX12_in 7 = .ok (.lload 4, 2) := by decide +kernel
theorem dX12_in_9 : decode cX12_in 9 = .ok (.lcmp, 1) := by decide +kernel
theorem dX12_in_10 : decode cX12_in 10 = .ok (.ifCond .gt 7, 3) := by decide +kernel
theorem dX12_in_13 : decode cX12_in 13 = .ok (.iconst 1, 1) := by decide +kernel
theorem dX12_in_14 : decode cX12_in 14 = .ok (.goto 4, 3) := by decide +kernel
theorem dX12_in_17 : decode cX12_in 17 = .ok (.iconst 0, 1) := by decide +kernel
theorem dX12_in_18 : decode cX12_in 18 = .ok (.ireturn, 1) := by decide +kernel
def f_X12_in (x0 : Int64) (x2 : Int64) (x4 : Int64) (w : Wd) : Option (Int32 × Wd) :=
  if (lg_cmp x0 x2) < 0 then
  (some (0, w))
  else
  if 0 < (lg_cmp x0 x4) then
  (some (0, w))
  else
  some (1, w)
set_option maxRecDepth 100000 in
set_option maxHeartbeats 4000000 in
theorem t_X12_in {Z : Cz (Int32 × Wd)} (hZ : OKZ Z SM cX12_in RX12 6 (some .boolean) 1) (hE : EndI Z) (x0 : Int64) (x2 : Int64) (x4 : Int64)  (w : Wd) : BW Z 6 0 [(0, .long x0), (2, .long x2), (4, .long x4)] [] w (f_X12_in x0 x2 x4 w) :=
  bw_lload_n hZ 0 rfl dX12_in_0 <|
  bw_lload_n hZ 1 rfl dX12_in_1 <|
  bw_lcmp hZ dX12_in_2 <|
  bw_if_lt hZ (tgt := 17) (by decide) dX12_in_3 (fun _ =>
  bw_iconst hZ 0 (by decide) dX12_in_17 <|
  bw_zret hZ hE (by decide) dX12_in_18) (fun _ =>
  bw_lload_n hZ 0 rfl dX12_in_6 <|
  bw_lload hZ 2 rfl dX12_in_7 <|
  bw_lcmp hZ dX12_in_9 <|
  bw_if_gt hZ (tgt := 17) (by decide) dX12_in_10 (fun _ =>
  bw_iconst hZ 0 (by decide) dX12_in_17 <|
  bw_zret hZ hE (by decide) dX12_in_18) (fun _ =>
  bw_iconst hZ 1 (by decide) dX12_in_13 <|
  bw_goto hZ (tgt := 18) (by decide) dX12_in_14 <|
  bw_zret hZ hE (by decide) dX12_in_18))
theorem c_X12_in (l : Launch) (Y : Ev) (hY : Y.1 = SM) (x0 : Int64) (x2 : Int64) (x4 : Int64)  (w : Wd) : CI l Y yX12_in cX12_in 6 1 [.long x0, .long x2, .long x4] w .boolean (f_X12_in x0 x2 x4 w) := by
  refine CI_of (S := SM) (by decide) (Nat.le_of_ble_eq_true rfl) hY ?_
  intro Z hl hY2 hZ hE
  subst hY2
  exact t_X12_in hZ hE x0 x2 x4 w
-- WhichWillModel.bad
theorem dX12_bad_0 : decode cX12_bad 0 = .ok (.aload_n 0, 1) := by decide +kernel
theorem dX12_bad_1 : decode cX12_bad 1 = .ok (.iload_n 1, 1) := by decide +kernel
theorem dX12_bad_2 : decode cX12_bad 2 = .ok (.putfield 1, 3) := by decide +kernel
theorem dX12_bad_5 : decode cX12_bad 5 = .ok (.aload_n 0, 1) := by decide +kernel
theorem dX12_bad_6 : decode cX12_bad 6 = .ok (.aload_n 0, 1) := by decide +kernel
theorem dX12_bad_7 : decode cX12_bad 7 = .ok (.getfield 7, 3) := by decide +kernel
theorem dX12_bad_10 : decode cX12_bad 10 = .ok (.putfield 10, 3) := by decide +kernel
theorem dX12_bad_13 : decode cX12_bad 13 = .ok (.iconst 0, 1) := by decide +kernel
theorem dX12_bad_14 : decode cX12_bad 14 = .ok (.ireturn, 1) := by decide +kernel
def f_X12_bad (x1 : Int32) (w : Wd) : Option (Int32 × Wd) :=
  lt (wI w 0 8 x1) fun w1 =>
  lt (wI w1 0 9 (w1.1 0 3)) fun w2 =>
  some (0, w2)
set_option maxRecDepth 100000 in
set_option maxHeartbeats 4000000 in
theorem t_X12_bad {Z : Cz (Int32 × Wd)} (hZ : OKZ Z SM cX12_bad RX12 2 (some .boolean) 1) (hE : EndI Z) (x1 : Int32)  (w : Wd) : BW Z 2 0 [(0, .ref (ph (zY Z) 0)), (1, .int x1)] [] w (f_X12_bad x1 w) :=
  bw_aload_n hZ 0 rfl dX12_bad_0 <|
  bw_iload_n hZ 1 rfl dX12_bad_1 <|
  bw_putI hZ fl_RX12_1 rfl rfl (by decide) obM_0 dX12_bad_2 fun w1 =>
  bw_aload_n hZ 0 rfl dX12_bad_5 <|
  bw_aload_n hZ 0 rfl dX12_bad_6 <|
  bw_getI hZ fl_RX12_7 (by decide) obM_0 dX12_bad_7 <|
  bw_putI hZ fl_RX12_10 rfl rfl (by decide) obM_0 dX12_bad_10 fun w2 =>
  bw_iconst hZ 0 (by decide) dX12_bad_13 <|
  bw_zret hZ hE (by decide) dX12_bad_14
theorem c_X12_bad (l : Launch) (Y : Ev) (hY : Y.1 = SM) (x1 : Int32)  (w : Wd) : CI l Y yX12_bad cX12_bad 2 1 [.ref (ph Y 0), .int x1] w .boolean (f_X12_bad x1 w) := by
  refine CI_of (S := SM) (by decide) (Nat.le_of_ble_eq_true rfl) hY ?_
  intro Z hl hY2 hZ hE
  subst hY2
  exact t_X12_bad hZ hE x1 w
-- WhichWillModel.byteAt
theorem dX12_byteAt_0 : decode cX12_byteAt 0 = .ok (.iload_n 1, 1) := by decide +kernel
theorem dX12_byteAt_1 : decode cX12_byteAt 1 = .ok (.aload_n 0, 1) := by decide +kernel
theorem dX12_byteAt_2 : decode cX12_byteAt 2 = .ok (.getfield 13, 3) := by decide +kernel
theorem dX12_byteAt_5 : decode cX12_byteAt 5 = .ok (.if_icmp .ge 16, 3) := by decide +kernel
theorem dX12_byteAt_8 : decode cX12_byteAt 8 = .ok (.aload_n 0, 1) := by decide +kernel
theorem dX12_byteAt_9 : decode cX12_byteAt 9 = .ok (.getfield 16, 3) := by decide +kernel
theorem dX12_byteAt_12 : decode cX12_byteAt 12 = .ok (.iload_n 1, 1) := by decide +kernel
theorem dX12_byteAt_13 : decode cX12_byteAt 13 = .ok (.baload, 1) := by decide +kernel
theorem dX12_byteAt_14 : decode cX12_byteAt 14 = .ok (.sipush 255, 3) := by decide +kernel
theorem dX12_byteAt_17 : decode cX12_byteAt 17 = .ok (.iand, 1) := by decide +kernel
theorem dX12_byteAt_18 : decode cX12_byteAt 18 = .ok (.goto 4, 3) := by decide +kernel
theorem dX12_byteAt_21 : decode cX12_byteAt 21 = .ok (.iconst 0, 1) := by decide +kernel
theorem dX12_byteAt_22 : decode cX12_byteAt 22 = .ok (.ireturn, 1) := by decide +kernel
def f_X12_byteAt (x1 : Int32) (w : Wd) : Option (Int32 × Wd) :=
  if (w.1 0 2) ≤ x1 then
  (some (0, w))
  else
  if inb x1 900 = true then
  (some ((w.1 1 (Int32.toNatClampNeg x1)) &&& 255, w))
  else none
set_option maxRecDepth 100000 in
set_option maxHeartbeats 4000000 in
theorem t_X12_byteAt {Z : Cz (Int32 × Wd)} (hZ : OKZ Z SM cX12_byteAt RX12 2 (some .int) 1) (hE : EndI Z) (x1 : Int32)  (w : Wd) : BW Z 2 0 [(0, .ref (ph (zY Z) 0)), (1, .int x1)] [] w (f_X12_byteAt x1 w) :=
  bw_iload_n hZ 1 rfl dX12_byteAt_0 <|
  bw_aload_n hZ 0 rfl dX12_byteAt_1 <|
  bw_getI hZ fl_RX12_13 (by decide) obM_0 dX12_byteAt_2 <|
  bw_icmp_ge hZ (tgt := 21) (by decide) dX12_byteAt_5 (fun _ =>
  bw_iconst hZ 0 (by decide) dX12_byteAt_21 <|
  bw_iret hZ hE dX12_byteAt_22) (fun _ =>
  bw_aload_n hZ 0 rfl dX12_byteAt_8 <|
  bw_getR hZ fl_RX12_16 obM_0 rfl dX12_byteAt_9 <|
  bw_iload_n hZ 1 rfl dX12_byteAt_12 <|
  bw_bald hZ (arM_1 _) dX12_byteAt_13 <|
  bw_sipush hZ 255 (by decide) dX12_byteAt_14 <|
  bw_iand hZ dX12_byteAt_17 <|
  bw_goto hZ (tgt := 22) (by decide) dX12_byteAt_18 <|
  bw_iret hZ hE dX12_byteAt_22)
theorem c_X12_byteAt (l : Launch) (Y : Ev) (hY : Y.1 = SM) (x1 : Int32)  (w : Wd) : CI l Y yX12_byteAt cX12_byteAt 2 1 [.ref (ph Y 0), .int x1] w .int (f_X12_byteAt x1 w) := by
  refine CI_of (S := SM) (by decide) (Nat.le_of_ble_eq_true rfl) hY ?_
  intro Z hl hY2 hZ hE
  subst hY2
  exact t_X12_byteAt hZ hE x1 w
-- WhichWillModel.isSmall
theorem dX12_isSmall_0 : decode cX12_isSmall 0 = .ok (.iload_n 0, 1) := by decide +kernel
theorem dX12_isSmall_1 : decode cX12_isSmall 1 = .ok (.bipush 97, 2) := by decide +kernel
theorem dX12_isSmall_3 : decode cX12_isSmall 3 = .ok (.if_icmp .lt 13, 3) := by decide +kernel
theorem dX12_isSmall_6 : decode cX12_isSmall 6 = .ok (.iload_n 0, 1) := by decide +kernel
theorem dX12_isSmall_7 : decode cX12_isSmall 7 = .ok (.bipush 122, 2) := by decide +kernel
theorem dX12_isSmall_9 : decode cX12_isSmall 9 = .ok (.if_icmp .gt 7, 3) := by decide +kernel
theorem dX12_isSmall_12 : decode cX12_isSmall 12 = .ok (.iconst 1, 1) := by decide +kernel
theorem dX12_isSmall_13 : decode cX12_isSmall 13 = .ok (.goto 4, 3) := by decide +kernel
theorem dX12_isSmall_16 : decode cX12_isSmall 16 = .ok (.iconst 0, 1) := by decide +kernel
theorem dX12_isSmall_17 : decode cX12_isSmall 17 = .ok (.ireturn, 1) := by decide +kernel
def f_X12_isSmall (x0 : Int32) (w : Wd) : Option (Int32 × Wd) :=
  if x0 < 97 then
  (some (0, w))
  else
  if 122 < x0 then
  (some (0, w))
  else
  some (1, w)
set_option maxRecDepth 100000 in
set_option maxHeartbeats 4000000 in
theorem t_X12_isSmall {Z : Cz (Int32 × Wd)} (hZ : OKZ Z SM cX12_isSmall RX12 1 (some .boolean) 1) (hE : EndI Z) (x0 : Int32)  (w : Wd) : BW Z 1 0 [(0, .int x0)] [] w (f_X12_isSmall x0 w) :=
  bw_iload_n hZ 0 rfl dX12_isSmall_0 <|
  bw_bipush hZ 97 (by decide) dX12_isSmall_1 <|
  bw_icmp_lt hZ (tgt := 16) (by decide) dX12_isSmall_3 (fun _ =>
  bw_iconst hZ 0 (by decide) dX12_isSmall_16 <|
  bw_zret hZ hE (by decide) dX12_isSmall_17) (fun _ =>
  bw_iload_n hZ 0 rfl dX12_isSmall_6 <|
  bw_bipush hZ 122 (by decide) dX12_isSmall_7 <|
  bw_icmp_gt hZ (tgt := 16) (by decide) dX12_isSmall_9 (fun _ =>
  bw_iconst hZ 0 (by decide) dX12_isSmall_16 <|
  bw_zret hZ hE (by decide) dX12_isSmall_17) (fun _ =>
  bw_iconst hZ 1 (by decide) dX12_isSmall_12 <|
  bw_goto hZ (tgt := 17) (by decide) dX12_isSmall_13 <|
  bw_zret hZ hE (by decide) dX12_isSmall_17))
theorem c_X12_isSmall (l : Launch) (Y : Ev) (hY : Y.1 = SM) (x0 : Int32)  (w : Wd) : CI l Y yX12_isSmall cX12_isSmall 1 1 [.int x0] w .boolean (f_X12_isSmall x0 w) := by
  refine CI_of (S := SM) (by decide) (Nat.le_of_ble_eq_true rfl) hY ?_
  intro Z hl hY2 hZ hE
  subst hY2
  exact t_X12_isSmall hZ hE x0 w
-- WhichWillModel.isDigit
theorem dX12_isDigit_0 : decode cX12_isDigit 0 = .ok (.iload_n 0, 1) := by decide +kernel
theorem dX12_isDigit_1 : decode cX12_isDigit 1 = .ok (.bipush 48, 2) := by decide +kernel
theorem dX12_isDigit_3 : decode cX12_isDigit 3 = .ok (.if_icmp .lt 13, 3) := by decide +kernel
theorem dX12_isDigit_6 : decode cX12_isDigit 6 = .ok (.iload_n 0, 1) := by decide +kernel
theorem dX12_isDigit_7 : decode cX12_isDigit 7 = .ok (.bipush 57, 2) := by decide +kernel
theorem dX12_isDigit_9 : decode cX12_isDigit 9 = .ok (.if_icmp .gt 7, 3) := by decide +kernel
theorem dX12_isDigit_12 : decode cX12_isDigit 12 = .ok (.iconst 1, 1) := by decide +kernel
theorem dX12_isDigit_13 : decode cX12_isDigit 13 = .ok (.goto 4, 3) := by decide +kernel
theorem dX12_isDigit_16 : decode cX12_isDigit 16 = .ok (.iconst 0, 1) := by decide +kernel
theorem dX12_isDigit_17 : decode cX12_isDigit 17 = .ok (.ireturn, 1) := by decide +kernel
def f_X12_isDigit (x0 : Int32) (w : Wd) : Option (Int32 × Wd) :=
  if x0 < 48 then
  (some (0, w))
  else
  if 57 < x0 then
  (some (0, w))
  else
  some (1, w)
set_option maxRecDepth 100000 in
set_option maxHeartbeats 4000000 in
theorem t_X12_isDigit {Z : Cz (Int32 × Wd)} (hZ : OKZ Z SM cX12_isDigit RX12 1 (some .boolean) 1) (hE : EndI Z) (x0 : Int32)  (w : Wd) : BW Z 1 0 [(0, .int x0)] [] w (f_X12_isDigit x0 w) :=
  bw_iload_n hZ 0 rfl dX12_isDigit_0 <|
  bw_bipush hZ 48 (by decide) dX12_isDigit_1 <|
  bw_icmp_lt hZ (tgt := 16) (by decide) dX12_isDigit_3 (fun _ =>
  bw_iconst hZ 0 (by decide) dX12_isDigit_16 <|
  bw_zret hZ hE (by decide) dX12_isDigit_17) (fun _ =>
  bw_iload_n hZ 0 rfl dX12_isDigit_6 <|
  bw_bipush hZ 57 (by decide) dX12_isDigit_7 <|
  bw_icmp_gt hZ (tgt := 16) (by decide) dX12_isDigit_9 (fun _ =>
  bw_iconst hZ 0 (by decide) dX12_isDigit_16 <|
  bw_zret hZ hE (by decide) dX12_isDigit_17) (fun _ =>
  bw_iconst hZ 1 (by decide) dX12_isDigit_12 <|
  bw_goto hZ (tgt := 17) (by decide) dX12_isDigit_13 <|
  bw_zret hZ hE (by decide) dX12_isDigit_17))
theorem c_X12_isDigit (l : Launch) (Y : Ev) (hY : Y.1 = SM) (x0 : Int32)  (w : Wd) : CI l Y yX12_isDigit cX12_isDigit 1 1 [.int x0] w .boolean (f_X12_isDigit x0 w) := by
  refine CI_of (S := SM) (by decide) (Nat.le_of_ble_eq_true rfl) hY ?_
  intro Z hl hY2 hZ hE
  subst hY2
  exact t_X12_isDigit hZ hE x0 w
-- WhichWillModel.scan
theorem dX12_scan_0 : decode cX12_scan 0 = .ok (.aload_n 0, 1) := by decide +kernel
theorem dX12_scan_1 : decode cX12_scan 1 = .ok (.getfield 20, 3) := by decide +kernel
theorem dX12_scan_4 : decode cX12_scan 4 = .ok (.aload_n 0, 1) := by decide +kernel
theorem dX12_scan_5 : decode cX12_scan 5 = .ok (.getfield 13, 3) := by decide +kernel
theorem dX12_scan_8 : decode cX12_scan 8 = .ok (.if_icmp .ge 44, 3) := by decide +kernel
theorem dX12_scan_11 : decode cX12_scan 11 = .ok (.aload_n 0, 1) := by decide +kernel
theorem dX12_scan_12 : decode cX12_scan 12 = .ok (.getfield 16, 3) := by decide +kernel
theorem dX12_scan_15 : decode cX12_scan 15 = .ok (.aload_n 0, 1) := by decide +kernel
theorem dX12_scan_16 : decode cX12_scan 16 = .ok (.getfield 20, 3) := by decide +kernel
theorem dX12_scan_19 : decode cX12_scan 19 = .ok (.baload, 1) := by decide +kernel
theorem dX12_scan_20 : decode cX12_scan 20 = .ok (.bipush 32, 2) := by decide +kernel
theorem dX12_scan_22 : decode cX12_scan 22 = .ok (.if_icmp .eq 17, 3) := by decide +kernel
theorem dX12_scan_25 : decode cX12_scan 25 = .ok (.aload_n 0, 1) := by decide +kernel
theorem dX12_scan_26 : decode cX12_scan 26 = .ok (.getfield 16, 3) := by decide +kernel
theorem dX12_scan_29 : decode cX12_scan 29 = .ok (.aload_n 0, 1) := by decide +kernel
theorem dX12_scan_30 : decode cX12_scan 30 = .ok (.getfield 20, 3) := by decide +kernel
theorem dX12_scan_33 : decode cX12_scan 33 = .ok (.baload, 1) := by decide +kernel
theorem dX12_scan_34 : decode cX12_scan 34 = .ok (.bipush 10, 2) := by decide +kernel
theorem dX12_scan_36 : decode cX12_scan 36 = .ok (.if_icmp .ne 16, 3) := by decide +kernel
theorem dX12_scan_39 : decode cX12_scan 39 = .ok (.aload_n 0, 1) := by decide +kernel
theorem dX12_scan_40 : decode cX12_scan 40 = .ok (.dup, 1) := by decide +kernel
theorem dX12_scan_41 : decode cX12_scan 41 = .ok (.getfield 20, 3) := by decide +kernel
theorem dX12_scan_44 : decode cX12_scan 44 = .ok (.iconst 1, 1) := by decide +kernel
theorem dX12_scan_45 : decode cX12_scan 45 = .ok (.iadd, 1) := by decide +kernel
theorem dX12_scan_46 : decode cX12_scan 46 = .ok (.putfield 20, 3) := by decide +kernel
theorem dX12_scan_49 : decode cX12_scan 49 = .ok (.goto (-49), 3) := by decide +kernel
theorem dX12_scan_52 : decode cX12_scan 52 = .ok (.aload_n 0, 1) := by decide +kernel
theorem dX12_scan_53 : decode cX12_scan 53 = .ok (.aload_n 0, 1) := by decide +kernel
theorem dX12_scan_54 : decode cX12_scan 54 = .ok (.getfield 20, 3) := by decide +kernel
theorem dX12_scan_57 : decode cX12_scan 57 = .ok (.putfield 7, 3) := by decide +kernel
theorem dX12_scan_60 : decode cX12_scan 60 = .ok (.aload_n 0, 1) := by decide +kernel
theorem dX12_scan_61 : decode cX12_scan 61 = .ok (.aload_n 0, 1) := by decide +kernel
theorem dX12_scan_62 : decode cX12_scan 62 = .ok (.getfield 7, 3) := by decide +kernel
theorem dX12_scan_65 : decode cX12_scan 65 = .ok (.invokevirtual 23, 3) := by decide +kernel
theorem dX12_scan_68 : decode cX12_scan 68 = .ok (.istore_n 1, 1) := by decide +kernel
theorem dX12_scan_69 : decode cX12_scan 69 = .ok (.aload_n 0, 1) := by decide +kernel
theorem dX12_scan_70 : decode cX12_scan 70 = .ok (.getfield 7, 3) := by decide +kernel
theorem dX12_scan_73 : decode cX12_scan 73 = .ok (.aload_n 0, 1) := by decide +kernel
theorem dX12_scan_74 : decode cX12_scan 74 = .ok (.getfield 13, 3) := by decide +kernel
theorem dX12_scan_77 : decode cX12_scan 77 = .ok (.if_icmp .ne 11, 3) := by decide +kernel
theorem dX12_scan_80 : decode cX12_scan 80 = .ok (.aload_n 0, 1) := by decide +kernel
theorem dX12_scan_81 : decode cX12_scan 81 = .ok (.iconst 0, 1) := by decide +kernel
theorem dX12_scan_82 : decode cX12_scan 82 = .ok (.putfield 27, 3) := by decide +kernel
theorem dX12_scan_85 : decode cX12_scan 85 = .ok (.goto 188, 3) := by decide +kernel
theorem dX12_scan_88 : decode cX12_scan 88 = .ok (.iload_n 1, 1) := by decide +kernel
theorem dX12_scan_89 : decode cX12_scan 89 = .ok (.invokestatic 30, 3) := by decide +kernel
theorem dX12_scan_92 : decode cX12_scan 92 = .ok (.ifCond .eq 56, 3) := by decide +kernel
theorem dX12_scan_95 : decode cX12_scan 95 = .ok (.aload_n 0, 1) := by decide +kernel
theorem dX12_scan_96 : decode cX12_scan 96 = .ok (.aload_n 0, 1) := by decide +kernel
theorem dX12_scan_97 : decode cX12_scan 97 = .ok (.getfield 20, 3) := by decide +kernel
theorem dX12_scan_100 : decode cX12_scan 100 = .ok (.invokevirtual 23, 3) := by decide +kernel
theorem dX12_scan_103 : decode cX12_scan 103 = .ok (.invokestatic 30, 3) := by decide +kernel
theorem dX12_scan_106 : decode cX12_scan 106 = .ok (.ifCond .eq 16, 3) := by decide +kernel
theorem dX12_scan_109 : decode cX12_scan 109 = .ok (.aload_n 0, 1) := by decide +kernel
theorem dX12_scan_110 : decode cX12_scan 110 = .ok (.dup, 1) := by decide +kernel
theorem dX12_scan_111 : decode cX12_scan 111 = .ok (.getfield 20, 3) := by decide +kernel
theorem dX12_scan_114 : decode cX12_scan 114 = .ok (.iconst 1, 1) := by decide +kernel
theorem dX12_scan_115 : decode cX12_scan 115 = .ok (.iadd, 1) := by decide +kernel
theorem dX12_scan_116 : decode cX12_scan 116 = .ok (.putfield 20, 3) := by decide +kernel
theorem dX12_scan_119 : decode cX12_scan 119 = .ok (.goto (-24), 3) := by decide +kernel
theorem dX12_scan_122 : decode cX12_scan 122 = .ok (.aload_n 0, 1) := by decide +kernel
theorem dX12_scan_123 : decode cX12_scan 123 = .ok (.aload_n 0, 1) := by decide +kernel
theorem dX12_scan_124 : decode cX12_scan 124 = .ok (.getfield 20, 3) := by decide +kernel
theorem dX12_scan_127 : decode cX12_scan 127 = .ok (.aload_n 0, 1) := by decide +kernel
theorem dX12_scan_128 : decode cX12_scan 128 = .ok (.getfield 7, 3) := by decide +kernel
theorem dX12_scan_131 : decode cX12_scan 131 = .ok (.isub, 1) := by decide +kernel
theorem dX12_scan_132 : decode cX12_scan 132 = .ok (.bipush 8, 2) := by decide +kernel
theorem dX12_scan_134 : decode cX12_scan 134 = .ok (.if_icmp .le 7, 3) := by decide +kernel
theorem dX12_scan_137 : decode cX12_scan 137 = .ok (.iconst 4, 1) := by decide +kernel
theorem dX12_scan_138 : decode cX12_scan 138 = .ok (.goto 4, 3) := by decide +kernel
theorem dX12_scan_141 : decode cX12_scan 141 = .ok (.iconst 1, 1) := by decide +kernel
theorem dX12_scan_142 : decode cX12_scan 142 = .ok (.putfield 27, 3) := by decide +kernel
theorem dX12_scan_145 : decode cX12_scan 145 = .ok (.goto 128, 3) := by decide +kernel
theorem dX12_scan_148 : decode cX12_scan 148 = .ok (.iload_n 1, 1) := by decide +kernel
theorem dX12_scan_149 : decode cX12_scan 149 = .ok (.invokestatic 34, 3) := by decide +kernel
theorem dX12_scan_152 : decode cX12_scan 152 = .ok (.ifCond .eq 96, 3) := by decide +kernel
theorem dX12_scan_155 : decode cX12_scan 155 = .ok (.aload_n 0, 1) := by decide +kernel
theorem dX12_scan_156 : decode cX12_scan 156 = .ok (.iconst 0, 1) := by decide +kernel
theorem dX12_scan_157 : decode cX12_scan 157 = .ok (.putfield 37, 3) := by decide +kernel
theorem dX12_scan_160 : decode cX12_scan 160 = .ok (.aload_n 0, 1) := by decide +kernel
theorem dX12_scan_161 : decode cX12_scan 161 = .ok (.aload_n 0, 1) := by decide +kernel
theorem dX12_scan_162 : decode cX12_scan 162 = .ok (.getfield 20, 3) := by decide +kernel
theorem dX12_scan_165 : decode cX12_scan 165 = .ok (.invokevirtual 23, 3) := by decide +kernel
theorem dX12_scan_168 : decode cX12_scan 168 = .ok (.invokestatic 34, 3) := by decide +kernel
theorem dX12_scan_171 : decode cX12_scan 171 = .ok (.ifCond .eq 52, 3) := by decide +kernel
theorem dX12_scan_174 : decode cX12_scan 174 = .ok (.aload_n 0, 1) := by decide +kernel
theorem dX12_scan_175 : decode cX12_scan 175 = .ok (.getfield 20, 3) := by decide +kernel
theorem dX12_scan_178 : decode cX12_scan 178 = .ok (.aload_n 0, 1) := by decide +kernel
theorem dX12_scan_179 : decode cX12_scan 179 = .ok (.getfield 7, 3) := by decide +kernel
theorem dX12_scan_182 : decode cX12_scan 182 = .ok (.isub, 1) := by decide +kernel
theorem dX12_scan_183 : decode cX12_scan 183 = .ok (.iconst 5, 1) := by decide +kernel
theorem dX12_scan_184 : decode cX12_scan 184 = .ok (.if_icmp .ge 26, 3) := by decide +kernel
theorem dX12_scan_187 : decode cX12_scan 187 = .ok (.aload_n 0, 1) := by decide +kernel
theorem dX12_scan_188 : decode cX12_scan 188 = .ok (.bipush 10, 2) := by decide +kernel
theorem dX12_scan_190 : decode cX12_scan 190 = .ok (.aload_n 0, 1) := by decide +kernel
theorem dX12_scan_191 : decode cX12_scan 191 = .ok (.getfield 37, 3) := by decide +kernel
theorem dX12_scan_194 : decode cX12_scan 194 = .ok (.imul, 1) := by decide +kernel
theorem dX12_scan_195 : decode cX12_scan 195 = .ok (.aload_n 0, 1) := by decide +kernel
theorem dX12_scan_196 : decode cX12_scan 196 = .ok (.aload_n 0, 1) := by decide +kernel
theorem dX12_scan_197 : decode cX12_scan 197 = .ok (.getfield 20, 3) := by decide +kernel
theorem dX12_scan_200 : decode cX12_scan 200 = .ok (.invokevirtual 23, 3) := by decide +kernel
theorem dX12_scan_203 : decode cX12_scan 203 = .ok (.iadd, 1) := by decide +kernel
theorem dX12_scan_204 : decode cX12_scan 204 = .ok (.bipush 48, 2) := by decide +kernel
theorem dX12_scan_206 : decode cX12_scan 206 = .ok (.isub, 1) := by decide +kernel
theorem dX12_scan_207 : decode cX12_scan 207 = .ok (.putfield 37, 3) := by decide +kernel
theorem dX12_scan_210 : decode cX12_scan 210 = .ok (.aload_n 0, 1) := by decide +kernel
theorem dX12_scan_211 : decode cX12_scan 211 = .ok (.dup, 1) := by decide +kernel
theorem dX12_scan_212 : decode cX12_scan 212 = .ok (.getfield 20, 3) := by decide +kernel
theorem dX12_scan_215 : decode cX12_scan 215 = .ok (.iconst 1, 1) := by decide +kernel
theorem dX12_scan_216 : decode cX12_scan 216 = .ok (.iadd, 1) := by decide +kernel
theorem dX12_scan_217 : decode cX12_scan 217 = .ok (.putfield 20, 3) := by decide +kernel
theorem dX12_scan_220 : decode cX12_scan 220 = .ok (.goto (-60), 3) := by decide +kernel
theorem dX12_scan_223 : decode cX12_scan 223 = .ok (.aload_n 0, 1) := by decide +kernel
theorem dX12_scan_224 : decode cX12_scan 224 = .ok (.aload_n 0, 1) := by decide +kernel
theorem dX12_scan_225 : decode cX12_scan 225 = .ok (.getfield 20, 3) := by decide +kernel
theorem dX12_scan_228 : decode cX12_scan 228 = .ok (.aload_n 0, 1) := by decide +kernel
theorem dX12_scan_229 : decode cX12_scan 229 = .ok (.getfield 7, 3) := by decide +kernel
theorem dX12_scan_232 : decode cX12_scan 232 = .ok (.isub, 1) := by decide +kernel
theorem dX12_scan_233 : decode cX12_scan 233 = .ok (.iconst 5, 1) := by decide +kernel
theorem dX12_scan_234 : decode cX12_scan 234 = .ok (.if_icmp .le 7, 3) := by decide +kernel
theorem dX12_scan_237 : decode cX12_scan 237 = .ok (.iconst 4, 1) := by decide +kernel
theorem dX12_scan_238 : decode cX12_scan 238 = .ok (.goto 4, 3) := by decide +kernel
theorem dX12_scan_241 : decode cX12_scan 241 = .ok (.iconst 2, 1) := by decide +kernel
theorem dX12_scan_242 : decode cX12_scan 242 = .ok (.putfield 27, 3) := by decide +kernel
theorem dX12_scan_245 : decode cX12_scan 245 = .ok (.goto 28, 3) := by decide +kernel
theorem dX12_scan_248 : decode cX12_scan 248 = .ok (.aload_n 0, 1) := by decide +kernel
theorem dX12_scan_249 : decode cX12_scan 249 = .ok (.iload_n 1, 1) := by decide +kernel
theorem dX12_scan_250 : decode cX12_scan 250 = .ok (.bipush 59, 2) := by decide +kernel
theorem dX12_scan_252 : decode cX12_scan 252 = .ok (.if_icmp .ne 7, 3) := by decide +kernel
theorem dX12_scan_255 : decode cX12_scan 255 = .ok (.iconst 3, 1) := by decide +kernel
theorem dX12_scan_256 : decode cX12_scan 256 = .ok (.goto 4, 3) := by decide +kernel
theorem dX12_scan_259 : decode cX12_scan 259 = .ok (.iconst 4, 1) := by decide +kernel
theorem dX12_scan_260 : decode cX12_scan 260 = .ok (.putfield 27, 3) := by decide +kernel
theorem dX12_scan_263 : decode cX12_scan 263 = .ok (.aload_n 0, 1) := by decide +kernel
theorem dX12_scan_264 : decode cX12_scan 264 = .ok (.dup, 1) := by decide +kernel
theorem dX12_scan_265 : decode cX12_scan 265 = .ok (.getfield 20, 3) := by decide +kernel
theorem dX12_scan_268 : decode cX12_scan 268 = .ok (.iconst 1, 1) := by decide +kernel
theorem dX12_scan_269 : decode cX12_scan 269 = .ok (.iadd, 1) := by decide +kernel
theorem dX12_scan_270 : decode cX12_scan 270 = .ok (.putfield 20, 3) := by decide +kernel
theorem dX12_scan_273 : decode cX12_scan 273 = .ok (.return_, 1) := by decide +kernel
def X12_scan_b260 (t0 : Int32) (w : Wd) : Option (Wd) :=
  lt (wI w 0 5 t0) fun w8 =>
  lt (wI w8 0 4 ((w8.1 0 4) + 1)) fun w9 =>
  some w9
set_option maxRecDepth 100000 in
set_option maxHeartbeats 4000000 in
theorem t_X12_scan_b260 {Z : Cz (Wd)} (hZ : OKZ Z SM cX12_scan RX12 2 none 2) (hE : EndV Z)  (t0 : Int32)  (w : Wd) : BW Z 2 260 [(0, .ref (ph (zY Z) 0))] [.int t0, .ref (ph (zY Z) 0)] w (X12_scan_b260 t0 w) :=
  bw_putI hZ fl_RX12_27 rfl rfl (by decide) obM_0 dX12_scan_260 fun w8 =>
  bw_aload_n hZ 0 rfl dX12_scan_263 <|
  bw_dup hZ rfl dX12_scan_264 <|
  bw_getI hZ fl_RX12_20 (by decide) obM_0 dX12_scan_265 <|
  bw_iconst hZ 1 (by decide) dX12_scan_268 <|
  bw_iadd hZ dX12_scan_269 <|
  bw_putI hZ fl_RX12_20 rfl rfl (by decide) obM_0 dX12_scan_270 fun w9 =>
  bw_vret hZ hE dX12_scan_273
def X12_scan_b210 (k160 : Wd → Option (Wd)) (w : Wd) : Option (Wd) :=
  lt (wI w 0 4 ((w.1 0 4) + 1)) fun w17 =>
  k160 w17
set_option maxRecDepth 100000 in
set_option maxHeartbeats 4000000 in
theorem t_X12_scan_b210 {Z : Cz (Wd)} (hZ : OKZ Z SM cX12_scan RX12 2 none 2) (hE : EndV Z) (k160 : Wd → Option (Wd)) (hk160 : ∀   (w : Wd), BW Z 2 160 [(0, .ref (ph (zY Z) 0))] [] w (k160 w))   (w : Wd) : BW Z 2 210 [(0, .ref (ph (zY Z) 0))] [] w (X12_scan_b210 k160 w) :=
  bw_aload_n hZ 0 rfl dX12_scan_210 <|
  bw_dup hZ rfl dX12_scan_211 <|
  bw_getI hZ fl_RX12_20 (by decide) obM_0 dX12_scan_212 <|
  bw_iconst hZ 1 (by decide) dX12_scan_215 <|
  bw_iadd hZ dX12_scan_216 <|
  bw_putI hZ fl_RX12_20 rfl rfl (by decide) obM_0 dX12_scan_217 fun w17 =>
  bw_goto hZ (tgt := 160) (by decide) dX12_scan_220 <|
  bw_sub [0] rfl (hk160 w17)
def X12_scan_b160 (k160 : Wd → Option (Wd)) (w : Wd) : Option (Wd) :=
  cl (f_X12_byteAt (w.1 0 4) w) fun r12 w11 =>
  cl (f_X12_isDigit r12 w11) fun r14 w13 =>
  if r14 = 0 then
  (if ((w13.1 0 4) - (w13.1 0 3)) ≤ 5 then
  (lt (wI w13 0 5 2) fun w15 =>
  some w15)
  else
  lt (wI w13 0 5 4) fun w16 =>
  some w16)
  else
  if 5 ≤ ((w13.1 0 4) - (w13.1 0 3)) then
  (X12_scan_b210 k160 w13)
  else
  cl (f_X12_byteAt (w13.1 0 4) w13) fun r19 w18 =>
  lt (wI w18 0 6 (((10 * (w13.1 0 6)) + r19) - 48)) fun w20 =>
  X12_scan_b210 k160 w20
set_option maxRecDepth 100000 in
set_option maxHeartbeats 4000000 in
theorem t_X12_scan_b160 {Z : Cz (Wd)} (hZ : OKZ Z SM cX12_scan RX12 2 none 2) (hE : EndV Z) (k160 : Wd → Option (Wd)) (hk160 : ∀   (w : Wd), BW Z 2 160 [(0, .ref (ph (zY Z) 0))] [] w (k160 w))   (w : Wd) : BW Z 2 160 [(0, .ref (ph (zY Z) 0))] [] w (X12_scan_b160 k160 w) :=
  bw_aload_n hZ 0 rfl dX12_scan_160 <|
  bw_aload_n hZ 0 rfl dX12_scan_161 <|
  bw_getI hZ fl_RX12_20 (by decide) obM_0 dX12_scan_162 <|
  bw_callVI (As := [.int (w.1 0 4)]) hZ ml_RX12_23 rc_12 obM_0 (by decide) (c_X12_byteAt (zl Z) (zY Z) (hZ_S hZ) (w.1 0 4) w) rfl rfl (Nat.le_of_ble_eq_true rfl) dX12_scan_165 fun r12 w11 =>
  bw_callSI (As := [.int r12]) hZ ms_RX12_34 (by decide) (c_X12_isDigit (zl Z) (zY Z) (hZ_S hZ) r12 w11) rfl rfl (Nat.le_of_ble_eq_true rfl) dX12_scan_168 fun r14 w13 =>
  bw_if_eq hZ (tgt := 223) (by decide) dX12_scan_171 (fun _ =>
  bw_aload_n hZ 0 rfl dX12_scan_223 <|
  bw_aload_n hZ 0 rfl dX12_scan_224 <|
  bw_getI hZ fl_RX12_20 (by decide) obM_0 dX12_scan_225 <|
  bw_aload_n hZ 0 rfl dX12_scan_228 <|
  bw_getI hZ fl_RX12_7 (by decide) obM_0 dX12_scan_229 <|
  bw_isub hZ dX12_scan_232 <|
  bw_iconst hZ 5 (by decide) dX12_scan_233 <|
  bw_icmp_le hZ (tgt := 241) (by decide) dX12_scan_234 (fun _ =>
  bw_iconst hZ 2 (by decide) dX12_scan_241 <|
  bw_putI hZ fl_RX12_27 rfl rfl (by decide) obM_0 dX12_scan_242 fun w15 =>
  bw_goto hZ (tgt := 273) (by decide) dX12_scan_245 <|
  bw_vret hZ hE dX12_scan_273) (fun _ =>
  bw_iconst hZ 4 (by decide) dX12_scan_237 <|
  bw_goto hZ (tgt := 242) (by decide) dX12_scan_238 <|
  bw_putI hZ fl_RX12_27 rfl rfl (by decide) obM_0 dX12_scan_242 fun w16 =>
  bw_goto hZ (tgt := 273) (by decide) dX12_scan_245 <|
  bw_vret hZ hE dX12_scan_273)) (fun _ =>
  bw_aload_n hZ 0 rfl dX12_scan_174 <|
  bw_getI hZ fl_RX12_20 (by decide) obM_0 dX12_scan_175 <|
  bw_aload_n hZ 0 rfl dX12_scan_178 <|
  bw_getI hZ fl_RX12_7 (by decide) obM_0 dX12_scan_179 <|
  bw_isub hZ dX12_scan_182 <|
  bw_iconst hZ 5 (by decide) dX12_scan_183 <|
  bw_icmp_ge hZ (tgt := 210) (by decide) dX12_scan_184 (fun _ =>
  bw_sub [0] rfl (t_X12_scan_b210 hZ hE k160 hk160 w13)) (fun _ =>
  bw_aload_n hZ 0 rfl dX12_scan_187 <|
  bw_bipush hZ 10 (by decide) dX12_scan_188 <|
  bw_aload_n hZ 0 rfl dX12_scan_190 <|
  bw_getI hZ fl_RX12_37 (by decide) obM_0 dX12_scan_191 <|
  bw_imul hZ dX12_scan_194 <|
  bw_aload_n hZ 0 rfl dX12_scan_195 <|
  bw_aload_n hZ 0 rfl dX12_scan_196 <|
  bw_getI hZ fl_RX12_20 (by decide) obM_0 dX12_scan_197 <|
  bw_callVI (As := [.int (w13.1 0 4)]) hZ ml_RX12_23 rc_12 obM_0 (by decide) (c_X12_byteAt (zl Z) (zY Z) (hZ_S hZ) (w13.1 0 4) w13) rfl rfl (Nat.le_of_ble_eq_true rfl) dX12_scan_200 fun r19 w18 =>
  bw_iadd hZ dX12_scan_203 <|
  bw_bipush hZ 48 (by decide) dX12_scan_204 <|
  bw_isub hZ dX12_scan_206 <|
  bw_putI hZ fl_RX12_37 rfl rfl (by decide) obM_0 dX12_scan_207 fun w20 =>
  bw_sub [0] rfl (t_X12_scan_b210 hZ hE k160 hk160 w20)))
def X12_scan_b160_L  : Wd → Option (Wd) :=
  lp fu (fun _ => none) (fun k160 => X12_scan_b160 k160)
theorem t_X12_scan_b160_L {Z : Cz (Wd)} (hZ : OKZ Z SM cX12_scan RX12 2 none 2) (hE : EndV Z)  : ∀   (w : Wd), BW Z 2 160 [(0, .ref (ph (zY Z) 0))] [] w (X12_scan_b160_L w) :=
  lp_bw (fun k160 => ∀   (w : Wd), BW Z 2 160 [(0, .ref (ph (zY Z) 0))] [] w (k160 w)) (fun _ => bw_none) (fun k160 hk160 w => t_X12_scan_b160 hZ hE k160 hk160 w) fu
def X12_scan_b95 (k95 : Wd → Option (Wd)) (w : Wd) : Option (Wd) :=
  cl (f_X12_byteAt (w.1 0 4) w) fun r22 w21 =>
  cl (f_X12_isSmall r22 w21) fun r24 w23 =>
  if r24 = 0 then
  (if ((w23.1 0 4) - (w23.1 0 3)) ≤ 8 then
  (lt (wI w23 0 5 1) fun w25 =>
  some w25)
  else
  lt (wI w23 0 5 4) fun w26 =>
  some w26)
  else
  lt (wI w23 0 4 ((w23.1 0 4) + 1)) fun w27 =>
  k95 w27
set_option maxRecDepth 100000 in
set_option maxHeartbeats 4000000 in
theorem t_X12_scan_b95 {Z : Cz (Wd)} (hZ : OKZ Z SM cX12_scan RX12 2 none 2) (hE : EndV Z) (k95 : Wd → Option (Wd)) (hk95 : ∀   (w : Wd), BW Z 2 95 [(0, .ref (ph (zY Z) 0))] [] w (k95 w))   (w : Wd) : BW Z 2 95 [(0, .ref (ph (zY Z) 0))] [] w (X12_scan_b95 k95 w) :=
  bw_aload_n hZ 0 rfl dX12_scan_95 <|
  bw_aload_n hZ 0 rfl dX12_scan_96 <|
  bw_getI hZ fl_RX12_20 (by decide) obM_0 dX12_scan_97 <|
  bw_callVI (As := [.int (w.1 0 4)]) hZ ml_RX12_23 rc_12 obM_0 (by decide) (c_X12_byteAt (zl Z) (zY Z) (hZ_S hZ) (w.1 0 4) w) rfl rfl (Nat.le_of_ble_eq_true rfl) dX12_scan_100 fun r22 w21 =>
  bw_callSI (As := [.int r22]) hZ ms_RX12_30 (by decide) (c_X12_isSmall (zl Z) (zY Z) (hZ_S hZ) r22 w21) rfl rfl (Nat.le_of_ble_eq_true rfl) dX12_scan_103 fun r24 w23 =>
  bw_if_eq hZ (tgt := 122) (by decide) dX12_scan_106 (fun _ =>
  bw_aload_n hZ 0 rfl dX12_scan_122 <|
  bw_aload_n hZ 0 rfl dX12_scan_123 <|
  bw_getI hZ fl_RX12_20 (by decide) obM_0 dX12_scan_124 <|
  bw_aload_n hZ 0 rfl dX12_scan_127 <|
  bw_getI hZ fl_RX12_7 (by decide) obM_0 dX12_scan_128 <|
  bw_isub hZ dX12_scan_131 <|
  bw_bipush hZ 8 (by decide) dX12_scan_132 <|
  bw_icmp_le hZ (tgt := 141) (by decide) dX12_scan_134 (fun _ =>
  bw_iconst hZ 1 (by decide) dX12_scan_141 <|
  bw_putI hZ fl_RX12_27 rfl rfl (by decide) obM_0 dX12_scan_142 fun w25 =>
  bw_goto hZ (tgt := 273) (by decide) dX12_scan_145 <|
  bw_vret hZ hE dX12_scan_273) (fun _ =>
  bw_iconst hZ 4 (by decide) dX12_scan_137 <|
  bw_goto hZ (tgt := 142) (by decide) dX12_scan_138 <|
  bw_putI hZ fl_RX12_27 rfl rfl (by decide) obM_0 dX12_scan_142 fun w26 =>
  bw_goto hZ (tgt := 273) (by decide) dX12_scan_145 <|
  bw_vret hZ hE dX12_scan_273)) (fun _ =>
  bw_aload_n hZ 0 rfl dX12_scan_109 <|
  bw_dup hZ rfl dX12_scan_110 <|
  bw_getI hZ fl_RX12_20 (by decide) obM_0 dX12_scan_111 <|
  bw_iconst hZ 1 (by decide) dX12_scan_114 <|
  bw_iadd hZ dX12_scan_115 <|
  bw_putI hZ fl_RX12_20 rfl rfl (by decide) obM_0 dX12_scan_116 fun w27 =>
  bw_goto hZ (tgt := 95) (by decide) dX12_scan_119 <|
  bw_sub [0] rfl (hk95 w27))
def X12_scan_b95_L  : Wd → Option (Wd) :=
  lp fu (fun _ => none) (fun k95 => X12_scan_b95 k95)
theorem t_X12_scan_b95_L {Z : Cz (Wd)} (hZ : OKZ Z SM cX12_scan RX12 2 none 2) (hE : EndV Z)  : ∀   (w : Wd), BW Z 2 95 [(0, .ref (ph (zY Z) 0))] [] w (X12_scan_b95_L w) :=
  lp_bw (fun k95 => ∀   (w : Wd), BW Z 2 95 [(0, .ref (ph (zY Z) 0))] [] w (k95 w)) (fun _ => bw_none) (fun k95 hk95 w => t_X12_scan_b95 hZ hE k95 hk95 w) fu
def X12_scan_b52 (w : Wd) : Option (Wd) :=
  lt (wI w 0 3 (w.1 0 4)) fun w1 =>
  cl (f_X12_byteAt (w1.1 0 3) w1) fun r3 w2 =>
  if (w2.1 0 3) = (w2.1 0 2) then
  (lt (wI w2 0 5 0) fun w28 =>
  some w28)
  else
  cl (f_X12_isSmall r3 w2) fun r5 w4 =>
  if r5 = 0 then
  (cl (f_X12_isDigit r3 w4) fun r7 w6 =>
  if r7 = 0 then
  (if r3 = 59 then
  (X12_scan_b260 3 w6)
  else
  X12_scan_b260 4 w6)
  else
  lt (wI w6 0 6 0) fun w10 =>
  X12_scan_b160_L w10)
  else
  X12_scan_b95_L w4
set_option maxRecDepth 100000 in
set_option maxHeartbeats 4000000 in
theorem t_X12_scan_b52 {Z : Cz (Wd)} (hZ : OKZ Z SM cX12_scan RX12 2 none 2) (hE : EndV Z)    (w : Wd) : BW Z 2 52 [(0, .ref (ph (zY Z) 0))] [] w (X12_scan_b52 w) :=
  bw_aload_n hZ 0 rfl dX12_scan_52 <|
  bw_aload_n hZ 0 rfl dX12_scan_53 <|
  bw_getI hZ fl_RX12_20 (by decide) obM_0 dX12_scan_54 <|
  bw_putI hZ fl_RX12_7 rfl rfl (by decide) obM_0 dX12_scan_57 fun w1 =>
  bw_aload_n hZ 0 rfl dX12_scan_60 <|
  bw_aload_n hZ 0 rfl dX12_scan_61 <|
  bw_getI hZ fl_RX12_7 (by decide) obM_0 dX12_scan_62 <|
  bw_callVI (As := [.int (w1.1 0 3)]) hZ ml_RX12_23 rc_12 obM_0 (by decide) (c_X12_byteAt (zl Z) (zY Z) (hZ_S hZ) (w1.1 0 3) w1) rfl rfl (Nat.le_of_ble_eq_true rfl) dX12_scan_65 fun r3 w2 =>
  bw_istore_n hZ rfl (by decide) rfl dX12_scan_68 <|
  bw_aload_n hZ 1 rfl dX12_scan_69 <|
  bw_getI hZ fl_RX12_7 (by decide) obM_0 dX12_scan_70 <|
  bw_aload_n hZ 1 rfl dX12_scan_73 <|
  bw_getI hZ fl_RX12_13 (by decide) obM_0 dX12_scan_74 <|
  bw_icmp_ne hZ (tgt := 88) (by decide) dX12_scan_77 (fun _ =>
  bw_iload_n hZ 0 rfl dX12_scan_88 <|
  bw_callSI (As := [.int r3]) hZ ms_RX12_30 (by decide) (c_X12_isSmall (zl Z) (zY Z) (hZ_S hZ) r3 w2) rfl rfl (Nat.le_of_ble_eq_true rfl) dX12_scan_89 fun r5 w4 =>
  bw_if_eq hZ (tgt := 148) (by decide) dX12_scan_92 (fun _ =>
  bw_iload_n hZ 0 rfl dX12_scan_148 <|
  bw_callSI (As := [.int r3]) hZ ms_RX12_34 (by decide) (c_X12_isDigit (zl Z) (zY Z) (hZ_S hZ) r3 w4) rfl rfl (Nat.le_of_ble_eq_true rfl) dX12_scan_149 fun r7 w6 =>
  bw_if_eq hZ (tgt := 248) (by decide) dX12_scan_152 (fun _ =>
  bw_aload_n hZ 1 rfl dX12_scan_248 <|
  bw_iload_n hZ 0 rfl dX12_scan_249 <|
  bw_bipush hZ 59 (by decide) dX12_scan_250 <|
  bw_icmp_ne hZ (tgt := 259) (by decide) dX12_scan_252 (fun _ =>
  bw_iconst hZ 4 (by decide) dX12_scan_259 <|
  bw_sub [1] rfl (t_X12_scan_b260 hZ hE 4 w6)) (fun _ =>
  bw_iconst hZ 3 (by decide) dX12_scan_255 <|
  bw_goto hZ (tgt := 260) (by decide) dX12_scan_256 <|
  bw_sub [1] rfl (t_X12_scan_b260 hZ hE 3 w6))) (fun _ =>
  bw_aload_n hZ 1 rfl dX12_scan_155 <|
  bw_iconst hZ 0 (by decide) dX12_scan_156 <|
  bw_putI hZ fl_RX12_37 rfl rfl (by decide) obM_0 dX12_scan_157 fun w10 =>
  bw_sub [1] rfl (t_X12_scan_b160_L hZ hE w10))) (fun _ =>
  bw_sub [1] rfl (t_X12_scan_b95_L hZ hE w4))) (fun _ =>
  bw_aload_n hZ 1 rfl dX12_scan_80 <|
  bw_iconst hZ 0 (by decide) dX12_scan_81 <|
  bw_putI hZ fl_RX12_27 rfl rfl (by decide) obM_0 dX12_scan_82 fun w28 =>
  bw_goto hZ (tgt := 273) (by decide) dX12_scan_85 <|
  bw_vret hZ hE dX12_scan_273)
def X12_scan_b39 (k0 : Wd → Option (Wd)) (w : Wd) : Option (Wd) :=
  lt (wI w 0 4 ((w.1 0 4) + 1)) fun w29 =>
  k0 w29
set_option maxRecDepth 100000 in
set_option maxHeartbeats 4000000 in
theorem t_X12_scan_b39 {Z : Cz (Wd)} (hZ : OKZ Z SM cX12_scan RX12 2 none 2) (hE : EndV Z) (k0 : Wd → Option (Wd)) (hk0 : ∀   (w : Wd), BW Z 2 0 [(0, .ref (ph (zY Z) 0))] [] w (k0 w))   (w : Wd) : BW Z 2 39 [(0, .ref (ph (zY Z) 0))] [] w (X12_scan_b39 k0 w) :=
  bw_aload_n hZ 0 rfl dX12_scan_39 <|
  bw_dup hZ rfl dX12_scan_40 <|
  bw_getI hZ fl_RX12_20 (by decide) obM_0 dX12_scan_41 <|
  bw_iconst hZ 1 (by decide) dX12_scan_44 <|
  bw_iadd hZ dX12_scan_45 <|
  bw_putI hZ fl_RX12_20 rfl rfl (by decide) obM_0 dX12_scan_46 fun w29 =>
  bw_goto hZ (tgt := 0) (by decide) dX12_scan_49 <|
  bw_sub [0] rfl (hk0 w29)
def X12_scan_b0 (k0 : Wd → Option (Wd)) (w : Wd) : Option (Wd) :=
  if (w.1 0 2) ≤ (w.1 0 4) then
  (X12_scan_b52 w)
  else
  if inb (w.1 0 4) 900 = true then
  (if (w.1 1 (Int32.toNatClampNeg (w.1 0 4))) = 32 then
  (X12_scan_b39 k0 w)
  else
  if inb (w.1 0 4) 900 = true then
  (if (w.1 1 (Int32.toNatClampNeg (w.1 0 4))) = 10 then
  (X12_scan_b39 k0 w)
  else
  X12_scan_b52 w)
  else none)
  else none
set_option maxRecDepth 100000 in
set_option maxHeartbeats 4000000 in
theorem t_X12_scan_b0 {Z : Cz (Wd)} (hZ : OKZ Z SM cX12_scan RX12 2 none 2) (hE : EndV Z) (k0 : Wd → Option (Wd)) (hk0 : ∀   (w : Wd), BW Z 2 0 [(0, .ref (ph (zY Z) 0))] [] w (k0 w))   (w : Wd) : BW Z 2 0 [(0, .ref (ph (zY Z) 0))] [] w (X12_scan_b0 k0 w) :=
  bw_aload_n hZ 0 rfl dX12_scan_0 <|
  bw_getI hZ fl_RX12_20 (by decide) obM_0 dX12_scan_1 <|
  bw_aload_n hZ 0 rfl dX12_scan_4 <|
  bw_getI hZ fl_RX12_13 (by decide) obM_0 dX12_scan_5 <|
  bw_icmp_ge hZ (tgt := 52) (by decide) dX12_scan_8 (fun _ =>
  bw_sub [0] rfl (t_X12_scan_b52 hZ hE w)) (fun _ =>
  bw_aload_n hZ 0 rfl dX12_scan_11 <|
  bw_getR hZ fl_RX12_16 obM_0 rfl dX12_scan_12 <|
  bw_aload_n hZ 0 rfl dX12_scan_15 <|
  bw_getI hZ fl_RX12_20 (by decide) obM_0 dX12_scan_16 <|
  bw_bald hZ (arM_1 _) dX12_scan_19 <|
  bw_bipush hZ 32 (by decide) dX12_scan_20 <|
  bw_icmp_eq hZ (tgt := 39) (by decide) dX12_scan_22 (fun _ =>
  bw_sub [0] rfl (t_X12_scan_b39 hZ hE k0 hk0 w)) (fun _ =>
  bw_aload_n hZ 0 rfl dX12_scan_25 <|
  bw_getR hZ fl_RX12_16 obM_0 rfl dX12_scan_26 <|
  bw_aload_n hZ 0 rfl dX12_scan_29 <|
  bw_getI hZ fl_RX12_20 (by decide) obM_0 dX12_scan_30 <|
  bw_bald hZ (arM_1 _) dX12_scan_33 <|
  bw_bipush hZ 10 (by decide) dX12_scan_34 <|
  bw_icmp_ne hZ (tgt := 52) (by decide) dX12_scan_36 (fun _ =>
  bw_sub [0] rfl (t_X12_scan_b52 hZ hE w)) (fun _ =>
  bw_sub [0] rfl (t_X12_scan_b39 hZ hE k0 hk0 w))))
def X12_scan_b0_L  : Wd → Option (Wd) :=
  lp fu (fun _ => none) (fun k0 => X12_scan_b0 k0)
theorem t_X12_scan_b0_L {Z : Cz (Wd)} (hZ : OKZ Z SM cX12_scan RX12 2 none 2) (hE : EndV Z)  : ∀   (w : Wd), BW Z 2 0 [(0, .ref (ph (zY Z) 0))] [] w (X12_scan_b0_L w) :=
  lp_bw (fun k0 => ∀   (w : Wd), BW Z 2 0 [(0, .ref (ph (zY Z) 0))] [] w (k0 w)) (fun _ => bw_none) (fun k0 hk0 w => t_X12_scan_b0 hZ hE k0 hk0 w) fu
def f_X12_scan (w : Wd) : Option (Wd) :=
  X12_scan_b0_L w
set_option maxRecDepth 100000 in
set_option maxHeartbeats 4000000 in
theorem t_X12_scan {Z : Cz (Wd)} (hZ : OKZ Z SM cX12_scan RX12 2 none 2) (hE : EndV Z)   (w : Wd) : BW Z 2 0 [(0, .ref (ph (zY Z) 0))] [] w (f_X12_scan w) :=
  bw_sub [0] rfl (t_X12_scan_b0_L hZ hE w)
theorem c_X12_scan (l : Launch) (Y : Ev) (hY : Y.1 = SM)   (w : Wd) : CV l Y yX12_scan cX12_scan 2 2 [.ref (ph Y 0)] w (f_X12_scan w) := by
  refine CV_of (S := SM) (by decide) (Nat.le_of_ble_eq_true rfl) hY ?_
  intro Z hl hY2 hZ hE
  subst hY2
  exact t_X12_scan hZ hE w
-- WhichWillModel.is
theorem dX12_is_0 : decode cX12_is 0 = .ok (.aload_n 0, 1) := by decide +kernel
theorem dX12_is_1 : decode cX12_is 1 = .ok (.getfield 27, 3) := by decide +kernel
theorem dX12_is_4 : decode cX12_is 4 = .ok (.iconst 1, 1) := by decide +kernel
theorem dX12_is_5 : decode cX12_is 5 = .ok (.if_icmp .ne 23, 3) := by decide +kernel
theorem dX12_is_8 : decode cX12_is 8 = .ok (.aload_n 0, 1) := by decide +kernel
theorem dX12_is_9 : decode cX12_is 9 = .ok (.getfield 20, 3) := by decide +kernel
theorem dX12_is_12 : decode cX12_is 12 = .ok (.aload_n 0, 1) := by decide +kernel
theorem dX12_is_13 : decode cX12_is 13 = .ok (.getfield 7, 3) := by decide +kernel
theorem dX12_is_16 : decode cX12_is 16 = .ok (.isub, 1) := by decide +kernel
theorem dX12_is_17 : decode cX12_is 17 = .ok (.aload_n 1, 1) := by decide +kernel
theorem dX12_is_18 : decode cX12_is 18 = .ok (.invokevirtual 40, 3) := by decide +kernel
theorem dX12_is_21 : decode cX12_is 21 = .ok (.if_icmp .ne 7, 3) := by decide +kernel
theorem dX12_is_24 : decode cX12_is 24 = .ok (.iconst 1, 1) := by decide +kernel
theorem dX12_is_25 : decode cX12_is 25 = .ok (.goto 4, 3) := by decide +kernel
theorem dX12_is_28 : decode cX12_is 28 = .ok (.iconst 0, 1) := by decide +kernel
theorem dX12_is_29 : decode cX12_is 29 = .ok (.istore_n 2, 1) := by decide +kernel
theorem dX12_is_30 : decode cX12_is 30 = .ok (.iconst 0, 1) := by decide +kernel
theorem dX12_is_31 : decode cX12_is 31 = .ok (.istore_n 3, 1) := by decide +kernel
theorem dX12_is_32 : decode cX12_is 32 = .ok (.iload_n 3, 1) := by decide +kernel
theorem dX12_is_33 : decode cX12_is 33 = .ok (.aload_n 1, 1) := by decide +kernel
theorem dX12_is_34 : decode cX12_is 34 = .ok (.invokevirtual 40, 3) := by decide +kernel
theorem dX12_is_37 : decode cX12_is 37 = .ok (.if_icmp .ge 38, 3) := by decide +kernel
theorem dX12_is_40 : decode cX12_is 40 = .ok (.iload_n 2, 1) := by decide +kernel
theorem dX12_is_41 : decode cX12_is 41 = .ok (.ifCond .eq 34, 3) := by decide +kernel
theorem dX12_is_44 : decode cX12_is 44 = .ok (.aload_n 0, 1) := by decide +kernel
theorem dX12_is_45 : decode cX12_is 45 = .ok (.getfield 16, 3) := by decide +kernel
theorem dX12_is_48 : decode cX12_is 48 = .ok (.aload_n 0, 1) := by decide +kernel
theorem dX12_is_49 : decode cX12_is 49 = .ok (.getfield 7, 3) := by decide +kernel
theorem dX12_is_52 : decode cX12_is 52 = .ok (.iload_n 3, 1) := by decide +kernel
theorem dX12_is_53 : decode cX12_is 53 = .ok (.iadd, 1) := by decide +kernel
theorem dX12_is_54 : decode cX12_is 54 = .ok (.baload, 1) := by decide +kernel
theorem dX12_is_55 : decode cX12_is 55 = .ok (.aload_n 1, 1) := by decide +kernel
theorem dX12_is_56 : decode cX12_is 56 = .ok (.iload_n 3, 1) := by decide +kernel
theorem dX12_is_57 : decode cX12_is 57 = .ok (.invokevirtual 45, 3) := by decide +kernel
theorem dX12_is_60 : decode cX12_is 60 = .ok (.if_icmp .ne 7, 3) := by decide +kernel
theorem dX12_is_63 : decode cX12_is 63 = .ok (.iconst 1, 1) := by decide +kernel
theorem dX12_is_64 : decode cX12_is 64 = .ok (.goto 4, 3) := by decide +kernel
theorem dX12_is_67 : decode cX12_is 67 = .ok (.iconst 0, 1) := by decide +kernel
theorem dX12_is_68 : decode cX12_is 68 = .ok (.istore_n 2, 1) := by decide +kernel
theorem dX12_is_69 : decode cX12_is 69 = .ok (.iinc 3 1, 3) := by decide +kernel
theorem dX12_is_72 : decode cX12_is 72 = .ok (.goto (-40), 3) := by decide +kernel
theorem dX12_is_75 : decode cX12_is 75 = .ok (.iload_n 2, 1) := by decide +kernel
theorem dX12_is_76 : decode cX12_is 76 = .ok (.ireturn, 1) := by decide +kernel
def X12_is_b32 (k32 : Nat → Int32 → Int32 → Wd → Option (Int32 × Wd)) (y1 : Nat) (y2 : Int32) (y3 : Int32) (w : Wd) : Option (Int32 × Wd) :=
  if (Int32.ofNat (sLen.getD y1 0)) ≤ y3 then
  (if isB y2 = true then some (y2, w) else none)
  else
  if y2 = 0 then
  (if isB y2 = true then some (y2, w) else none)
  else
  if inb ((w.1 0 3) + y3) 900 = true then
  (if inb y3 (sLen.getD y1 0) = true then
  (if (w.1 1 (Int32.toNatClampNeg ((w.1 0 3) + y3))) = ((sByt.getD y1 []).getD (Int32.toNatClampNeg y3) 0) then
  (k32 y1 1 (y3 + 1) w)
  else
  k32 y1 0 (y3 + 1) w)
  else none)
  else none
set_option maxRecDepth 100000 in
set_option maxHeartbeats 4000000 in
theorem t_X12_is_b32 {Z : Cz (Int32 × Wd)} (hZ : OKZ Z SM cX12_is RX12 4 (some .boolean) 5) (hE : EndI Z) (k32 : Nat → Int32 → Int32 → Wd → Option (Int32 × Wd)) (hk32 : ∀ (y1 : Nat) (y2 : Int32) (y3 : Int32) (hy1 : y1 < sNum) (w : Wd), BW Z 4 32 [(0, .ref (ph (zY Z) 0)), (1, .ref (sK (zY Z) y1)), (2, .int y2), (3, .int y3)] [] w (k32 y1 y2 y3 w)) (y1 : Nat) (y2 : Int32) (y3 : Int32) (hy1 : y1 < sNum) (w : Wd) : BW Z 4 32 [(0, .ref (ph (zY Z) 0)), (1, .ref (sK (zY Z) y1)), (2, .int y2), (3, .int y3)] [] w (X12_is_b32 k32 y1 y2 y3 w) :=
  bw_iload_n hZ 3 rfl dX12_is_32 <|
  bw_aload_n hZ 1 rfl dX12_is_33 <|
  bw_slen hZ ml_RX12_40 hy1 (by decide) (Nat.le_of_ble_eq_true rfl) dX12_is_34 <|
  bw_icmp_ge hZ (tgt := 75) (by decide) dX12_is_37 (fun _ =>
  bw_iload_n hZ 2 rfl dX12_is_75 <|
  bw_zretC hZ hE dX12_is_76) (fun _ =>
  bw_iload_n hZ 2 rfl dX12_is_40 <|
  bw_if_eq hZ (tgt := 75) (by decide) dX12_is_41 (fun _ =>
  bw_iload_n hZ 2 rfl dX12_is_75 <|
  bw_zretC hZ hE dX12_is_76) (fun _ =>
  bw_aload_n hZ 0 rfl dX12_is_44 <|
  bw_getR hZ fl_RX12_16 obM_0 rfl dX12_is_45 <|
  bw_aload_n hZ 0 rfl dX12_is_48 <|
  bw_getI hZ fl_RX12_7 (by decide) obM_0 dX12_is_49 <|
  bw_iload_n hZ 3 rfl dX12_is_52 <|
  bw_iadd hZ dX12_is_53 <|
  bw_bald hZ (arM_1 _) dX12_is_54 <|
  bw_aload_n hZ 1 rfl dX12_is_55 <|
  bw_iload_n hZ 3 rfl dX12_is_56 <|
  bw_schar hZ ml_RX12_45 hy1 (by decide) (Nat.le_of_ble_eq_true rfl) dX12_is_57 <|
  bw_icmp_ne hZ (tgt := 67) (by decide) dX12_is_60 (fun _ =>
  bw_iconst hZ 0 (by decide) dX12_is_67 <|
  bw_istore_n hZ rfl (by decide) rfl dX12_is_68 <|
  bw_iinc hZ 1 3 rfl (by decide) (by decide) rfl dX12_is_69 <|
  bw_goto hZ (tgt := 32) (by decide) dX12_is_72 <|
  bw_sub [2, 3, 1, 0] rfl (hk32 y1 0 (y3 + 1) hy1 w)) (fun _ =>
  bw_iconst hZ 1 (by decide) dX12_is_63 <|
  bw_goto hZ (tgt := 68) (by decide) dX12_is_64 <|
  bw_istore_n hZ rfl (by decide) rfl dX12_is_68 <|
  bw_iinc hZ 1 3 rfl (by decide) (by decide) rfl dX12_is_69 <|
  bw_goto hZ (tgt := 32) (by decide) dX12_is_72 <|
  bw_sub [2, 3, 1, 0] rfl (hk32 y1 1 (y3 + 1) hy1 w))))
def X12_is_b32_L  : Nat → Int32 → Int32 → Wd → Option (Int32 × Wd) :=
  lp fu (fun _ _ _ _ => none) (fun k32 => X12_is_b32 k32)
theorem t_X12_is_b32_L {Z : Cz (Int32 × Wd)} (hZ : OKZ Z SM cX12_is RX12 4 (some .boolean) 5) (hE : EndI Z)  : ∀ (y1 : Nat) (y2 : Int32) (y3 : Int32) (hy1 : y1 < sNum) (w : Wd), BW Z 4 32 [(0, .ref (ph (zY Z) 0)), (1, .ref (sK (zY Z) y1)), (2, .int y2), (3, .int y3)] [] w (X12_is_b32_L y1 y2 y3 w) :=
  lp_bw (fun k32 => ∀ (y1 : Nat) (y2 : Int32) (y3 : Int32) (hy1 : y1 < sNum) (w : Wd), BW Z 4 32 [(0, .ref (ph (zY Z) 0)), (1, .ref (sK (zY Z) y1)), (2, .int y2), (3, .int y3)] [] w (k32 y1 y2 y3 w)) (fun _ _ _ _ _ => bw_none) (fun k32 hk32 y1 y2 y3 hy1 w => t_X12_is_b32 hZ hE k32 hk32 y1 y2 y3 hy1 w) fu
def f_X12_is (s1 : Nat) (w : Wd) : Option (Int32 × Wd) :=
  if (w.1 0 5) = 1 then
  (if ((w.1 0 4) - (w.1 0 3)) = (Int32.ofNat (sLen.getD s1 0)) then
  (X12_is_b32_L s1 1 0 w)
  else
  X12_is_b32_L s1 0 0 w)
  else
  X12_is_b32_L s1 0 0 w
set_option maxRecDepth 100000 in
set_option maxHeartbeats 4000000 in
theorem t_X12_is {Z : Cz (Int32 × Wd)} (hZ : OKZ Z SM cX12_is RX12 4 (some .boolean) 5) (hE : EndI Z) (s1 : Nat) (hs1 : s1 < sNum) (w : Wd) : BW Z 4 0 [(0, .ref (ph (zY Z) 0)), (1, .ref (sK (zY Z) s1))] [] w (f_X12_is s1 w) :=
  bw_aload_n hZ 0 rfl dX12_is_0 <|
  bw_getI hZ fl_RX12_27 (by decide) obM_0 dX12_is_1 <|
  bw_iconst hZ 1 (by decide) dX12_is_4 <|
  bw_icmp_ne hZ (tgt := 28) (by decide) dX12_is_5 (fun _ =>
  bw_iconst hZ 0 (by decide) dX12_is_28 <|
  bw_istore_n hZ rfl (by decide) rfl dX12_is_29 <|
  bw_iconst hZ 0 (by decide) dX12_is_30 <|
  bw_istore_n hZ rfl (by decide) rfl dX12_is_31 <|
  bw_sub [2, 3, 1, 0] rfl (t_X12_is_b32_L hZ hE s1 0 0 hs1 w)) (fun _ =>
  bw_aload_n hZ 0 rfl dX12_is_8 <|
  bw_getI hZ fl_RX12_20 (by decide) obM_0 dX12_is_9 <|
  bw_aload_n hZ 0 rfl dX12_is_12 <|
  bw_getI hZ fl_RX12_7 (by decide) obM_0 dX12_is_13 <|
  bw_isub hZ dX12_is_16 <|
  bw_aload_n hZ 1 rfl dX12_is_17 <|
  bw_slen hZ ml_RX12_40 hs1 (by decide) (Nat.le_of_ble_eq_true rfl) dX12_is_18 <|
  bw_icmp_ne hZ (tgt := 28) (by decide) dX12_is_21 (fun _ =>
  bw_iconst hZ 0 (by decide) dX12_is_28 <|
  bw_istore_n hZ rfl (by decide) rfl dX12_is_29 <|
  bw_iconst hZ 0 (by decide) dX12_is_30 <|
  bw_istore_n hZ rfl (by decide) rfl dX12_is_31 <|
  bw_sub [2, 3, 1, 0] rfl (t_X12_is_b32_L hZ hE s1 0 0 hs1 w)) (fun _ =>
  bw_iconst hZ 1 (by decide) dX12_is_24 <|
  bw_goto hZ (tgt := 29) (by decide) dX12_is_25 <|
  bw_istore_n hZ rfl (by decide) rfl dX12_is_29 <|
  bw_iconst hZ 0 (by decide) dX12_is_30 <|
  bw_istore_n hZ rfl (by decide) rfl dX12_is_31 <|
  bw_sub [2, 3, 1, 0] rfl (t_X12_is_b32_L hZ hE s1 1 0 hs1 w)))
theorem c_X12_is (l : Launch) (Y : Ev) (hY : Y.1 = SM) (s1 : Nat) (hs1 : s1 < sNum) (w : Wd) : CI l Y yX12_is cX12_is 4 5 [.ref (ph Y 0), .ref (sK Y s1)] w .boolean (f_X12_is s1 w) := by
  refine CI_of (S := SM) (by decide) (Nat.le_of_ble_eq_true rfl) hY ?_
  intro Z hl hY2 hZ hE
  subst hY2
  exact t_X12_is hZ hE s1 hs1 w
-- WhichWillModel.expect
theorem dX12_expect_0 : decode cX12_expect 0 = .ok (.aload_n 0, 1) := by decide +kernel
theorem dX12_expect_1 : decode cX12_expect 1 = .ok (.aload_n 1, 1) := by decide +kernel
theorem dX12_expect_2 : decode cX12_expect 2 = .ok (.invokevirtual 49, 3) := by decide +kernel
theorem dX12_expect_5 : decode cX12_expect 5 = .ok (.ifCond .ne 9, 3) := by decide +kernel
theorem dX12_expect_8 : decode cX12_expect 8 = .ok (.aload_n 0, 1) := by decide +kernel
theorem dX12_expect_9 : decode cX12_expect 9 = .ok (.iconst 1, 1) := by decide +kernel
theorem dX12_expect_10 : decode cX12_expect 10 = .ok (.invokevirtual 53, 3) := by decide +kernel
theorem dX12_expect_13 : decode cX12_expect 13 = .ok (.ireturn, 1) := by decide +kernel
theorem dX12_expect_14 : decode cX12_expect 14 = .ok (.aload_n 0, 1) := by decide +kernel
theorem dX12_expect_15 : decode cX12_expect 15 = .ok (.invokevirtual 56, 3) := by decide +kernel
theorem dX12_expect_18 : decode cX12_expect 18 = .ok (.iconst 1, 1) := by decide +kernel
theorem dX12_expect_19 : decode cX12_expect 19 = .ok (.ireturn, 1) := by decide +kernel
def f_X12_expect (s1 : Nat) (w : Wd) : Option (Int32 × Wd) :=
  cl (f_X12_is s1 w) fun r2 w1 =>
  if r2 = 0 then
  (cl (f_X12_bad 1 w1) fun r5 w4 =>
  if isB r5 = true then some (r5, w4) else none)
  else
  cv (f_X12_scan w1) fun w3 =>
  some (1, w3)
set_option maxRecDepth 100000 in
set_option maxHeartbeats 4000000 in
theorem t_X12_expect {Z : Cz (Int32 × Wd)} (hZ : OKZ Z SM cX12_expect RX12 2 (some .boolean) 6) (hE : EndI Z) (s1 : Nat) (hs1 : s1 < sNum) (w : Wd) : BW Z 2 0 [(0, .ref (ph (zY Z) 0)), (1, .ref (sK (zY Z) s1))] [] w (f_X12_expect s1 w) :=
  bw_aload_n hZ 0 rfl dX12_expect_0 <|
  bw_aload_n hZ 1 rfl dX12_expect_1 <|
  bw_callVI (As := [.ref (sK (zY Z) s1)]) hZ ml_RX12_49 rc_12 obM_0 (by decide) (c_X12_is (zl Z) (zY Z) (hZ_S hZ) s1 hs1 w) rfl rfl (Nat.le_of_ble_eq_true rfl) dX12_expect_2 fun r2 w1 =>
  bw_if_ne hZ (tgt := 14) (by decide) dX12_expect_5 (fun _ =>
  bw_aload_n hZ 0 rfl dX12_expect_14 <|
  bw_callVV (As := []) hZ ml_RX12_56 rc_12 obM_0 (by decide) (c_X12_scan (zl Z) (zY Z) (hZ_S hZ) w1) rfl rfl (Nat.le_of_ble_eq_true rfl) dX12_expect_15 fun w3 =>
  bw_iconst hZ 1 (by decide) dX12_expect_18 <|
  bw_zret hZ hE (by decide) dX12_expect_19) (fun _ =>
  bw_aload_n hZ 0 rfl dX12_expect_8 <|
  bw_iconst hZ 1 (by decide) dX12_expect_9 <|
  bw_callVI (As := [.int 1]) hZ ml_RX12_53 rc_12 obM_0 (by decide) (c_X12_bad (zl Z) (zY Z) (hZ_S hZ) 1 w1) rfl rfl (Nat.le_of_ble_eq_true rfl) dX12_expect_10 fun r5 w4 =>
  bw_zretC hZ hE dX12_expect_13)
theorem c_X12_expect (l : Launch) (Y : Ev) (hY : Y.1 = SM) (s1 : Nat) (hs1 : s1 < sNum) (w : Wd) : CI l Y yX12_expect cX12_expect 2 6 [.ref (ph Y 0), .ref (sK Y s1)] w .boolean (f_X12_expect s1 w) := by
  refine CI_of (S := SM) (by decide) (Nat.le_of_ble_eq_true rfl) hY ?_
  intro Z hl hY2 hZ hE
  subst hY2
  exact t_X12_expect hZ hE s1 hs1 w
-- WhichWillModel.peek
theorem dX12_peek_0 : decode cX12_peek 0 = .ok (.aload_n 0, 1) := by decide +kernel
theorem dX12_peek_1 : decode cX12_peek 1 = .ok (.getfield 27, 3) := by decide +kernel
theorem dX12_peek_4 : decode cX12_peek 4 = .ok (.iconst 2, 1) := by decide +kernel
theorem dX12_peek_5 : decode cX12_peek 5 = .ok (.if_icmp .eq 9, 3) := by decide +kernel
theorem dX12_peek_8 : decode cX12_peek 8 = .ok (.aload_n 0, 1) := by decide +kernel
theorem dX12_peek_9 : decode cX12_peek 9 = .ok (.iconst 1, 1) := by decide +kernel
theorem dX12_peek_10 : decode cX12_peek 10 = .ok (.invokevirtual 53, 3) := by decide +kernel
theorem dX12_peek_13 : decode cX12_peek 13 = .ok (.ireturn, 1) := by decide +kernel
theorem dX12_peek_14 : decode cX12_peek 14 = .ok (.aload_n 0, 1) := by decide +kernel
theorem dX12_peek_15 : decode cX12_peek 15 = .ok (.getfield 37, 3) := by decide +kernel
theorem dX12_peek_18 : decode cX12_peek 18 = .ok (.i2l, 1) := by decide +kernel
theorem dX12_peek_19 : decode cX12_peek 19 = .ok (.iload_n 1, 1) := by decide +kernel
theorem dX12_peek_20 : decode cX12_peek 20 = .ok (.i2l, 1) := by decide +kernel
theorem dX12_peek_21 : decode cX12_peek 21 = .ok (.iload_n 2, 1) := by decide +kernel
theorem dX12_peek_22 : decode cX12_peek 22 = .ok (.i2l, 1) := by decide +kernel
theorem dX12_peek_23 : decode cX12_peek 23 = .ok (.invokestatic 60, 3) := by decide +kernel
theorem dX12_peek_26 : decode cX12_peek 26 = .ok (.ifCond .ne 9, 3) := by decide +kernel
theorem dX12_peek_29 : decode cX12_peek 29 = .ok (.aload_n 0, 1) := by decide +kernel
theorem dX12_peek_30 : decode cX12_peek 30 = .ok (.iconst 2, 1) := by decide +kernel
theorem dX12_peek_31 : decode cX12_peek 31 = .ok (.invokevirtual 53, 3) := by decide +kernel
theorem dX12_peek_34 : decode cX12_peek 34 = .ok (.ireturn, 1) := by decide +kernel
theorem dX12_peek_35 : decode cX12_peek 35 = .ok (.aload_n 0, 1) := by decide +kernel
theorem dX12_peek_36 : decode cX12_peek 36 = .ok (.aload_n 0, 1) := by decide +kernel
theorem dX12_peek_37 : decode cX12_peek 37 = .ok (.getfield 37, 3) := by decide +kernel
theorem dX12_peek_40 : decode cX12_peek 40 = .ok (.putfield 64, 3) := by decide +kernel
theorem dX12_peek_43 : decode cX12_peek 43 = .ok (.iconst 1, 1) := by decide +kernel
theorem dX12_peek_44 : decode cX12_peek 44 = .ok (.ireturn, 1) := by decide +kernel
def f_X12_peek (x1 : Int32) (x2 : Int32) (w : Wd) : Option (Int32 × Wd) :=
  if (w.1 0 5) = 2 then
  (cl (f_X12_in (Int32.toInt64 (w.1 0 6)) (Int32.toInt64 x1) (Int32.toInt64 x2) w) fun r2 w1 =>
  if r2 = 0 then
  (cl (f_X12_bad 2 w1) fun r5 w4 =>
  if isB r5 = true then some (r5, w4) else none)
  else
  lt (wI w1 0 7 (w1.1 0 6)) fun w3 =>
  some (1, w3))
  else
  cl (f_X12_bad 1 w) fun r7 w6 =>
  if isB r7 = true then some (r7, w6) else none
set_option maxRecDepth 100000 in
set_option maxHeartbeats 4000000 in
theorem t_X12_peek {Z : Cz (Int32 × Wd)} (hZ : OKZ Z SM cX12_peek RX12 3 (some .boolean) 2) (hE : EndI Z) (x1 : Int32) (x2 : Int32)  (w : Wd) : BW Z 3 0 [(0, .ref (ph (zY Z) 0)), (1, .int x1), (2, .int x2)] [] w (f_X12_peek x1 x2 w) :=
  bw_aload_n hZ 0 rfl dX12_peek_0 <|
  bw_getI hZ fl_RX12_27 (by decide) obM_0 dX12_peek_1 <|
  bw_iconst hZ 2 (by decide) dX12_peek_4 <|
  bw_icmp_eq hZ (tgt := 14) (by decide) dX12_peek_5 (fun _ =>
  bw_aload_n hZ 0 rfl dX12_peek_14 <|
  bw_getI hZ fl_RX12_37 (by decide) obM_0 dX12_peek_15 <|
  bw_i2l hZ dX12_peek_18 <|
  bw_iload_n hZ 1 rfl dX12_peek_19 <|
  bw_i2l hZ dX12_peek_20 <|
  bw_iload_n hZ 2 rfl dX12_peek_21 <|
  bw_i2l hZ dX12_peek_22 <|
  bw_callSI (As := [.long (Int32.toInt64 (w.1 0 6)), .long (Int32.toInt64 x1), .long (Int32.toInt64 x2)]) hZ ms_RX12_60 (by decide) (c_X12_in (zl Z) (zY Z) (hZ_S hZ) (Int32.toInt64 (w.1 0 6)) (Int32.toInt64 x1) (Int32.toInt64 x2) w) rfl rfl (Nat.le_of_ble_eq_true rfl) dX12_peek_23 fun r2 w1 =>
  bw_if_ne hZ (tgt := 35) (by decide) dX12_peek_26 (fun _ =>
  bw_aload_n hZ 0 rfl dX12_peek_35 <|
  bw_aload_n hZ 0 rfl dX12_peek_36 <|
  bw_getI hZ fl_RX12_37 (by decide) obM_0 dX12_peek_37 <|
  bw_putI hZ fl_RX12_64 rfl rfl (by decide) obM_0 dX12_peek_40 fun w3 =>
  bw_iconst hZ 1 (by decide) dX12_peek_43 <|
  bw_zret hZ hE (by decide) dX12_peek_44) (fun _ =>
  bw_aload_n hZ 0 rfl dX12_peek_29 <|
  bw_iconst hZ 2 (by decide) dX12_peek_30 <|
  bw_callVI (As := [.int 2]) hZ ml_RX12_53 rc_12 obM_0 (by decide) (c_X12_bad (zl Z) (zY Z) (hZ_S hZ) 2 w1) rfl rfl (Nat.le_of_ble_eq_true rfl) dX12_peek_31 fun r5 w4 =>
  bw_zretC hZ hE dX12_peek_34)) (fun _ =>
  bw_aload_n hZ 0 rfl dX12_peek_8 <|
  bw_iconst hZ 1 (by decide) dX12_peek_9 <|
  bw_callVI (As := [.int 1]) hZ ml_RX12_53 rc_12 obM_0 (by decide) (c_X12_bad (zl Z) (zY Z) (hZ_S hZ) 1 w) rfl rfl (Nat.le_of_ble_eq_true rfl) dX12_peek_10 fun r7 w6 =>
  bw_zretC hZ hE dX12_peek_13)
theorem c_X12_peek (l : Launch) (Y : Ev) (hY : Y.1 = SM) (x1 : Int32) (x2 : Int32)  (w : Wd) : CI l Y yX12_peek cX12_peek 3 2 [.ref (ph Y 0), .int x1, .int x2] w .boolean (f_X12_peek x1 x2 w) := by
  refine CI_of (S := SM) (by decide) (Nat.le_of_ble_eq_true rfl) hY ?_
  intro Z hl hY2 hZ hE
  subst hY2
  exact t_X12_peek hZ hE x1 x2 w
-- WhichWillModel.number
theorem dX12_number_0 : decode cX12_number 0 = .ok (.aload_n 0, 1) := by decide +kernel
theorem dX12_number_1 : decode cX12_number 1 = .ok (.iload_n 1, 1) := by decide +kernel
theorem dX12_number_2 : decode cX12_number 2 = .ok (.iload_n 2, 1) := by decide +kernel
theorem dX12_number_3 : decode cX12_number 3 = .ok (.invokevirtual 67, 3) := by decide +kernel
theorem dX12_number_6 : decode cX12_number 6 = .ok (.ifCond .ne 5, 3) := by decide +kernel
theorem dX12_number_9 : decode cX12_number 9 = .ok (.iconst 0, 1) := by decide +kernel
theorem dX12_number_10 : decode cX12_number 10 = .ok (.ireturn, 1) := by decide +kernel
theorem dX12_number_11 : decode cX12_number 11 = .ok (.aload_n 0, 1) := by decide +kernel
theorem dX12_number_12 : decode cX12_number 12 = .ok (.invokevirtual 56, 3) := by decide +kernel
theorem dX12_number_15 : decode cX12_number 15 = .ok (.iconst 1, 1) := by decide +kernel
theorem dX12_number_16 : decode cX12_number 16 = .ok (.ireturn, 1) := by decide +kernel
def f_X12_number (x1 : Int32) (x2 : Int32) (w : Wd) : Option (Int32 × Wd) :=
  cl (f_X12_peek x1 x2 w) fun r2 w1 =>
  if r2 = 0 then
  (some (0, w1))
  else
  cv (f_X12_scan w1) fun w3 =>
  some (1, w3)
set_option maxRecDepth 100000 in
set_option maxHeartbeats 4000000 in
theorem t_X12_number {Z : Cz (Int32 × Wd)} (hZ : OKZ Z SM cX12_number RX12 3 (some .boolean) 3) (hE : EndI Z) (x1 : Int32) (x2 : Int32)  (w : Wd) : BW Z 3 0 [(0, .ref (ph (zY Z) 0)), (1, .int x1), (2, .int x2)] [] w (f_X12_number x1 x2 w) :=
  bw_aload_n hZ 0 rfl dX12_number_0 <|
  bw_iload_n hZ 1 rfl dX12_number_1 <|
  bw_iload_n hZ 2 rfl dX12_number_2 <|
  bw_callVI (As := [.int x1, .int x2]) hZ ml_RX12_67 rc_12 obM_0 (by decide) (c_X12_peek (zl Z) (zY Z) (hZ_S hZ) x1 x2 w) rfl rfl (Nat.le_of_ble_eq_true rfl) dX12_number_3 fun r2 w1 =>
  bw_if_ne hZ (tgt := 11) (by decide) dX12_number_6 (fun _ =>
  bw_aload_n hZ 0 rfl dX12_number_11 <|
  bw_callVV (As := []) hZ ml_RX12_56 rc_12 obM_0 (by decide) (c_X12_scan (zl Z) (zY Z) (hZ_S hZ) w1) rfl rfl (Nat.le_of_ble_eq_true rfl) dX12_number_12 fun w3 =>
  bw_iconst hZ 1 (by decide) dX12_number_15 <|
  bw_zret hZ hE (by decide) dX12_number_16) (fun _ =>
  bw_iconst hZ 0 (by decide) dX12_number_9 <|
  bw_zret hZ hE (by decide) dX12_number_10)
theorem c_X12_number (l : Launch) (Y : Ev) (hY : Y.1 = SM) (x1 : Int32) (x2 : Int32)  (w : Wd) : CI l Y yX12_number cX12_number 3 3 [.ref (ph Y 0), .int x1, .int x2] w .boolean (f_X12_number x1 x2 w) := by
  refine CI_of (S := SM) (by decide) (Nat.le_of_ble_eq_true rfl) hY ?_
  intro Z hl hY2 hZ hE
  subst hY2
  exact t_X12_number hZ hE x1 x2 w
-- WhichWillModel.name
theorem dX12_name_0 : decode cX12_name 0 = .ok (.lconst 0, 1) := by decide +kernel
theorem dX12_name_1 : decode cX12_name 1 = .ok (.lstore_n 1, 1) := by decide +kernel
theorem dX12_name_2 : decode cX12_name 2 = .ok (.aload_n 0, 1) := by decide +kernel
theorem dX12_name_3 : decode cX12_name 3 = .ok (.getfield 7, 3) := by decide +kernel
theorem dX12_name_6 : decode cX12_name 6 = .ok (.istore_n 3, 1) := by decide +kernel
theorem dX12_name_7 : decode cX12_name 7 = .ok (.iload_n 3, 1) := by decide +kernel
theorem dX12_name_8 : decode cX12_name 8 = .ok (.aload_n 0, 1) := by decide +kernel
theorem dX12_name_9 : decode cX12_name 9 = .ok (.getfield 20, 3) := by decide +kernel
theorem dX12_name_12 : decode cX12_name 12 = .ok (.if_icmp .ge 23, 3) := by decide +kernel
theorem dX12_name_15 : decode cX12_name 15 = .ok (.lload_n 1, 1) := by decide +kernel
theorem dX12_name_16 : decode cX12_name 16 = .ok (.iconst 5, 1) := by decide +kernel
theorem dX12_name_17 : decode cX12_name 17 = .ok (.lshl, 1) := by decide +kernel
theorem dX12_name_18 : decode cX12_name 18 = .ok (.aload_n 0, 1) := by decide +kernel
theorem dX12_name_19 : decode cX12_name 19 = .ok (.iload_n 3, 1) := by decide +kernel
theorem dX12_name_20 : decode cX12_name 20 = .ok (.invokevirtual 23, 3) := by decide +kernel
theorem dX12_name_23 : decode cX12_name 23 = .ok (.bipush 96, 2) := by decide +kernel
theorem dX12_name_25 : decode cX12_name 25 = .ok (.isub, 1) := by decide +kernel
theorem dX12_name_26 : decode cX12_name 26 = .ok (.i2l, 1) := by decide +kernel
theorem dX12_name_27 : decode cX12_name 27 = .ok (.lor, 1) := by decide +kernel
theorem dX12_name_28 : decode cX12_name 28 = .ok (.lstore_n 1, 1) := by decide +kernel
theorem dX12_name_29 : decode cX12_name 29 = .ok (.iinc 3 1, 3) := by decide +kernel
theorem dX12_name_32 : decode cX12_name 32 = .ok (.goto (-25), 3) := by decide +kernel
theorem dX12_name_35 : decode cX12_name 35 = .ok (.lload_n 1, 1) := by decide +kernel
theorem dX12_name_36 : decode cX12_name 36 = .ok (.lreturn, 1) := by decide +kernel
def X12_name_b7 (k7 : Int64 → Int32 → Wd → Option (Int64 × Wd)) (y1 : Int64) (y3 : Int32) (w : Wd) : Option (Int64 × Wd) :=
  if (w.1 0 4) ≤ y3 then
  (some (y1, w))
  else
  cl (f_X12_byteAt y3 w) fun r3 w2 =>
  lt ((y1 <<< (Int32.toInt64 5 &&& 63)) ||| (Int32.toInt64 (r3 - 96))) fun v4 =>
  k7 v4 (y3 + 1) w2
set_option maxRecDepth 100000 in
set_option maxHeartbeats 4000000 in
theorem t_X12_name_b7 {Z : Cz (Int64 × Wd)} (hZ : OKZ Z SM cX12_name RX12 4 (some .long) 2) (hE : EndL Z) (k7 : Int64 → Int32 → Wd → Option (Int64 × Wd)) (hk7 : ∀ (y1 : Int64) (y3 : Int32)  (w : Wd), BW Z 4 7 [(0, .ref (ph (zY Z) 0)), (1, .long y1), (3, .int y3)] [] w (k7 y1 y3 w)) (y1 : Int64) (y3 : Int32)  (w : Wd) : BW Z 4 7 [(0, .ref (ph (zY Z) 0)), (1, .long y1), (3, .int y3)] [] w (X12_name_b7 k7 y1 y3 w) :=
  bw_iload_n hZ 2 rfl dX12_name_7 <|
  bw_aload_n hZ 0 rfl dX12_name_8 <|
  bw_getI hZ fl_RX12_20 (by decide) obM_0 dX12_name_9 <|
  bw_icmp_ge hZ (tgt := 35) (by decide) dX12_name_12 (fun _ =>
  bw_lload_n hZ 1 rfl dX12_name_35 <|
  bw_lret hZ hE dX12_name_36) (fun _ =>
  bw_lload_n hZ 1 rfl dX12_name_15 <|
  bw_iconst hZ 5 (by decide) dX12_name_16 <|
  bw_lshl hZ dX12_name_17 <|
  bw_aload_n hZ 0 rfl dX12_name_18 <|
  bw_iload_n hZ 2 rfl dX12_name_19 <|
  bw_callVI (As := [.int y3]) hZ ml_RX12_23 rc_12 obM_0 (by decide) (c_X12_byteAt (zl Z) (zY Z) (hZ_S hZ) y3 w) rfl rfl (Nat.le_of_ble_eq_true rfl) dX12_name_20 fun r3 w2 =>
  bw_bipush hZ 96 (by decide) dX12_name_23 <|
  bw_isub hZ dX12_name_25 <|
  bw_i2l hZ dX12_name_26 <|
  bw_lor hZ dX12_name_27 <|
  bw_nmL fun v4 =>
  bw_lstore_n hZ rfl (by decide) rfl dX12_name_28 <|
  bw_iinc hZ 1 2 rfl (by decide) (by decide) rfl dX12_name_29 <|
  bw_goto hZ (tgt := 7) (by decide) dX12_name_32 <|
  bw_sub [2, 1, 0] rfl (hk7 v4 (y3 + 1) w2))
def X12_name_b7_L  : Int64 → Int32 → Wd → Option (Int64 × Wd) :=
  lp fu (fun _ _ _ => none) (fun k7 => X12_name_b7 k7)
theorem t_X12_name_b7_L {Z : Cz (Int64 × Wd)} (hZ : OKZ Z SM cX12_name RX12 4 (some .long) 2) (hE : EndL Z)  : ∀ (y1 : Int64) (y3 : Int32)  (w : Wd), BW Z 4 7 [(0, .ref (ph (zY Z) 0)), (1, .long y1), (3, .int y3)] [] w (X12_name_b7_L y1 y3 w) :=
  lp_bw (fun k7 => ∀ (y1 : Int64) (y3 : Int32)  (w : Wd), BW Z 4 7 [(0, .ref (ph (zY Z) 0)), (1, .long y1), (3, .int y3)] [] w (k7 y1 y3 w)) (fun _ _ _ => bw_none) (fun k7 hk7 y1 y3 w => t_X12_name_b7 hZ hE k7 hk7 y1 y3 w) fu
def f_X12_name (w : Wd) : Option (Int64 × Wd) :=
  lt (w.1 0 3) fun v1 =>
  X12_name_b7_L 0 v1 w
set_option maxRecDepth 100000 in
set_option maxHeartbeats 4000000 in
theorem t_X12_name {Z : Cz (Int64 × Wd)} (hZ : OKZ Z SM cX12_name RX12 4 (some .long) 2) (hE : EndL Z)   (w : Wd) : BW Z 4 0 [(0, .ref (ph (zY Z) 0))] [] w (f_X12_name w) :=
  bw_lconst hZ 0 (by decide) dX12_name_0 <|
  bw_lstore_n hZ rfl (by decide) rfl dX12_name_1 <|
  bw_aload_n hZ 1 rfl dX12_name_2 <|
  bw_getI hZ fl_RX12_7 (by decide) obM_0 dX12_name_3 <|
  bw_nm fun v1 =>
  bw_istore_n hZ rfl (by decide) rfl dX12_name_6 <|
  bw_sub [2, 1, 0] rfl (t_X12_name_b7_L hZ hE 0 v1 w)
theorem c_X12_name (l : Launch) (Y : Ev) (hY : Y.1 = SM)   (w : Wd) : CL l Y yX12_name cX12_name 4 2 [.ref (ph Y 0)] w (f_X12_name w) := by
  refine CL_of (S := SM) (by decide) (Nat.le_of_ble_eq_true rfl) hY ?_
  intro Z hl hY2 hZ hE
  subst hY2
  exact t_X12_name hZ hE w
-- WhichWillModel.find
theorem dX12_find_0 : decode cX12_find 0 = .ok (.iconst 0, 1) := by decide +kernel
theorem dX12_find_1 : decode cX12_find 1 = .ok (.istore_n 3, 1) := by decide +kernel
theorem dX12_find_2 : decode cX12_find 2 = .ok (.iload_n 3, 1) := by decide +kernel
theorem dX12_find_3 : decode cX12_find 3 = .ok (.iload_n 2, 1) := by decide +kernel
theorem dX12_find_4 : decode cX12_find 4 = .ok (.if_icmp .ge 22, 3) := by decide +kernel
theorem dX12_find_7 : decode cX12_find 7 = .ok (.aload_n 1, 1) := by decide +kernel
theorem dX12_find_8 : decode cX12_find 8 = .ok (.iload_n 3, 1) := by decide +kernel
theorem dX12_find_9 : decode cX12_find 9 = .ok (.laload, 1) := by decide +kernel
theorem dX12_find_10 : decode cX12_find 10 = .ok (.aload_n 0, 1) := by decide +kernel
theorem dX12_find_11 : decode cX12_find 11 = .ok (.invokevirtual 71, 3) := by decide +kernel
theorem dX12_find_14 : decode cX12_find 14 = .ok (.lcmp, 1) := by decide +kernel
theorem dX12_find_15 : decode cX12_find 15 = .ok (.ifCond .ne 5, 3) := by decide +kernel
theorem dX12_find_18 : decode cX12_find 18 = .ok (.iload_n 3, 1) := by decide +kernel
theorem dX12_find_19 : decode cX12_find 19 = .ok (.ireturn, 1) := by decide +kernel
theorem dX12_find_20 : decode cX12_find 20 = .ok (.iinc 3 1, 3) := by decide +kernel
theorem dX12_find_23 : decode cX12_find 23 = .ok (.goto (-21), 3) := by decide +kernel
theorem dX12_find_26 : decode cX12_find 26 = .ok (.iconst (-1), 1) := by decide +kernel
theorem dX12_find_27 : decode cX12_find 27 = .ok (.ireturn, 1) := by decide +kernel
def X12_find_b2 (k2 : Nat → Nat → Int32 → Int32 → Wd → Option (Int32 × Wd)) (y1 : Nat) (ny1 : Nat) (y2 : Int32) (y3 : Int32) (w : Wd) : Option (Int32 × Wd) :=
  if y2 ≤ y3 then
  (some ((-1), w))
  else
  if inb y3 ny1 = true then
  (cl (f_X12_name w) fun r2 w1 =>
  if (lg_cmp (w.2 y1 (Int32.toNatClampNeg y3)) r2) = 0 then
  (some (y3, w1))
  else
  k2 y1 ny1 y2 (y3 + 1) w1)
  else none
set_option maxRecDepth 100000 in
set_option maxHeartbeats 4000000 in
theorem t_X12_find_b2 {Z : Cz (Int32 × Wd)} (hZ : OKZ Z SM cX12_find RX12 4 (some .int) 3) (hE : EndI Z) (k2 : Nat → Nat → Int32 → Int32 → Wd → Option (Int32 × Wd)) (hk2 : ∀ (y1 : Nat) (ny1 : Nat) (y2 : Int32) (y3 : Int32) (hy1 : ∀ c, AR SM c y1 23 ny1) (w : Wd), BW Z 4 2 [(0, .ref (ph (zY Z) 0)), (1, .ref (ph (zY Z) y1)), (2, .int y2), (3, .int y3)] [] w (k2 y1 ny1 y2 y3 w)) (y1 : Nat) (ny1 : Nat) (y2 : Int32) (y3 : Int32) (hy1 : ∀ c, AR SM c y1 23 ny1) (w : Wd) : BW Z 4 2 [(0, .ref (ph (zY Z) 0)), (1, .ref (ph (zY Z) y1)), (2, .int y2), (3, .int y3)] [] w (X12_find_b2 k2 y1 ny1 y2 y3 w) :=
  bw_iload_n hZ 3 rfl dX12_find_2 <|
  bw_iload_n hZ 2 rfl dX12_find_3 <|
  bw_icmp_ge hZ (tgt := 26) (by decide) dX12_find_4 (fun _ =>
  bw_iconst hZ (-1) (by decide) dX12_find_26 <|
  bw_iret hZ hE dX12_find_27) (fun _ =>
  bw_aload_n hZ 1 rfl dX12_find_7 <|
  bw_iload_n hZ 3 rfl dX12_find_8 <|
  bw_lald hZ (hy1 _) dX12_find_9 <|
  bw_aload_n hZ 0 rfl dX12_find_10 <|
  bw_callVL (As := []) hZ ml_RX12_71 rc_12 obM_0 (by decide) (c_X12_name (zl Z) (zY Z) (hZ_S hZ) w) rfl rfl (Nat.le_of_ble_eq_true rfl) dX12_find_11 fun r2 w1 =>
  bw_lcmp hZ dX12_find_14 <|
  bw_if_ne hZ (tgt := 20) (by decide) dX12_find_15 (fun _ =>
  bw_iinc hZ 1 3 rfl (by decide) (by decide) rfl dX12_find_20 <|
  bw_goto hZ (tgt := 2) (by decide) dX12_find_23 <|
  bw_sub [1, 2, 3, 0] rfl (hk2 y1 ny1 y2 (y3 + 1) (fun c => (hy1 c)) w1)) (fun _ =>
  bw_iload_n hZ 3 rfl dX12_find_18 <|
  bw_iret hZ hE dX12_find_19))
def X12_find_b2_L  : Nat → Nat → Int32 → Int32 → Wd → Option (Int32 × Wd) :=
  lp fu (fun _ _ _ _ _ => none) (fun k2 => X12_find_b2 k2)
theorem t_X12_find_b2_L {Z : Cz (Int32 × Wd)} (hZ : OKZ Z SM cX12_find RX12 4 (some .int) 3) (hE : EndI Z)  : ∀ (y1 : Nat) (ny1 : Nat) (y2 : Int32) (y3 : Int32) (hy1 : ∀ c, AR SM c y1 23 ny1) (w : Wd), BW Z 4 2 [(0, .ref (ph (zY Z) 0)), (1, .ref (ph (zY Z) y1)), (2, .int y2), (3, .int y3)] [] w (X12_find_b2_L y1 ny1 y2 y3 w) :=
  lp_bw (fun k2 => ∀ (y1 : Nat) (ny1 : Nat) (y2 : Int32) (y3 : Int32) (hy1 : ∀ c, AR SM c y1 23 ny1) (w : Wd), BW Z 4 2 [(0, .ref (ph (zY Z) 0)), (1, .ref (ph (zY Z) y1)), (2, .int y2), (3, .int y3)] [] w (k2 y1 ny1 y2 y3 w)) (fun _ _ _ _ _ _ => bw_none) (fun k2 hk2 y1 ny1 y2 y3 hy1 w => t_X12_find_b2 hZ hE k2 hk2 y1 ny1 y2 y3 hy1 w) fu
def f_X12_find (o1 : Nat) (n1 : Nat) (x2 : Int32) (w : Wd) : Option (Int32 × Wd) :=
  X12_find_b2_L o1 n1 x2 0 w
set_option maxRecDepth 100000 in
set_option maxHeartbeats 4000000 in
theorem t_X12_find {Z : Cz (Int32 × Wd)} (hZ : OKZ Z SM cX12_find RX12 4 (some .int) 3) (hE : EndI Z) (o1 : Nat) (n1 : Nat) (x2 : Int32) (ho1 : ∀ c, AR SM c o1 23 n1) (w : Wd) : BW Z 4 0 [(0, .ref (ph (zY Z) 0)), (1, .ref (ph (zY Z) o1)), (2, .int x2)] [] w (f_X12_find o1 n1 x2 w) :=
  bw_iconst hZ 0 (by decide) dX12_find_0 <|
  bw_istore_n hZ rfl (by decide) rfl dX12_find_1 <|
  bw_sub [1, 2, 3, 0] rfl (t_X12_find_b2_L hZ hE o1 n1 x2 0 (fun c => (ho1 c)) w)
theorem c_X12_find (l : Launch) (Y : Ev) (hY : Y.1 = SM) (o1 : Nat) (n1 : Nat) (x2 : Int32) (ho1 : ∀ c, AR SM c o1 23 n1) (w : Wd) : CI l Y yX12_find cX12_find 4 3 [.ref (ph Y 0), .ref (ph Y o1), .int x2] w .int (f_X12_find o1 n1 x2 w) := by
  refine CI_of (S := SM) (by decide) (Nat.le_of_ble_eq_true rfl) hY ?_
  intro Z hl hY2 hZ hE
  subst hY2
  exact t_X12_find hZ hE o1 n1 x2 ho1 w
-- WhichWillModel.fresh
theorem dX12_fresh_0 : decode cX12_fresh 0 = .ok (.aload_n 0, 1) := by decide +kernel
theorem dX12_fresh_1 : decode cX12_fresh 1 = .ok (.getfield 27, 3) := by decide +kernel
theorem dX12_fresh_4 : decode cX12_fresh 4 = .ok (.iconst 1, 1) := by decide +kernel
theorem dX12_fresh_5 : decode cX12_fresh 5 = .ok (.if_icmp .eq 9, 3) := by decide +kernel
theorem dX12_fresh_8 : decode cX12_fresh 8 = .ok (.aload_n 0, 1) := by decide +kernel
theorem dX12_fresh_9 : decode cX12_fresh 9 = .ok (.iconst 1, 1) := by decide +kernel
theorem dX12_fresh_10 : decode cX12_fresh 10 = .ok (.invokevirtual 53, 3) := by decide +kernel
theorem dX12_fresh_13 : decode cX12_fresh 13 = .ok (.ireturn, 1) := by decide +kernel
theorem dX12_fresh_14 : decode cX12_fresh 14 = .ok (.aload_n 0, 1) := by decide +kernel
theorem dX12_fresh_15 : decode cX12_fresh 15 = .ok (.aload_n 1, 1) := by decide +kernel
theorem dX12_fresh_16 : decode cX12_fresh 16 = .ok (.iload_n 2, 1) := by decide +kernel
theorem dX12_fresh_17 : decode cX12_fresh 17 = .ok (.invokevirtual 75, 3) := by decide +kernel
theorem dX12_fresh_20 : decode cX12_fresh 20 = .ok (.iconst (-1), 1) := by decide +kernel
theorem dX12_fresh_21 : decode cX12_fresh 21 = .ok (.if_icmp .eq 9, 3) := by decide +kernel
theorem dX12_fresh_24 : decode cX12_fresh 24 = .ok (.aload_n 0, 1) := by decide +kernel
theorem dX12_fresh_25 : decode cX12_fresh 25 = .ok (.iconst 3, 1) := by decide +kernel
theorem dX12_fresh_26 : decode cX12_fresh 26 = .ok (.invokevirtual 53, 3) := by decide +kernel
theorem dX12_fresh_29 : decode cX12_fresh 29 = .ok (.ireturn, 1) := by decide +kernel
theorem dX12_fresh_30 : decode cX12_fresh 30 = .ok (.aload_n 1, 1) := by decide +kernel
theorem dX12_fresh_31 : decode cX12_fresh 31 = .ok (.iload_n 2, 1) := by decide +kernel
theorem dX12_fresh_32 : decode cX12_fresh 32 = .ok (.aload_n 0, 1) := by decide +kernel
theorem dX12_fresh_33 : decode cX12_fresh 33 = .ok (.invokevirtual 71, 3) := by decide +kernel
theorem dX12_fresh_36 : decode cX12_fresh 36 = .ok (.lastore, 1) := by decide +kernel
theorem dX12_fresh_37 : decode cX12_fresh 37 = .ok (.aload_n 0, 1) := by decide +kernel
theorem dX12_fresh_38 : decode cX12_fresh 38 = .ok (.invokevirtual 56, 3) := by decide +kernel
theorem dX12_fresh_41 : decode cX12_fresh 41 = .ok (.iconst 1, 1) := by decide +kernel
theorem dX12_fresh_42 : decode cX12_fresh 42 = .ok (.ireturn, 1) := by decide +kernel
def f_X12_fresh (o1 : Nat) (n1 : Nat) (x2 : Int32) (w : Wd) : Option (Int32 × Wd) :=
  if (w.1 0 5) = 1 then
  (cl (f_X12_find o1 n1 x2 w) fun r2 w1 =>
  if r2 = ((-1)) then
  (cl (f_X12_name w1) fun r4 w3 =>
  if inb x2 n1 = true then
  (lt (wG w3 o1 (Int32.toNatClampNeg x2) r4) fun w5 =>
  cv (f_X12_scan w5) fun w6 =>
  some (1, w6))
  else none)
  else
  cl (f_X12_bad 3 w1) fun r8 w7 =>
  if isB r8 = true then some (r8, w7) else none)
  else
  cl (f_X12_bad 1 w) fun r10 w9 =>
  if isB r10 = true then some (r10, w9) else none
set_option maxRecDepth 100000 in
set_option maxHeartbeats 4000000 in
theorem t_X12_fresh {Z : Cz (Int32 × Wd)} (hZ : OKZ Z SM cX12_fresh RX12 3 (some .boolean) 4) (hE : EndI Z) (o1 : Nat) (n1 : Nat) (x2 : Int32) (ho1 : ∀ c, AR SM c o1 23 n1) (w : Wd) : BW Z 3 0 [(0, .ref (ph (zY Z) 0)), (1, .ref (ph (zY Z) o1)), (2, .int x2)] [] w (f_X12_fresh o1 n1 x2 w) :=
  bw_aload_n hZ 0 rfl dX12_fresh_0 <|
  bw_getI hZ fl_RX12_27 (by decide) obM_0 dX12_fresh_1 <|
  bw_iconst hZ 1 (by decide) dX12_fresh_4 <|
  bw_icmp_eq hZ (tgt := 14) (by decide) dX12_fresh_5 (fun _ =>
  bw_aload_n hZ 0 rfl dX12_fresh_14 <|
  bw_aload_n hZ 1 rfl dX12_fresh_15 <|
  bw_iload_n hZ 2 rfl dX12_fresh_16 <|
  bw_callVI (As := [.ref (ph (zY Z) o1), .int x2]) hZ ml_RX12_75 rc_12 obM_0 (by decide) (c_X12_find (zl Z) (zY Z) (hZ_S hZ) o1 n1 x2 (fun c => (ho1 c)) w) rfl rfl (Nat.le_of_ble_eq_true rfl) dX12_fresh_17 fun r2 w1 =>
  bw_iconst hZ (-1) (by decide) dX12_fresh_20 <|
  bw_icmp_eq hZ (tgt := 30) (by decide) dX12_fresh_21 (fun _ =>
  bw_aload_n hZ 1 rfl dX12_fresh_30 <|
  bw_iload_n hZ 2 rfl dX12_fresh_31 <|
  bw_aload_n hZ 0 rfl dX12_fresh_32 <|
  bw_callVL (As := []) hZ ml_RX12_71 rc_12 obM_0 (by decide) (c_X12_name (zl Z) (zY Z) (hZ_S hZ) w1) rfl rfl (Nat.le_of_ble_eq_true rfl) dX12_fresh_33 fun r4 w3 =>
  bw_last hZ (ho1 _) dX12_fresh_36 fun w5 =>
  bw_aload_n hZ 0 rfl dX12_fresh_37 <|
  bw_callVV (As := []) hZ ml_RX12_56 rc_12 obM_0 (by decide) (c_X12_scan (zl Z) (zY Z) (hZ_S hZ) w5) rfl rfl (Nat.le_of_ble_eq_true rfl) dX12_fresh_38 fun w6 =>
  bw_iconst hZ 1 (by decide) dX12_fresh_41 <|
  bw_zret hZ hE (by decide) dX12_fresh_42) (fun _ =>
  bw_aload_n hZ 0 rfl dX12_fresh_24 <|
  bw_iconst hZ 3 (by decide) dX12_fresh_25 <|
  bw_callVI (As := [.int 3]) hZ ml_RX12_53 rc_12 obM_0 (by decide) (c_X12_bad (zl Z) (zY Z) (hZ_S hZ) 3 w1) rfl rfl (Nat.le_of_ble_eq_true rfl) dX12_fresh_26 fun r8 w7 =>
  bw_zretC hZ hE dX12_fresh_29)) (fun _ =>
  bw_aload_n hZ 0 rfl dX12_fresh_8 <|
  bw_iconst hZ 1 (by decide) dX12_fresh_9 <|
  bw_callVI (As := [.int 1]) hZ ml_RX12_53 rc_12 obM_0 (by decide) (c_X12_bad (zl Z) (zY Z) (hZ_S hZ) 1 w) rfl rfl (Nat.le_of_ble_eq_true rfl) dX12_fresh_10 fun r10 w9 =>
  bw_zretC hZ hE dX12_fresh_13)
theorem c_X12_fresh (l : Launch) (Y : Ev) (hY : Y.1 = SM) (o1 : Nat) (n1 : Nat) (x2 : Int32) (ho1 : ∀ c, AR SM c o1 23 n1) (w : Wd) : CI l Y yX12_fresh cX12_fresh 3 4 [.ref (ph Y 0), .ref (ph Y o1), .int x2] w .boolean (f_X12_fresh o1 n1 x2 w) := by
  refine CI_of (S := SM) (by decide) (Nat.le_of_ble_eq_true rfl) hY ?_
  intro Z hl hY2 hZ hE
  subst hY2
  exact t_X12_fresh hZ hE o1 n1 x2 ho1 w
-- WhichWillModel.known
theorem dX12_known_0 : decode cX12_known 0 = .ok (.aload_n 0, 1) := by decide +kernel
theorem dX12_known_1 : decode cX12_known 1 = .ok (.getfield 27, 3) := by decide +kernel
theorem dX12_known_4 : decode cX12_known 4 = .ok (.iconst 1, 1) := by decide +kernel
theorem dX12_known_5 : decode cX12_known 5 = .ok (.if_icmp .eq 9, 3) := by decide +kernel
theorem dX12_known_8 : decode cX12_known 8 = .ok (.aload_n 0, 1) := by decide +kernel
theorem dX12_known_9 : decode cX12_known 9 = .ok (.iconst 1, 1) := by decide +kernel
theorem dX12_known_10 : decode cX12_known 10 = .ok (.invokevirtual 53, 3) := by decide +kernel
theorem dX12_known_13 : decode cX12_known 13 = .ok (.ireturn, 1) := by decide +kernel
theorem dX12_known_14 : decode cX12_known 14 = .ok (.aload_n 0, 1) := by decide +kernel
theorem dX12_known_15 : decode cX12_known 15 = .ok (.aload_n 0, 1) := by decide +kernel
theorem dX12_known_16 : decode cX12_known 16 = .ok (.aload_n 1, 1) := by decide +kernel
theorem dX12_known_17 : decode cX12_known 17 = .ok (.iload_n 2, 1) := by decide +kernel
theorem dX12_known_18 : decode cX12_known 18 = .ok (.invokevirtual 75, 3) := by decide +kernel
theorem dX12_known_21 : decode cX12_known 21 = .ok (.putfield 64, 3) := by decide +kernel
theorem dX12_known_24 : decode cX12_known 24 = .ok (.aload_n 0, 1) := by decide +kernel
theorem dX12_known_25 : decode cX12_known 25 = .ok (.getfield 64, 3) := by decide +kernel
theorem dX12_known_28 : decode cX12_known 28 = .ok (.iconst (-1), 1) := by decide +kernel
theorem dX12_known_29 : decode cX12_known 29 = .ok (.if_icmp .ne 9, 3) := by decide +kernel
theorem dX12_known_32 : decode cX12_known 32 = .ok (.aload_n 0, 1) := by decide +kernel
theorem dX12_known_33 : decode cX12_known 33 = .ok (.iconst 5, 1) := by decide +kernel
theorem dX12_known_34 : decode cX12_known 34 = .ok (.invokevirtual 53, 3) := by decide +kernel
theorem dX12_known_37 : decode cX12_known 37 = .ok (.ireturn, 1) := by decide +kernel
theorem dX12_known_38 : decode cX12_known 38 = .ok (.aload_n 0, 1) := by decide +kernel
theorem dX12_known_39 : decode cX12_known 39 = .ok (.invokevirtual 56, 3) := by decide +kernel
theorem dX12_known_42 : decode cX12_known 42 = .ok (.iconst 1, 1) := by decide +kernel
theorem dX12_known_43 : decode cX12_known 43 = .ok (.ireturn, 1) := by decide +kernel
def f_X12_known (o1 : Nat) (n1 : Nat) (x2 : Int32) (w : Wd) : Option (Int32 × Wd) :=
  if (w.1 0 5) = 1 then
  (cl (f_X12_find o1 n1 x2 w) fun r2 w1 =>
  lt (wI w1 0 7 r2) fun w3 =>
  if (w3.1 0 7) = ((-1)) then
  (cl (f_X12_bad 5 w3) fun r6 w5 =>
  if isB r6 = true then some (r6, w5) else none)
  else
  cv (f_X12_scan w3) fun w4 =>
  some (1, w4))
  else
  cl (f_X12_bad 1 w) fun r8 w7 =>
  if isB r8 = true then some (r8, w7) else none
set_option maxRecDepth 100000 in
set_option maxHeartbeats 4000000 in
theorem t_X12_known {Z : Cz (Int32 × Wd)} (hZ : OKZ Z SM cX12_known RX12 3 (some .boolean) 4) (hE : EndI Z) (o1 : Nat) (n1 : Nat) (x2 : Int32) (ho1 : ∀ c, AR SM c o1 23 n1) (w : Wd) : BW Z 3 0 [(0, .ref (ph (zY Z) 0)), (1, .ref (ph (zY Z) o1)), (2, .int x2)] [] w (f_X12_known o1 n1 x2 w) :=
  bw_aload_n hZ 0 rfl dX12_known_0 <|
  bw_getI hZ fl_RX12_27 (by decide) obM_0 dX12_known_1 <|
  bw_iconst hZ 1 (by decide) dX12_known_4 <|
  bw_icmp_eq hZ (tgt := 14) (by decide) dX12_known_5 (fun _ =>
  bw_aload_n hZ 0 rfl dX12_known_14 <|
  bw_aload_n hZ 0 rfl dX12_known_15 <|
  bw_aload_n hZ 1 rfl dX12_known_16 <|
  bw_iload_n hZ 2 rfl dX12_known_17 <|
  bw_callVI (As := [.ref (ph (zY Z) o1), .int x2]) hZ ml_RX12_75 rc_12 obM_0 (by decide) (c_X12_find (zl Z) (zY Z) (hZ_S hZ) o1 n1 x2 (fun c => (ho1 c)) w) rfl rfl (Nat.le_of_ble_eq_true rfl) dX12_known_18 fun r2 w1 =>
  bw_putI hZ fl_RX12_64 rfl rfl (by decide) obM_0 dX12_known_21 fun w3 =>
  bw_aload_n hZ 0 rfl dX12_known_24 <|
  bw_getI hZ fl_RX12_64 (by decide) obM_0 dX12_known_25 <|
  bw_iconst hZ (-1) (by decide) dX12_known_28 <|
  bw_icmp_ne hZ (tgt := 38) (by decide) dX12_known_29 (fun _ =>
  bw_aload_n hZ 0 rfl dX12_known_38 <|
  bw_callVV (As := []) hZ ml_RX12_56 rc_12 obM_0 (by decide) (c_X12_scan (zl Z) (zY Z) (hZ_S hZ) w3) rfl rfl (Nat.le_of_ble_eq_true rfl) dX12_known_39 fun w4 =>
  bw_iconst hZ 1 (by decide) dX12_known_42 <|
  bw_zret hZ hE (by decide) dX12_known_43) (fun _ =>
  bw_aload_n hZ 0 rfl dX12_known_32 <|
  bw_iconst hZ 5 (by decide) dX12_known_33 <|
  bw_callVI (As := [.int 5]) hZ ml_RX12_53 rc_12 obM_0 (by decide) (c_X12_bad (zl Z) (zY Z) (hZ_S hZ) 5 w3) rfl rfl (Nat.le_of_ble_eq_true rfl) dX12_known_34 fun r6 w5 =>
  bw_zretC hZ hE dX12_known_37)) (fun _ =>
  bw_aload_n hZ 0 rfl dX12_known_8 <|
  bw_iconst hZ 1 (by decide) dX12_known_9 <|
  bw_callVI (As := [.int 1]) hZ ml_RX12_53 rc_12 obM_0 (by decide) (c_X12_bad (zl Z) (zY Z) (hZ_S hZ) 1 w) rfl rfl (Nat.le_of_ble_eq_true rfl) dX12_known_10 fun r8 w7 =>
  bw_zretC hZ hE dX12_known_13)
theorem c_X12_known (l : Launch) (Y : Ev) (hY : Y.1 = SM) (o1 : Nat) (n1 : Nat) (x2 : Int32) (ho1 : ∀ c, AR SM c o1 23 n1) (w : Wd) : CI l Y yX12_known cX12_known 3 4 [.ref (ph Y 0), .ref (ph Y o1), .int x2] w .boolean (f_X12_known o1 n1 x2 w) := by
  refine CI_of (S := SM) (by decide) (Nat.le_of_ble_eq_true rfl) hY ?_
  intro Z hl hY2 hZ hE
  subst hY2
  exact t_X12_known hZ hE o1 n1 x2 ho1 w
-- WhichWillModel.open
theorem dX12_open_0 : decode cX12_open 0 = .ok (.aload_n 0, 1) := by decide +kernel
theorem dX12_open_1 : decode cX12_open 1 = .ok (.aload_n 0, 1) := by decide +kernel
theorem dX12_open_2 : decode cX12_open 2 = .ok (.getfield 79, 3) := by decide +kernel
theorem dX12_open_5 : decode cX12_open 5 = .ok (.putfield 13, 3) := by decide +kernel
theorem dX12_open_8 : decode cX12_open 8 = .ok (.aload_n 0, 1) := by decide +kernel
theorem dX12_open_9 : decode cX12_open 9 = .ok (.iconst 0, 1) := by decide +kernel
theorem dX12_open_10 : decode cX12_open 10 = .ok (.putfield 79, 3) := by decide +kernel
theorem dX12_open_13 : decode cX12_open 13 = .ok (.aload_n 0, 1) := by decide +kernel
theorem dX12_open_14 : decode cX12_open 14 = .ok (.iconst 0, 1) := by decide +kernel
theorem dX12_open_15 : decode cX12_open 15 = .ok (.putfield 20, 3) := by decide +kernel
theorem dX12_open_18 : decode cX12_open 18 = .ok (.aload_n 0, 1) := by decide +kernel
theorem dX12_open_19 : decode cX12_open 19 = .ok (.iconst 0, 1) := by decide +kernel
theorem dX12_open_20 : decode cX12_open 20 = .ok (.putfield 1, 3) := by decide +kernel
theorem dX12_open_23 : decode cX12_open 23 = .ok (.aload_n 0, 1) := by decide +kernel
theorem dX12_open_24 : decode cX12_open 24 = .ok (.iconst (-1), 1) := by decide +kernel
theorem dX12_open_25 : decode cX12_open 25 = .ok (.putfield 10, 3) := by decide +kernel
theorem dX12_open_28 : decode cX12_open 28 = .ok (.aload_n 0, 1) := by decide +kernel
theorem dX12_open_29 : decode cX12_open 29 = .ok (.invokevirtual 56, 3) := by decide +kernel
theorem dX12_open_32 : decode cX12_open 32 = .ok (.return_, 1) := by decide +kernel
def f_X12_open (w : Wd) : Option (Wd) :=
  lt (wI w 0 2 (w.1 0 1)) fun w1 =>
  lt (wI w1 0 1 0) fun w2 =>
  lt (wI w2 0 4 0) fun w3 =>
  lt (wI w3 0 8 0) fun w4 =>
  lt (wI w4 0 9 ((-1))) fun w5 =>
  cv (f_X12_scan w5) fun w6 =>
  some w6
set_option maxRecDepth 100000 in
set_option maxHeartbeats 4000000 in
theorem t_X12_open {Z : Cz (Wd)} (hZ : OKZ Z SM cX12_open RX12 1 none 3) (hE : EndV Z)   (w : Wd) : BW Z 1 0 [(0, .ref (ph (zY Z) 0))] [] w (f_X12_open w) :=
  bw_aload_n hZ 0 rfl dX12_open_0 <|
  bw_aload_n hZ 0 rfl dX12_open_1 <|
  bw_getI hZ fl_RX12_79 (by decide) obM_0 dX12_open_2 <|
  bw_putI hZ fl_RX12_13 rfl rfl (by decide) obM_0 dX12_open_5 fun w1 =>
  bw_aload_n hZ 0 rfl dX12_open_8 <|
  bw_iconst hZ 0 (by decide) dX12_open_9 <|
  bw_putI hZ fl_RX12_79 rfl rfl (by decide) obM_0 dX12_open_10 fun w2 =>
  bw_aload_n hZ 0 rfl dX12_open_13 <|
  bw_iconst hZ 0 (by decide) dX12_open_14 <|
  bw_putI hZ fl_RX12_20 rfl rfl (by decide) obM_0 dX12_open_15 fun w3 =>
  bw_aload_n hZ 0 rfl dX12_open_18 <|
  bw_iconst hZ 0 (by decide) dX12_open_19 <|
  bw_putI hZ fl_RX12_1 rfl rfl (by decide) obM_0 dX12_open_20 fun w4 =>
  bw_aload_n hZ 0 rfl dX12_open_23 <|
  bw_iconst hZ (-1) (by decide) dX12_open_24 <|
  bw_putI hZ fl_RX12_10 rfl rfl (by decide) obM_0 dX12_open_25 fun w5 =>
  bw_aload_n hZ 0 rfl dX12_open_28 <|
  bw_callVV (As := []) hZ ml_RX12_56 rc_12 obM_0 (by decide) (c_X12_scan (zl Z) (zY Z) (hZ_S hZ) w5) rfl rfl (Nat.le_of_ble_eq_true rfl) dX12_open_29 fun w6 =>
  bw_vret hZ hE dX12_open_32
theorem c_X12_open (l : Launch) (Y : Ev) (hY : Y.1 = SM)   (w : Wd) : CV l Y yX12_open cX12_open 1 3 [.ref (ph Y 0)] w (f_X12_open w) := by
  refine CV_of (S := SM) (by decide) (Nat.le_of_ble_eq_true rfl) hY ?_
  intro Z hl hY2 hZ hE
  subst hY2
  exact t_X12_open hZ hE w
-- WhichWillModel.ruleAt
theorem dX12_ruleAt_0 : decode cX12_ruleAt 0 = .ok (.aload_n 0, 1) := by decide +kernel
theorem dX12_ruleAt_1 : decode cX12_ruleAt 1 = .ok (.ldc 82, 2) := by decide +kernel
theorem dX12_ruleAt_3 : decode cX12_ruleAt 3 = .ok (.invokevirtual 49, 3) := by decide +kernel
theorem dX12_ruleAt_6 : decode cX12_ruleAt 6 = .ok (.ifCond .eq 7, 3) := by decide +kernel
theorem dX12_ruleAt_9 : decode cX12_ruleAt 9 = .ok (.iconst 0, 1) := by decide +kernel
theorem dX12_ruleAt_10 : decode cX12_ruleAt 10 = .ok (.goto 167, 3) := by decide +kernel
theorem dX12_ruleAt_13 : decode cX12_ruleAt 13 = .ok (.aload_n 0, 1) := by decide +kernel
theorem dX12_ruleAt_14 : decode cX12_ruleAt 14 = .ok (.ldc 84, 2) := by decide +kernel
theorem dX12_ruleAt_16 : decode cX12_ruleAt 16 = .ok (.invokevirtual 49, 3) := by decide +kernel
theorem dX12_ruleAt_19 : decode cX12_ruleAt 19 = .ok (.ifCond .eq 7, 3) := by decide +kernel
theorem dX12_ruleAt_22 : decode cX12_ruleAt 22 = .ok (.iconst 1, 1) := by decide +kernel
theorem dX12_ruleAt_23 : decode cX12_ruleAt 23 = .ok (.goto 154, 3) := by decide +kernel
theorem dX12_ruleAt_26 : decode cX12_ruleAt 26 = .ok (.aload_n 0, 1) := by decide +kernel
theorem dX12_ruleAt_27 : decode cX12_ruleAt 27 = .ok (.ldc 85, 2) := by decide +kernel
theorem dX12_ruleAt_29 : decode cX12_ruleAt 29 = .ok (.invokevirtual 49, 3) := by decide +kernel
theorem dX12_ruleAt_32 : decode cX12_ruleAt 32 = .ok (.ifCond .eq 7, 3) := by decide +kernel
theorem dX12_ruleAt_35 : decode cX12_ruleAt 35 = .ok (.iconst 2, 1) := by decide +kernel
theorem dX12_ruleAt_36 : decode cX12_ruleAt 36 = .ok (.goto 141, 3) := by decide +kernel
theorem dX12_ruleAt_39 : decode cX12_ruleAt 39 = .ok (.aload_n 0, 1) := by decide +kernel
theorem dX12_ruleAt_40 : decode cX12_ruleAt 40 = .ok (.ldc 87, 2) := by decide +kernel
theorem dX12_ruleAt_42 : decode cX12_ruleAt 42 = .ok (.invokevirtual 49, 3) := by decide +kernel
theorem dX12_ruleAt_45 : decode cX12_ruleAt 45 = .ok (.ifCond .eq 7, 3) := by decide +kernel
theorem dX12_ruleAt_48 : decode cX12_ruleAt 48 = .ok (.iconst 3, 1) := by decide +kernel
theorem dX12_ruleAt_49 : decode cX12_ruleAt 49 = .ok (.goto 128, 3) := by decide +kernel
theorem dX12_ruleAt_52 : decode cX12_ruleAt 52 = .ok (.aload_n 0, 1) := by decide +kernel
theorem dX12_ruleAt_53 : decode cX12_ruleAt 53 = .ok (.ldc 89, 2) := by decide +kernel
theorem dX12_ruleAt_55 : decode cX12_ruleAt 55 = .ok (.invokevirtual 49, 3) := by decide +kernel
theorem dX12_ruleAt_58 : decode cX12_ruleAt 58 = .ok (.ifCond .eq 7, 3) := by decide +kernel
theorem dX12_ruleAt_61 : decode cX12_ruleAt 61 = .ok (.iconst 4, 1) := by decide +kernel
theorem dX12_ruleAt_62 : decode cX12_ruleAt 62 = .ok (.goto 115, 3) := by decide +kernel
theorem dX12_ruleAt_65 : decode cX12_ruleAt 65 = .ok (.aload_n 0, 1) := by decide +kernel
theorem dX12_ruleAt_66 : decode cX12_ruleAt 66 = .ok (.ldc 91, 2) := by decide +kernel
theorem dX12_ruleAt_68 : decode cX12_ruleAt 68 = .ok (.invokevirtual 49, 3) := by decide +kernel
theorem dX12_ruleAt_71 : decode cX12_ruleAt 71 = .ok (.ifCond .eq 7, 3) := by decide +kernel
theorem dX12_ruleAt_74 : decode cX12_ruleAt 74 = .ok (.iconst 5, 1) := by decide +kernel
theorem dX12_ruleAt_75 : decode cX12_ruleAt 75 = .ok (.goto 102, 3) := by decide +kernel
theorem dX12_ruleAt_78 : decode cX12_ruleAt 78 = .ok (.aload_n 0, 1) := by decide +kernel
theorem dX12_ruleAt_79 : decode cX12_ruleAt 79 = .ok (.ldc 93, 2) := by decide +kernel
theorem dX12_ruleAt_81 : decode cX12_ruleAt 81 = .ok (.invokevirtual 49, 3) := by decide +kernel
theorem dX12_ruleAt_84 : decode cX12_ruleAt 84 = .ok (.ifCond .eq 8, 3) := by decide +kernel
theorem dX12_ruleAt_87 : decode cX12_ruleAt 87 = .ok (.bipush 6, 2) := by decide +kernel
theorem dX12_ruleAt_89 : decode cX12_ruleAt 89 = .ok (.goto 88, 3) := by decide +kernel
theorem dX12_ruleAt_92 : decode cX12_ruleAt 92 = .ok (.aload_n 0, 1) := by decide +kernel
theorem dX12_ruleAt_93 : decode cX12_ruleAt 93 = .ok (.ldc 95, 2) := by decide +kernel
theorem dX12_ruleAt_95 : decode cX12_ruleAt 95 = .ok (.invokevirtual 49, 3) := by decide +kernel
theorem dX12_ruleAt_98 : decode cX12_ruleAt 98 = .ok (.ifCond .eq 8, 3) := by decide +kernel
theorem dX12_ruleAt_101 : decode cX12_ruleAt 101 = .ok (.bipush 7, 2) := by decide +kernel
theorem dX12_ruleAt_103 : decode cX12_ruleAt 103 = .ok (.goto 74, 3) := by decide +kernel
theorem dX12_ruleAt_106 : decode cX12_ruleAt 106 = .ok (.aload_n 0, 1) := by decide +kernel
theorem dX12_ruleAt_107 : decode cX12_ruleAt 107 = .ok (.ldc 97, 2) := by decide +kernel
theorem dX12_ruleAt_109 : decode cX12_ruleAt 109 = .ok (.invokevirtual 49, 3) := by decide +kernel
theorem dX12_ruleAt_112 : decode cX12_ruleAt 112 = .ok (.ifCond .eq 8, 3) := by decide +kernel
theorem dX12_ruleAt_115 : decode cX12_ruleAt 115 = .ok (.bipush 8, 2) := by decide +kernel
theorem dX12_ruleAt_117 : decode cX12_ruleAt 117 = .ok (.goto 60, 3) := by decide +kernel
theorem dX12_ruleAt_120 : decode cX12_ruleAt 120 = .ok (.aload_n 0, 1) := by decide +kernel
theorem dX12_ruleAt_121 : decode cX12_ruleAt 121 = .ok (.ldc 99, 2) := by decide +kernel
theorem dX12_ruleAt_123 : decode cX12_ruleAt 123 = .ok (.invokevirtual 49, 3) := by decide +kernel
theorem dX12_ruleAt_126 : decode cX12_ruleAt 126 = .ok (.ifCond .eq 8, 3) := by decide +kernel
theorem dX12_ruleAt_129 : decode cX12_ruleAt 129 = .ok (.bipush 9, 2) := by decide +kernel
theorem dX12_ruleAt_131 : decode cX12_ruleAt 131 = .ok (.goto 46, 3) := by decide +kernel
theorem dX12_ruleAt_134 : decode cX12_ruleAt 134 = .ok (.aload_n 0, 1) := by decide +kernel
theorem dX12_ruleAt_135 : decode cX12_ruleAt 135 = .ok (.ldc 101, 2) := by decide +kernel
theorem dX12_ruleAt_137 : decode cX12_ruleAt 137 = .ok (.invokevirtual 49, 3) := by decide +kernel
theorem dX12_ruleAt_140 : decode cX12_ruleAt 140 = .ok (.ifCond .eq 8, 3) := by decide +kernel
theorem dX12_ruleAt_143 : decode cX12_ruleAt 143 = .ok (.bipush 10, 2) := by decide +kernel
theorem dX12_ruleAt_145 : decode cX12_ruleAt 145 = .ok (.goto 32, 3) := by decide +kernel
theorem dX12_ruleAt_148 : decode cX12_ruleAt 148 = .ok (.aload_n 0, 1) := by decide +kernel
theorem dX12_ruleAt_149 : decode cX12_ruleAt 149 = .ok (.ldc 103, 2) := by decide +kernel
theorem dX12_ruleAt_151 : decode cX12_ruleAt 151 = .ok (.invokevirtual 49, 3) := by decide +kernel
theorem dX12_ruleAt_154 : decode cX12_ruleAt 154 = .ok (.ifCond .eq 8, 3) := by decide +kernel
theorem dX12_ruleAt_157 : decode cX12_ruleAt 157 = .ok (.bipush 11, 2) := by decide +kernel
theorem dX12_ruleAt_159 : decode cX12_ruleAt 159 = .ok (.goto 18, 3) := by decide +kernel
theorem dX12_ruleAt_162 : decode cX12_ruleAt 162 = .ok (.aload_n 0, 1) := by decide +kernel
theorem dX12_ruleAt_163 : decode cX12_ruleAt 163 = .ok (.ldc 105, 2) := by decide +kernel
theorem dX12_ruleAt_165 : decode cX12_ruleAt 165 = .ok (.invokevirtual 49, 3) := by decide +kernel
theorem dX12_ruleAt_168 : decode cX12_ruleAt 168 = .ok (.ifCond .eq 8, 3) := by decide +kernel
theorem dX12_ruleAt_171 : decode cX12_ruleAt 171 = .ok (.bipush 12, 2) := by decide +kernel
theorem dX12_ruleAt_173 : decode cX12_ruleAt 173 = .ok (.goto 4, 3) := by decide +kernel
theorem dX12_ruleAt_176 : decode cX12_ruleAt 176 = .ok (.iconst (-1), 1) := by decide +kernel
theorem dX12_ruleAt_177 : decode cX12_ruleAt 177 = .ok (.ireturn, 1) := by decide +kernel
def f_X12_ruleAt (w : Wd) : Option (Int32 × Wd) :=
  cl (f_X12_is 1 w) fun r2 w1 =>
  if r2 = 0 then
  (cl (f_X12_is 2 w1) fun r4 w3 =>
  if r4 = 0 then
  (cl (f_X12_is 3 w3) fun r6 w5 =>
  if r6 = 0 then
  (cl (f_X12_is 4 w5) fun r8 w7 =>
  if r8 = 0 then
  (cl (f_X12_is 5 w7) fun r10 w9 =>
  if r10 = 0 then
  (cl (f_X12_is 6 w9) fun r12 w11 =>
  if r12 = 0 then
  (cl (f_X12_is 7 w11) fun r14 w13 =>
  if r14 = 0 then
  (cl (f_X12_is 8 w13) fun r16 w15 =>
  if r16 = 0 then
  (cl (f_X12_is 9 w15) fun r18 w17 =>
  if r18 = 0 then
  (cl (f_X12_is 10 w17) fun r20 w19 =>
  if r20 = 0 then
  (cl (f_X12_is 11 w19) fun r22 w21 =>
  if r22 = 0 then
  (cl (f_X12_is 12 w21) fun r24 w23 =>
  if r24 = 0 then
  (cl (f_X12_is 13 w23) fun r26 w25 =>
  if r26 = 0 then
  (some ((-1), w25))
  else
  some (12, w25))
  else
  some (11, w23))
  else
  some (10, w21))
  else
  some (9, w19))
  else
  some (8, w17))
  else
  some (7, w15))
  else
  some (6, w13))
  else
  some (5, w11))
  else
  some (4, w9))
  else
  some (3, w7))
  else
  some (2, w5))
  else
  some (1, w3))
  else
  some (0, w1)
set_option maxRecDepth 100000 in
set_option maxHeartbeats 4000000 in
theorem t_X12_ruleAt {Z : Cz (Int32 × Wd)} (hZ : OKZ Z SM cX12_ruleAt RX12 1 (some .int) 6) (hE : EndI Z)   (w : Wd) : BW Z 1 0 [(0, .ref (ph (zY Z) 0))] [] w (f_X12_ruleAt w) :=
  bw_aload_n hZ 0 rfl dX12_ruleAt_0 <|
  bw_ldcS hZ 51 rfl dX12_ruleAt_1 <|
  bw_callVI (As := [.ref (sK (zY Z) 1)]) hZ ml_RX12_49 rc_12 obM_0 (by decide) (c_X12_is (zl Z) (zY Z) (hZ_S hZ) 1 (by decide) w) rfl rfl (Nat.le_of_ble_eq_true rfl) dX12_ruleAt_3 fun r2 w1 =>
  bw_if_eq hZ (tgt := 13) (by decide) dX12_ruleAt_6 (fun _ =>
  bw_aload_n hZ 0 rfl dX12_ruleAt_13 <|
  bw_ldcS hZ 52 rfl dX12_ruleAt_14 <|
  bw_callVI (As := [.ref (sK (zY Z) 2)]) hZ ml_RX12_49 rc_12 obM_0 (by decide) (c_X12_is (zl Z) (zY Z) (hZ_S hZ) 2 (by decide) w1) rfl rfl (Nat.le_of_ble_eq_true rfl) dX12_ruleAt_16 fun r4 w3 =>
  bw_if_eq hZ (tgt := 26) (by decide) dX12_ruleAt_19 (fun _ =>
  bw_aload_n hZ 0 rfl dX12_ruleAt_26 <|
  bw_ldcS hZ 53 rfl dX12_ruleAt_27 <|
  bw_callVI (As := [.ref (sK (zY Z) 3)]) hZ ml_RX12_49 rc_12 obM_0 (by decide) (c_X12_is (zl Z) (zY Z) (hZ_S hZ) 3 (by decide) w3) rfl rfl (Nat.le_of_ble_eq_true rfl) dX12_ruleAt_29 fun r6 w5 =>
  bw_if_eq hZ (tgt := 39) (by decide) dX12_ruleAt_32 (fun _ =>
  bw_aload_n hZ 0 rfl dX12_ruleAt_39 <|
  bw_ldcS hZ 54 rfl dX12_ruleAt_40 <|
  bw_callVI (As := [.ref (sK (zY Z) 4)]) hZ ml_RX12_49 rc_12 obM_0 (by decide) (c_X12_is (zl Z) (zY Z) (hZ_S hZ) 4 (by decide) w5) rfl rfl (Nat.le_of_ble_eq_true rfl) dX12_ruleAt_42 fun r8 w7 =>
  bw_if_eq hZ (tgt := 52) (by decide) dX12_ruleAt_45 (fun _ =>
  bw_aload_n hZ 0 rfl dX12_ruleAt_52 <|
  bw_ldcS hZ 55 rfl dX12_ruleAt_53 <|
  bw_callVI (As := [.ref (sK (zY Z) 5)]) hZ ml_RX12_49 rc_12 obM_0 (by decide) (c_X12_is (zl Z) (zY Z) (hZ_S hZ) 5 (by decide) w7) rfl rfl (Nat.le_of_ble_eq_true rfl) dX12_ruleAt_55 fun r10 w9 =>
  bw_if_eq hZ (tgt := 65) (by decide) dX12_ruleAt_58 (fun _ =>
  bw_aload_n hZ 0 rfl dX12_ruleAt_65 <|
  bw_ldcS hZ 56 rfl dX12_ruleAt_66 <|
  bw_callVI (As := [.ref (sK (zY Z) 6)]) hZ ml_RX12_49 rc_12 obM_0 (by decide) (c_X12_is (zl Z) (zY Z) (hZ_S hZ) 6 (by decide) w9) rfl rfl (Nat.le_of_ble_eq_true rfl) dX12_ruleAt_68 fun r12 w11 =>
  bw_if_eq hZ (tgt := 78) (by decide) dX12_ruleAt_71 (fun _ =>
  bw_aload_n hZ 0 rfl dX12_ruleAt_78 <|
  bw_ldcS hZ 57 rfl dX12_ruleAt_79 <|
  bw_callVI (As := [.ref (sK (zY Z) 7)]) hZ ml_RX12_49 rc_12 obM_0 (by decide) (c_X12_is (zl Z) (zY Z) (hZ_S hZ) 7 (by decide) w11) rfl rfl (Nat.le_of_ble_eq_true rfl) dX12_ruleAt_81 fun r14 w13 =>
  bw_if_eq hZ (tgt := 92) (by decide) dX12_ruleAt_84 (fun _ =>
  bw_aload_n hZ 0 rfl dX12_ruleAt_92 <|
  bw_ldcS hZ 58 rfl dX12_ruleAt_93 <|
  bw_callVI (As := [.ref (sK (zY Z) 8)]) hZ ml_RX12_49 rc_12 obM_0 (by decide) (c_X12_is (zl Z) (zY Z) (hZ_S hZ) 8 (by decide) w13) rfl rfl (Nat.le_of_ble_eq_true rfl) dX12_ruleAt_95 fun r16 w15 =>
  bw_if_eq hZ (tgt := 106) (by decide) dX12_ruleAt_98 (fun _ =>
  bw_aload_n hZ 0 rfl dX12_ruleAt_106 <|
  bw_ldcS hZ 59 rfl dX12_ruleAt_107 <|
  bw_callVI (As := [.ref (sK (zY Z) 9)]) hZ ml_RX12_49 rc_12 obM_0 (by decide) (c_X12_is (zl Z) (zY Z) (hZ_S hZ) 9 (by decide) w15) rfl rfl (Nat.le_of_ble_eq_true rfl) dX12_ruleAt_109 fun r18 w17 =>
  bw_if_eq hZ (tgt := 120) (by decide) dX12_ruleAt_112 (fun _ =>
  bw_aload_n hZ 0 rfl dX12_ruleAt_120 <|
  bw_ldcS hZ 60 rfl dX12_ruleAt_121 <|
  bw_callVI (As := [.ref (sK (zY Z) 10)]) hZ ml_RX12_49 rc_12 obM_0 (by decide) (c_X12_is (zl Z) (zY Z) (hZ_S hZ) 10 (by decide) w17) rfl rfl (Nat.le_of_ble_eq_true rfl) dX12_ruleAt_123 fun r20 w19 =>
  bw_if_eq hZ (tgt := 134) (by decide) dX12_ruleAt_126 (fun _ =>
  bw_aload_n hZ 0 rfl dX12_ruleAt_134 <|
  bw_ldcS hZ 61 rfl dX12_ruleAt_135 <|
  bw_callVI (As := [.ref (sK (zY Z) 11)]) hZ ml_RX12_49 rc_12 obM_0 (by decide) (c_X12_is (zl Z) (zY Z) (hZ_S hZ) 11 (by decide) w19) rfl rfl (Nat.le_of_ble_eq_true rfl) dX12_ruleAt_137 fun r22 w21 =>
  bw_if_eq hZ (tgt := 148) (by decide) dX12_ruleAt_140 (fun _ =>
  bw_aload_n hZ 0 rfl dX12_ruleAt_148 <|
  bw_ldcS hZ 62 rfl dX12_ruleAt_149 <|
  bw_callVI (As := [.ref (sK (zY Z) 12)]) hZ ml_RX12_49 rc_12 obM_0 (by decide) (c_X12_is (zl Z) (zY Z) (hZ_S hZ) 12 (by decide) w21) rfl rfl (Nat.le_of_ble_eq_true rfl) dX12_ruleAt_151 fun r24 w23 =>
  bw_if_eq hZ (tgt := 162) (by decide) dX12_ruleAt_154 (fun _ =>
  bw_aload_n hZ 0 rfl dX12_ruleAt_162 <|
  bw_ldcS hZ 63 rfl dX12_ruleAt_163 <|
  bw_callVI (As := [.ref (sK (zY Z) 13)]) hZ ml_RX12_49 rc_12 obM_0 (by decide) (c_X12_is (zl Z) (zY Z) (hZ_S hZ) 13 (by decide) w23) rfl rfl (Nat.le_of_ble_eq_true rfl) dX12_ruleAt_165 fun r26 w25 =>
  bw_if_eq hZ (tgt := 176) (by decide) dX12_ruleAt_168 (fun _ =>
  bw_iconst hZ (-1) (by decide) dX12_ruleAt_176 <|
  bw_iret hZ hE dX12_ruleAt_177) (fun _ =>
  bw_bipush hZ 12 (by decide) dX12_ruleAt_171 <|
  bw_goto hZ (tgt := 177) (by decide) dX12_ruleAt_173 <|
  bw_iret hZ hE dX12_ruleAt_177)) (fun _ =>
  bw_bipush hZ 11 (by decide) dX12_ruleAt_157 <|
  bw_goto hZ (tgt := 177) (by decide) dX12_ruleAt_159 <|
  bw_iret hZ hE dX12_ruleAt_177)) (fun _ =>
  bw_bipush hZ 10 (by decide) dX12_ruleAt_143 <|
  bw_goto hZ (tgt := 177) (by decide) dX12_ruleAt_145 <|
  bw_iret hZ hE dX12_ruleAt_177)) (fun _ =>
  bw_bipush hZ 9 (by decide) dX12_ruleAt_129 <|
  bw_goto hZ (tgt := 177) (by decide) dX12_ruleAt_131 <|
  bw_iret hZ hE dX12_ruleAt_177)) (fun _ =>
  bw_bipush hZ 8 (by decide) dX12_ruleAt_115 <|
  bw_goto hZ (tgt := 177) (by decide) dX12_ruleAt_117 <|
  bw_iret hZ hE dX12_ruleAt_177)) (fun _ =>
  bw_bipush hZ 7 (by decide) dX12_ruleAt_101 <|
  bw_goto hZ (tgt := 177) (by decide) dX12_ruleAt_103 <|
  bw_iret hZ hE dX12_ruleAt_177)) (fun _ =>
  bw_bipush hZ 6 (by decide) dX12_ruleAt_87 <|
  bw_goto hZ (tgt := 177) (by decide) dX12_ruleAt_89 <|
  bw_iret hZ hE dX12_ruleAt_177)) (fun _ =>
  bw_iconst hZ 5 (by decide) dX12_ruleAt_74 <|
  bw_goto hZ (tgt := 177) (by decide) dX12_ruleAt_75 <|
  bw_iret hZ hE dX12_ruleAt_177)) (fun _ =>
  bw_iconst hZ 4 (by decide) dX12_ruleAt_61 <|
  bw_goto hZ (tgt := 177) (by decide) dX12_ruleAt_62 <|
  bw_iret hZ hE dX12_ruleAt_177)) (fun _ =>
  bw_iconst hZ 3 (by decide) dX12_ruleAt_48 <|
  bw_goto hZ (tgt := 177) (by decide) dX12_ruleAt_49 <|
  bw_iret hZ hE dX12_ruleAt_177)) (fun _ =>
  bw_iconst hZ 2 (by decide) dX12_ruleAt_35 <|
  bw_goto hZ (tgt := 177) (by decide) dX12_ruleAt_36 <|
  bw_iret hZ hE dX12_ruleAt_177)) (fun _ =>
  bw_iconst hZ 1 (by decide) dX12_ruleAt_22 <|
  bw_goto hZ (tgt := 177) (by decide) dX12_ruleAt_23 <|
  bw_iret hZ hE dX12_ruleAt_177)) (fun _ =>
  bw_iconst hZ 0 (by decide) dX12_ruleAt_9 <|
  bw_goto hZ (tgt := 177) (by decide) dX12_ruleAt_10 <|
  bw_iret hZ hE dX12_ruleAt_177)
theorem c_X12_ruleAt (l : Launch) (Y : Ev) (hY : Y.1 = SM)   (w : Wd) : CI l Y yX12_ruleAt cX12_ruleAt 1 6 [.ref (ph Y 0)] w .int (f_X12_ruleAt w) := by
  refine CI_of (S := SM) (by decide) (Nat.le_of_ble_eq_true rfl) hY ?_
  intro Z hl hY2 hZ hE
  subst hY2
  exact t_X12_ruleAt hZ hE w
-- WhichWillModel.pick
theorem dX12_pick_0 : decode cX12_pick 0 = .ok (.iconst (-1), 1) := by decide +kernel
theorem dX12_pick_1 : decode cX12_pick 1 = .ok (.istore_n 2, 1) := by decide +kernel
theorem dX12_pick_2 : decode cX12_pick 2 = .ok (.iload_n 1, 1) := by decide +kernel
theorem dX12_pick_3 : decode cX12_pick 3 = .ok (.iconst 3, 1) := by decide +kernel
theorem dX12_pick_4 : decode cX12_pick 4 = .ok (.if_icmp .ne 34, 3) := by decide +kernel
theorem dX12_pick_7 : decode cX12_pick 7 = .ok (.aload_n 0, 1) := by decide +kernel
theorem dX12_pick_8 : decode cX12_pick 8 = .ok (.ldc 107, 2) := by decide +kernel
theorem dX12_pick_10 : decode cX12_pick 10 = .ok (.invokevirtual 49, 3) := by decide +kernel
theorem dX12_pick_13 : decode cX12_pick 13 = .ok (.ifCond .eq 7, 3) := by decide +kernel
theorem dX12_pick_16 : decode cX12_pick 16 = .ok (.iconst 1, 1) := by decide +kernel
theorem dX12_pick_17 : decode cX12_pick 17 = .ok (.goto 17, 3) := by decide +kernel
theorem dX12_pick_20 : decode cX12_pick 20 = .ok (.aload_n 0, 1) := by decide +kernel
theorem dX12_pick_21 : decode cX12_pick 21 = .ok (.ldc 109, 2) := by decide +kernel
theorem dX12_pick_23 : decode cX12_pick 23 = .ok (.invokevirtual 49, 3) := by decide +kernel
theorem dX12_pick_26 : decode cX12_pick 26 = .ok (.ifCond .eq 7, 3) := by decide +kernel
theorem dX12_pick_29 : decode cX12_pick 29 = .ok (.iconst 2, 1) := by decide +kernel
theorem dX12_pick_30 : decode cX12_pick 30 = .ok (.goto 4, 3) := by decide +kernel
theorem dX12_pick_33 : decode cX12_pick 33 = .ok (.iconst (-1), 1) := by decide +kernel
theorem dX12_pick_34 : decode cX12_pick 34 = .ok (.istore_n 2, 1) := by decide +kernel
theorem dX12_pick_35 : decode cX12_pick 35 = .ok (.goto 63, 3) := by decide +kernel
theorem dX12_pick_38 : decode cX12_pick 38 = .ok (.aload_n 0, 1) := by decide +kernel
theorem dX12_pick_39 : decode cX12_pick 39 = .ok (.ldc 111, 2) := by decide +kernel
theorem dX12_pick_41 : decode cX12_pick 41 = .ok (.invokevirtual 49, 3) := by decide +kernel
theorem dX12_pick_44 : decode cX12_pick 44 = .ok (.ifCond .eq 7, 3) := by decide +kernel
theorem dX12_pick_47 : decode cX12_pick 47 = .ok (.iconst 0, 1) := by decide +kernel
theorem dX12_pick_48 : decode cX12_pick 48 = .ok (.goto 49, 3) := by decide +kernel
theorem dX12_pick_51 : decode cX12_pick 51 = .ok (.aload_n 0, 1) := by decide +kernel
theorem dX12_pick_52 : decode cX12_pick 52 = .ok (.ldc 113, 2) := by decide +kernel
theorem dX12_pick_54 : decode cX12_pick 54 = .ok (.invokevirtual 49, 3) := by decide +kernel
theorem dX12_pick_57 : decode cX12_pick 57 = .ok (.ifCond .eq 13, 3) := by decide +kernel
theorem dX12_pick_60 : decode cX12_pick 60 = .ok (.iload_n 1, 1) := by decide +kernel
theorem dX12_pick_61 : decode cX12_pick 61 = .ok (.bipush 11, 2) := by decide +kernel
theorem dX12_pick_63 : decode cX12_pick 63 = .ok (.if_icmp .ne 7, 3) := by decide +kernel
theorem dX12_pick_66 : decode cX12_pick 66 = .ok (.iconst 1, 1) := by decide +kernel
theorem dX12_pick_67 : decode cX12_pick 67 = .ok (.goto 30, 3) := by decide +kernel
theorem dX12_pick_70 : decode cX12_pick 70 = .ok (.aload_n 0, 1) := by decide +kernel
theorem dX12_pick_71 : decode cX12_pick 71 = .ok (.ldc 115, 2) := by decide +kernel
theorem dX12_pick_73 : decode cX12_pick 73 = .ok (.invokevirtual 49, 3) := by decide +kernel
theorem dX12_pick_76 : decode cX12_pick 76 = .ok (.ifCond .eq 7, 3) := by decide +kernel
theorem dX12_pick_79 : decode cX12_pick 79 = .ok (.iconst 2, 1) := by decide +kernel
theorem dX12_pick_80 : decode cX12_pick 80 = .ok (.goto 17, 3) := by decide +kernel
theorem dX12_pick_83 : decode cX12_pick 83 = .ok (.aload_n 0, 1) := by decide +kernel
theorem dX12_pick_84 : decode cX12_pick 84 = .ok (.ldc 117, 2) := by decide +kernel
theorem dX12_pick_86 : decode cX12_pick 86 = .ok (.invokevirtual 49, 3) := by decide +kernel
theorem dX12_pick_89 : decode cX12_pick 89 = .ok (.ifCond .eq 7, 3) := by decide +kernel
theorem dX12_pick_92 : decode cX12_pick 92 = .ok (.iconst 3, 1) := by decide +kernel
theorem dX12_pick_93 : decode cX12_pick 93 = .ok (.goto 4, 3) := by decide +kernel
theorem dX12_pick_96 : decode cX12_pick 96 = .ok (.iconst (-1), 1) := by decide +kernel
theorem dX12_pick_97 : decode cX12_pick 97 = .ok (.istore_n 2, 1) := by decide +kernel
theorem dX12_pick_98 : decode cX12_pick 98 = .ok (.iload_n 2, 1) := by decide +kernel
theorem dX12_pick_99 : decode cX12_pick 99 = .ok (.iconst (-1), 1) := by decide +kernel
theorem dX12_pick_100 : decode cX12_pick 100 = .ok (.if_icmp .ne 9, 3) := by decide +kernel
theorem dX12_pick_103 : decode cX12_pick 103 = .ok (.aload_n 0, 1) := by decide +kernel
theorem dX12_pick_104 : decode cX12_pick 104 = .ok (.iconst 1, 1) := by decide +kernel
theorem dX12_pick_105 : decode cX12_pick 105 = .ok (.invokevirtual 53, 3) := by decide +kernel
theorem dX12_pick_108 : decode cX12_pick 108 = .ok (.ireturn, 1) := by decide +kernel
theorem dX12_pick_109 : decode cX12_pick 109 = .ok (.aload_n 0, 1) := by decide +kernel
theorem dX12_pick_110 : decode cX12_pick 110 = .ok (.iload_n 2, 1) := by decide +kernel
theorem dX12_pick_111 : decode cX12_pick 111 = .ok (.putfield 64, 3) := by decide +kernel
theorem dX12_pick_114 : decode cX12_pick 114 = .ok (.aload_n 0, 1) := by decide +kernel
theorem dX12_pick_115 : decode cX12_pick 115 = .ok (.invokevirtual 56, 3) := by decide +kernel
theorem dX12_pick_118 : decode cX12_pick 118 = .ok (.iconst 1, 1) := by decide +kernel
theorem dX12_pick_119 : decode cX12_pick 119 = .ok (.ireturn, 1) := by decide +kernel
def X12_pick_b98 (y2 : Int32) (w : Wd) : Option (Int32 × Wd) :=
  if y2 = ((-1)) then
  (cl (f_X12_bad 1 w) fun r12 w11 =>
  if isB r12 = true then some (r12, w11) else none)
  else
  lt (wI w 0 7 y2) fun w9 =>
  cv (f_X12_scan w9) fun w10 =>
  some (1, w10)
set_option maxRecDepth 100000 in
set_option maxHeartbeats 4000000 in
theorem t_X12_pick_b98 {Z : Cz (Int32 × Wd)} (hZ : OKZ Z SM cX12_pick RX12 3 (some .boolean) 6) (hE : EndI Z)  (y2 : Int32)  (w : Wd) : BW Z 3 98 [(0, .ref (ph (zY Z) 0)), (2, .int y2)] [] w (X12_pick_b98 y2 w) :=
  bw_iload_n hZ 1 rfl dX12_pick_98 <|
  bw_iconst hZ (-1) (by decide) dX12_pick_99 <|
  bw_icmp_ne hZ (tgt := 109) (by decide) dX12_pick_100 (fun _ =>
  bw_aload_n hZ 0 rfl dX12_pick_109 <|
  bw_iload_n hZ 1 rfl dX12_pick_110 <|
  bw_putI hZ fl_RX12_64 rfl rfl (by decide) obM_0 dX12_pick_111 fun w9 =>
  bw_aload_n hZ 0 rfl dX12_pick_114 <|
  bw_callVV (As := []) hZ ml_RX12_56 rc_12 obM_0 (by decide) (c_X12_scan (zl Z) (zY Z) (hZ_S hZ) w9) rfl rfl (Nat.le_of_ble_eq_true rfl) dX12_pick_115 fun w10 =>
  bw_iconst hZ 1 (by decide) dX12_pick_118 <|
  bw_zret hZ hE (by decide) dX12_pick_119) (fun _ =>
  bw_aload_n hZ 0 rfl dX12_pick_103 <|
  bw_iconst hZ 1 (by decide) dX12_pick_104 <|
  bw_callVI (As := [.int 1]) hZ ml_RX12_53 rc_12 obM_0 (by decide) (c_X12_bad (zl Z) (zY Z) (hZ_S hZ) 1 w) rfl rfl (Nat.le_of_ble_eq_true rfl) dX12_pick_105 fun r12 w11 =>
  bw_zretC hZ hE dX12_pick_108)
def X12_pick_b70 (w : Wd) : Option (Int32 × Wd) :=
  cl (f_X12_is 19 w) fun r6 w5 =>
  if r6 = 0 then
  (cl (f_X12_is 20 w5) fun r8 w7 =>
  if r8 = 0 then
  (X12_pick_b98 ((-1)) w7)
  else
  X12_pick_b98 3 w7)
  else
  X12_pick_b98 2 w5
set_option maxRecDepth 100000 in
set_option maxHeartbeats 4000000 in
theorem t_X12_pick_b70 {Z : Cz (Int32 × Wd)} (hZ : OKZ Z SM cX12_pick RX12 3 (some .boolean) 6) (hE : EndI Z)    (w : Wd) : BW Z 3 70 [(0, .ref (ph (zY Z) 0))] [] w (X12_pick_b70 w) :=
  bw_aload_n hZ 0 rfl dX12_pick_70 <|
  bw_ldcS hZ 68 rfl dX12_pick_71 <|
  bw_callVI (As := [.ref (sK (zY Z) 19)]) hZ ml_RX12_49 rc_12 obM_0 (by decide) (c_X12_is (zl Z) (zY Z) (hZ_S hZ) 19 (by decide) w) rfl rfl (Nat.le_of_ble_eq_true rfl) dX12_pick_73 fun r6 w5 =>
  bw_if_eq hZ (tgt := 83) (by decide) dX12_pick_76 (fun _ =>
  bw_aload_n hZ 0 rfl dX12_pick_83 <|
  bw_ldcS hZ 69 rfl dX12_pick_84 <|
  bw_callVI (As := [.ref (sK (zY Z) 20)]) hZ ml_RX12_49 rc_12 obM_0 (by decide) (c_X12_is (zl Z) (zY Z) (hZ_S hZ) 20 (by decide) w5) rfl rfl (Nat.le_of_ble_eq_true rfl) dX12_pick_86 fun r8 w7 =>
  bw_if_eq hZ (tgt := 96) (by decide) dX12_pick_89 (fun _ =>
  bw_iconst hZ (-1) (by decide) dX12_pick_96 <|
  bw_istore_n hZ rfl (by decide) rfl dX12_pick_97 <|
  bw_sub [1, 0] rfl (t_X12_pick_b98 hZ hE ((-1)) w7)) (fun _ =>
  bw_iconst hZ 3 (by decide) dX12_pick_92 <|
  bw_goto hZ (tgt := 97) (by decide) dX12_pick_93 <|
  bw_istore_n hZ rfl (by decide) rfl dX12_pick_97 <|
  bw_sub [1, 0] rfl (t_X12_pick_b98 hZ hE 3 w7))) (fun _ =>
  bw_iconst hZ 2 (by decide) dX12_pick_79 <|
  bw_goto hZ (tgt := 97) (by decide) dX12_pick_80 <|
  bw_istore_n hZ rfl (by decide) rfl dX12_pick_97 <|
  bw_sub [1, 0] rfl (t_X12_pick_b98 hZ hE 2 w5))
def f_X12_pick (x1 : Int32) (w : Wd) : Option (Int32 × Wd) :=
  if x1 = 3 then
  (cl (f_X12_is 14 w) fun r14 w13 =>
  if r14 = 0 then
  (cl (f_X12_is 15 w13) fun r16 w15 =>
  if r16 = 0 then
  (X12_pick_b98 ((-1)) w15)
  else
  X12_pick_b98 2 w15)
  else
  X12_pick_b98 1 w13)
  else
  cl (f_X12_is 17 w) fun r2 w1 =>
  if r2 = 0 then
  (cl (f_X12_is 18 w1) fun r4 w3 =>
  if r4 = 0 then
  (X12_pick_b70 w3)
  else
  if x1 = 11 then
  (X12_pick_b98 1 w3)
  else
  X12_pick_b70 w3)
  else
  X12_pick_b98 0 w1
set_option maxRecDepth 100000 in
set_option maxHeartbeats 4000000 in
theorem t_X12_pick {Z : Cz (Int32 × Wd)} (hZ : OKZ Z SM cX12_pick RX12 3 (some .boolean) 6) (hE : EndI Z) (x1 : Int32)  (w : Wd) : BW Z 3 0 [(0, .ref (ph (zY Z) 0)), (1, .int x1)] [] w (f_X12_pick x1 w) :=
  bw_iconst hZ (-1) (by decide) dX12_pick_0 <|
  bw_istore_n hZ rfl (by decide) rfl dX12_pick_1 <|
  bw_iload_n hZ 2 rfl dX12_pick_2 <|
  bw_iconst hZ 3 (by decide) dX12_pick_3 <|
  bw_icmp_ne hZ (tgt := 38) (by decide) dX12_pick_4 (fun _ =>
  bw_aload_n hZ 1 rfl dX12_pick_38 <|
  bw_ldcS hZ 66 rfl dX12_pick_39 <|
  bw_callVI (As := [.ref (sK (zY Z) 17)]) hZ ml_RX12_49 rc_12 obM_0 (by decide) (c_X12_is (zl Z) (zY Z) (hZ_S hZ) 17 (by decide) w) rfl rfl (Nat.le_of_ble_eq_true rfl) dX12_pick_41 fun r2 w1 =>
  bw_if_eq hZ (tgt := 51) (by decide) dX12_pick_44 (fun _ =>
  bw_aload_n hZ 1 rfl dX12_pick_51 <|
  bw_ldcS hZ 67 rfl dX12_pick_52 <|
  bw_callVI (As := [.ref (sK (zY Z) 18)]) hZ ml_RX12_49 rc_12 obM_0 (by decide) (c_X12_is (zl Z) (zY Z) (hZ_S hZ) 18 (by decide) w1) rfl rfl (Nat.le_of_ble_eq_true rfl) dX12_pick_54 fun r4 w3 =>
  bw_if_eq hZ (tgt := 70) (by decide) dX12_pick_57 (fun _ =>
  bw_sub [1] rfl (t_X12_pick_b70 hZ hE w3)) (fun _ =>
  bw_iload_n hZ 2 rfl dX12_pick_60 <|
  bw_bipush hZ 11 (by decide) dX12_pick_61 <|
  bw_icmp_ne hZ (tgt := 70) (by decide) dX12_pick_63 (fun _ =>
  bw_sub [1] rfl (t_X12_pick_b70 hZ hE w3)) (fun _ =>
  bw_iconst hZ 1 (by decide) dX12_pick_66 <|
  bw_goto hZ (tgt := 97) (by decide) dX12_pick_67 <|
  bw_istore_n hZ rfl (by decide) rfl dX12_pick_97 <|
  bw_sub [1, 0] rfl (t_X12_pick_b98 hZ hE 1 w3)))) (fun _ =>
  bw_iconst hZ 0 (by decide) dX12_pick_47 <|
  bw_goto hZ (tgt := 97) (by decide) dX12_pick_48 <|
  bw_istore_n hZ rfl (by decide) rfl dX12_pick_97 <|
  bw_sub [1, 0] rfl (t_X12_pick_b98 hZ hE 0 w1))) (fun _ =>
  bw_aload_n hZ 1 rfl dX12_pick_7 <|
  bw_ldcS hZ 64 rfl dX12_pick_8 <|
  bw_callVI (As := [.ref (sK (zY Z) 14)]) hZ ml_RX12_49 rc_12 obM_0 (by decide) (c_X12_is (zl Z) (zY Z) (hZ_S hZ) 14 (by decide) w) rfl rfl (Nat.le_of_ble_eq_true rfl) dX12_pick_10 fun r14 w13 =>
  bw_if_eq hZ (tgt := 20) (by decide) dX12_pick_13 (fun _ =>
  bw_aload_n hZ 1 rfl dX12_pick_20 <|
  bw_ldcS hZ 65 rfl dX12_pick_21 <|
  bw_callVI (As := [.ref (sK (zY Z) 15)]) hZ ml_RX12_49 rc_12 obM_0 (by decide) (c_X12_is (zl Z) (zY Z) (hZ_S hZ) 15 (by decide) w13) rfl rfl (Nat.le_of_ble_eq_true rfl) dX12_pick_23 fun r16 w15 =>
  bw_if_eq hZ (tgt := 33) (by decide) dX12_pick_26 (fun _ =>
  bw_iconst hZ (-1) (by decide) dX12_pick_33 <|
  bw_istore_n hZ rfl (by decide) rfl dX12_pick_34 <|
  bw_goto hZ (tgt := 98) (by decide) dX12_pick_35 <|
  bw_sub [1, 0] rfl (t_X12_pick_b98 hZ hE ((-1)) w15)) (fun _ =>
  bw_iconst hZ 2 (by decide) dX12_pick_29 <|
  bw_goto hZ (tgt := 34) (by decide) dX12_pick_30 <|
  bw_istore_n hZ rfl (by decide) rfl dX12_pick_34 <|
  bw_goto hZ (tgt := 98) (by decide) dX12_pick_35 <|
  bw_sub [1, 0] rfl (t_X12_pick_b98 hZ hE 2 w15))) (fun _ =>
  bw_iconst hZ 1 (by decide) dX12_pick_16 <|
  bw_goto hZ (tgt := 34) (by decide) dX12_pick_17 <|
  bw_istore_n hZ rfl (by decide) rfl dX12_pick_34 <|
  bw_goto hZ (tgt := 98) (by decide) dX12_pick_35 <|
  bw_sub [1, 0] rfl (t_X12_pick_b98 hZ hE 1 w13)))
theorem c_X12_pick (l : Launch) (Y : Ev) (hY : Y.1 = SM) (x1 : Int32)  (w : Wd) : CI l Y yX12_pick cX12_pick 3 6 [.ref (ph Y 0), .int x1] w .boolean (f_X12_pick x1 w) := by
  refine CI_of (S := SM) (by decide) (Nat.le_of_ble_eq_true rfl) hY ?_
  intro Z hl hY2 hZ hE
  subst hY2
  exact t_X12_pick hZ hE x1 w
-- WhichWillModel.readRule
theorem dX12_readRule_0 : decode cX12_readRule 0 = .ok (.aload_n 0, 1) := by decide +kernel
theorem dX12_readRule_1 : decode cX12_readRule 1 = .ok (.invokevirtual 56, 3) := by decide +kernel
theorem dX12_readRule_4 : decode cX12_readRule 4 = .ok (.iload_n 2, 1) := by decide +kernel
theorem dX12_readRule_5 : decode cX12_readRule 5 = .ok (.ifCond .ne 12, 3) := by decide +kernel
theorem dX12_readRule_8 : decode cX12_readRule 8 = .ok (.aload_n 0, 1) := by decide +kernel
theorem dX12_readRule_9 : decode cX12_readRule 9 = .ok (.iconst 0, 1) := by decide +kernel
theorem dX12_readRule_10 : decode cX12_readRule 10 = .ok (.iconst 3, 1) := by decide +kernel
theorem dX12_readRule_11 : decode cX12_readRule 11 = .ok (.invokevirtual 119, 3) := by decide +kernel
theorem dX12_readRule_14 : decode cX12_readRule 14 = .ok (.goto 65, 3) := by decide +kernel
theorem dX12_readRule_17 : decode cX12_readRule 17 = .ok (.iload_n 2, 1) := by decide +kernel
theorem dX12_readRule_18 : decode cX12_readRule 18 = .ok (.bipush 9, 2) := by decide +kernel
theorem dX12_readRule_20 : decode cX12_readRule 20 = .ok (.if_icmp .ne 13, 3) := by decide +kernel
theorem dX12_readRule_23 : decode cX12_readRule 23 = .ok (.aload_n 0, 1) := by decide +kernel
theorem dX12_readRule_24 : decode cX12_readRule 24 = .ok (.iconst 0, 1) := by decide +kernel
theorem dX12_readRule_25 : decode cX12_readRule 25 = .ok (.bipush 100, 2) := by decide +kernel
theorem dX12_readRule_27 : decode cX12_readRule 27 = .ok (.invokevirtual 119, 3) := by decide +kernel
theorem dX12_readRule_30 : decode cX12_readRule 30 = .ok (.goto 49, 3) := by decide +kernel
theorem dX12_readRule_33 : decode cX12_readRule 33 = .ok (.iload_n 2, 1) := by decide +kernel
theorem dX12_readRule_34 : decode cX12_readRule 34 = .ok (.bipush 10, 2) := by decide +kernel
theorem dX12_readRule_36 : decode cX12_readRule 36 = .ok (.if_icmp .ne 13, 3) := by decide +kernel
theorem dX12_readRule_39 : decode cX12_readRule 39 = .ok (.aload_n 0, 1) := by decide +kernel
theorem dX12_readRule_40 : decode cX12_readRule 40 = .ok (.iconst 0, 1) := by decide +kernel
theorem dX12_readRule_41 : decode cX12_readRule 41 = .ok (.bipush 90, 2) := by decide +kernel
theorem dX12_readRule_43 : decode cX12_readRule 43 = .ok (.invokevirtual 119, 3) := by decide +kernel
theorem dX12_readRule_46 : decode cX12_readRule 46 = .ok (.goto 33, 3) := by decide +kernel
theorem dX12_readRule_49 : decode cX12_readRule 49 = .ok (.iload_n 2, 1) := by decide +kernel
theorem dX12_readRule_50 : decode cX12_readRule 50 = .ok (.iconst 3, 1) := by decide +kernel
theorem dX12_readRule_51 : decode cX12_readRule 51 = .ok (.if_icmp .eq 15, 3) := by decide +kernel
theorem dX12_readRule_54 : decode cX12_readRule 54 = .ok (.iload_n 2, 1) := by decide +kernel
theorem dX12_readRule_55 : decode cX12_readRule 55 = .ok (.bipush 11, 2) := by decide +kernel
theorem dX12_readRule_57 : decode cX12_readRule 57 = .ok (.if_icmp .eq 9, 3) := by decide +kernel
theorem dX12_readRule_60 : decode cX12_readRule 60 = .ok (.iload_n 2, 1) := by decide +kernel
theorem dX12_readRule_61 : decode cX12_readRule 61 = .ok (.bipush 12, 2) := by decide +kernel
theorem dX12_readRule_63 : decode cX12_readRule 63 = .ok (.if_icmp .ne 11, 3) := by decide +kernel
theorem dX12_readRule_66 : decode cX12_readRule 66 = .ok (.aload_n 0, 1) := by decide +kernel
theorem dX12_readRule_67 : decode cX12_readRule 67 = .ok (.iload_n 2, 1) := by decide +kernel
theorem dX12_readRule_68 : decode cX12_readRule 68 = .ok (.invokevirtual 122, 3) := by decide +kernel
theorem dX12_readRule_71 : decode cX12_readRule 71 = .ok (.ifCond .eq 7, 3) := by decide +kernel
theorem dX12_readRule_74 : decode cX12_readRule 74 = .ok (.iconst 1, 1) := by decide +kernel
theorem dX12_readRule_75 : decode cX12_readRule 75 = .ok (.goto 4, 3) := by decide +kernel
theorem dX12_readRule_78 : decode cX12_readRule 78 = .ok (.iconst 0, 1) := by decide +kernel
theorem dX12_readRule_79 : decode cX12_readRule 79 = .ok (.istore_n 3, 1) := by decide +kernel
theorem dX12_readRule_80 : decode cX12_readRule 80 = .ok (.iload_n 3, 1) := by decide +kernel
theorem dX12_readRule_81 : decode cX12_readRule 81 = .ok (.ifCond .ne 5, 3) := by decide +kernel
theorem dX12_readRule_84 : decode cX12_readRule 84 = .ok (.iconst 0, 1) := by decide +kernel
theorem dX12_readRule_85 : decode cX12_readRule 85 = .ok (.ireturn, 1) := by decide +kernel
theorem dX12_readRule_86 : decode cX12_readRule 86 = .ok (.iload_n 2, 1) := by decide +kernel
theorem dX12_readRule_87 : decode cX12_readRule 87 = .ok (.ifCond .eq 32, 3) := by decide +kernel
theorem dX12_readRule_90 : decode cX12_readRule 90 = .ok (.iload_n 2, 1) := by decide +kernel
theorem dX12_readRule_91 : decode cX12_readRule 91 = .ok (.bipush 9, 2) := by decide +kernel
theorem dX12_readRule_93 : decode cX12_readRule 93 = .ok (.if_icmp .eq 26, 3) := by decide +kernel
theorem dX12_readRule_96 : decode cX12_readRule 96 = .ok (.iload_n 2, 1) := by decide +kernel
theorem dX12_readRule_97 : decode cX12_readRule 97 = .ok (.bipush 10, 2) := by decide +kernel
theorem dX12_readRule_99 : decode cX12_readRule 99 = .ok (.if_icmp .eq 20, 3) := by decide +kernel
theorem dX12_readRule_102 : decode cX12_readRule 102 = .ok (.iload_n 2, 1) := by decide +kernel
theorem dX12_readRule_103 : decode cX12_readRule 103 = .ok (.iconst 3, 1) := by decide +kernel
theorem dX12_readRule_104 : decode cX12_readRule 104 = .ok (.if_icmp .eq 15, 3) := by decide +kernel
theorem dX12_readRule_107 : decode cX12_readRule 107 = .ok (.iload_n 2, 1) := by decide +kernel
theorem dX12_readRule_108 : decode cX12_readRule 108 = .ok (.bipush 11, 2) := by decide +kernel
theorem dX12_readRule_110 : decode cX12_readRule 110 = .ok (.if_icmp .eq 9, 3) := by decide +kernel
theorem dX12_readRule_113 : decode cX12_readRule 113 = .ok (.iload_n 2, 1) := by decide +kernel
theorem dX12_readRule_114 : decode cX12_readRule 114 = .ok (.bipush 12, 2) := by decide +kernel
theorem dX12_readRule_116 : decode cX12_readRule 116 = .ok (.if_icmp .ne 7, 3) := by decide +kernel
theorem dX12_readRule_119 : decode cX12_readRule 119 = .ok (.iconst 1, 1) := by decide +kernel
theorem dX12_readRule_120 : decode cX12_readRule 120 = .ok (.goto 4, 3) := by decide +kernel
theorem dX12_readRule_123 : decode cX12_readRule 123 = .ok (.iconst 0, 1) := by decide +kernel
theorem dX12_readRule_124 : decode cX12_readRule 124 = .ok (.istore 4, 2) := by decide +kernel
theorem dX12_readRule_126 : decode cX12_readRule 126 = .ok (.aload_n 0, 1) := by decide +kernel
theorem dX12_readRule_127 : decode cX12_readRule 127 = .ok (.getfield 125, 3) := by decide +kernel
theorem dX12_readRule_130 : decode cX12_readRule 130 = .ok (.bipush 13, 2) := by decide +kernel
theorem dX12_readRule_132 : decode cX12_readRule 132 = .ok (.iload_n 1, 1) := by decide +kernel
theorem dX12_readRule_133 : decode cX12_readRule 133 = .ok (.imul, 1) := by decide +kernel
theorem dX12_readRule_134 : decode cX12_readRule 134 = .ok (.iload_n 2, 1) := by decide +kernel
theorem dX12_readRule_135 : decode cX12_readRule 135 = .ok (.iadd, 1) := by decide +kernel
theorem dX12_readRule_136 : decode cX12_readRule 136 = .ok (.iload 4, 2) := by decide +kernel
theorem dX12_readRule_138 : decode cX12_readRule 138 = .ok (.ifCond .eq 10, 3) := by decide +kernel
theorem dX12_readRule_141 : decode cX12_readRule 141 = .ok (.aload_n 0, 1) := by decide +kernel
theorem dX12_readRule_142 : decode cX12_readRule 142 = .ok (.getfield 64, 3) := by decide +kernel
theorem dX12_readRule_145 : decode cX12_readRule 145 = .ok (.goto 4, 3) := by decide +kernel
theorem dX12_readRule_148 : decode cX12_readRule 148 = .ok (.iconst 1, 1) := by decide +kernel
theorem dX12_readRule_149 : decode cX12_readRule 149 = .ok (.iastore, 1) := by decide +kernel
theorem dX12_readRule_150 : decode cX12_readRule 150 = .ok (.iconst 1, 1) := by decide +kernel
theorem dX12_readRule_151 : decode cX12_readRule 151 = .ok (.ireturn, 1) := by decide +kernel
def X12_readRule_b124 (y1 : Int32) (y2 : Int32) (t0 : Int32) (w : Wd) : Option (Int32 × Wd) :=
  if t0 = 0 then
  (if inb ((13 * y1) + y2) 52 = true then
  (lt (wI w 14 (Int32.toNatClampNeg ((13 * y1) + y2)) 1) fun w4 =>
  some (1, w4))
  else none)
  else
  if inb ((13 * y1) + y2) 52 = true then
  (lt (wI w 14 (Int32.toNatClampNeg ((13 * y1) + y2)) (w.1 0 7)) fun w5 =>
  some (1, w5))
  else none
set_option maxRecDepth 100000 in
set_option maxHeartbeats 4000000 in
theorem t_X12_readRule_b124 {Z : Cz (Int32 × Wd)} (hZ : OKZ Z SM cX12_readRule RX12 5 (some .boolean) 7) (hE : EndI Z)  (y1 : Int32) (y2 : Int32) (t0 : Int32)  (w : Wd) : BW Z 5 124 [(0, .ref (ph (zY Z) 0)), (1, .int y1), (2, .int y2)] [.int t0] w (X12_readRule_b124 y1 y2 t0 w) :=
  bw_istore hZ (by decide) rfl dX12_readRule_124 <|
  bw_aload_n hZ 1 rfl dX12_readRule_126 <|
  bw_getR hZ fl_RX12_125 obM_0 rfl dX12_readRule_127 <|
  bw_bipush hZ 13 (by decide) dX12_readRule_130 <|
  bw_iload_n hZ 2 rfl dX12_readRule_132 <|
  bw_imul hZ dX12_readRule_133 <|
  bw_iload_n hZ 3 rfl dX12_readRule_134 <|
  bw_iadd hZ dX12_readRule_135 <|
  bw_iload hZ 0 rfl dX12_readRule_136 <|
  bw_if_eq hZ (tgt := 148) (by decide) dX12_readRule_138 (fun _ =>
  bw_iconst hZ 1 (by decide) dX12_readRule_148 <|
  bw_iast hZ (arM_14 _) dX12_readRule_149 fun w4 =>
  bw_iconst hZ 1 (by decide) dX12_readRule_150 <|
  bw_zret hZ hE (by decide) dX12_readRule_151) (fun _ =>
  bw_aload_n hZ 1 rfl dX12_readRule_141 <|
  bw_getI hZ fl_RX12_64 (by decide) obM_0 dX12_readRule_142 <|
  bw_goto hZ (tgt := 149) (by decide) dX12_readRule_145 <|
  bw_iast hZ (arM_14 _) dX12_readRule_149 fun w5 =>
  bw_iconst hZ 1 (by decide) dX12_readRule_150 <|
  bw_zret hZ hE (by decide) dX12_readRule_151)
def X12_readRule_b79 (y1 : Int32) (y2 : Int32) (t0 : Int32) (w : Wd) : Option (Int32 × Wd) :=
  if t0 = 0 then
  (some (0, w))
  else
  if y2 = 0 then
  (X12_readRule_b124 y1 y2 1 w)
  else
  if y2 = 9 then
  (X12_readRule_b124 y1 y2 1 w)
  else
  if y2 = 10 then
  (X12_readRule_b124 y1 y2 1 w)
  else
  if y2 = 3 then
  (X12_readRule_b124 y1 y2 1 w)
  else
  if y2 = 11 then
  (X12_readRule_b124 y1 y2 1 w)
  else
  if y2 = 12 then
  (X12_readRule_b124 y1 y2 1 w)
  else
  X12_readRule_b124 y1 y2 0 w
set_option maxRecDepth 100000 in
set_option maxHeartbeats 4000000 in
theorem t_X12_readRule_b79 {Z : Cz (Int32 × Wd)} (hZ : OKZ Z SM cX12_readRule RX12 5 (some .boolean) 7) (hE : EndI Z)  (y1 : Int32) (y2 : Int32) (t0 : Int32)  (w : Wd) : BW Z 5 79 [(0, .ref (ph (zY Z) 0)), (1, .int y1), (2, .int y2)] [.int t0] w (X12_readRule_b79 y1 y2 t0 w) :=
  bw_istore_n hZ rfl (by decide) rfl dX12_readRule_79 <|
  bw_iload_n hZ 0 rfl dX12_readRule_80 <|
  bw_if_ne hZ (tgt := 86) (by decide) dX12_readRule_81 (fun _ =>
  bw_iload_n hZ 3 rfl dX12_readRule_86 <|
  bw_if_eq hZ (tgt := 119) (by decide) dX12_readRule_87 (fun _ =>
  bw_iconst hZ 1 (by decide) dX12_readRule_119 <|
  bw_goto hZ (tgt := 124) (by decide) dX12_readRule_120 <|
  bw_sub [1, 2, 3] rfl (t_X12_readRule_b124 hZ hE y1 y2 1 w)) (fun _ =>
  bw_iload_n hZ 3 rfl dX12_readRule_90 <|
  bw_bipush hZ 9 (by decide) dX12_readRule_91 <|
  bw_icmp_eq hZ (tgt := 119) (by decide) dX12_readRule_93 (fun _ =>
  bw_iconst hZ 1 (by decide) dX12_readRule_119 <|
  bw_goto hZ (tgt := 124) (by decide) dX12_readRule_120 <|
  bw_sub [1, 2, 3] rfl (t_X12_readRule_b124 hZ hE y1 y2 1 w)) (fun _ =>
  bw_iload_n hZ 3 rfl dX12_readRule_96 <|
  bw_bipush hZ 10 (by decide) dX12_readRule_97 <|
  bw_icmp_eq hZ (tgt := 119) (by decide) dX12_readRule_99 (fun _ =>
  bw_iconst hZ 1 (by decide) dX12_readRule_119 <|
  bw_goto hZ (tgt := 124) (by decide) dX12_readRule_120 <|
  bw_sub [1, 2, 3] rfl (t_X12_readRule_b124 hZ hE y1 y2 1 w)) (fun _ =>
  bw_iload_n hZ 3 rfl dX12_readRule_102 <|
  bw_iconst hZ 3 (by decide) dX12_readRule_103 <|
  bw_icmp_eq hZ (tgt := 119) (by decide) dX12_readRule_104 (fun _ =>
  bw_iconst hZ 1 (by decide) dX12_readRule_119 <|
  bw_goto hZ (tgt := 124) (by decide) dX12_readRule_120 <|
  bw_sub [1, 2, 3] rfl (t_X12_readRule_b124 hZ hE y1 y2 1 w)) (fun _ =>
  bw_iload_n hZ 3 rfl dX12_readRule_107 <|
  bw_bipush hZ 11 (by decide) dX12_readRule_108 <|
  bw_icmp_eq hZ (tgt := 119) (by decide) dX12_readRule_110 (fun _ =>
  bw_iconst hZ 1 (by decide) dX12_readRule_119 <|
  bw_goto hZ (tgt := 124) (by decide) dX12_readRule_120 <|
  bw_sub [1, 2, 3] rfl (t_X12_readRule_b124 hZ hE y1 y2 1 w)) (fun _ =>
  bw_iload_n hZ 3 rfl dX12_readRule_113 <|
  bw_bipush hZ 12 (by decide) dX12_readRule_114 <|
  bw_icmp_ne hZ (tgt := 123) (by decide) dX12_readRule_116 (fun _ =>
  bw_iconst hZ 0 (by decide) dX12_readRule_123 <|
  bw_sub [1, 2, 3] rfl (t_X12_readRule_b124 hZ hE y1 y2 0 w)) (fun _ =>
  bw_iconst hZ 1 (by decide) dX12_readRule_119 <|
  bw_goto hZ (tgt := 124) (by decide) dX12_readRule_120 <|
  bw_sub [1, 2, 3] rfl (t_X12_readRule_b124 hZ hE y1 y2 1 w)))))))) (fun _ =>
  bw_iconst hZ 0 (by decide) dX12_readRule_84 <|
  bw_zret hZ hE (by decide) dX12_readRule_85)
def X12_readRule_b66 (y1 : Int32) (y2 : Int32) (w : Wd) : Option (Int32 × Wd) :=
  cl (f_X12_pick y2 w) fun r3 w2 =>
  if r3 = 0 then
  (X12_readRule_b79 y1 y2 0 w2)
  else
  X12_readRule_b79 y1 y2 1 w2
set_option maxRecDepth 100000 in
set_option maxHeartbeats 4000000 in
theorem t_X12_readRule_b66 {Z : Cz (Int32 × Wd)} (hZ : OKZ Z SM cX12_readRule RX12 5 (some .boolean) 7) (hE : EndI Z)  (y1 : Int32) (y2 : Int32)  (w : Wd) : BW Z 5 66 [(0, .ref (ph (zY Z) 0)), (1, .int y1), (2, .int y2)] [] w (X12_readRule_b66 y1 y2 w) :=
  bw_aload_n hZ 0 rfl dX12_readRule_66 <|
  bw_iload_n hZ 2 rfl dX12_readRule_67 <|
  bw_callVI (As := [.int y2]) hZ ml_RX12_122 rc_12 obM_0 (by decide) (c_X12_pick (zl Z) (zY Z) (hZ_S hZ) y2 w) rfl rfl (Nat.le_of_ble_eq_true rfl) dX12_readRule_68 fun r3 w2 =>
  bw_if_eq hZ (tgt := 78) (by decide) dX12_readRule_71 (fun _ =>
  bw_iconst hZ 0 (by decide) dX12_readRule_78 <|
  bw_sub [0, 1, 2] rfl (t_X12_readRule_b79 hZ hE y1 y2 0 w2)) (fun _ =>
  bw_iconst hZ 1 (by decide) dX12_readRule_74 <|
  bw_goto hZ (tgt := 79) (by decide) dX12_readRule_75 <|
  bw_sub [0, 1, 2] rfl (t_X12_readRule_b79 hZ hE y1 y2 1 w2))
def f_X12_readRule (x1 : Int32) (x2 : Int32) (w : Wd) : Option (Int32 × Wd) :=
  cv (f_X12_scan w) fun w1 =>
  if x2 = 0 then
  (cl (f_X12_number 0 3 w1) fun r11 w10 =>
  X12_readRule_b79 x1 x2 r11 w10)
  else
  if x2 = 9 then
  (cl (f_X12_number 0 100 w1) fun r9 w8 =>
  X12_readRule_b79 x1 x2 r9 w8)
  else
  if x2 = 10 then
  (cl (f_X12_number 0 90 w1) fun r7 w6 =>
  X12_readRule_b79 x1 x2 r7 w6)
  else
  if x2 = 3 then
  (X12_readRule_b66 x1 x2 w1)
  else
  if x2 = 11 then
  (X12_readRule_b66 x1 x2 w1)
  else
  if x2 = 12 then
  (X12_readRule_b66 x1 x2 w1)
  else
  X12_readRule_b79 x1 x2 1 w1
set_option maxRecDepth 100000 in
set_option maxHeartbeats 4000000 in
theorem t_X12_readRule {Z : Cz (Int32 × Wd)} (hZ : OKZ Z SM cX12_readRule RX12 5 (some .boolean) 7) (hE : EndI Z) (x1 : Int32) (x2 : Int32)  (w : Wd) : BW Z 5 0 [(0, .ref (ph (zY Z) 0)), (1, .int x1), (2, .int x2)] [] w (f_X12_readRule x1 x2 w) :=
  bw_aload_n hZ 0 rfl dX12_readRule_0 <|
  bw_callVV (As := []) hZ ml_RX12_56 rc_12 obM_0 (by decide) (c_X12_scan (zl Z) (zY Z) (hZ_S hZ) w) rfl rfl (Nat.le_of_ble_eq_true rfl) dX12_readRule_1 fun w1 =>
  bw_iload_n hZ 2 rfl dX12_readRule_4 <|
  bw_if_ne hZ (tgt := 17) (by decide) dX12_readRule_5 (fun _ =>
  bw_iload_n hZ 2 rfl dX12_readRule_17 <|
  bw_bipush hZ 9 (by decide) dX12_readRule_18 <|
  bw_icmp_ne hZ (tgt := 33) (by decide) dX12_readRule_20 (fun _ =>
  bw_iload_n hZ 2 rfl dX12_readRule_33 <|
  bw_bipush hZ 10 (by decide) dX12_readRule_34 <|
  bw_icmp_ne hZ (tgt := 49) (by decide) dX12_readRule_36 (fun _ =>
  bw_iload_n hZ 2 rfl dX12_readRule_49 <|
  bw_iconst hZ 3 (by decide) dX12_readRule_50 <|
  bw_icmp_eq hZ (tgt := 66) (by decide) dX12_readRule_51 (fun _ =>
  bw_sub [0, 1, 2] rfl (t_X12_readRule_b66 hZ hE x1 x2 w1)) (fun _ =>
  bw_iload_n hZ 2 rfl dX12_readRule_54 <|
  bw_bipush hZ 11 (by decide) dX12_readRule_55 <|
  bw_icmp_eq hZ (tgt := 66) (by decide) dX12_readRule_57 (fun _ =>
  bw_sub [0, 1, 2] rfl (t_X12_readRule_b66 hZ hE x1 x2 w1)) (fun _ =>
  bw_iload_n hZ 2 rfl dX12_readRule_60 <|
  bw_bipush hZ 12 (by decide) dX12_readRule_61 <|
  bw_icmp_ne hZ (tgt := 74) (by decide) dX12_readRule_63 (fun _ =>
  bw_iconst hZ 1 (by decide) dX12_readRule_74 <|
  bw_goto hZ (tgt := 79) (by decide) dX12_readRule_75 <|
  bw_sub [0, 1, 2] rfl (t_X12_readRule_b79 hZ hE x1 x2 1 w1)) (fun _ =>
  bw_sub [0, 1, 2] rfl (t_X12_readRule_b66 hZ hE x1 x2 w1))))) (fun _ =>
  bw_aload_n hZ 0 rfl dX12_readRule_39 <|
  bw_iconst hZ 0 (by decide) dX12_readRule_40 <|
  bw_bipush hZ 90 (by decide) dX12_readRule_41 <|
  bw_callVI (As := [.int 0, .int 90]) hZ ml_RX12_119 rc_12 obM_0 (by decide) (c_X12_number (zl Z) (zY Z) (hZ_S hZ) 0 90 w1) rfl rfl (Nat.le_of_ble_eq_true rfl) dX12_readRule_43 fun r7 w6 =>
  bw_goto hZ (tgt := 79) (by decide) dX12_readRule_46 <|
  bw_sub [0, 1, 2] rfl (t_X12_readRule_b79 hZ hE x1 x2 r7 w6))) (fun _ =>
  bw_aload_n hZ 0 rfl dX12_readRule_23 <|
  bw_iconst hZ 0 (by decide) dX12_readRule_24 <|
  bw_bipush hZ 100 (by decide) dX12_readRule_25 <|
  bw_callVI (As := [.int 0, .int 100]) hZ ml_RX12_119 rc_12 obM_0 (by decide) (c_X12_number (zl Z) (zY Z) (hZ_S hZ) 0 100 w1) rfl rfl (Nat.le_of_ble_eq_true rfl) dX12_readRule_27 fun r9 w8 =>
  bw_goto hZ (tgt := 79) (by decide) dX12_readRule_30 <|
  bw_sub [0, 1, 2] rfl (t_X12_readRule_b79 hZ hE x1 x2 r9 w8))) (fun _ =>
  bw_aload_n hZ 0 rfl dX12_readRule_8 <|
  bw_iconst hZ 0 (by decide) dX12_readRule_9 <|
  bw_iconst hZ 3 (by decide) dX12_readRule_10 <|
  bw_callVI (As := [.int 0, .int 3]) hZ ml_RX12_119 rc_12 obM_0 (by decide) (c_X12_number (zl Z) (zY Z) (hZ_S hZ) 0 3 w1) rfl rfl (Nat.le_of_ble_eq_true rfl) dX12_readRule_11 fun r11 w10 =>
  bw_goto hZ (tgt := 79) (by decide) dX12_readRule_14 <|
  bw_sub [0, 1, 2] rfl (t_X12_readRule_b79 hZ hE x1 x2 r11 w10))
theorem c_X12_readRule (l : Launch) (Y : Ev) (hY : Y.1 = SM) (x1 : Int32) (x2 : Int32)  (w : Wd) : CI l Y yX12_readRule cX12_readRule 5 7 [.ref (ph Y 0), .int x1, .int x2] w .boolean (f_X12_readRule x1 x2 w) := by
  refine CI_of (S := SM) (by decide) (Nat.le_of_ble_eq_true rfl) hY ?_
  intro Z hl hY2 hZ hE
  subst hY2
  exact t_X12_readRule hZ hE x1 x2 w
-- WhichWillModel.readLand
theorem dX12_readLand_0 : decode cX12_readLand 0 = .ok (.aload_n 0, 1) := by decide +kernel
theorem dX12_readLand_1 : decode cX12_readLand 1 = .ok (.getfield 129, 3) := by decide +kernel
theorem dX12_readLand_4 : decode cX12_readLand 4 = .ok (.iconst 4, 1) := by decide +kernel
theorem dX12_readLand_5 : decode cX12_readLand 5 = .ok (.if_icmp .ne 9, 3) := by decide +kernel
theorem dX12_readLand_8 : decode cX12_readLand 8 = .ok (.aload_n 0, 1) := by decide +kernel
theorem dX12_readLand_9 : decode cX12_readLand 9 = .ok (.iconst 4, 1) := by decide +kernel
theorem dX12_readLand_10 : decode cX12_readLand 10 = .ok (.invokevirtual 53, 3) := by decide +kernel
theorem dX12_readLand_13 : decode cX12_readLand 13 = .ok (.ireturn, 1) := by decide +kernel
theorem dX12_readLand_14 : decode cX12_readLand 14 = .ok (.aload_n 0, 1) := by decide +kernel
theorem dX12_readLand_15 : decode cX12_readLand 15 = .ok (.invokevirtual 56, 3) := by decide +kernel
theorem dX12_readLand_18 : decode cX12_readLand 18 = .ok (.aload_n 0, 1) := by decide +kernel
theorem dX12_readLand_19 : decode cX12_readLand 19 = .ok (.aload_n 0, 1) := by decide +kernel
theorem dX12_readLand_20 : decode cX12_readLand 20 = .ok (.getfield 132, 3) := by decide +kernel
theorem dX12_readLand_23 : decode cX12_readLand 23 = .ok (.aload_n 0, 1) := by decide +kernel
theorem dX12_readLand_24 : decode cX12_readLand 24 = .ok (.getfield 129, 3) := by decide +kernel
theorem dX12_readLand_27 : decode cX12_readLand 27 = .ok (.invokevirtual 136, 3) := by decide +kernel
theorem dX12_readLand_30 : decode cX12_readLand 30 = .ok (.ifCond .ne 5, 3) := by decide +kernel
theorem dX12_readLand_33 : decode cX12_readLand 33 = .ok (.iconst 0, 1) := by decide +kernel
theorem dX12_readLand_34 : decode cX12_readLand 34 = .ok (.ireturn, 1) := by decide +kernel
theorem dX12_readLand_35 : decode cX12_readLand 35 = .ok (.iconst 0, 1) := by decide +kernel
theorem dX12_readLand_36 : decode cX12_readLand 36 = .ok (.istore_n 1, 1) := by decide +kernel
theorem dX12_readLand_37 : decode cX12_readLand 37 = .ok (.iload_n 1, 1) := by decide +kernel
theorem dX12_readLand_38 : decode cX12_readLand 38 = .ok (.bipush 13, 2) := by decide +kernel
theorem dX12_readLand_40 : decode cX12_readLand 40 = .ok (.if_icmp .ge 43, 3) := by decide +kernel
theorem dX12_readLand_43 : decode cX12_readLand 43 = .ok (.aload_n 0, 1) := by decide +kernel
theorem dX12_readLand_44 : decode cX12_readLand 44 = .ok (.getfield 125, 3) := by decide +kernel
theorem dX12_readLand_47 : decode cX12_readLand 47 = .ok (.bipush 13, 2) := by decide +kernel
theorem dX12_readLand_49 : decode cX12_readLand 49 = .ok (.aload_n 0, 1) := by decide +kernel
theorem dX12_readLand_50 : decode cX12_readLand 50 = .ok (.getfield 129, 3) := by decide +kernel
theorem dX12_readLand_53 : decode cX12_readLand 53 = .ok (.imul, 1) := by decide +kernel
theorem dX12_readLand_54 : decode cX12_readLand 54 = .ok (.iload_n 1, 1) := by decide +kernel
theorem dX12_readLand_55 : decode cX12_readLand 55 = .ok (.iadd, 1) := by decide +kernel
theorem dX12_readLand_56 : decode cX12_readLand 56 = .ok (.iload_n 1, 1) := by decide +kernel
theorem dX12_readLand_57 : decode cX12_readLand 57 = .ok (.ifCond .ne 7, 3) := by decide +kernel
theorem dX12_readLand_60 : decode cX12_readLand 60 = .ok (.iconst 2, 1) := by decide +kernel
theorem dX12_readLand_61 : decode cX12_readLand 61 = .ok (.goto 15, 3) := by decide +kernel
theorem dX12_readLand_64 : decode cX12_readLand 64 = .ok (.iload_n 1, 1) := by decide +kernel
theorem dX12_readLand_65 : decode cX12_readLand 65 = .ok (.bipush 9, 2) := by decide +kernel
theorem dX12_readLand_67 : decode cX12_readLand 67 = .ok (.if_icmp .ne 8, 3) := by decide +kernel
theorem dX12_readLand_70 : decode cX12_readLand 70 = .ok (.bipush 50, 2) := by decide +kernel
theorem dX12_readLand_72 : decode cX12_readLand 72 = .ok (.goto 4, 3) := by decide +kernel
theorem dX12_readLand_75 : decode cX12_readLand 75 = .ok (.iconst 0, 1) := by decide +kernel
theorem dX12_readLand_76 : decode cX12_readLand 76 = .ok (.iastore, 1) := by decide +kernel
theorem dX12_readLand_77 : decode cX12_readLand 77 = .ok (.iinc 1 1, 3) := by decide +kernel
theorem dX12_readLand_80 : decode cX12_readLand 80 = .ok (.goto (-43), 3) := by decide +kernel
theorem dX12_readLand_83 : decode cX12_readLand 83 = .ok (.iconst 0, 1) := by decide +kernel
theorem dX12_readLand_84 : decode cX12_readLand 84 = .ok (.istore_n 1, 1) := by decide +kernel
theorem dX12_readLand_85 : decode cX12_readLand 85 = .ok (.aload_n 0, 1) := by decide +kernel
theorem dX12_readLand_86 : decode cX12_readLand 86 = .ok (.invokevirtual 140, 3) := by decide +kernel
theorem dX12_readLand_89 : decode cX12_readLand 89 = .ok (.istore_n 2, 1) := by decide +kernel
theorem dX12_readLand_90 : decode cX12_readLand 90 = .ok (.iload_n 2, 1) := by decide +kernel
theorem dX12_readLand_91 : decode cX12_readLand 91 = .ok (.iconst (-1), 1) := by decide +kernel
theorem dX12_readLand_92 : decode cX12_readLand 92 = .ok (.if_icmp .eq 46, 3) := by decide +kernel
theorem dX12_readLand_95 : decode cX12_readLand 95 = .ok (.iload_n 1, 1) := by decide +kernel
theorem dX12_readLand_96 : decode cX12_readLand 96 = .ok (.iload_n 2, 1) := by decide +kernel
theorem dX12_readLand_97 : decode cX12_readLand 97 = .ok (.ishr, 1) := by decide +kernel
theorem dX12_readLand_98 : decode cX12_readLand 98 = .ok (.iconst 1, 1) := by decide +kernel
theorem dX12_readLand_99 : decode cX12_readLand 99 = .ok (.iand, 1) := by decide +kernel
theorem dX12_readLand_100 : decode cX12_readLand 100 = .ok (.iconst 1, 1) := by decide +kernel
theorem dX12_readLand_101 : decode cX12_readLand 101 = .ok (.if_icmp .ne 9, 3) := by decide +kernel
theorem dX12_readLand_104 : decode cX12_readLand 104 = .ok (.aload_n 0, 1) := by decide +kernel
theorem dX12_readLand_105 : decode cX12_readLand 105 = .ok (.iconst 3, 1) := by decide +kernel
theorem dX12_readLand_106 : decode cX12_readLand 106 = .ok (.invokevirtual 53, 3) := by decide +kernel
theorem dX12_readLand_109 : decode cX12_readLand 109 = .ok (.ireturn, 1) := by decide +kernel
theorem dX12_readLand_110 : decode cX12_readLand 110 = .ok (.iload_n 1, 1) := by decide +kernel
theorem dX12_readLand_111 : decode cX12_readLand 111 = .ok (.iconst 1, 1) := by decide +kernel
theorem dX12_readLand_112 : decode cX12_readLand 112 = .ok (.iload_n 2, 1) := by decide +kernel
theorem dX12_readLand_113 : decode cX12_readLand 113 = .ok (.ishl, 1) := by decide +kernel
theorem dX12_readLand_114 : decode cX12_readLand 114 = .ok (.ior, 1) := by decide +kernel
theorem dX12_readLand_115 : decode cX12_readLand 115 = .ok (.istore_n 1, 1) := by decide +kernel
theorem dX12_readLand_116 : decode cX12_readLand 116 = .ok (.aload_n 0, 1) := by decide +kernel
theorem dX12_readLand_117 : decode cX12_readLand 117 = .ok (.aload_n 0, 1) := by decide +kernel
theorem dX12_readLand_118 : decode cX12_readLand 118 = .ok (.getfield 129, 3) := by decide +kernel
theorem dX12_readLand_121 : decode cX12_readLand 121 = .ok (.iload_n 2, 1) := by decide +kernel
theorem dX12_readLand_122 : decode cX12_readLand 122 = .ok (.invokevirtual 143, 3) := by decide +kernel
theorem dX12_readLand_125 : decode cX12_readLand 125 = .ok (.ifCond .ne 5, 3) := by decide +kernel
theorem dX12_readLand_128 : decode cX12_readLand 128 = .ok (.iconst 0, 1) := by decide +kernel
theorem dX12_readLand_129 : decode cX12_readLand 129 = .ok (.ireturn, 1) := by decide +kernel
theorem dX12_readLand_130 : decode cX12_readLand 130 = .ok (.aload_n 0, 1) := by decide +kernel
theorem dX12_readLand_131 : decode cX12_readLand 131 = .ok (.invokevirtual 140, 3) := by decide +kernel
theorem dX12_readLand_134 : decode cX12_readLand 134 = .ok (.istore_n 2, 1) := by decide +kernel
theorem dX12_readLand_135 : decode cX12_readLand 135 = .ok (.goto (-45), 3) := by decide +kernel
theorem dX12_readLand_138 : decode cX12_readLand 138 = .ok (.aload_n 0, 1) := by decide +kernel
theorem dX12_readLand_139 : decode cX12_readLand 139 = .ok (.dup, 1) := by decide +kernel
theorem dX12_readLand_140 : decode cX12_readLand 140 = .ok (.getfield 129, 3) := by decide +kernel
theorem dX12_readLand_143 : decode cX12_readLand 143 = .ok (.iconst 1, 1) := by decide +kernel
theorem dX12_readLand_144 : decode cX12_readLand 144 = .ok (.iadd, 1) := by decide +kernel
theorem dX12_readLand_145 : decode cX12_readLand 145 = .ok (.putfield 129, 3) := by decide +kernel
theorem dX12_readLand_148 : decode cX12_readLand 148 = .ok (.iconst 1, 1) := by decide +kernel
theorem dX12_readLand_149 : decode cX12_readLand 149 = .ok (.ireturn, 1) := by decide +kernel
def X12_readLand_b90 (k90 : Int32 → Int32 → Wd → Option (Int32 × Wd)) (y1 : Int32) (y2 : Int32) (w : Wd) : Option (Int32 × Wd) :=
  if y2 = ((-1)) then
  (lt (wI w 0 26 ((w.1 0 26) + 1)) fun w6 =>
  some (1, w6))
  else
  if ((y1 >>> (y2 &&& 31)) &&& 1) = 1 then
  (cl (f_X12_bad 3 w) fun r13 w12 =>
  if isB r13 = true then some (r13, w12) else none)
  else
  lt (y1 ||| (1 <<< (y2 &&& 31))) fun v7 =>
  cl (f_X12_readRule (w.1 0 26) y2 w) fun r9 w8 =>
  if r9 = 0 then
  (some (0, w8))
  else
  cl (f_X12_ruleAt w8) fun r11 w10 =>
  k90 v7 r11 w10
set_option maxRecDepth 100000 in
set_option maxHeartbeats 4000000 in
theorem t_X12_readLand_b90 {Z : Cz (Int32 × Wd)} (hZ : OKZ Z SM cX12_readLand RX12 3 (some .boolean) 8) (hE : EndI Z) (k90 : Int32 → Int32 → Wd → Option (Int32 × Wd)) (hk90 : ∀ (y1 : Int32) (y2 : Int32)  (w : Wd), BW Z 3 90 [(0, .ref (ph (zY Z) 0)), (1, .int y1), (2, .int y2)] [] w (k90 y1 y2 w)) (y1 : Int32) (y2 : Int32)  (w : Wd) : BW Z 3 90 [(0, .ref (ph (zY Z) 0)), (1, .int y1), (2, .int y2)] [] w (X12_readLand_b90 k90 y1 y2 w) :=
  bw_iload_n hZ 2 rfl dX12_readLand_90 <|
  bw_iconst hZ (-1) (by decide) dX12_readLand_91 <|
  bw_icmp_eq hZ (tgt := 138) (by decide) dX12_readLand_92 (fun _ =>
  bw_aload_n hZ 0 rfl dX12_readLand_138 <|
  bw_dup hZ rfl dX12_readLand_139 <|
  bw_getI hZ fl_RX12_129 (by decide) obM_0 dX12_readLand_140 <|
  bw_iconst hZ 1 (by decide) dX12_readLand_143 <|
  bw_iadd hZ dX12_readLand_144 <|
  bw_putI hZ fl_RX12_129 rfl rfl (by decide) obM_0 dX12_readLand_145 fun w6 =>
  bw_iconst hZ 1 (by decide) dX12_readLand_148 <|
  bw_zret hZ hE (by decide) dX12_readLand_149) (fun _ =>
  bw_iload_n hZ 1 rfl dX12_readLand_95 <|
  bw_iload_n hZ 2 rfl dX12_readLand_96 <|
  bw_ishr hZ dX12_readLand_97 <|
  bw_iconst hZ 1 (by decide) dX12_readLand_98 <|
  bw_iand hZ dX12_readLand_99 <|
  bw_iconst hZ 1 (by decide) dX12_readLand_100 <|
  bw_icmp_ne hZ (tgt := 110) (by decide) dX12_readLand_101 (fun _ =>
  bw_iload_n hZ 1 rfl dX12_readLand_110 <|
  bw_iconst hZ 1 (by decide) dX12_readLand_111 <|
  bw_iload_n hZ 2 rfl dX12_readLand_112 <|
  bw_ishl hZ dX12_readLand_113 <|
  bw_ior hZ dX12_readLand_114 <|
  bw_nm fun v7 =>
  bw_istore_n hZ rfl (by decide) rfl dX12_readLand_115 <|
  bw_aload_n hZ 1 rfl dX12_readLand_116 <|
  bw_aload_n hZ 1 rfl dX12_readLand_117 <|
  bw_getI hZ fl_RX12_129 (by decide) obM_0 dX12_readLand_118 <|
  bw_iload_n hZ 2 rfl dX12_readLand_121 <|
  bw_callVI (As := [.int (w.1 0 26), .int y2]) hZ ml_RX12_143 rc_12 obM_0 (by decide) (c_X12_readRule (zl Z) (zY Z) (hZ_S hZ) (w.1 0 26) y2 w) rfl rfl (Nat.le_of_ble_eq_true rfl) dX12_readLand_122 fun r9 w8 =>
  bw_if_ne hZ (tgt := 130) (by decide) dX12_readLand_125 (fun _ =>
  bw_aload_n hZ 1 rfl dX12_readLand_130 <|
  bw_callVI (As := []) hZ ml_RX12_140 rc_12 obM_0 (by decide) (c_X12_ruleAt (zl Z) (zY Z) (hZ_S hZ) w8) rfl rfl (Nat.le_of_ble_eq_true rfl) dX12_readLand_131 fun r11 w10 =>
  bw_istore_n hZ rfl (by decide) rfl dX12_readLand_134 <|
  bw_goto hZ (tgt := 90) (by decide) dX12_readLand_135 <|
  bw_sub [2, 1, 0] rfl (hk90 v7 r11 w10)) (fun _ =>
  bw_iconst hZ 0 (by decide) dX12_readLand_128 <|
  bw_zret hZ hE (by decide) dX12_readLand_129)) (fun _ =>
  bw_aload_n hZ 0 rfl dX12_readLand_104 <|
  bw_iconst hZ 3 (by decide) dX12_readLand_105 <|
  bw_callVI (As := [.int 3]) hZ ml_RX12_53 rc_12 obM_0 (by decide) (c_X12_bad (zl Z) (zY Z) (hZ_S hZ) 3 w) rfl rfl (Nat.le_of_ble_eq_true rfl) dX12_readLand_106 fun r13 w12 =>
  bw_zretC hZ hE dX12_readLand_109))
def X12_readLand_b90_L  : Int32 → Int32 → Wd → Option (Int32 × Wd) :=
  lp fu (fun _ _ _ => none) (fun k90 => X12_readLand_b90 k90)
theorem t_X12_readLand_b90_L {Z : Cz (Int32 × Wd)} (hZ : OKZ Z SM cX12_readLand RX12 3 (some .boolean) 8) (hE : EndI Z)  : ∀ (y1 : Int32) (y2 : Int32)  (w : Wd), BW Z 3 90 [(0, .ref (ph (zY Z) 0)), (1, .int y1), (2, .int y2)] [] w (X12_readLand_b90_L y1 y2 w) :=
  lp_bw (fun k90 => ∀ (y1 : Int32) (y2 : Int32)  (w : Wd), BW Z 3 90 [(0, .ref (ph (zY Z) 0)), (1, .int y1), (2, .int y2)] [] w (k90 y1 y2 w)) (fun _ _ _ => bw_none) (fun k90 hk90 y1 y2 w => t_X12_readLand_b90 hZ hE k90 hk90 y1 y2 w) fu
def X12_readLand_b37 (k37 : Int32 → Wd → Option (Int32 × Wd)) (y1 : Int32) (w : Wd) : Option (Int32 × Wd) :=
  if 13 ≤ y1 then
  (cl (f_X12_ruleAt w) fun r5 w4 =>
  X12_readLand_b90_L 0 r5 w4)
  else
  if y1 = 0 then
  (if inb ((13 * (w.1 0 26)) + y1) 52 = true then
  (lt (wI w 14 (Int32.toNatClampNeg ((13 * (w.1 0 26)) + y1)) 2) fun w16 =>
  k37 (y1 + 1) w16)
  else none)
  else
  if y1 = 9 then
  (if inb ((13 * (w.1 0 26)) + y1) 52 = true then
  (lt (wI w 14 (Int32.toNatClampNeg ((13 * (w.1 0 26)) + y1)) 50) fun w15 =>
  k37 (y1 + 1) w15)
  else none)
  else
  if inb ((13 * (w.1 0 26)) + y1) 52 = true then
  (lt (wI w 14 (Int32.toNatClampNeg ((13 * (w.1 0 26)) + y1)) 0) fun w14 =>
  k37 (y1 + 1) w14)
  else none
set_option maxRecDepth 100000 in
set_option maxHeartbeats 4000000 in
theorem t_X12_readLand_b37 {Z : Cz (Int32 × Wd)} (hZ : OKZ Z SM cX12_readLand RX12 3 (some .boolean) 8) (hE : EndI Z) (k37 : Int32 → Wd → Option (Int32 × Wd)) (hk37 : ∀ (y1 : Int32)  (w : Wd), BW Z 3 37 [(0, .ref (ph (zY Z) 0)), (1, .int y1)] [] w (k37 y1 w)) (y1 : Int32)  (w : Wd) : BW Z 3 37 [(0, .ref (ph (zY Z) 0)), (1, .int y1)] [] w (X12_readLand_b37 k37 y1 w) :=
  bw_iload_n hZ 1 rfl dX12_readLand_37 <|
  bw_bipush hZ 13 (by decide) dX12_readLand_38 <|
  bw_icmp_ge hZ (tgt := 83) (by decide) dX12_readLand_40 (fun _ =>
  bw_iconst hZ 0 (by decide) dX12_readLand_83 <|
  bw_istore_n hZ rfl (by decide) rfl dX12_readLand_84 <|
  bw_aload_n hZ 1 rfl dX12_readLand_85 <|
  bw_callVI (As := []) hZ ml_RX12_140 rc_12 obM_0 (by decide) (c_X12_ruleAt (zl Z) (zY Z) (hZ_S hZ) w) rfl rfl (Nat.le_of_ble_eq_true rfl) dX12_readLand_86 fun r5 w4 =>
  bw_istore_n hZ rfl (by decide) rfl dX12_readLand_89 <|
  bw_sub [2, 1, 0] rfl (t_X12_readLand_b90_L hZ hE 0 r5 w4)) (fun _ =>
  bw_aload_n hZ 0 rfl dX12_readLand_43 <|
  bw_getR hZ fl_RX12_125 obM_0 rfl dX12_readLand_44 <|
  bw_bipush hZ 13 (by decide) dX12_readLand_47 <|
  bw_aload_n hZ 0 rfl dX12_readLand_49 <|
  bw_getI hZ fl_RX12_129 (by decide) obM_0 dX12_readLand_50 <|
  bw_imul hZ dX12_readLand_53 <|
  bw_iload_n hZ 1 rfl dX12_readLand_54 <|
  bw_iadd hZ dX12_readLand_55 <|
  bw_iload_n hZ 1 rfl dX12_readLand_56 <|
  bw_if_ne hZ (tgt := 64) (by decide) dX12_readLand_57 (fun _ =>
  bw_iload_n hZ 1 rfl dX12_readLand_64 <|
  bw_bipush hZ 9 (by decide) dX12_readLand_65 <|
  bw_icmp_ne hZ (tgt := 75) (by decide) dX12_readLand_67 (fun _ =>
  bw_iconst hZ 0 (by decide) dX12_readLand_75 <|
  bw_iast hZ (arM_14 _) dX12_readLand_76 fun w14 =>
  bw_iinc hZ 1 1 rfl (by decide) (by decide) rfl dX12_readLand_77 <|
  bw_goto hZ (tgt := 37) (by decide) dX12_readLand_80 <|
  bw_sub [1, 0] rfl (hk37 (y1 + 1) w14)) (fun _ =>
  bw_bipush hZ 50 (by decide) dX12_readLand_70 <|
  bw_goto hZ (tgt := 76) (by decide) dX12_readLand_72 <|
  bw_iast hZ (arM_14 _) dX12_readLand_76 fun w15 =>
  bw_iinc hZ 1 1 rfl (by decide) (by decide) rfl dX12_readLand_77 <|
  bw_goto hZ (tgt := 37) (by decide) dX12_readLand_80 <|
  bw_sub [1, 0] rfl (hk37 (y1 + 1) w15))) (fun _ =>
  bw_iconst hZ 2 (by decide) dX12_readLand_60 <|
  bw_goto hZ (tgt := 76) (by decide) dX12_readLand_61 <|
  bw_iast hZ (arM_14 _) dX12_readLand_76 fun w16 =>
  bw_iinc hZ 1 1 rfl (by decide) (by decide) rfl dX12_readLand_77 <|
  bw_goto hZ (tgt := 37) (by decide) dX12_readLand_80 <|
  bw_sub [1, 0] rfl (hk37 (y1 + 1) w16)))
def X12_readLand_b37_L  : Int32 → Wd → Option (Int32 × Wd) :=
  lp fu (fun _ _ => none) (fun k37 => X12_readLand_b37 k37)
theorem t_X12_readLand_b37_L {Z : Cz (Int32 × Wd)} (hZ : OKZ Z SM cX12_readLand RX12 3 (some .boolean) 8) (hE : EndI Z)  : ∀ (y1 : Int32)  (w : Wd), BW Z 3 37 [(0, .ref (ph (zY Z) 0)), (1, .int y1)] [] w (X12_readLand_b37_L y1 w) :=
  lp_bw (fun k37 => ∀ (y1 : Int32)  (w : Wd), BW Z 3 37 [(0, .ref (ph (zY Z) 0)), (1, .int y1)] [] w (k37 y1 w)) (fun _ _ => bw_none) (fun k37 hk37 y1 w => t_X12_readLand_b37 hZ hE k37 hk37 y1 w) fu
def f_X12_readLand (w : Wd) : Option (Int32 × Wd) :=
  if (w.1 0 26) = 4 then
  (cl (f_X12_bad 4 w) fun r18 w17 =>
  if isB r18 = true then some (r18, w17) else none)
  else
  cv (f_X12_scan w) fun w1 =>
  cl (f_X12_fresh 11 4 (w1.1 0 26) w1) fun r3 w2 =>
  if r3 = 0 then
  (some (0, w2))
  else
  X12_readLand_b37_L 0 w2
set_option maxRecDepth 100000 in
set_option maxHeartbeats 4000000 in
theorem t_X12_readLand {Z : Cz (Int32 × Wd)} (hZ : OKZ Z SM cX12_readLand RX12 3 (some .boolean) 8) (hE : EndI Z)   (w : Wd) : BW Z 3 0 [(0, .ref (ph (zY Z) 0))] [] w (f_X12_readLand w) :=
  bw_aload_n hZ 0 rfl dX12_readLand_0 <|
  bw_getI hZ fl_RX12_129 (by decide) obM_0 dX12_readLand_1 <|
  bw_iconst hZ 4 (by decide) dX12_readLand_4 <|
  bw_icmp_ne hZ (tgt := 14) (by decide) dX12_readLand_5 (fun _ =>
  bw_aload_n hZ 0 rfl dX12_readLand_14 <|
  bw_callVV (As := []) hZ ml_RX12_56 rc_12 obM_0 (by decide) (c_X12_scan (zl Z) (zY Z) (hZ_S hZ) w) rfl rfl (Nat.le_of_ble_eq_true rfl) dX12_readLand_15 fun w1 =>
  bw_aload_n hZ 0 rfl dX12_readLand_18 <|
  bw_aload_n hZ 0 rfl dX12_readLand_19 <|
  bw_getR hZ fl_RX12_132 obM_0 rfl dX12_readLand_20 <|
  bw_aload_n hZ 0 rfl dX12_readLand_23 <|
  bw_getI hZ fl_RX12_129 (by decide) obM_0 dX12_readLand_24 <|
  bw_callVI (As := [.ref (ph (zY Z) 11), .int (w1.1 0 26)]) hZ ml_RX12_136 rc_12 obM_0 (by decide) (c_X12_fresh (zl Z) (zY Z) (hZ_S hZ) 11 4 (w1.1 0 26) arM_11 w1) rfl rfl (Nat.le_of_ble_eq_true rfl) dX12_readLand_27 fun r3 w2 =>
  bw_if_ne hZ (tgt := 35) (by decide) dX12_readLand_30 (fun _ =>
  bw_iconst hZ 0 (by decide) dX12_readLand_35 <|
  bw_istore_n hZ rfl (by decide) rfl dX12_readLand_36 <|
  bw_sub [1, 0] rfl (t_X12_readLand_b37_L hZ hE 0 w2)) (fun _ =>
  bw_iconst hZ 0 (by decide) dX12_readLand_33 <|
  bw_zret hZ hE (by decide) dX12_readLand_34)) (fun _ =>
  bw_aload_n hZ 0 rfl dX12_readLand_8 <|
  bw_iconst hZ 4 (by decide) dX12_readLand_9 <|
  bw_callVI (As := [.int 4]) hZ ml_RX12_53 rc_12 obM_0 (by decide) (c_X12_bad (zl Z) (zY Z) (hZ_S hZ) 4 w) rfl rfl (Nat.le_of_ble_eq_true rfl) dX12_readLand_10 fun r18 w17 =>
  bw_zretC hZ hE dX12_readLand_13)
theorem c_X12_readLand (l : Launch) (Y : Ev) (hY : Y.1 = SM)   (w : Wd) : CI l Y yX12_readLand cX12_readLand 3 8 [.ref (ph Y 0)] w .boolean (f_X12_readLand w) := by
  refine CI_of (S := SM) (by decide) (Nat.le_of_ble_eq_true rfl) hY ?_
  intro Z hl hY2 hZ hE
  subst hY2
  exact t_X12_readLand hZ hE w
