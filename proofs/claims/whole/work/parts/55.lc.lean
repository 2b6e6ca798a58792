/-! the law's cases: theorems -/
def HB (REL : Nat → Wd → Nat → Wd → Prop) : Prop := ∀ n wc c wm, REL n wc c wm → 32 ≤ c ∧ c ≤ 8192
def AIN (J : Lz) (x : Int32) : Prop := vp_in (x + 1) (jL J) ∧ vp_in (x + 2) (jL J) ∧ vp_in (x + 3) (jL J) ∧ vp_in (x + 4) (jL J) ∧ vp_in (x + 5) (jL J)
theorem kq_le {c : Nat} (h : 32 ≤ c ∧ c ≤ 8192) : kq c ≤ 600000 := by unfold kq; omega
theorem nq_le {c : Nat} (h : 32 ≤ c ∧ c ≤ 8192) : nq c ≤ 7302250 := by unfold nq; omega
theorem kq_add {c c1 : Nat} (h : 32 ≤ c) (h1 : c ≤ c1) : kq c + (c1 - c) = kq c1 := by unfold kq; omega
theorem nq_add {c c1 : Nat} (h : 32 ≤ c) (h1 : c ≤ c1) : nq c + 20 * (c1 - c) = nq c1 := by unfold nq; omega
theorem APT.sy {Y Y' : Ev} (h : APT Y Y') : APT Y' Y := fun i j hi hj e => h j i hj hi e.symm
theorem lc_feed {REL : Nat → Wd → Nat → Wd → Prop} (hs : ST_feed REL) (hb : HB REL) {n : Nat} (hn : n < 512) {J : Lz} (hJ : JOK J) {Yc Ym : Ev} (hC : WL J SC Yc) (hM : WL J SM Ym) (ha : APT Yc Ym) {wc wm : Wd} (hR : REL n wc (yc Yc) wm) {x3 : Int32} (hi : AIN J x3) (kk : KQ REL (n + 1) J Ym x3) : LJ J 192 (LVs J Yc Ym x3) [] (kq (yc Yc)) (nq (yc Yc)) Yc wc Ym wm := by
  have hcap := hb _ _ _ _ hR
  obtain ⟨r, wc1, wm1, e1, e2, hR1⟩ := hs _ _ _ _ hn hR (jxs J (x3 + 1).toNatClampNeg) (jxs J (x3 + 2).toNatClampNeg) (jxs J (x3 + 3).toNatClampNeg) (jxs J (x3 + 4).toNatClampNeg) (jxs J (x3 + 5).toNatClampNeg)
  refine jk_aload_n hJ 1 rfl dL_law_192 ?_
  refine jk_aload_n hJ 0 rfl dL_law_193 ?_
  refine jk_iload_n hJ 3 rfl dL_law_194 ?_
  refine jk_iconst hJ 1 rfl dL_law_195 ?_
  refine jk_iadd hJ dL_law_196 ?_
  refine jk_sld hJ hi.1 dL_law_197 ?_
  refine jk_aload_n hJ 0 rfl dL_law_198 ?_
  refine jk_iload_n hJ 3 rfl dL_law_199 ?_
  refine jk_iconst hJ 2 rfl dL_law_200 ?_
  refine jk_iadd hJ dL_law_201 ?_
  refine jk_sld hJ hi.2.1 dL_law_202 ?_
  refine jk_aload_n hJ 0 rfl dL_law_203 ?_
  refine jk_iload_n hJ 3 rfl dL_law_204 ?_
  refine jk_iconst hJ 3 rfl dL_law_205 ?_
  refine jk_iadd hJ dL_law_206 ?_
  refine jk_sld hJ hi.2.2.1 dL_law_207 ?_
  refine jk_aload_n hJ 0 rfl dL_law_208 ?_
  refine jk_iload_n hJ 3 rfl dL_law_209 ?_
  refine jk_iconst hJ 4 rfl dL_law_210 ?_
  refine jk_iadd hJ dL_law_211 ?_
  refine jk_sld hJ hi.2.2.2.1 dL_law_212 ?_
  refine jk_aload_n hJ 0 rfl dL_law_213 ?_
  refine jk_iload_n hJ 3 rfl dL_law_214 ?_
  refine jk_iconst hJ 5 rfl dL_law_215 ?_
  refine jk_iadd hJ dL_law_216 ?_
  refine jk_sld hJ hi.2.2.2.2 dL_law_217 ?_
  refine jk_callC hJ hC ha (d' := 2) ml_RL_13 rc_11 obC_0 (by decide) (As := [.int (jxs J (x3 + 1).toNatClampNeg), .int (jxs J (x3 + 2).toNatClampNeg), .int (jxs J (x3 + 3).toNatClampNeg), .int (jxs J (x3 + 4).toNatClampNeg), .int (jxs J (x3 + 5).toNatClampNeg)]) (st := []) (r := r) (w1 := wc1) (by rw [← e1]; exact c_X11_feed (jl J) Yc hC.1 _ _ _ _ _ wc) rfl rfl (by decide) (kq_le hcap) (nq_le hcap) dL_law_218 ?_
  refine jk_aload_n hJ 2 rfl dL_law_221 ?_
  refine jk_aload_n hJ 0 rfl dL_law_222 ?_
  refine jk_iload_n hJ 3 rfl dL_law_223 ?_
  refine jk_iconst hJ 1 rfl dL_law_224 ?_
  refine jk_iadd hJ dL_law_225 ?_
  refine jk_sld hJ hi.1 dL_law_226 ?_
  refine jk_aload_n hJ 0 rfl dL_law_227 ?_
  refine jk_iload_n hJ 3 rfl dL_law_228 ?_
  refine jk_iconst hJ 2 rfl dL_law_229 ?_
  refine jk_iadd hJ dL_law_230 ?_
  refine jk_sld hJ hi.2.1 dL_law_231 ?_
  refine jk_aload_n hJ 0 rfl dL_law_232 ?_
  refine jk_iload_n hJ 3 rfl dL_law_233 ?_
  refine jk_iconst hJ 3 rfl dL_law_234 ?_
  refine jk_iadd hJ dL_law_235 ?_
  refine jk_sld hJ hi.2.2.1 dL_law_236 ?_
  refine jk_aload_n hJ 0 rfl dL_law_237 ?_
  refine jk_iload_n hJ 3 rfl dL_law_238 ?_
  refine jk_iconst hJ 4 rfl dL_law_239 ?_
  refine jk_iadd hJ dL_law_240 ?_
  refine jk_sld hJ hi.2.2.2.1 dL_law_241 ?_
  refine jk_aload_n hJ 0 rfl dL_law_242 ?_
  refine jk_iload_n hJ 3 rfl dL_law_243 ?_
  refine jk_iconst hJ 5 rfl dL_law_244 ?_
  refine jk_iadd hJ dL_law_245 ?_
  refine jk_sld hJ hi.2.2.2.2 dL_law_246 ?_
  refine jk_callM hJ hM ha.sy (d' := 2) ml_RL_17 rc_12 obM_0 (by decide) (As := [.int (jxs J (x3 + 1).toNatClampNeg), .int (jxs J (x3 + 2).toNatClampNeg), .int (jxs J (x3 + 3).toNatClampNeg), .int (jxs J (x3 + 4).toNatClampNeg), .int (jxs J (x3 + 5).toNatClampNeg)]) (st := [.int r]) (r := r) (w1 := wm1) (by rw [← e2]; exact c_X12_feed (jl J) Ym hM.1 _ _ _ _ _ wm) rfl rfl (Nat.le_of_ble_eq_true rfl) (kq_le hcap) (nq_le hcap) dL_law_247 ?_
  refine jk_eq hJ (tgt := 1236) (by decide) dL_law_250 ?_
  exact kk Yc wc1 wm1 hC ha ha.sy hR1
theorem lc_end {REL : Nat → Wd → Nat → Wd → Prop} (hs : ST_end REL) (hb : HB REL) {n : Nat} (hn : n < 512) {J : Lz} (hJ : JOK J) {Yc Ym : Ev} (hC : WL J SC Yc) (hM : WL J SM Ym) (ha : APT Yc Ym) {wc wm : Wd} (hR : REL n wc (yc Yc) wm) {x3 : Int32} (hi : AIN J x3) (kk : KQ REL (n + 1) J Ym x3) : LJ J 255 (LVs J Yc Ym x3) [] (kq (yc Yc)) (nq (yc Yc)) Yc wc Ym wm := by
  have hcap := hb _ _ _ _ hR
  obtain ⟨r, wc1, wm1, e1, e2, hR1⟩ := hs _ _ _ _ hn hR (jxs J (x3 + 1).toNatClampNeg)
  refine jk_aload_n hJ 1 rfl dL_law_255 ?_
  refine jk_aload_n hJ 0 rfl dL_law_256 ?_
  refine jk_iload_n hJ 3 rfl dL_law_257 ?_
  refine jk_iconst hJ 1 rfl dL_law_258 ?_
  refine jk_iadd hJ dL_law_259 ?_
  refine jk_sld hJ hi.1 dL_law_260 ?_
  refine jk_callC hJ hC ha (d' := 1) ml_RL_18 rc_11 obC_0 (by decide) (As := [.int (jxs J (x3 + 1).toNatClampNeg)]) (st := []) (r := r) (w1 := wc1) (by rw [← e1]; exact c_X11_end (jl J) Yc hC.1 _ wc) rfl rfl (by decide) (kq_le hcap) (nq_le hcap) dL_law_261 ?_
  refine jk_aload_n hJ 2 rfl dL_law_264 ?_
  refine jk_aload_n hJ 0 rfl dL_law_265 ?_
  refine jk_iload_n hJ 3 rfl dL_law_266 ?_
  refine jk_iconst hJ 1 rfl dL_law_267 ?_
  refine jk_iadd hJ dL_law_268 ?_
  refine jk_sld hJ hi.1 dL_law_269 ?_
  refine jk_callM hJ hM ha.sy (d' := 2) ml_RL_22 rc_12 obM_0 (by decide) (As := [.int (jxs J (x3 + 1).toNatClampNeg)]) (st := [.int r]) (r := r) (w1 := wm1) (by rw [← e2]; exact c_X12_end (jl J) Ym hM.1 _ wm) rfl rfl (Nat.le_of_ble_eq_true rfl) (kq_le hcap) (nq_le hcap) dL_law_270 ?_
  refine jk_eq hJ (tgt := 1236) (by decide) dL_law_273 ?_
  exact kk Yc wc1 wm1 hC ha ha.sy hR1
theorem lc_estate {REL : Nat → Wd → Nat → Wd → Prop} (hs : ST_estate REL) (hb : HB REL) {n : Nat} (hn : n < 512) {J : Lz} (hJ : JOK J) {Yc Ym : Ev} (hC : WL J SC Yc) (hM : WL J SM Ym) (ha : APT Yc Ym) {wc wm : Wd} (hR : REL n wc (yc Yc) wm) {x3 : Int32} (hi : AIN J x3) (kk : KQ REL (n + 1) J Ym x3) : LJ J 278 (LVs J Yc Ym x3) [] (kq (yc Yc)) (nq (yc Yc)) Yc wc Ym wm := by
  have hcap := hb _ _ _ _ hR
  obtain ⟨r, wc1, cap1, wm1, e1, e2, hle, hR1⟩ := hs _ _ _ _ hn hR 
  have hcap1 := hb _ _ _ _ hR1
  have hk1 : kq (yc Yc) + (cap1 - yc Yc) = kq cap1 := kq_add hcap.1 hle
  have hn1 : nq (yc Yc) + 20 * (cap1 - yc Yc) = nq cap1 := nq_add hcap.1 hle
  refine jk_aload_n hJ 1 rfl dL_law_278 ?_
  refine jk_callCM hJ hC ha (d' := 11) (cap := cap1) ml_RL_23 rc_11 obC_0 (by decide) (As := []) (st := []) (r := r) (w1 := wc1) (by rw [← e1]; exact c_X11_estate (jl J) Yc hC.1  wc) rfl rfl (by decide) (by rw [hk1]; exact kq_le hcap1) (by rw [hn1]; exact nq_le hcap1) dL_law_279 ?_
  intro Y hv hy hC1 ha1
  rw [hk1, hn1]
  have e0 : LVs J Yc Ym x3 = LVs J Y Ym x3 := by unfold LVs; rw [hv.2.2.2.2.2.2.1 0 rfl]
  rw [e0]
  refine jk_aload_n hJ 2 rfl dL_law_282 ?_
  refine jk_callM hJ hM ha1.sy (d' := 12) ml_RL_27 rc_12 obM_0 (by decide) (As := []) (st := [.int r]) (r := r) (w1 := wm1) (by rw [← e2]; exact c_X12_estate (jl J) Ym hM.1  wm) rfl rfl (Nat.le_of_ble_eq_true rfl) (kq_le hcap1) (nq_le hcap1) dL_law_283 ?_
  refine jk_eq hJ (tgt := 1236) (by decide) dL_law_286 ?_
  have := kk Y wc1 wm1 hC1 ha1 ha1.sy (by rw [hy]; exact hR1)
  rw [hy] at this
  exact this
theorem lc_paper {REL : Nat → Wd → Nat → Wd → Prop} (hs : ST_paper REL) (hb : HB REL) {n : Nat} (hn : n < 512) {J : Lz} (hJ : JOK J) {Yc Ym : Ev} (hC : WL J SC Yc) (hM : WL J SM Ym) (ha : APT Yc Ym) {wc wm : Wd} (hR : REL n wc (yc Yc) wm) {x3 : Int32} (hi : AIN J x3) (kk : KQ REL (n + 1) J Ym x3) : LJ J 291 (LVs J Yc Ym x3) [] (kq (yc Yc)) (nq (yc Yc)) Yc wc Ym wm := by
  have hcap := hb _ _ _ _ hR
  obtain ⟨r, wc1, wm1, e1, e2, hR1⟩ := hs _ _ _ _ hn hR 
  refine jk_aload_n hJ 1 rfl dL_law_291 ?_
  refine jk_callC hJ hC ha (d' := 11) ml_RL_28 rc_11 obC_0 (by decide) (As := []) (st := []) (r := r) (w1 := wc1) (by rw [← e1]; exact c_X11_paper (jl J) Yc hC.1  wc) rfl rfl (by decide) (kq_le hcap) (nq_le hcap) dL_law_292 ?_
  refine jk_aload_n hJ 2 rfl dL_law_295 ?_
  refine jk_callM hJ hM ha.sy (d' := 12) ml_RL_31 rc_12 obM_0 (by decide) (As := []) (st := [.int r]) (r := r) (w1 := wm1) (by rw [← e2]; exact c_X12_paper (jl J) Ym hM.1  wm) rfl rfl (Nat.le_of_ble_eq_true rfl) (kq_le hcap) (nq_le hcap) dL_law_296 ?_
  refine jk_eq hJ (tgt := 1236) (by decide) dL_law_299 ?_
  exact kk Yc wc1 wm1 hC ha ha.sy hR1
theorem lc_fault {REL : Nat → Wd → Nat → Wd → Prop} (hs : ST_fault REL) (hb : HB REL) {n : Nat} (hn : n < 512) {J : Lz} (hJ : JOK J) {Yc Ym : Ev} (hC : WL J SC Yc) (hM : WL J SM Ym) (ha : APT Yc Ym) {wc wm : Wd} (hR : REL n wc (yc Yc) wm) {x3 : Int32} (hi : AIN J x3) (kk : KQ REL (n + 1) J Ym x3) : LJ J 304 (LVs J Yc Ym x3) [] (kq (yc Yc)) (nq (yc Yc)) Yc wc Ym wm := by
  have hcap := hb _ _ _ _ hR
  obtain ⟨r, wc1, wm1, e1, e2, hR1⟩ := hs _ _ _ _ hn hR (jxs J (x3 + 1).toNatClampNeg)
  refine jk_aload_n hJ 1 rfl dL_law_304 ?_
  refine jk_aload_n hJ 0 rfl dL_law_305 ?_
  refine jk_iload_n hJ 3 rfl dL_law_306 ?_
  refine jk_iconst hJ 1 rfl dL_law_307 ?_
  refine jk_iadd hJ dL_law_308 ?_
  refine jk_sld hJ hi.1 dL_law_309 ?_
  refine jk_callC hJ hC ha (d' := 1) ml_RL_32 rc_11 obC_0 (by decide) (As := [.int (jxs J (x3 + 1).toNatClampNeg)]) (st := []) (r := r) (w1 := wc1) (by rw [← e1]; exact c_X11_fault (jl J) Yc hC.1 _ wc) rfl rfl (by decide) (kq_le hcap) (nq_le hcap) dL_law_310 ?_
  refine jk_aload_n hJ 2 rfl dL_law_313 ?_
  refine jk_aload_n hJ 0 rfl dL_law_314 ?_
  refine jk_iload_n hJ 3 rfl dL_law_315 ?_
  refine jk_iconst hJ 1 rfl dL_law_316 ?_
  refine jk_iadd hJ dL_law_317 ?_
  refine jk_sld hJ hi.1 dL_law_318 ?_
  refine jk_callM hJ hM ha.sy (d' := 1) ml_RL_35 rc_12 obM_0 (by decide) (As := [.int (jxs J (x3 + 1).toNatClampNeg)]) (st := [.int r]) (r := r) (w1 := wm1) (by rw [← e2]; exact c_X12_fault (jl J) Ym hM.1 _ wm) rfl rfl (Nat.le_of_ble_eq_true rfl) (kq_le hcap) (nq_le hcap) dL_law_319 ?_
  refine jk_eq hJ (tgt := 1236) (by decide) dL_law_322 ?_
  exact kk Yc wc1 wm1 hC ha ha.sy hR1
theorem lc_event {REL : Nat → Wd → Nat → Wd → Prop} (hs : ST_event REL) (hb : HB REL) {n : Nat} (hn : n < 512) {J : Lz} (hJ : JOK J) {Yc Ym : Ev} (hC : WL J SC Yc) (hM : WL J SM Ym) (ha : APT Yc Ym) {wc wm : Wd} (hR : REL n wc (yc Yc) wm) {x3 : Int32} (hi : AIN J x3) (kk : KQ REL (n + 1) J Ym x3) : LJ J 327 (LVs J Yc Ym x3) [] (kq (yc Yc)) (nq (yc Yc)) Yc wc Ym wm := by
  have hcap := hb _ _ _ _ hR
  obtain ⟨r, wc1, wm1, e1, e2, hR1⟩ := hs _ _ _ _ hn hR (jxs J (x3 + 1).toNatClampNeg) (jxs J (x3 + 2).toNatClampNeg) (jxs J (x3 + 3).toNatClampNeg) (jxs J (x3 + 4).toNatClampNeg) (jxs J (x3 + 5).toNatClampNeg)
  refine jk_aload_n hJ 1 rfl dL_law_327 ?_
  refine jk_aload_n hJ 0 rfl dL_law_328 ?_
  refine jk_iload_n hJ 3 rfl dL_law_329 ?_
  refine jk_iconst hJ 1 rfl dL_law_330 ?_
  refine jk_iadd hJ dL_law_331 ?_
  refine jk_sld hJ hi.1 dL_law_332 ?_
  refine jk_aload_n hJ 0 rfl dL_law_333 ?_
  refine jk_iload_n hJ 3 rfl dL_law_334 ?_
  refine jk_iconst hJ 2 rfl dL_law_335 ?_
  refine jk_iadd hJ dL_law_336 ?_
  refine jk_sld hJ hi.2.1 dL_law_337 ?_
  refine jk_aload_n hJ 0 rfl dL_law_338 ?_
  refine jk_iload_n hJ 3 rfl dL_law_339 ?_
  refine jk_iconst hJ 3 rfl dL_law_340 ?_
  refine jk_iadd hJ dL_law_341 ?_
  refine jk_sld hJ hi.2.2.1 dL_law_342 ?_
  refine jk_aload_n hJ 0 rfl dL_law_343 ?_
  refine jk_iload_n hJ 3 rfl dL_law_344 ?_
  refine jk_iconst hJ 4 rfl dL_law_345 ?_
  refine jk_iadd hJ dL_law_346 ?_
  refine jk_sld hJ hi.2.2.2.1 dL_law_347 ?_
  refine jk_aload_n hJ 0 rfl dL_law_348 ?_
  refine jk_iload_n hJ 3 rfl dL_law_349 ?_
  refine jk_iconst hJ 5 rfl dL_law_350 ?_
  refine jk_iadd hJ dL_law_351 ?_
  refine jk_sld hJ hi.2.2.2.2 dL_law_352 ?_
  refine jk_callC hJ hC ha (d' := 5) ml_RL_36 rc_11 obC_0 (by decide) (As := [.int (jxs J (x3 + 1).toNatClampNeg), .int (jxs J (x3 + 2).toNatClampNeg), .int (jxs J (x3 + 3).toNatClampNeg), .int (jxs J (x3 + 4).toNatClampNeg), .int (jxs J (x3 + 5).toNatClampNeg)]) (st := []) (r := r) (w1 := wc1) (by rw [← e1]; exact c_X11_event (jl J) Yc hC.1 _ _ _ _ _ wc) rfl rfl (by decide) (kq_le hcap) (nq_le hcap) dL_law_353 ?_
  refine jk_aload_n hJ 2 rfl dL_law_356 ?_
  refine jk_aload_n hJ 0 rfl dL_law_357 ?_
  refine jk_iload_n hJ 3 rfl dL_law_358 ?_
  refine jk_iconst hJ 1 rfl dL_law_359 ?_
  refine jk_iadd hJ dL_law_360 ?_
  refine jk_sld hJ hi.1 dL_law_361 ?_
  refine jk_aload_n hJ 0 rfl dL_law_362 ?_
  refine jk_iload_n hJ 3 rfl dL_law_363 ?_
  refine jk_iconst hJ 2 rfl dL_law_364 ?_
  refine jk_iadd hJ dL_law_365 ?_
  refine jk_sld hJ hi.2.1 dL_law_366 ?_
  refine jk_aload_n hJ 0 rfl dL_law_367 ?_
  refine jk_iload_n hJ 3 rfl dL_law_368 ?_
  refine jk_iconst hJ 3 rfl dL_law_369 ?_
  refine jk_iadd hJ dL_law_370 ?_
  refine jk_sld hJ hi.2.2.1 dL_law_371 ?_
  refine jk_aload_n hJ 0 rfl dL_law_372 ?_
  refine jk_iload_n hJ 3 rfl dL_law_373 ?_
  refine jk_iconst hJ 4 rfl dL_law_374 ?_
  refine jk_iadd hJ dL_law_375 ?_
  refine jk_sld hJ hi.2.2.2.1 dL_law_376 ?_
  refine jk_aload_n hJ 0 rfl dL_law_377 ?_
  refine jk_iload_n hJ 3 rfl dL_law_378 ?_
  refine jk_iconst hJ 5 rfl dL_law_379 ?_
  refine jk_iadd hJ dL_law_380 ?_
  refine jk_sld hJ hi.2.2.2.2 dL_law_381 ?_
  refine jk_callM hJ hM ha.sy (d' := 12) ml_RL_39 rc_12 obM_0 (by decide) (As := [.int (jxs J (x3 + 1).toNatClampNeg), .int (jxs J (x3 + 2).toNatClampNeg), .int (jxs J (x3 + 3).toNatClampNeg), .int (jxs J (x3 + 4).toNatClampNeg), .int (jxs J (x3 + 5).toNatClampNeg)]) (st := [.int r]) (r := r) (w1 := wm1) (by rw [← e2]; exact c_X12_event (jl J) Ym hM.1 _ _ _ _ _ wm) rfl rfl (Nat.le_of_ble_eq_true rfl) (kq_le hcap) (nq_le hcap) dL_law_382 ?_
  refine jk_eq hJ (tgt := 1236) (by decide) dL_law_385 ?_
  exact kk Yc wc1 wm1 hC ha ha.sy hR1
theorem lc_told {REL : Nat → Wd → Nat → Wd → Prop} (hs : ST_told REL) (hb : HB REL) {n : Nat} (hn : n < 512) {J : Lz} (hJ : JOK J) {Yc Ym : Ev} (hC : WL J SC Yc) (hM : WL J SM Ym) (ha : APT Yc Ym) {wc wm : Wd} (hR : REL n wc (yc Yc) wm) {x3 : Int32} (hi : AIN J x3) (kk : KQ REL (n + 1) J Ym x3) : LJ J 390 (LVs J Yc Ym x3) [] (kq (yc Yc)) (nq (yc Yc)) Yc wc Ym wm := by
  have hcap := hb _ _ _ _ hR
  obtain ⟨r, wc1, wm1, e1, e2, hR1⟩ := hs _ _ _ _ hn hR (jxs J (x3 + 1).toNatClampNeg)
  refine jk_aload_n hJ 1 rfl dL_law_390 ?_
  refine jk_aload_n hJ 0 rfl dL_law_391 ?_
  refine jk_iload_n hJ 3 rfl dL_law_392 ?_
  refine jk_iconst hJ 1 rfl dL_law_393 ?_
  refine jk_iadd hJ dL_law_394 ?_
  refine jk_sld hJ hi.1 dL_law_395 ?_
  refine jk_callC hJ hC ha (d' := 3) ml_RL_40 rc_11 obC_0 (by decide) (As := [.int (jxs J (x3 + 1).toNatClampNeg)]) (st := []) (r := r) (w1 := wc1) (by rw [← e1]; exact c_X11_told (jl J) Yc hC.1 _ wc) rfl rfl (by decide) (kq_le hcap) (nq_le hcap) dL_law_396 ?_
  refine jk_aload_n hJ 2 rfl dL_law_399 ?_
  refine jk_aload_n hJ 0 rfl dL_law_400 ?_
  refine jk_iload_n hJ 3 rfl dL_law_401 ?_
  refine jk_iconst hJ 1 rfl dL_law_402 ?_
  refine jk_iadd hJ dL_law_403 ?_
  refine jk_sld hJ hi.1 dL_law_404 ?_
  refine jk_callM hJ hM ha.sy (d' := 2) ml_RL_43 rc_12 obM_0 (by decide) (As := [.int (jxs J (x3 + 1).toNatClampNeg)]) (st := [.int r]) (r := r) (w1 := wm1) (by rw [← e2]; exact c_X12_told (jl J) Ym hM.1 _ wm) rfl rfl (Nat.le_of_ble_eq_true rfl) (kq_le hcap) (nq_le hcap) dL_law_405 ?_
  refine jk_eq hJ (tgt := 1236) (by decide) dL_law_408 ?_
  exact kk Yc wc1 wm1 hC ha ha.sy hR1
theorem lc_rule {REL : Nat → Wd → Nat → Wd → Prop} (hs : ST_rule REL) (hb : HB REL) {n : Nat} (hn : n < 512) {J : Lz} (hJ : JOK J) {Yc Ym : Ev} (hC : WL J SC Yc) (hM : WL J SM Ym) (ha : APT Yc Ym) {wc wm : Wd} (hR : REL n wc (yc Yc) wm) {x3 : Int32} (hi : AIN J x3) (kk : KQ REL (n + 1) J Ym x3) : LJ J 413 (LVs J Yc Ym x3) [] (kq (yc Yc)) (nq (yc Yc)) Yc wc Ym wm := by
  have hcap := hb _ _ _ _ hR
  obtain ⟨r, wc1, wm1, e1, e2, hR1⟩ := hs _ _ _ _ hn hR (jxs J (x3 + 1).toNatClampNeg) (jxs J (x3 + 2).toNatClampNeg)
  refine jk_aload_n hJ 1 rfl dL_law_413 ?_
  refine jk_aload_n hJ 0 rfl dL_law_414 ?_
  refine jk_iload_n hJ 3 rfl dL_law_415 ?_
  refine jk_iconst hJ 1 rfl dL_law_416 ?_
  refine jk_iadd hJ dL_law_417 ?_
  refine jk_sld hJ hi.1 dL_law_418 ?_
  refine jk_aload_n hJ 0 rfl dL_law_419 ?_
  refine jk_iload_n hJ 3 rfl dL_law_420 ?_
  refine jk_iconst hJ 2 rfl dL_law_421 ?_
  refine jk_iadd hJ dL_law_422 ?_
  refine jk_sld hJ hi.2.1 dL_law_423 ?_
  refine jk_callC hJ hC ha (d' := 2) ml_RL_44 rc_11 obC_0 (by decide) (As := [.int (jxs J (x3 + 1).toNatClampNeg), .int (jxs J (x3 + 2).toNatClampNeg)]) (st := []) (r := r) (w1 := wc1) (by rw [← e1]; exact c_X11_rule (jl J) Yc hC.1 _ _ wc) rfl rfl (by decide) (kq_le hcap) (nq_le hcap) dL_law_424 ?_
  refine jk_aload_n hJ 2 rfl dL_law_427 ?_
  refine jk_aload_n hJ 0 rfl dL_law_428 ?_
  refine jk_iload_n hJ 3 rfl dL_law_429 ?_
  refine jk_iconst hJ 1 rfl dL_law_430 ?_
  refine jk_iadd hJ dL_law_431 ?_
  refine jk_sld hJ hi.1 dL_law_432 ?_
  refine jk_aload_n hJ 0 rfl dL_law_433 ?_
  refine jk_iload_n hJ 3 rfl dL_law_434 ?_
  refine jk_iconst hJ 2 rfl dL_law_435 ?_
  refine jk_iadd hJ dL_law_436 ?_
  refine jk_sld hJ hi.2.1 dL_law_437 ?_
  refine jk_callM hJ hM ha.sy (d' := 3) ml_RL_48 rc_12 obM_0 (by decide) (As := [.int (jxs J (x3 + 1).toNatClampNeg), .int (jxs J (x3 + 2).toNatClampNeg)]) (st := [.int r]) (r := r) (w1 := wm1) (by rw [← e2]; exact c_X12_rule (jl J) Ym hM.1 _ _ wm) rfl rfl (Nat.le_of_ble_eq_true rfl) (kq_le hcap) (nq_le hcap) dL_law_438 ?_
  refine jk_eq hJ (tgt := 1236) (by decide) dL_law_441 ?_
  exact kk Yc wc1 wm1 hC ha ha.sy hR1
theorem lc_look {REL : Nat → Wd → Nat → Wd → Prop} (hs : ST_look REL) (hb : HB REL) {n : Nat} (hn : n < 512) {J : Lz} (hJ : JOK J) {Yc Ym : Ev} (hC : WL J SC Yc) (hM : WL J SM Ym) (ha : APT Yc Ym) {wc wm : Wd} (hR : REL n wc (yc Yc) wm) {x3 : Int32} (hi : AIN J x3) (kk : KQ REL (n + 1) J Ym x3) : LJ J 446 (LVs J Yc Ym x3) [] (kq (yc Yc)) (nq (yc Yc)) Yc wc Ym wm := by
  have hcap := hb _ _ _ _ hR
  obtain ⟨r, wc1, wm1, e1, e2, hR1⟩ := hs _ _ _ _ hn hR (jxs J (x3 + 1).toNatClampNeg) (jxs J (x3 + 2).toNatClampNeg)
  refine jk_aload_n hJ 1 rfl dL_law_446 ?_
  refine jk_aload_n hJ 0 rfl dL_law_447 ?_
  refine jk_iload_n hJ 3 rfl dL_law_448 ?_
  refine jk_iconst hJ 1 rfl dL_law_449 ?_
  refine jk_iadd hJ dL_law_450 ?_
  refine jk_sld hJ hi.1 dL_law_451 ?_
  refine jk_aload_n hJ 0 rfl dL_law_452 ?_
  refine jk_iload_n hJ 3 rfl dL_law_453 ?_
  refine jk_iconst hJ 2 rfl dL_law_454 ?_
  refine jk_iadd hJ dL_law_455 ?_
  refine jk_sld hJ hi.2.1 dL_law_456 ?_
  refine jk_callC hJ hC ha (d' := 2) ml_RL_49 rc_11 obC_0 (by decide) (As := [.int (jxs J (x3 + 1).toNatClampNeg), .int (jxs J (x3 + 2).toNatClampNeg)]) (st := []) (r := r) (w1 := wc1) (by rw [← e1]; exact c_X11_look (jl J) Yc hC.1 _ _ wc) rfl rfl (by decide) (kq_le hcap) (nq_le hcap) dL_law_457 ?_
  refine jk_aload_n hJ 2 rfl dL_law_460 ?_
  refine jk_aload_n hJ 0 rfl dL_law_461 ?_
  refine jk_iload_n hJ 3 rfl dL_law_462 ?_
  refine jk_iconst hJ 1 rfl dL_law_463 ?_
  refine jk_iadd hJ dL_law_464 ?_
  refine jk_sld hJ hi.1 dL_law_465 ?_
  refine jk_aload_n hJ 0 rfl dL_law_466 ?_
  refine jk_iload_n hJ 3 rfl dL_law_467 ?_
  refine jk_iconst hJ 2 rfl dL_law_468 ?_
  refine jk_iadd hJ dL_law_469 ?_
  refine jk_sld hJ hi.2.1 dL_law_470 ?_
  refine jk_callM hJ hM ha.sy (d' := 3) ml_RL_52 rc_12 obM_0 (by decide) (As := [.int (jxs J (x3 + 1).toNatClampNeg), .int (jxs J (x3 + 2).toNatClampNeg)]) (st := [.int r]) (r := r) (w1 := wm1) (by rw [← e2]; exact c_X12_look (jl J) Ym hM.1 _ _ wm) rfl rfl (Nat.le_of_ble_eq_true rfl) (kq_le hcap) (nq_le hcap) dL_law_471 ?_
  refine jk_eq hJ (tgt := 1236) (by decide) dL_law_474 ?_
  exact kk Yc wc1 wm1 hC ha ha.sy hR1
theorem lc_orders {REL : Nat → Wd → Nat → Wd → Prop} (hs : ST_orders REL) (hb : HB REL) {n : Nat} (hn : n < 512) {J : Lz} (hJ : JOK J) {Yc Ym : Ev} (hC : WL J SC Yc) (hM : WL J SM Ym) (ha : APT Yc Ym) {wc wm : Wd} (hR : REL n wc (yc Yc) wm) {x3 : Int32} (hi : AIN J x3) (kk : KQ REL (n + 1) J Ym x3) : LJ J 479 (LVs J Yc Ym x3) [] (kq (yc Yc)) (nq (yc Yc)) Yc wc Ym wm := by
  have hcap := hb _ _ _ _ hR
  obtain ⟨r, wc1, wm1, e1, e2, hR1⟩ := hs _ _ _ _ hn hR 
  refine jk_aload_n hJ 1 rfl dL_law_479 ?_
  refine jk_callC hJ hC ha (d' := 1) ml_RL_53 rc_11 obC_0 (by decide) (As := []) (st := []) (r := r) (w1 := wc1) (by rw [← e1]; exact c_X11_orders (jl J) Yc hC.1  wc) rfl rfl (by decide) (kq_le hcap) (nq_le hcap) dL_law_480 ?_
  refine jk_aload_n hJ 2 rfl dL_law_483 ?_
  refine jk_callM hJ hM ha.sy (d' := 1) ml_RL_56 rc_12 obM_0 (by decide) (As := []) (st := [.int r]) (r := r) (w1 := wm1) (by rw [← e2]; exact c_X12_orders (jl J) Ym hM.1  wm) rfl rfl (Nat.le_of_ble_eq_true rfl) (kq_le hcap) (nq_le hcap) dL_law_484 ?_
  refine jk_eq hJ (tgt := 1236) (by decide) dL_law_487 ?_
  exact kk Yc wc1 wm1 hC ha ha.sy hR1
theorem lc_item {REL : Nat → Wd → Nat → Wd → Prop} (hs : ST_item REL) (hb : HB REL) {n : Nat} (hn : n < 512) {J : Lz} (hJ : JOK J) {Yc Ym : Ev} (hC : WL J SC Yc) (hM : WL J SM Ym) (ha : APT Yc Ym) {wc wm : Wd} (hR : REL n wc (yc Yc) wm) {x3 : Int32} (hi : AIN J x3) (kk : KQ REL (n + 1) J Ym x3) : LJ J 492 (LVs J Yc Ym x3) [] (kq (yc Yc)) (nq (yc Yc)) Yc wc Ym wm := by
  have hcap := hb _ _ _ _ hR
  obtain ⟨r, wc1, wm1, e1, e2, hR1⟩ := hs _ _ _ _ hn hR (jxs J (x3 + 1).toNatClampNeg) (jxs J (x3 + 2).toNatClampNeg)
  refine jk_aload_n hJ 1 rfl dL_law_492 ?_
  refine jk_aload_n hJ 0 rfl dL_law_493 ?_
  refine jk_iload_n hJ 3 rfl dL_law_494 ?_
  refine jk_iconst hJ 1 rfl dL_law_495 ?_
  refine jk_iadd hJ dL_law_496 ?_
  refine jk_sld hJ hi.1 dL_law_497 ?_
  refine jk_aload_n hJ 0 rfl dL_law_498 ?_
  refine jk_iload_n hJ 3 rfl dL_law_499 ?_
  refine jk_iconst hJ 2 rfl dL_law_500 ?_
  refine jk_iadd hJ dL_law_501 ?_
  refine jk_sld hJ hi.2.1 dL_law_502 ?_
  refine jk_callC hJ hC ha (d' := 2) ml_RL_57 rc_11 obC_0 (by decide) (As := [.int (jxs J (x3 + 1).toNatClampNeg), .int (jxs J (x3 + 2).toNatClampNeg)]) (st := []) (r := r) (w1 := wc1) (by rw [← e1]; exact c_X11_item (jl J) Yc hC.1 _ _ wc) rfl rfl (by decide) (kq_le hcap) (nq_le hcap) dL_law_503 ?_
  refine jk_aload_n hJ 2 rfl dL_law_506 ?_
  refine jk_aload_n hJ 0 rfl dL_law_507 ?_
  refine jk_iload_n hJ 3 rfl dL_law_508 ?_
  refine jk_iconst hJ 1 rfl dL_law_509 ?_
  refine jk_iadd hJ dL_law_510 ?_
  refine jk_sld hJ hi.1 dL_law_511 ?_
  refine jk_aload_n hJ 0 rfl dL_law_512 ?_
  refine jk_iload_n hJ 3 rfl dL_law_513 ?_
  refine jk_iconst hJ 2 rfl dL_law_514 ?_
  refine jk_iadd hJ dL_law_515 ?_
  refine jk_sld hJ hi.2.1 dL_law_516 ?_
  refine jk_callM hJ hM ha.sy (d' := 3) ml_RL_60 rc_12 obM_0 (by decide) (As := [.int (jxs J (x3 + 1).toNatClampNeg), .int (jxs J (x3 + 2).toNatClampNeg)]) (st := [.int r]) (r := r) (w1 := wm1) (by rw [← e2]; exact c_X12_item (jl J) Ym hM.1 _ _ wm) rfl rfl (Nat.le_of_ble_eq_true rfl) (kq_le hcap) (nq_le hcap) dL_law_517 ?_
  refine jk_eq hJ (tgt := 1236) (by decide) dL_law_520 ?_
  exact kk Yc wc1 wm1 hC ha ha.sy hR1
theorem lc_ahead {REL : Nat → Wd → Nat → Wd → Prop} (hs : ST_ahead REL) (hb : HB REL) {n : Nat} (hn : n < 512) {J : Lz} (hJ : JOK J) {Yc Ym : Ev} (hC : WL J SC Yc) (hM : WL J SM Ym) (ha : APT Yc Ym) {wc wm : Wd} (hR : REL n wc (yc Yc) wm) {x3 : Int32} (hi : AIN J x3) (kk : KQ REL (n + 1) J Ym x3) : LJ J 525 (LVs J Yc Ym x3) [] (kq (yc Yc)) (nq (yc Yc)) Yc wc Ym wm := by
  have hcap := hb _ _ _ _ hR
  obtain ⟨r, wc1, wm1, e1, e2, hR1⟩ := hs _ _ _ _ hn hR (jxs J (x3 + 1).toNatClampNeg) (jxs J (x3 + 2).toNatClampNeg)
  refine jk_aload_n hJ 1 rfl dL_law_525 ?_
  refine jk_aload_n hJ 0 rfl dL_law_526 ?_
  refine jk_iload_n hJ 3 rfl dL_law_527 ?_
  refine jk_iconst hJ 1 rfl dL_law_528 ?_
  refine jk_iadd hJ dL_law_529 ?_
  refine jk_sld hJ hi.1 dL_law_530 ?_
  refine jk_aload_n hJ 0 rfl dL_law_531 ?_
  refine jk_iload_n hJ 3 rfl dL_law_532 ?_
  refine jk_iconst hJ 2 rfl dL_law_533 ?_
  refine jk_iadd hJ dL_law_534 ?_
  refine jk_sld hJ hi.2.1 dL_law_535 ?_
  refine jk_callC hJ hC ha (d' := 3) ml_RL_61 rc_11 obC_0 (by decide) (As := [.int (jxs J (x3 + 1).toNatClampNeg), .int (jxs J (x3 + 2).toNatClampNeg)]) (st := []) (r := r) (w1 := wc1) (by rw [← e1]; exact c_X11_ahead (jl J) Yc hC.1 _ _ wc) rfl rfl (by decide) (kq_le hcap) (nq_le hcap) dL_law_536 ?_
  refine jk_aload_n hJ 2 rfl dL_law_539 ?_
  refine jk_aload_n hJ 0 rfl dL_law_540 ?_
  refine jk_iload_n hJ 3 rfl dL_law_541 ?_
  refine jk_iconst hJ 1 rfl dL_law_542 ?_
  refine jk_iadd hJ dL_law_543 ?_
  refine jk_sld hJ hi.1 dL_law_544 ?_
  refine jk_aload_n hJ 0 rfl dL_law_545 ?_
  refine jk_iload_n hJ 3 rfl dL_law_546 ?_
  refine jk_iconst hJ 2 rfl dL_law_547 ?_
  refine jk_iadd hJ dL_law_548 ?_
  refine jk_sld hJ hi.2.1 dL_law_549 ?_
  refine jk_callM hJ hM ha.sy (d' := 3) ml_RL_64 rc_12 obM_0 (by decide) (As := [.int (jxs J (x3 + 1).toNatClampNeg), .int (jxs J (x3 + 2).toNatClampNeg)]) (st := [.int r]) (r := r) (w1 := wm1) (by rw [← e2]; exact c_X12_ahead (jl J) Ym hM.1 _ _ wm) rfl rfl (Nat.le_of_ble_eq_true rfl) (kq_le hcap) (nq_le hcap) dL_law_550 ?_
  refine jk_eq hJ (tgt := 1236) (by decide) dL_law_553 ?_
  exact kk Yc wc1 wm1 hC ha ha.sy hR1
theorem lc_law {REL : Nat → Wd → Nat → Wd → Prop} (hs : ST_law REL) (hb : HB REL) {n : Nat} (hn : n < 512) {J : Lz} (hJ : JOK J) {Yc Ym : Ev} (hC : WL J SC Yc) (hM : WL J SM Ym) (ha : APT Yc Ym) {wc wm : Wd} (hR : REL n wc (yc Yc) wm) {x3 : Int32} (hi : AIN J x3) (kk : KQ REL (n + 1) J Ym x3) : LJ J 558 (LVs J Yc Ym x3) [] (kq (yc Yc)) (nq (yc Yc)) Yc wc Ym wm := by
  have hcap := hb _ _ _ _ hR
  obtain ⟨r, wc1, wm1, e1, e2, hR1⟩ := hs _ _ _ _ hn hR (jxs J (x3 + 1).toNatClampNeg)
  refine jk_aload_n hJ 1 rfl dL_law_558 ?_
  refine jk_aload_n hJ 0 rfl dL_law_559 ?_
  refine jk_iload_n hJ 3 rfl dL_law_560 ?_
  refine jk_iconst hJ 1 rfl dL_law_561 ?_
  refine jk_iadd hJ dL_law_562 ?_
  refine jk_sld hJ hi.1 dL_law_563 ?_
  refine jk_callC hJ hC ha (d' := 4) ml_RL_65 rc_11 obC_0 (by decide) (As := [.int (jxs J (x3 + 1).toNatClampNeg)]) (st := []) (r := r) (w1 := wc1) (by rw [← e1]; exact c_X11_law (jl J) Yc hC.1 _ wc) rfl rfl (by decide) (kq_le hcap) (nq_le hcap) dL_law_564 ?_
  refine jk_aload_n hJ 2 rfl dL_law_567 ?_
  refine jk_aload_n hJ 0 rfl dL_law_568 ?_
  refine jk_iload_n hJ 3 rfl dL_law_569 ?_
  refine jk_iconst hJ 1 rfl dL_law_570 ?_
  refine jk_iadd hJ dL_law_571 ?_
  refine jk_sld hJ hi.1 dL_law_572 ?_
  refine jk_callM hJ hM ha.sy (d' := 3) ml_RL_68 rc_12 obM_0 (by decide) (As := [.int (jxs J (x3 + 1).toNatClampNeg)]) (st := [.int r]) (r := r) (w1 := wm1) (by rw [← e2]; exact c_X12_law (jl J) Ym hM.1 _ wm) rfl rfl (Nat.le_of_ble_eq_true rfl) (kq_le hcap) (nq_le hcap) dL_law_573 ?_
  refine jk_eq hJ (tgt := 1236) (by decide) dL_law_576 ?_
  exact kk Yc wc1 wm1 hC ha ha.sy hR1
theorem lc_ring {REL : Nat → Wd → Nat → Wd → Prop} (hs : ST_ring REL) (hb : HB REL) {n : Nat} (hn : n < 512) {J : Lz} (hJ : JOK J) {Yc Ym : Ev} (hC : WL J SC Yc) (hM : WL J SM Ym) (ha : APT Yc Ym) {wc wm : Wd} (hR : REL n wc (yc Yc) wm) {x3 : Int32} (hi : AIN J x3) (kk : KQ REL (n + 1) J Ym x3) : LJ J 581 (LVs J Yc Ym x3) [] (kq (yc Yc)) (nq (yc Yc)) Yc wc Ym wm := by
  have hcap := hb _ _ _ _ hR
  obtain ⟨r, wc1, wm1, e1, e2, hR1⟩ := hs _ _ _ _ hn hR (jxs J (x3 + 1).toNatClampNeg)
  refine jk_aload_n hJ 1 rfl dL_law_581 ?_
  refine jk_aload_n hJ 0 rfl dL_law_582 ?_
  refine jk_iload_n hJ 3 rfl dL_law_583 ?_
  refine jk_iconst hJ 1 rfl dL_law_584 ?_
  refine jk_iadd hJ dL_law_585 ?_
  refine jk_sld hJ hi.1 dL_law_586 ?_
  refine jk_callC hJ hC ha (d' := 4) ml_RL_69 rc_11 obC_0 (by decide) (As := [.int (jxs J (x3 + 1).toNatClampNeg)]) (st := []) (r := r) (w1 := wc1) (by rw [← e1]; exact c_X11_ring (jl J) Yc hC.1 _ wc) rfl rfl (by decide) (kq_le hcap) (nq_le hcap) dL_law_587 ?_
  refine jk_aload_n hJ 2 rfl dL_law_590 ?_
  refine jk_aload_n hJ 0 rfl dL_law_591 ?_
  refine jk_iload_n hJ 3 rfl dL_law_592 ?_
  refine jk_iconst hJ 1 rfl dL_law_593 ?_
  refine jk_iadd hJ dL_law_594 ?_
  refine jk_sld hJ hi.1 dL_law_595 ?_
  refine jk_callM hJ hM ha.sy (d' := 3) ml_RL_72 rc_12 obM_0 (by decide) (As := [.int (jxs J (x3 + 1).toNatClampNeg)]) (st := [.int r]) (r := r) (w1 := wm1) (by rw [← e2]; exact c_X12_ring (jl J) Ym hM.1 _ wm) rfl rfl (Nat.le_of_ble_eq_true rfl) (kq_le hcap) (nq_le hcap) dL_law_596 ?_
  refine jk_eq hJ (tgt := 1236) (by decide) dL_law_599 ?_
  exact kk Yc wc1 wm1 hC ha ha.sy hR1
theorem lc_good {REL : Nat → Wd → Nat → Wd → Prop} (hs : ST_good REL) (hb : HB REL) {n : Nat} (hn : n < 512) {J : Lz} (hJ : JOK J) {Yc Ym : Ev} (hC : WL J SC Yc) (hM : WL J SM Ym) (ha : APT Yc Ym) {wc wm : Wd} (hR : REL n wc (yc Yc) wm) {x3 : Int32} (hi : AIN J x3) (kk : KQ REL (n + 1) J Ym x3) : LJ J 604 (LVs J Yc Ym x3) [] (kq (yc Yc)) (nq (yc Yc)) Yc wc Ym wm := by
  have hcap := hb _ _ _ _ hR
  obtain ⟨r, wc1, wm1, e1, e2, hR1⟩ := hs _ _ _ _ hn hR (jxs J (x3 + 1).toNatClampNeg) (jxs J (x3 + 2).toNatClampNeg)
  refine jk_aload_n hJ 1 rfl dL_law_604 ?_
  refine jk_aload_n hJ 0 rfl dL_law_605 ?_
  refine jk_iload_n hJ 3 rfl dL_law_606 ?_
  refine jk_iconst hJ 1 rfl dL_law_607 ?_
  refine jk_iadd hJ dL_law_608 ?_
  refine jk_sld hJ hi.1 dL_law_609 ?_
  refine jk_aload_n hJ 0 rfl dL_law_610 ?_
  refine jk_iload_n hJ 3 rfl dL_law_611 ?_
  refine jk_iconst hJ 2 rfl dL_law_612 ?_
  refine jk_iadd hJ dL_law_613 ?_
  refine jk_sld hJ hi.2.1 dL_law_614 ?_
  refine jk_callC hJ hC ha (d' := 3) ml_RL_73 rc_11 obC_0 (by decide) (As := [.int (jxs J (x3 + 1).toNatClampNeg), .int (jxs J (x3 + 2).toNatClampNeg)]) (st := []) (r := r) (w1 := wc1) (by rw [← e1]; exact c_X11_good (jl J) Yc hC.1 _ _ wc) rfl rfl (by decide) (kq_le hcap) (nq_le hcap) dL_law_615 ?_
  refine jk_aload_n hJ 2 rfl dL_law_618 ?_
  refine jk_aload_n hJ 0 rfl dL_law_619 ?_
  refine jk_iload_n hJ 3 rfl dL_law_620 ?_
  refine jk_iconst hJ 1 rfl dL_law_621 ?_
  refine jk_iadd hJ dL_law_622 ?_
  refine jk_sld hJ hi.1 dL_law_623 ?_
  refine jk_aload_n hJ 0 rfl dL_law_624 ?_
  refine jk_iload_n hJ 3 rfl dL_law_625 ?_
  refine jk_iconst hJ 2 rfl dL_law_626 ?_
  refine jk_iadd hJ dL_law_627 ?_
  refine jk_sld hJ hi.2.1 dL_law_628 ?_
  refine jk_callM hJ hM ha.sy (d' := 4) ml_RL_76 rc_12 obM_0 (by decide) (As := [.int (jxs J (x3 + 1).toNatClampNeg), .int (jxs J (x3 + 2).toNatClampNeg)]) (st := [.int r]) (r := r) (w1 := wm1) (by rw [← e2]; exact c_X12_good (jl J) Ym hM.1 _ _ wm) rfl rfl (Nat.le_of_ble_eq_true rfl) (kq_le hcap) (nq_le hcap) dL_law_629 ?_
  refine jk_eq hJ (tgt := 1236) (by decide) dL_law_632 ?_
  exact kk Yc wc1 wm1 hC ha ha.sy hR1
theorem lc_counts {REL : Nat → Wd → Nat → Wd → Prop} (hs : ST_counts REL) (hb : HB REL) {n : Nat} (hn : n < 512) {J : Lz} (hJ : JOK J) {Yc Ym : Ev} (hC : WL J SC Yc) (hM : WL J SM Ym) (ha : APT Yc Ym) {wc wm : Wd} (hR : REL n wc (yc Yc) wm) {x3 : Int32} (hi : AIN J x3) (kk : KQ REL (n + 1) J Ym x3) : LJ J 637 (LVs J Yc Ym x3) [] (kq (yc Yc)) (nq (yc Yc)) Yc wc Ym wm := by
  have hcap := hb _ _ _ _ hR
  obtain ⟨r, wc1, wm1, e1, e2, hR1⟩ := hs _ _ _ _ hn hR (jxs J (x3 + 1).toNatClampNeg) (jxs J (x3 + 2).toNatClampNeg)
  refine jk_aload_n hJ 1 rfl dL_law_637 ?_
  refine jk_aload_n hJ 0 rfl dL_law_638 ?_
  refine jk_iload_n hJ 3 rfl dL_law_639 ?_
  refine jk_iconst hJ 1 rfl dL_law_640 ?_
  refine jk_iadd hJ dL_law_641 ?_
  refine jk_sld hJ hi.1 dL_law_642 ?_
  refine jk_aload_n hJ 0 rfl dL_law_643 ?_
  refine jk_iload_n hJ 3 rfl dL_law_644 ?_
  refine jk_iconst hJ 2 rfl dL_law_645 ?_
  refine jk_iadd hJ dL_law_646 ?_
  refine jk_sld hJ hi.2.1 dL_law_647 ?_
  refine jk_callC hJ hC ha (d' := 6) ml_RL_77 rc_11 obC_0 (by decide) (As := [.int (jxs J (x3 + 1).toNatClampNeg), .int (jxs J (x3 + 2).toNatClampNeg)]) (st := []) (r := r) (w1 := wc1) (by rw [← e1]; exact c_X11_counts (jl J) Yc hC.1 _ _ wc) rfl rfl (by decide) (kq_le hcap) (nq_le hcap) dL_law_648 ?_
  refine jk_aload_n hJ 2 rfl dL_law_651 ?_
  refine jk_aload_n hJ 0 rfl dL_law_652 ?_
  refine jk_iload_n hJ 3 rfl dL_law_653 ?_
  refine jk_iconst hJ 1 rfl dL_law_654 ?_
  refine jk_iadd hJ dL_law_655 ?_
  refine jk_sld hJ hi.1 dL_law_656 ?_
  refine jk_aload_n hJ 0 rfl dL_law_657 ?_
  refine jk_iload_n hJ 3 rfl dL_law_658 ?_
  refine jk_iconst hJ 2 rfl dL_law_659 ?_
  refine jk_iadd hJ dL_law_660 ?_
  refine jk_sld hJ hi.2.1 dL_law_661 ?_
  refine jk_callM hJ hM ha.sy (d' := 6) ml_RL_80 rc_12 obM_0 (by decide) (As := [.int (jxs J (x3 + 1).toNatClampNeg), .int (jxs J (x3 + 2).toNatClampNeg)]) (st := [.int r]) (r := r) (w1 := wm1) (by rw [← e2]; exact c_X12_counts (jl J) Ym hM.1 _ _ wm) rfl rfl (Nat.le_of_ble_eq_true rfl) (kq_le hcap) (nq_le hcap) dL_law_662 ?_
  refine jk_eq hJ (tgt := 1236) (by decide) dL_law_665 ?_
  exact kk Yc wc1 wm1 hC ha ha.sy hR1
theorem lc_undone {REL : Nat → Wd → Nat → Wd → Prop} (hs : ST_undone REL) (hb : HB REL) {n : Nat} (hn : n < 512) {J : Lz} (hJ : JOK J) {Yc Ym : Ev} (hC : WL J SC Yc) (hM : WL J SM Ym) (ha : APT Yc Ym) {wc wm : Wd} (hR : REL n wc (yc Yc) wm) {x3 : Int32} (hi : AIN J x3) (kk : KQ REL (n + 1) J Ym x3) : LJ J 670 (LVs J Yc Ym x3) [] (kq (yc Yc)) (nq (yc Yc)) Yc wc Ym wm := by
  have hcap := hb _ _ _ _ hR
  obtain ⟨r, wc1, wm1, e1, e2, hR1⟩ := hs _ _ _ _ hn hR (jxs J (x3 + 1).toNatClampNeg) (jxs J (x3 + 2).toNatClampNeg) (jxs J (x3 + 3).toNatClampNeg)
  refine jk_aload_n hJ 1 rfl dL_law_670 ?_
  refine jk_aload_n hJ 0 rfl dL_law_671 ?_
  refine jk_iload_n hJ 3 rfl dL_law_672 ?_
  refine jk_iconst hJ 1 rfl dL_law_673 ?_
  refine jk_iadd hJ dL_law_674 ?_
  refine jk_sld hJ hi.1 dL_law_675 ?_
  refine jk_aload_n hJ 0 rfl dL_law_676 ?_
  refine jk_iload_n hJ 3 rfl dL_law_677 ?_
  refine jk_iconst hJ 2 rfl dL_law_678 ?_
  refine jk_iadd hJ dL_law_679 ?_
  refine jk_sld hJ hi.2.1 dL_law_680 ?_
  refine jk_aload_n hJ 0 rfl dL_law_681 ?_
  refine jk_iload_n hJ 3 rfl dL_law_682 ?_
  refine jk_iconst hJ 3 rfl dL_law_683 ?_
  refine jk_iadd hJ dL_law_684 ?_
  refine jk_sld hJ hi.2.2.1 dL_law_685 ?_
  refine jk_callC hJ hC ha (d' := 6) ml_RL_81 rc_11 obC_0 (by decide) (As := [.int (jxs J (x3 + 1).toNatClampNeg), .int (jxs J (x3 + 2).toNatClampNeg), .int (jxs J (x3 + 3).toNatClampNeg)]) (st := []) (r := r) (w1 := wc1) (by rw [← e1]; exact c_X11_undone (jl J) Yc hC.1 _ _ _ wc) rfl rfl (by decide) (kq_le hcap) (nq_le hcap) dL_law_686 ?_
  refine jk_aload_n hJ 2 rfl dL_law_689 ?_
  refine jk_aload_n hJ 0 rfl dL_law_690 ?_
  refine jk_iload_n hJ 3 rfl dL_law_691 ?_
  refine jk_iconst hJ 1 rfl dL_law_692 ?_
  refine jk_iadd hJ dL_law_693 ?_
  refine jk_sld hJ hi.1 dL_law_694 ?_
  refine jk_aload_n hJ 0 rfl dL_law_695 ?_
  refine jk_iload_n hJ 3 rfl dL_law_696 ?_
  refine jk_iconst hJ 2 rfl dL_law_697 ?_
  refine jk_iadd hJ dL_law_698 ?_
  refine jk_sld hJ hi.2.1 dL_law_699 ?_
  refine jk_aload_n hJ 0 rfl dL_law_700 ?_
  refine jk_iload_n hJ 3 rfl dL_law_701 ?_
  refine jk_iconst hJ 3 rfl dL_law_702 ?_
  refine jk_iadd hJ dL_law_703 ?_
  refine jk_sld hJ hi.2.2.1 dL_law_704 ?_
  refine jk_callM hJ hM ha.sy (d' := 6) ml_RL_85 rc_12 obM_0 (by decide) (As := [.int (jxs J (x3 + 1).toNatClampNeg), .int (jxs J (x3 + 2).toNatClampNeg), .int (jxs J (x3 + 3).toNatClampNeg)]) (st := [.int r]) (r := r) (w1 := wm1) (by rw [← e2]; exact c_X12_undone (jl J) Ym hM.1 _ _ _ wm) rfl rfl (Nat.le_of_ble_eq_true rfl) (kq_le hcap) (nq_le hcap) dL_law_705 ?_
  refine jk_eq hJ (tgt := 1236) (by decide) dL_law_708 ?_
  exact kk Yc wc1 wm1 hC ha ha.sy hR1
theorem lc_ways {REL : Nat → Wd → Nat → Wd → Prop} (hs : ST_ways REL) (hb : HB REL) {n : Nat} (hn : n < 512) {J : Lz} (hJ : JOK J) {Yc Ym : Ev} (hC : WL J SC Yc) (hM : WL J SM Ym) (ha : APT Yc Ym) {wc wm : Wd} (hR : REL n wc (yc Yc) wm) {x3 : Int32} (hi : AIN J x3) (kk : KQ REL (n + 1) J Ym x3) : LJ J 713 (LVs J Yc Ym x3) [] (kq (yc Yc)) (nq (yc Yc)) Yc wc Ym wm := by
  have hcap := hb _ _ _ _ hR
  obtain ⟨r, wc1, wm1, e1, e2, hR1⟩ := hs _ _ _ _ hn hR 
  refine jk_aload_n hJ 1 rfl dL_law_713 ?_
  refine jk_callC hJ hC ha (d' := 2) ml_RL_86 rc_11 obC_0 (by decide) (As := []) (st := []) (r := r) (w1 := wc1) (by rw [← e1]; exact c_X11_ways (jl J) Yc hC.1  wc) rfl rfl (by decide) (kq_le hcap) (nq_le hcap) dL_law_714 ?_
  refine jk_aload_n hJ 2 rfl dL_law_717 ?_
  refine jk_callM hJ hM ha.sy (d' := 2) ml_RL_89 rc_12 obM_0 (by decide) (As := []) (st := [.int r]) (r := r) (w1 := wm1) (by rw [← e2]; exact c_X12_ways (jl J) Ym hM.1  wm) rfl rfl (Nat.le_of_ble_eq_true rfl) (kq_le hcap) (nq_le hcap) dL_law_718 ?_
  refine jk_eq hJ (tgt := 1236) (by decide) dL_law_721 ?_
  exact kk Yc wc1 wm1 hC ha ha.sy hR1
theorem lc_goes {REL : Nat → Wd → Nat → Wd → Prop} (hs : ST_goes REL) (hb : HB REL) {n : Nat} (hn : n < 512) {J : Lz} (hJ : JOK J) {Yc Ym : Ev} (hC : WL J SC Yc) (hM : WL J SM Ym) (ha : APT Yc Ym) {wc wm : Wd} (hR : REL n wc (yc Yc) wm) {x3 : Int32} (hi : AIN J x3) (kk : KQ REL (n + 1) J Ym x3) : LJ J 726 (LVs J Yc Ym x3) [] (kq (yc Yc)) (nq (yc Yc)) Yc wc Ym wm := by
  have hcap := hb _ _ _ _ hR
  obtain ⟨r, wc1, wm1, e1, e2, hR1⟩ := hs _ _ _ _ hn hR (jxs J (x3 + 1).toNatClampNeg) (jxs J (x3 + 2).toNatClampNeg)
  refine jk_aload_n hJ 1 rfl dL_law_726 ?_
  refine jk_aload_n hJ 0 rfl dL_law_727 ?_
  refine jk_iload_n hJ 3 rfl dL_law_728 ?_
  refine jk_iconst hJ 1 rfl dL_law_729 ?_
  refine jk_iadd hJ dL_law_730 ?_
  refine jk_sld hJ hi.1 dL_law_731 ?_
  refine jk_aload_n hJ 0 rfl dL_law_732 ?_
  refine jk_iload_n hJ 3 rfl dL_law_733 ?_
  refine jk_iconst hJ 2 rfl dL_law_734 ?_
  refine jk_iadd hJ dL_law_735 ?_
  refine jk_sld hJ hi.2.1 dL_law_736 ?_
  refine jk_callC hJ hC ha (d' := 6) ml_RL_90 rc_11 obC_0 (by decide) (As := [.int (jxs J (x3 + 1).toNatClampNeg), .int (jxs J (x3 + 2).toNatClampNeg)]) (st := []) (r := r) (w1 := wc1) (by rw [← e1]; exact c_X11_goes (jl J) Yc hC.1 _ _ wc) rfl rfl (by decide) (kq_le hcap) (nq_le hcap) dL_law_737 ?_
  refine jk_aload_n hJ 2 rfl dL_law_740 ?_
  refine jk_aload_n hJ 0 rfl dL_law_741 ?_
  refine jk_iload_n hJ 3 rfl dL_law_742 ?_
  refine jk_iconst hJ 1 rfl dL_law_743 ?_
  refine jk_iadd hJ dL_law_744 ?_
  refine jk_sld hJ hi.1 dL_law_745 ?_
  refine jk_aload_n hJ 0 rfl dL_law_746 ?_
  refine jk_iload_n hJ 3 rfl dL_law_747 ?_
  refine jk_iconst hJ 2 rfl dL_law_748 ?_
  refine jk_iadd hJ dL_law_749 ?_
  refine jk_sld hJ hi.2.1 dL_law_750 ?_
  refine jk_callM hJ hM ha.sy (d' := 25) ml_RL_93 rc_12 obM_0 (by decide) (As := [.int (jxs J (x3 + 1).toNatClampNeg), .int (jxs J (x3 + 2).toNatClampNeg)]) (st := [.int r]) (r := r) (w1 := wm1) (by rw [← e2]; exact c_X12_goes (jl J) Ym hM.1 _ _ wm) rfl rfl (Nat.le_of_ble_eq_true rfl) (kq_le hcap) (nq_le hcap) dL_law_751 ?_
  refine jk_eq hJ (tgt := 1236) (by decide) dL_law_754 ?_
  exact kk Yc wc1 wm1 hC ha ha.sy hR1
theorem lc_how {REL : Nat → Wd → Nat → Wd → Prop} (hs : ST_how REL) (hb : HB REL) {n : Nat} (hn : n < 512) {J : Lz} (hJ : JOK J) {Yc Ym : Ev} (hC : WL J SC Yc) (hM : WL J SM Ym) (ha : APT Yc Ym) {wc wm : Wd} (hR : REL n wc (yc Yc) wm) {x3 : Int32} (hi : AIN J x3) (kk : KQ REL (n + 1) J Ym x3) : LJ J 759 (LVs J Yc Ym x3) [] (kq (yc Yc)) (nq (yc Yc)) Yc wc Ym wm := by
  have hcap := hb _ _ _ _ hR
  obtain ⟨r, wc1, wm1, e1, e2, hR1⟩ := hs _ _ _ _ hn hR (jxs J (x3 + 1).toNatClampNeg) (jxs J (x3 + 2).toNatClampNeg)
  refine jk_aload_n hJ 1 rfl dL_law_759 ?_
  refine jk_aload_n hJ 0 rfl dL_law_760 ?_
  refine jk_iload_n hJ 3 rfl dL_law_761 ?_
  refine jk_iconst hJ 1 rfl dL_law_762 ?_
  refine jk_iadd hJ dL_law_763 ?_
  refine jk_sld hJ hi.1 dL_law_764 ?_
  refine jk_aload_n hJ 0 rfl dL_law_765 ?_
  refine jk_iload_n hJ 3 rfl dL_law_766 ?_
  refine jk_iconst hJ 2 rfl dL_law_767 ?_
  refine jk_iadd hJ dL_law_768 ?_
  refine jk_sld hJ hi.2.1 dL_law_769 ?_
  refine jk_callC hJ hC ha (d' := 6) ml_RL_94 rc_11 obC_0 (by decide) (As := [.int (jxs J (x3 + 1).toNatClampNeg), .int (jxs J (x3 + 2).toNatClampNeg)]) (st := []) (r := r) (w1 := wc1) (by rw [← e1]; exact c_X11_how (jl J) Yc hC.1 _ _ wc) rfl rfl (by decide) (kq_le hcap) (nq_le hcap) dL_law_770 ?_
  refine jk_aload_n hJ 2 rfl dL_law_773 ?_
  refine jk_aload_n hJ 0 rfl dL_law_774 ?_
  refine jk_iload_n hJ 3 rfl dL_law_775 ?_
  refine jk_iconst hJ 1 rfl dL_law_776 ?_
  refine jk_iadd hJ dL_law_777 ?_
  refine jk_sld hJ hi.1 dL_law_778 ?_
  refine jk_aload_n hJ 0 rfl dL_law_779 ?_
  refine jk_iload_n hJ 3 rfl dL_law_780 ?_
  refine jk_iconst hJ 2 rfl dL_law_781 ?_
  refine jk_iadd hJ dL_law_782 ?_
  refine jk_sld hJ hi.2.1 dL_law_783 ?_
  refine jk_callM hJ hM ha.sy (d' := 25) ml_RL_97 rc_12 obM_0 (by decide) (As := [.int (jxs J (x3 + 1).toNatClampNeg), .int (jxs J (x3 + 2).toNatClampNeg)]) (st := [.int r]) (r := r) (w1 := wm1) (by rw [← e2]; exact c_X12_how (jl J) Ym hM.1 _ _ wm) rfl rfl (Nat.le_of_ble_eq_true rfl) (kq_le hcap) (nq_le hcap) dL_law_784 ?_
  refine jk_eq hJ (tgt := 1236) (by decide) dL_law_787 ?_
  exact kk Yc wc1 wm1 hC ha ha.sy hR1
theorem lc_paid {REL : Nat → Wd → Nat → Wd → Prop} (hs : ST_paid REL) (hb : HB REL) {n : Nat} (hn : n < 512) {J : Lz} (hJ : JOK J) {Yc Ym : Ev} (hC : WL J SC Yc) (hM : WL J SM Ym) (ha : APT Yc Ym) {wc wm : Wd} (hR : REL n wc (yc Yc) wm) {x3 : Int32} (hi : AIN J x3) (kk : KQ REL (n + 1) J Ym x3) : LJ J 792 (LVs J Yc Ym x3) [] (kq (yc Yc)) (nq (yc Yc)) Yc wc Ym wm := by
  have hcap := hb _ _ _ _ hR
  obtain ⟨r, wc1, wm1, e1, e2, hR1⟩ := hs _ _ _ _ hn hR (jxs J (x3 + 1).toNatClampNeg) (jxs J (x3 + 2).toNatClampNeg)
  refine jk_aload_n hJ 1 rfl dL_law_792 ?_
  refine jk_aload_n hJ 0 rfl dL_law_793 ?_
  refine jk_iload_n hJ 3 rfl dL_law_794 ?_
  refine jk_iconst hJ 1 rfl dL_law_795 ?_
  refine jk_iadd hJ dL_law_796 ?_
  refine jk_sld hJ hi.1 dL_law_797 ?_
  refine jk_aload_n hJ 0 rfl dL_law_798 ?_
  refine jk_iload_n hJ 3 rfl dL_law_799 ?_
  refine jk_iconst hJ 2 rfl dL_law_800 ?_
  refine jk_iadd hJ dL_law_801 ?_
  refine jk_sld hJ hi.2.1 dL_law_802 ?_
  refine jk_callC hJ hC ha (d' := 6) ml_RL_98 rc_11 obC_0 (by decide) (As := [.int (jxs J (x3 + 1).toNatClampNeg), .int (jxs J (x3 + 2).toNatClampNeg)]) (st := []) (r := r) (w1 := wc1) (by rw [← e1]; exact c_X11_paid (jl J) Yc hC.1 _ _ wc) rfl rfl (by decide) (kq_le hcap) (nq_le hcap) dL_law_803 ?_
  refine jk_aload_n hJ 2 rfl dL_law_806 ?_
  refine jk_aload_n hJ 0 rfl dL_law_807 ?_
  refine jk_iload_n hJ 3 rfl dL_law_808 ?_
  refine jk_iconst hJ 1 rfl dL_law_809 ?_
  refine jk_iadd hJ dL_law_810 ?_
  refine jk_sld hJ hi.1 dL_law_811 ?_
  refine jk_aload_n hJ 0 rfl dL_law_812 ?_
  refine jk_iload_n hJ 3 rfl dL_law_813 ?_
  refine jk_iconst hJ 2 rfl dL_law_814 ?_
  refine jk_iadd hJ dL_law_815 ?_
  refine jk_sld hJ hi.2.1 dL_law_816 ?_
  refine jk_callM hJ hM ha.sy (d' := 25) ml_RL_101 rc_12 obM_0 (by decide) (As := [.int (jxs J (x3 + 1).toNatClampNeg), .int (jxs J (x3 + 2).toNatClampNeg)]) (st := [.int r]) (r := r) (w1 := wm1) (by rw [← e2]; exact c_X12_paid (jl J) Ym hM.1 _ _ wm) rfl rfl (Nat.le_of_ble_eq_true rfl) (kq_le hcap) (nq_le hcap) dL_law_817 ?_
  refine jk_eq hJ (tgt := 1236) (by decide) dL_law_820 ?_
  exact kk Yc wc1 wm1 hC ha ha.sy hR1
theorem lc_sum {REL : Nat → Wd → Nat → Wd → Prop} (hs : ST_sum REL) (hb : HB REL) {n : Nat} (hn : n < 512) {J : Lz} (hJ : JOK J) {Yc Ym : Ev} (hC : WL J SC Yc) (hM : WL J SM Ym) (ha : APT Yc Ym) {wc wm : Wd} (hR : REL n wc (yc Yc) wm) {x3 : Int32} (hi : AIN J x3) (kk : KQ REL (n + 1) J Ym x3) : LJ J 825 (LVs J Yc Ym x3) [] (kq (yc Yc)) (nq (yc Yc)) Yc wc Ym wm := by
  have hcap := hb _ _ _ _ hR
  obtain ⟨r, wc1, wm1, e1, e2, hR1⟩ := hs _ _ _ _ hn hR (jxs J (x3 + 1).toNatClampNeg) (jxs J (x3 + 2).toNatClampNeg)
  refine jk_aload_n hJ 1 rfl dL_law_825 ?_
  refine jk_aload_n hJ 0 rfl dL_law_826 ?_
  refine jk_iload_n hJ 3 rfl dL_law_827 ?_
  refine jk_iconst hJ 1 rfl dL_law_828 ?_
  refine jk_iadd hJ dL_law_829 ?_
  refine jk_sld hJ hi.1 dL_law_830 ?_
  refine jk_aload_n hJ 0 rfl dL_law_831 ?_
  refine jk_iload_n hJ 3 rfl dL_law_832 ?_
  refine jk_iconst hJ 2 rfl dL_law_833 ?_
  refine jk_iadd hJ dL_law_834 ?_
  refine jk_sld hJ hi.2.1 dL_law_835 ?_
  refine jk_callC hJ hC ha (d' := 7) ml_RL_102 rc_11 obC_0 (by decide) (As := [.int (jxs J (x3 + 1).toNatClampNeg), .int (jxs J (x3 + 2).toNatClampNeg)]) (st := []) (r := r) (w1 := wc1) (by rw [← e1]; exact c_X11_sum (jl J) Yc hC.1 _ _ wc) rfl rfl (by decide) (kq_le hcap) (nq_le hcap) dL_law_836 ?_
  refine jk_aload_n hJ 2 rfl dL_law_839 ?_
  refine jk_aload_n hJ 0 rfl dL_law_840 ?_
  refine jk_iload_n hJ 3 rfl dL_law_841 ?_
  refine jk_iconst hJ 1 rfl dL_law_842 ?_
  refine jk_iadd hJ dL_law_843 ?_
  refine jk_sld hJ hi.1 dL_law_844 ?_
  refine jk_aload_n hJ 0 rfl dL_law_845 ?_
  refine jk_iload_n hJ 3 rfl dL_law_846 ?_
  refine jk_iconst hJ 2 rfl dL_law_847 ?_
  refine jk_iadd hJ dL_law_848 ?_
  refine jk_sld hJ hi.2.1 dL_law_849 ?_
  refine jk_callM hJ hM ha.sy (d' := 27) ml_RL_105 rc_12 obM_0 (by decide) (As := [.int (jxs J (x3 + 1).toNatClampNeg), .int (jxs J (x3 + 2).toNatClampNeg)]) (st := [.int r]) (r := r) (w1 := wm1) (by rw [← e2]; exact c_X12_sum (jl J) Ym hM.1 _ _ wm) rfl rfl (Nat.le_of_ble_eq_true rfl) (kq_le hcap) (nq_le hcap) dL_law_850 ?_
  refine jk_eq hJ (tgt := 1236) (by decide) dL_law_853 ?_
  exact kk Yc wc1 wm1 hC ha ha.sy hR1
theorem lc_lack {REL : Nat → Wd → Nat → Wd → Prop} (hs : ST_lack REL) (hb : HB REL) {n : Nat} (hn : n < 512) {J : Lz} (hJ : JOK J) {Yc Ym : Ev} (hC : WL J SC Yc) (hM : WL J SM Ym) (ha : APT Yc Ym) {wc wm : Wd} (hR : REL n wc (yc Yc) wm) {x3 : Int32} (hi : AIN J x3) (kk : KQ REL (n + 1) J Ym x3) : LJ J 858 (LVs J Yc Ym x3) [] (kq (yc Yc)) (nq (yc Yc)) Yc wc Ym wm := by
  have hcap := hb _ _ _ _ hR
  obtain ⟨r, wc1, wm1, e1, e2, hR1⟩ := hs _ _ _ _ hn hR (jxs J (x3 + 1).toNatClampNeg)
  refine jk_aload_n hJ 1 rfl dL_law_858 ?_
  refine jk_aload_n hJ 0 rfl dL_law_859 ?_
  refine jk_iload_n hJ 3 rfl dL_law_860 ?_
  refine jk_iconst hJ 1 rfl dL_law_861 ?_
  refine jk_iadd hJ dL_law_862 ?_
  refine jk_sld hJ hi.1 dL_law_863 ?_
  refine jk_callC hJ hC ha (d' := 7) ml_RL_106 rc_11 obC_0 (by decide) (As := [.int (jxs J (x3 + 1).toNatClampNeg)]) (st := []) (r := r) (w1 := wc1) (by rw [← e1]; exact c_X11_lack (jl J) Yc hC.1 _ wc) rfl rfl (by decide) (kq_le hcap) (nq_le hcap) dL_law_864 ?_
  refine jk_aload_n hJ 2 rfl dL_law_867 ?_
  refine jk_aload_n hJ 0 rfl dL_law_868 ?_
  refine jk_iload_n hJ 3 rfl dL_law_869 ?_
  refine jk_iconst hJ 1 rfl dL_law_870 ?_
  refine jk_iadd hJ dL_law_871 ?_
  refine jk_sld hJ hi.1 dL_law_872 ?_
  refine jk_callM hJ hM ha.sy (d' := 27) ml_RL_109 rc_12 obM_0 (by decide) (As := [.int (jxs J (x3 + 1).toNatClampNeg)]) (st := [.int r]) (r := r) (w1 := wm1) (by rw [← e2]; exact c_X12_lack (jl J) Ym hM.1 _ wm) rfl rfl (Nat.le_of_ble_eq_true rfl) (kq_le hcap) (nq_le hcap) dL_law_873 ?_
  refine jk_eq hJ (tgt := 1236) (by decide) dL_law_876 ?_
  exact kk Yc wc1 wm1 hC ha ha.sy hR1
theorem lc_sure {REL : Nat → Wd → Nat → Wd → Prop} (hs : ST_sure REL) (hb : HB REL) {n : Nat} (hn : n < 512) {J : Lz} (hJ : JOK J) {Yc Ym : Ev} (hC : WL J SC Yc) (hM : WL J SM Ym) (ha : APT Yc Ym) {wc wm : Wd} (hR : REL n wc (yc Yc) wm) {x3 : Int32} (hi : AIN J x3) (kk : KQ REL (n + 1) J Ym x3) : LJ J 881 (LVs J Yc Ym x3) [] (kq (yc Yc)) (nq (yc Yc)) Yc wc Ym wm := by
  have hcap := hb _ _ _ _ hR
  refine jk_aload_n hJ 1 rfl dL_law_881 ?_
  refine jk_aload_n hJ 0 rfl dL_law_882 ?_
  refine jk_iload_n hJ 3 rfl dL_law_883 ?_
  refine jk_iconst hJ 1 rfl dL_law_884 ?_
  refine jk_iadd hJ dL_law_885 ?_
  refine jk_sld hJ hi.1 dL_law_886 ?_
  refine jk_aload_n hJ 0 rfl dL_law_887 ?_
  refine jk_iload_n hJ 3 rfl dL_law_888 ?_
  refine jk_iconst hJ 2 rfl dL_law_889 ?_
  refine jk_iadd hJ dL_law_890 ?_
  refine jk_sld hJ hi.2.1 dL_law_891 ?_
  have hz : ∃ bb : Int32, (bb = 0 ∨ bb = 1) ∧ (jxs J (x3 + 2).toNatClampNeg = 0 → bb = 0) ∧ (¬ jxs J (x3 + 2).toNatClampNeg = 0 → bb = 1) := by
    by_cases h : jxs J (x3 + 2).toNatClampNeg = 0
    · exact ⟨0, Or.inl rfl, fun _ => rfl, fun h2 => absurd h h2⟩
    · exact ⟨1, Or.inr rfl, fun h2 => absurd h2 h, fun _ => rfl⟩
  obtain ⟨bb, hbb, hb0, hb1⟩ := hz
  obtain ⟨r, wc1, cap1, wm1, e1, e2, hle, hR1⟩ := hs _ _ _ _ hn hR (jxs J (x3 + 1).toNatClampNeg) bb hbb
  have hcap1 := hb _ _ _ _ hR1
  have hk1 : kq (yc Yc) + (cap1 - yc Yc) = kq cap1 := kq_add hcap.1 hle
  have hn1 : nq (yc Yc) + 20 * (cap1 - yc Yc) = nq cap1 := nq_add hcap.1 hle
  have mid2 : ∀ (Y : Ev), MV Yc Y → yc Y = cap1 → WL J SC Y → APT Y Ym → LJ J 922 (LVs J Y Ym x3) [.int bb, .int (jxs J (x3 + 1).toNatClampNeg), .ref (ph Ym 0), .int r] (kq cap1) (nq cap1) Y wc1 Ym wm := by
    intro Y hv hy hC1 ha1
    refine jk_callM hJ hM ha1.sy (d' := 27) ml_RL_114 rc_12 obM_0 (by decide) (As := [.int (jxs J (x3 + 1).toNatClampNeg), .int bb]) (st := [.int r]) (r := r) (w1 := wm1) (by rw [← e2]; exact c_X12_sure (jl J) Ym hM.1 _ _ wm) rfl rfl (Nat.le_of_ble_eq_true rfl) (kq_le hcap1) (nq_le hcap1) dL_law_922 ?_
    refine jk_eq hJ (tgt := 1236) (by decide) dL_law_925 ?_
    have := kk Y wc1 wm1 hC1 ha1 ha1.sy (by rw [hy]; exact hR1)
    rw [hy] at this
    exact this
  have mid1 : LJ J 900 (LVs J Yc Ym x3) [.int bb, .int (jxs J (x3 + 1).toNatClampNeg), .ref (ph Yc 0)] (kq (yc Yc)) (nq (yc Yc)) Yc wc Ym wm := by
    refine jk_callCM hJ hC ha (d' := 9) (cap := cap1) ml_RL_110 rc_11 obC_0 (by decide) (As := [.int (jxs J (x3 + 1).toNatClampNeg), .int bb]) (st := []) (r := r) (w1 := wc1) (by rw [← e1]; exact c_X11_sure (jl J) Yc hC.1 _ _ wc) rfl rfl (by decide) (by rw [hk1]; exact kq_le hcap1) (by rw [hn1]; exact nq_le hcap1) dL_law_900 ?_
    intro Y hv hy hC1 ha1
    rw [hk1, hn1]
    have e0 : LVs J Yc Ym x3 = LVs J Y Ym x3 := by unfold LVs; rw [hv.2.2.2.2.2.2.1 0 rfl]
    rw [e0]
    refine jk_aload_n hJ 2 rfl dL_law_903 ?_
    refine jk_aload_n hJ 0 rfl dL_law_904 ?_
    refine jk_iload_n hJ 3 rfl dL_law_905 ?_
    refine jk_iconst hJ 1 rfl dL_law_906 ?_
    refine jk_iadd hJ dL_law_907 ?_
    refine jk_sld hJ hi.1 dL_law_908 ?_
    refine jk_aload_n hJ 0 rfl dL_law_909 ?_
    refine jk_iload_n hJ 3 rfl dL_law_910 ?_
    refine jk_iconst hJ 2 rfl dL_law_911 ?_
    refine jk_iadd hJ dL_law_912 ?_
    refine jk_sld hJ hi.2.1 dL_law_913 ?_
    refine jk_eq0 hJ (tgt := 921) (by decide) dL_law_914 (fun h => ?_) (fun h => ?_)
    · refine jk_iconst hJ 0 rfl dL_law_921 ?_
      have := hb0 h; subst this
      exact mid2 Y hv hy hC1 ha1
    · refine jk_iconst hJ 1 rfl dL_law_917 ?_
      refine jk_goto hJ (tgt := 922) (by decide) dL_law_918 ?_
      have := hb1 h; subst this
      exact mid2 Y hv hy hC1 ha1
  refine jk_eq0 hJ (tgt := 899) (by decide) dL_law_892 (fun h => ?_) (fun h => ?_)
  · refine jk_iconst hJ 0 rfl dL_law_899 ?_
    have := hb0 h; subst this
    exact mid1
  · refine jk_iconst hJ 1 rfl dL_law_895 ?_
    refine jk_goto hJ (tgt := 900) (by decide) dL_law_896 ?_
    have := hb1 h; subst this
    exact mid1
theorem lc_surely {REL : Nat → Wd → Nat → Wd → Prop} (hs : ST_surely REL) (hb : HB REL) {n : Nat} (hn : n < 512) {J : Lz} (hJ : JOK J) {Yc Ym : Ev} (hC : WL J SC Yc) (hM : WL J SM Ym) (ha : APT Yc Ym) {wc wm : Wd} (hR : REL n wc (yc Yc) wm) {x3 : Int32} (hi : AIN J x3) (kk : KQ REL (n + 1) J Ym x3) : LJ J 930 (LVs J Yc Ym x3) [] (kq (yc Yc)) (nq (yc Yc)) Yc wc Ym wm := by
  have hcap := hb _ _ _ _ hR
  obtain ⟨r, wc1, wm1, e1, e2, hR1⟩ := hs _ _ _ _ hn hR (jxs J (x3 + 1).toNatClampNeg)
  refine jk_aload_n hJ 1 rfl dL_law_930 ?_
  refine jk_aload_n hJ 0 rfl dL_law_931 ?_
  refine jk_iload_n hJ 3 rfl dL_law_932 ?_
  refine jk_iconst hJ 1 rfl dL_law_933 ?_
  refine jk_iadd hJ dL_law_934 ?_
  refine jk_sld hJ hi.1 dL_law_935 ?_
  refine jk_callC hJ hC ha (d' := 6) ml_RL_115 rc_11 obC_0 (by decide) (As := [.int (jxs J (x3 + 1).toNatClampNeg)]) (st := []) (r := r) (w1 := wc1) (by rw [← e1]; exact c_X11_surely (jl J) Yc hC.1 _ wc) rfl rfl (by decide) (kq_le hcap) (nq_le hcap) dL_law_936 ?_
  refine jk_aload_n hJ 2 rfl dL_law_939 ?_
  refine jk_aload_n hJ 0 rfl dL_law_940 ?_
  refine jk_iload_n hJ 3 rfl dL_law_941 ?_
  refine jk_iconst hJ 1 rfl dL_law_942 ?_
  refine jk_iadd hJ dL_law_943 ?_
  refine jk_sld hJ hi.1 dL_law_944 ?_
  refine jk_callM hJ hM ha.sy (d' := 25) ml_RL_118 rc_12 obM_0 (by decide) (As := [.int (jxs J (x3 + 1).toNatClampNeg)]) (st := [.int r]) (r := r) (w1 := wm1) (by rw [← e2]; exact c_X12_surely (jl J) Ym hM.1 _ wm) rfl rfl (Nat.le_of_ble_eq_true rfl) (kq_le hcap) (nq_le hcap) dL_law_945 ?_
  refine jk_eq hJ (tgt := 1236) (by decide) dL_law_948 ?_
  exact kk Yc wc1 wm1 hC ha ha.sy hR1
theorem lc_hangs {REL : Nat → Wd → Nat → Wd → Prop} (hs : ST_hangs REL) (hb : HB REL) {n : Nat} (hn : n < 512) {J : Lz} (hJ : JOK J) {Yc Ym : Ev} (hC : WL J SC Yc) (hM : WL J SM Ym) (ha : APT Yc Ym) {wc wm : Wd} (hR : REL n wc (yc Yc) wm) {x3 : Int32} (hi : AIN J x3) (kk : KQ REL (n + 1) J Ym x3) : LJ J 953 (LVs J Yc Ym x3) [] (kq (yc Yc)) (nq (yc Yc)) Yc wc Ym wm := by
  have hcap := hb _ _ _ _ hR
  obtain ⟨r, wc1, cap1, wm1, e1, e2, hle, hR1⟩ := hs _ _ _ _ hn hR (jxs J (x3 + 1).toNatClampNeg)
  have hcap1 := hb _ _ _ _ hR1
  have hk1 : kq (yc Yc) + (cap1 - yc Yc) = kq cap1 := kq_add hcap.1 hle
  have hn1 : nq (yc Yc) + 20 * (cap1 - yc Yc) = nq cap1 := nq_add hcap.1 hle
  refine jk_aload_n hJ 1 rfl dL_law_953 ?_
  refine jk_aload_n hJ 0 rfl dL_law_954 ?_
  refine jk_iload_n hJ 3 rfl dL_law_955 ?_
  refine jk_iconst hJ 1 rfl dL_law_956 ?_
  refine jk_iadd hJ dL_law_957 ?_
  refine jk_sld hJ hi.1 dL_law_958 ?_
  refine jk_callCM hJ hC ha (d' := 9) (cap := cap1) ml_RL_119 rc_11 obC_0 (by decide) (As := [.int (jxs J (x3 + 1).toNatClampNeg)]) (st := []) (r := r) (w1 := wc1) (by rw [← e1]; exact c_X11_hangs (jl J) Yc hC.1 _ wc) rfl rfl (by decide) (by rw [hk1]; exact kq_le hcap1) (by rw [hn1]; exact nq_le hcap1) dL_law_959 ?_
  intro Y hv hy hC1 ha1
  rw [hk1, hn1]
  have e0 : LVs J Yc Ym x3 = LVs J Y Ym x3 := by unfold LVs; rw [hv.2.2.2.2.2.2.1 0 rfl]
  rw [e0]
  refine jk_aload_n hJ 2 rfl dL_law_962 ?_
  refine jk_aload_n hJ 0 rfl dL_law_963 ?_
  refine jk_iload_n hJ 3 rfl dL_law_964 ?_
  refine jk_iconst hJ 1 rfl dL_law_965 ?_
  refine jk_iadd hJ dL_law_966 ?_
  refine jk_sld hJ hi.1 dL_law_967 ?_
  refine jk_callM hJ hM ha1.sy (d' := 27) ml_RL_122 rc_12 obM_0 (by decide) (As := [.int (jxs J (x3 + 1).toNatClampNeg)]) (st := [.int r]) (r := r) (w1 := wm1) (by rw [← e2]; exact c_X12_hangs (jl J) Ym hM.1 _ wm) rfl rfl (Nat.le_of_ble_eq_true rfl) (kq_le hcap1) (nq_le hcap1) dL_law_968 ?_
  refine jk_eq hJ (tgt := 1236) (by decide) dL_law_971 ?_
  have := kk Y wc1 wm1 hC1 ha1 ha1.sy (by rw [hy]; exact hR1)
  rw [hy] at this
  exact this
theorem lc_outcomes {REL : Nat → Wd → Nat → Wd → Prop} (hs : ST_outcomes REL) (hb : HB REL) {n : Nat} (hn : n < 512) {J : Lz} (hJ : JOK J) {Yc Ym : Ev} (hC : WL J SC Yc) (hM : WL J SM Ym) (ha : APT Yc Ym) {wc wm : Wd} (hR : REL n wc (yc Yc) wm) {x3 : Int32} (hi : AIN J x3) (kk : KQ REL (n + 1) J Ym x3) : LJ J 976 (LVs J Yc Ym x3) [] (kq (yc Yc)) (nq (yc Yc)) Yc wc Ym wm := by
  have hcap := hb _ _ _ _ hR
  obtain ⟨r, wc1, cap1, wm1, e1, e2, hle, hR1⟩ := hs _ _ _ _ hn hR 
  have hcap1 := hb _ _ _ _ hR1
  have hk1 : kq (yc Yc) + (cap1 - yc Yc) = kq cap1 := kq_add hcap.1 hle
  have hn1 : nq (yc Yc) + 20 * (cap1 - yc Yc) = nq cap1 := nq_add hcap.1 hle
  refine jk_aload_n hJ 1 rfl dL_law_976 ?_
  refine jk_callCM hJ hC ha (d' := 9) (cap := cap1) ml_RL_123 rc_11 obC_0 (by decide) (As := []) (st := []) (r := r) (w1 := wc1) (by rw [← e1]; exact c_X11_outcomes (jl J) Yc hC.1  wc) rfl rfl (by decide) (by rw [hk1]; exact kq_le hcap1) (by rw [hn1]; exact nq_le hcap1) dL_law_977 ?_
  intro Y hv hy hC1 ha1
  rw [hk1, hn1]
  have e0 : LVs J Yc Ym x3 = LVs J Y Ym x3 := by unfold LVs; rw [hv.2.2.2.2.2.2.1 0 rfl]
  rw [e0]
  refine jk_aload_n hJ 2 rfl dL_law_980 ?_
  refine jk_callM hJ hM ha1.sy (d' := 27) ml_RL_126 rc_12 obM_0 (by decide) (As := []) (st := [.int r]) (r := r) (w1 := wm1) (by rw [← e2]; exact c_X12_outcomes (jl J) Ym hM.1  wm) rfl rfl (Nat.le_of_ble_eq_true rfl) (kq_le hcap1) (nq_le hcap1) dL_law_981 ?_
  refine jk_eq hJ (tgt := 1236) (by decide) dL_law_984 ?_
  have := kk Y wc1 wm1 hC1 ha1 ha1.sy (by rw [hy]; exact hR1)
  rw [hy] at this
  exact this
theorem lc_ask {REL : Nat → Wd → Nat → Wd → Prop} (hs : ST_ask REL) (hb : HB REL) {n : Nat} (hn : n < 512) {J : Lz} (hJ : JOK J) {Yc Ym : Ev} (hC : WL J SC Yc) (hM : WL J SM Ym) (ha : APT Yc Ym) {wc wm : Wd} (hR : REL n wc (yc Yc) wm) {x3 : Int32} (hi : AIN J x3) (kk : KQ REL (n + 1) J Ym x3) : LJ J 989 (LVs J Yc Ym x3) [] (kq (yc Yc)) (nq (yc Yc)) Yc wc Ym wm := by
  have hcap := hb _ _ _ _ hR
  obtain ⟨r, wc1, cap1, wm1, e1, e2, hle, hR1⟩ := hs _ _ _ _ hn hR 
  have hcap1 := hb _ _ _ _ hR1
  have hk1 : kq (yc Yc) + (cap1 - yc Yc) = kq cap1 := kq_add hcap.1 hle
  have hn1 : nq (yc Yc) + 20 * (cap1 - yc Yc) = nq cap1 := nq_add hcap.1 hle
  refine jk_aload_n hJ 1 rfl dL_law_989 ?_
  refine jk_callCM hJ hC ha (d' := 9) (cap := cap1) ml_RL_127 rc_11 obC_0 (by decide) (As := []) (st := []) (r := r) (w1 := wc1) (by rw [← e1]; exact c_X11_ask (jl J) Yc hC.1  wc) rfl rfl (by decide) (by rw [hk1]; exact kq_le hcap1) (by rw [hn1]; exact nq_le hcap1) dL_law_990 ?_
  intro Y hv hy hC1 ha1
  rw [hk1, hn1]
  have e0 : LVs J Yc Ym x3 = LVs J Y Ym x3 := by unfold LVs; rw [hv.2.2.2.2.2.2.1 0 rfl]
  rw [e0]
  refine jk_aload_n hJ 2 rfl dL_law_993 ?_
  refine jk_callM hJ hM ha1.sy (d' := 27) ml_RL_130 rc_12 obM_0 (by decide) (As := []) (st := [.int r]) (r := r) (w1 := wm1) (by rw [← e2]; exact c_X12_ask (jl J) Ym hM.1  wm) rfl rfl (Nat.le_of_ble_eq_true rfl) (kq_le hcap1) (nq_le hcap1) dL_law_994 ?_
  refine jk_eq hJ (tgt := 1236) (by decide) dL_law_997 ?_
  have := kk Y wc1 wm1 hC1 ha1 ha1.sy (by rw [hy]; exact hR1)
  rw [hy] at this
  exact this
theorem lc_says {REL : Nat → Wd → Nat → Wd → Prop} (hs : ST_says REL) (hb : HB REL) {n : Nat} (hn : n < 512) {J : Lz} (hJ : JOK J) {Yc Ym : Ev} (hC : WL J SC Yc) (hM : WL J SM Ym) (ha : APT Yc Ym) {wc wm : Wd} (hR : REL n wc (yc Yc) wm) {x3 : Int32} (hi : AIN J x3) (kk : KQ REL (n + 1) J Ym x3) : LJ J 1002 (LVs J Yc Ym x3) [] (kq (yc Yc)) (nq (yc Yc)) Yc wc Ym wm := by
  have hcap := hb _ _ _ _ hR
  obtain ⟨r, wc1, wm1, e1, e2, hR1⟩ := hs _ _ _ _ hn hR (jxs J (x3 + 1).toNatClampNeg) (jxs J (x3 + 2).toNatClampNeg) (jxs J (x3 + 3).toNatClampNeg)
  refine jk_aload_n hJ 1 rfl dL_law_1002 ?_
  refine jk_aload_n hJ 0 rfl dL_law_1003 ?_
  refine jk_iload_n hJ 3 rfl dL_law_1004 ?_
  refine jk_iconst hJ 1 rfl dL_law_1005 ?_
  refine jk_iadd hJ dL_law_1006 ?_
  refine jk_sld hJ hi.1 dL_law_1007 ?_
  refine jk_aload_n hJ 0 rfl dL_law_1008 ?_
  refine jk_iload_n hJ 3 rfl dL_law_1009 ?_
  refine jk_iconst hJ 2 rfl dL_law_1010 ?_
  refine jk_iadd hJ dL_law_1011 ?_
  refine jk_sld hJ hi.2.1 dL_law_1012 ?_
  refine jk_aload_n hJ 0 rfl dL_law_1013 ?_
  refine jk_iload_n hJ 3 rfl dL_law_1014 ?_
  refine jk_iconst hJ 3 rfl dL_law_1015 ?_
  refine jk_iadd hJ dL_law_1016 ?_
  refine jk_sld hJ hi.2.2.1 dL_law_1017 ?_
  refine jk_callC hJ hC ha (d' := 2) ml_RL_131 rc_11 obC_0 (by decide) (As := [.int (jxs J (x3 + 1).toNatClampNeg), .int (jxs J (x3 + 2).toNatClampNeg), .int (jxs J (x3 + 3).toNatClampNeg)]) (st := []) (r := r) (w1 := wc1) (by rw [← e1]; exact c_X11_says (jl J) Yc hC.1 _ _ _ wc) rfl rfl (by decide) (kq_le hcap) (nq_le hcap) dL_law_1018 ?_
  refine jk_aload_n hJ 2 rfl dL_law_1021 ?_
  refine jk_aload_n hJ 0 rfl dL_law_1022 ?_
  refine jk_iload_n hJ 3 rfl dL_law_1023 ?_
  refine jk_iconst hJ 1 rfl dL_law_1024 ?_
  refine jk_iadd hJ dL_law_1025 ?_
  refine jk_sld hJ hi.1 dL_law_1026 ?_
  refine jk_aload_n hJ 0 rfl dL_law_1027 ?_
  refine jk_iload_n hJ 3 rfl dL_law_1028 ?_
  refine jk_iconst hJ 2 rfl dL_law_1029 ?_
  refine jk_iadd hJ dL_law_1030 ?_
  refine jk_sld hJ hi.2.1 dL_law_1031 ?_
  refine jk_aload_n hJ 0 rfl dL_law_1032 ?_
  refine jk_iload_n hJ 3 rfl dL_law_1033 ?_
  refine jk_iconst hJ 3 rfl dL_law_1034 ?_
  refine jk_iadd hJ dL_law_1035 ?_
  refine jk_sld hJ hi.2.2.1 dL_law_1036 ?_
  refine jk_callM hJ hM ha.sy (d' := 3) ml_RL_134 rc_12 obM_0 (by decide) (As := [.int (jxs J (x3 + 1).toNatClampNeg), .int (jxs J (x3 + 2).toNatClampNeg), .int (jxs J (x3 + 3).toNatClampNeg)]) (st := [.int r]) (r := r) (w1 := wm1) (by rw [← e2]; exact c_X12_says (jl J) Ym hM.1 _ _ _ wm) rfl rfl (Nat.le_of_ble_eq_true rfl) (kq_le hcap) (nq_le hcap) dL_law_1037 ?_
  refine jk_eq hJ (tgt := 1236) (by decide) dL_law_1040 ?_
  exact kk Yc wc1 wm1 hC ha ha.sy hR1
theorem lc_tells {REL : Nat → Wd → Nat → Wd → Prop} (hs : ST_tells REL) (hb : HB REL) {n : Nat} (hn : n < 512) {J : Lz} (hJ : JOK J) {Yc Ym : Ev} (hC : WL J SC Yc) (hM : WL J SM Ym) (ha : APT Yc Ym) {wc wm : Wd} (hR : REL n wc (yc Yc) wm) {x3 : Int32} (hi : AIN J x3) (kk : KQ REL (n + 1) J Ym x3) : LJ J 1045 (LVs J Yc Ym x3) [] (kq (yc Yc)) (nq (yc Yc)) Yc wc Ym wm := by
  have hcap := hb _ _ _ _ hR
  obtain ⟨r, wc1, wm1, e1, e2, hR1⟩ := hs _ _ _ _ hn hR (jxs J (x3 + 1).toNatClampNeg) (jxs J (x3 + 2).toNatClampNeg) (jxs J (x3 + 3).toNatClampNeg)
  refine jk_aload_n hJ 1 rfl dL_law_1045 ?_
  refine jk_aload_n hJ 0 rfl dL_law_1046 ?_
  refine jk_iload_n hJ 3 rfl dL_law_1047 ?_
  refine jk_iconst hJ 1 rfl dL_law_1048 ?_
  refine jk_iadd hJ dL_law_1049 ?_
  refine jk_sld hJ hi.1 dL_law_1050 ?_
  refine jk_aload_n hJ 0 rfl dL_law_1051 ?_
  refine jk_iload_n hJ 3 rfl dL_law_1052 ?_
  refine jk_iconst hJ 2 rfl dL_law_1053 ?_
  refine jk_iadd hJ dL_law_1054 ?_
  refine jk_sld hJ hi.2.1 dL_law_1055 ?_
  refine jk_aload_n hJ 0 rfl dL_law_1056 ?_
  refine jk_iload_n hJ 3 rfl dL_law_1057 ?_
  refine jk_iconst hJ 3 rfl dL_law_1058 ?_
  refine jk_iadd hJ dL_law_1059 ?_
  refine jk_sld hJ hi.2.2.1 dL_law_1060 ?_
  refine jk_callC hJ hC ha (d' := 3) ml_RL_135 rc_11 obC_0 (by decide) (As := [.int (jxs J (x3 + 1).toNatClampNeg), .int (jxs J (x3 + 2).toNatClampNeg), .int (jxs J (x3 + 3).toNatClampNeg)]) (st := []) (r := r) (w1 := wc1) (by rw [← e1]; exact c_X11_tells (jl J) Yc hC.1 _ _ _ wc) rfl rfl (by decide) (kq_le hcap) (nq_le hcap) dL_law_1061 ?_
  refine jk_aload_n hJ 2 rfl dL_law_1064 ?_
  refine jk_aload_n hJ 0 rfl dL_law_1065 ?_
  refine jk_iload_n hJ 3 rfl dL_law_1066 ?_
  refine jk_iconst hJ 1 rfl dL_law_1067 ?_
  refine jk_iadd hJ dL_law_1068 ?_
  refine jk_sld hJ hi.1 dL_law_1069 ?_
  refine jk_aload_n hJ 0 rfl dL_law_1070 ?_
  refine jk_iload_n hJ 3 rfl dL_law_1071 ?_
  refine jk_iconst hJ 2 rfl dL_law_1072 ?_
  refine jk_iadd hJ dL_law_1073 ?_
  refine jk_sld hJ hi.2.1 dL_law_1074 ?_
  refine jk_aload_n hJ 0 rfl dL_law_1075 ?_
  refine jk_iload_n hJ 3 rfl dL_law_1076 ?_
  refine jk_iconst hJ 3 rfl dL_law_1077 ?_
  refine jk_iadd hJ dL_law_1078 ?_
  refine jk_sld hJ hi.2.2.1 dL_law_1079 ?_
  refine jk_callM hJ hM ha.sy (d' := 3) ml_RL_138 rc_12 obM_0 (by decide) (As := [.int (jxs J (x3 + 1).toNatClampNeg), .int (jxs J (x3 + 2).toNatClampNeg), .int (jxs J (x3 + 3).toNatClampNeg)]) (st := [.int r]) (r := r) (w1 := wm1) (by rw [← e2]; exact c_X12_tells (jl J) Ym hM.1 _ _ _ wm) rfl rfl (Nat.le_of_ble_eq_true rfl) (kq_le hcap) (nq_le hcap) dL_law_1080 ?_
  refine jk_eq hJ (tgt := 1236) (by decide) dL_law_1083 ?_
  exact kk Yc wc1 wm1 hC ha ha.sy hR1
theorem lc_stories {REL : Nat → Wd → Nat → Wd → Prop} (hs : ST_stories REL) (hb : HB REL) {n : Nat} (hn : n < 512) {J : Lz} (hJ : JOK J) {Yc Ym : Ev} (hC : WL J SC Yc) (hM : WL J SM Ym) (ha : APT Yc Ym) {wc wm : Wd} (hR : REL n wc (yc Yc) wm) {x3 : Int32} (hi : AIN J x3) (kk : KQ REL (n + 1) J Ym x3) : LJ J 1088 (LVs J Yc Ym x3) [] (kq (yc Yc)) (nq (yc Yc)) Yc wc Ym wm := by
  have hcap := hb _ _ _ _ hR
  obtain ⟨r, wc1, wm1, e1, e2, hR1⟩ := hs _ _ _ _ hn hR (jxs J (x3 + 1).toNatClampNeg)
  refine jk_aload_n hJ 1 rfl dL_law_1088 ?_
  refine jk_aload_n hJ 0 rfl dL_law_1089 ?_
  refine jk_iload_n hJ 3 rfl dL_law_1090 ?_
  refine jk_iconst hJ 1 rfl dL_law_1091 ?_
  refine jk_iadd hJ dL_law_1092 ?_
  refine jk_sld hJ hi.1 dL_law_1093 ?_
  refine jk_callC hJ hC ha (d' := 6) ml_RL_139 rc_11 obC_0 (by decide) (As := [.int (jxs J (x3 + 1).toNatClampNeg)]) (st := []) (r := r) (w1 := wc1) (by rw [← e1]; exact c_X11_stories (jl J) Yc hC.1 _ wc) rfl rfl (by decide) (kq_le hcap) (nq_le hcap) dL_law_1094 ?_
  refine jk_aload_n hJ 2 rfl dL_law_1097 ?_
  refine jk_aload_n hJ 0 rfl dL_law_1098 ?_
  refine jk_iload_n hJ 3 rfl dL_law_1099 ?_
  refine jk_iconst hJ 1 rfl dL_law_1100 ?_
  refine jk_iadd hJ dL_law_1101 ?_
  refine jk_sld hJ hi.1 dL_law_1102 ?_
  refine jk_callM hJ hM ha.sy (d' := 5) ml_RL_142 rc_12 obM_0 (by decide) (As := [.int (jxs J (x3 + 1).toNatClampNeg)]) (st := [.int r]) (r := r) (w1 := wm1) (by rw [← e2]; exact c_X12_stories (jl J) Ym hM.1 _ wm) rfl rfl (Nat.le_of_ble_eq_true rfl) (kq_le hcap) (nq_le hcap) dL_law_1103 ?_
  refine jk_eq hJ (tgt := 1236) (by decide) dL_law_1106 ?_
  exact kk Yc wc1 wm1 hC ha ha.sy hR1
theorem lc_gain {REL : Nat → Wd → Nat → Wd → Prop} (hs : ST_gain REL) (hb : HB REL) {n : Nat} (hn : n < 512) {J : Lz} (hJ : JOK J) {Yc Ym : Ev} (hC : WL J SC Yc) (hM : WL J SM Ym) (ha : APT Yc Ym) {wc wm : Wd} (hR : REL n wc (yc Yc) wm) {x3 : Int32} (hi : AIN J x3) (kk : KQ REL (n + 1) J Ym x3) : LJ J 1111 (LVs J Yc Ym x3) [] (kq (yc Yc)) (nq (yc Yc)) Yc wc Ym wm := by
  have hcap := hb _ _ _ _ hR
  obtain ⟨r, wc1, cap1, wm1, e1, e2, hle, hR1⟩ := hs _ _ _ _ hn hR (jxs J (x3 + 1).toNatClampNeg)
  have hcap1 := hb _ _ _ _ hR1
  have hk1 : kq (yc Yc) + (cap1 - yc Yc) = kq cap1 := kq_add hcap.1 hle
  have hn1 : nq (yc Yc) + 20 * (cap1 - yc Yc) = nq cap1 := nq_add hcap.1 hle
  refine jk_aload_n hJ 1 rfl dL_law_1111 ?_
  refine jk_aload_n hJ 0 rfl dL_law_1112 ?_
  refine jk_iload_n hJ 3 rfl dL_law_1113 ?_
  refine jk_iconst hJ 1 rfl dL_law_1114 ?_
  refine jk_iadd hJ dL_law_1115 ?_
  refine jk_sld hJ hi.1 dL_law_1116 ?_
  refine jk_callCM hJ hC ha (d' := 9) (cap := cap1) ml_RL_143 rc_11 obC_0 (by decide) (As := [.int (jxs J (x3 + 1).toNatClampNeg)]) (st := []) (r := r) (w1 := wc1) (by rw [← e1]; exact c_X11_gain (jl J) Yc hC.1 _ wc) rfl rfl (by decide) (by rw [hk1]; exact kq_le hcap1) (by rw [hn1]; exact nq_le hcap1) dL_law_1117 ?_
  intro Y hv hy hC1 ha1
  rw [hk1, hn1]
  have e0 : LVs J Yc Ym x3 = LVs J Y Ym x3 := by unfold LVs; rw [hv.2.2.2.2.2.2.1 0 rfl]
  rw [e0]
  refine jk_aload_n hJ 2 rfl dL_law_1120 ?_
  refine jk_aload_n hJ 0 rfl dL_law_1121 ?_
  refine jk_iload_n hJ 3 rfl dL_law_1122 ?_
  refine jk_iconst hJ 1 rfl dL_law_1123 ?_
  refine jk_iadd hJ dL_law_1124 ?_
  refine jk_sld hJ hi.1 dL_law_1125 ?_
  refine jk_callM hJ hM ha1.sy (d' := 27) ml_RL_146 rc_12 obM_0 (by decide) (As := [.int (jxs J (x3 + 1).toNatClampNeg)]) (st := [.int r]) (r := r) (w1 := wm1) (by rw [← e2]; exact c_X12_gain (jl J) Ym hM.1 _ wm) rfl rfl (Nat.le_of_ble_eq_true rfl) (kq_le hcap1) (nq_le hcap1) dL_law_1126 ?_
  refine jk_eq hJ (tgt := 1236) (by decide) dL_law_1129 ?_
  have := kk Y wc1 wm1 hC1 ha1 ha1.sy (by rw [hy]; exact hR1)
  rw [hy] at this
  exact this
theorem lc_settle {REL : Nat → Wd → Nat → Wd → Prop} (hs : ST_settle REL) (hb : HB REL) {n : Nat} (hn : n < 512) {J : Lz} (hJ : JOK J) {Yc Ym : Ev} (hC : WL J SC Yc) (hM : WL J SM Ym) (ha : APT Yc Ym) {wc wm : Wd} (hR : REL n wc (yc Yc) wm) {x3 : Int32} (hi : AIN J x3) (kk : KQ REL (n + 1) J Ym x3) : LJ J 1134 (LVs J Yc Ym x3) [] (kq (yc Yc)) (nq (yc Yc)) Yc wc Ym wm := by
  have hcap := hb _ _ _ _ hR
  obtain ⟨r, wc1, cap1, wm1, e1, e2, hle, hR1⟩ := hs _ _ _ _ hn hR 
  have hcap1 := hb _ _ _ _ hR1
  have hk1 : kq (yc Yc) + (cap1 - yc Yc) = kq cap1 := kq_add hcap.1 hle
  have hn1 : nq (yc Yc) + 20 * (cap1 - yc Yc) = nq cap1 := nq_add hcap.1 hle
  refine jk_aload_n hJ 1 rfl dL_law_1134 ?_
  refine jk_callCM hJ hC ha (d' := 9) (cap := cap1) ml_RL_147 rc_11 obC_0 (by decide) (As := []) (st := []) (r := r) (w1 := wc1) (by rw [← e1]; exact c_X11_settle (jl J) Yc hC.1  wc) rfl rfl (by decide) (by rw [hk1]; exact kq_le hcap1) (by rw [hn1]; exact nq_le hcap1) dL_law_1135 ?_
  intro Y hv hy hC1 ha1
  rw [hk1, hn1]
  have e0 : LVs J Yc Ym x3 = LVs J Y Ym x3 := by unfold LVs; rw [hv.2.2.2.2.2.2.1 0 rfl]
  rw [e0]
  refine jk_aload_n hJ 2 rfl dL_law_1138 ?_
  refine jk_callM hJ hM ha1.sy (d' := 28) ml_RL_150 rc_12 obM_0 (by decide) (As := []) (st := [.int r]) (r := r) (w1 := wm1) (by rw [← e2]; exact c_X12_settle (jl J) Ym hM.1  wm) rfl rfl (Nat.le_of_ble_eq_true rfl) (kq_le hcap1) (nq_le hcap1) dL_law_1139 ?_
  refine jk_eq hJ (tgt := 1236) (by decide) dL_law_1142 ?_
  have := kk Y wc1 wm1 hC1 ha1 ha1.sy (by rw [hy]; exact hR1)
  rw [hy] at this
  exact this
theorem lc_floor {REL : Nat → Wd → Nat → Wd → Prop} (hs : ST_floor REL) (hb : HB REL) {n : Nat} (hn : n < 512) {J : Lz} (hJ : JOK J) {Yc Ym : Ev} (hC : WL J SC Yc) (hM : WL J SM Ym) (ha : APT Yc Ym) {wc wm : Wd} (hR : REL n wc (yc Yc) wm) {x3 : Int32} (hi : AIN J x3) (kk : KQ REL (n + 1) J Ym x3) : LJ J 1147 (LVs J Yc Ym x3) [] (kq (yc Yc)) (nq (yc Yc)) Yc wc Ym wm := by
  have hcap := hb _ _ _ _ hR
  obtain ⟨r, wc1, cap1, wm1, e1, e2, hle, hR1⟩ := hs _ _ _ _ hn hR (jxs J (x3 + 1).toNatClampNeg)
  have hcap1 := hb _ _ _ _ hR1
  have hk1 : kq (yc Yc) + (cap1 - yc Yc) = kq cap1 := kq_add hcap.1 hle
  have hn1 : nq (yc Yc) + 20 * (cap1 - yc Yc) = nq cap1 := nq_add hcap.1 hle
  refine jk_aload_n hJ 1 rfl dL_law_1147 ?_
  refine jk_aload_n hJ 0 rfl dL_law_1148 ?_
  refine jk_iload_n hJ 3 rfl dL_law_1149 ?_
  refine jk_iconst hJ 1 rfl dL_law_1150 ?_
  refine jk_iadd hJ dL_law_1151 ?_
  refine jk_sld hJ hi.1 dL_law_1152 ?_
  refine jk_callCM hJ hC ha (d' := 9) (cap := cap1) ml_RL_151 rc_11 obC_0 (by decide) (As := [.int (jxs J (x3 + 1).toNatClampNeg)]) (st := []) (r := r) (w1 := wc1) (by rw [← e1]; exact c_X11_floor (jl J) Yc hC.1 _ wc) rfl rfl (by decide) (by rw [hk1]; exact kq_le hcap1) (by rw [hn1]; exact nq_le hcap1) dL_law_1153 ?_
  intro Y hv hy hC1 ha1
  rw [hk1, hn1]
  have e0 : LVs J Yc Ym x3 = LVs J Y Ym x3 := by unfold LVs; rw [hv.2.2.2.2.2.2.1 0 rfl]
  rw [e0]
  refine jk_aload_n hJ 2 rfl dL_law_1156 ?_
  refine jk_aload_n hJ 0 rfl dL_law_1157 ?_
  refine jk_iload_n hJ 3 rfl dL_law_1158 ?_
  refine jk_iconst hJ 1 rfl dL_law_1159 ?_
  refine jk_iadd hJ dL_law_1160 ?_
  refine jk_sld hJ hi.1 dL_law_1161 ?_
  refine jk_callM hJ hM ha1.sy (d' := 28) ml_RL_154 rc_12 obM_0 (by decide) (As := [.int (jxs J (x3 + 1).toNatClampNeg)]) (st := [.int r]) (r := r) (w1 := wm1) (by rw [← e2]; exact c_X12_floor (jl J) Ym hM.1 _ wm) rfl rfl (Nat.le_of_ble_eq_true rfl) (kq_le hcap1) (nq_le hcap1) dL_law_1162 ?_
  refine jk_eq hJ (tgt := 1236) (by decide) dL_law_1165 ?_
  have := kk Y wc1 wm1 hC1 ha1 ha1.sy (by rw [hy]; exact hR1)
  rw [hy] at this
  exact this
theorem lc_mend {REL : Nat → Wd → Nat → Wd → Prop} (hs : ST_mend REL) (hb : HB REL) {n : Nat} (hn : n < 512) {J : Lz} (hJ : JOK J) {Yc Ym : Ev} (hC : WL J SC Yc) (hM : WL J SM Ym) (ha : APT Yc Ym) {wc wm : Wd} (hR : REL n wc (yc Yc) wm) {x3 : Int32} (hi : AIN J x3) (kk : KQ REL (n + 1) J Ym x3) : LJ J 1170 (LVs J Yc Ym x3) [] (kq (yc Yc)) (nq (yc Yc)) Yc wc Ym wm := by
  have hcap := hb _ _ _ _ hR
  obtain ⟨r, wc1, wm1, e1, e2, hR1⟩ := hs _ _ _ _ hn hR (jxs J (x3 + 1).toNatClampNeg) (jxs J (x3 + 2).toNatClampNeg) (jxs J (x3 + 3).toNatClampNeg)
  refine jk_aload_n hJ 1 rfl dL_law_1170 ?_
  refine jk_aload_n hJ 0 rfl dL_law_1171 ?_
  refine jk_iload_n hJ 3 rfl dL_law_1172 ?_
  refine jk_iconst hJ 1 rfl dL_law_1173 ?_
  refine jk_iadd hJ dL_law_1174 ?_
  refine jk_sld hJ hi.1 dL_law_1175 ?_
  refine jk_aload_n hJ 0 rfl dL_law_1176 ?_
  refine jk_iload_n hJ 3 rfl dL_law_1177 ?_
  refine jk_iconst hJ 2 rfl dL_law_1178 ?_
  refine jk_iadd hJ dL_law_1179 ?_
  refine jk_sld hJ hi.2.1 dL_law_1180 ?_
  refine jk_aload_n hJ 0 rfl dL_law_1181 ?_
  refine jk_iload_n hJ 3 rfl dL_law_1182 ?_
  refine jk_iconst hJ 3 rfl dL_law_1183 ?_
  refine jk_iadd hJ dL_law_1184 ?_
  refine jk_sld hJ hi.2.2.1 dL_law_1185 ?_
  refine jk_callC hJ hC ha (d' := 8) ml_RL_155 rc_11 obC_0 (by decide) (As := [.int (jxs J (x3 + 1).toNatClampNeg), .int (jxs J (x3 + 2).toNatClampNeg), .int (jxs J (x3 + 3).toNatClampNeg)]) (st := []) (r := r) (w1 := wc1) (by rw [← e1]; exact c_X11_mend (jl J) Yc hC.1 _ _ _ wc) rfl rfl (by decide) (kq_le hcap) (nq_le hcap) dL_law_1186 ?_
  refine jk_aload_n hJ 2 rfl dL_law_1189 ?_
  refine jk_aload_n hJ 0 rfl dL_law_1190 ?_
  refine jk_iload_n hJ 3 rfl dL_law_1191 ?_
  refine jk_iconst hJ 1 rfl dL_law_1192 ?_
  refine jk_iadd hJ dL_law_1193 ?_
  refine jk_sld hJ hi.1 dL_law_1194 ?_
  refine jk_aload_n hJ 0 rfl dL_law_1195 ?_
  refine jk_iload_n hJ 3 rfl dL_law_1196 ?_
  refine jk_iconst hJ 2 rfl dL_law_1197 ?_
  refine jk_iadd hJ dL_law_1198 ?_
  refine jk_sld hJ hi.2.1 dL_law_1199 ?_
  refine jk_aload_n hJ 0 rfl dL_law_1200 ?_
  refine jk_iload_n hJ 3 rfl dL_law_1201 ?_
  refine jk_iconst hJ 3 rfl dL_law_1202 ?_
  refine jk_iadd hJ dL_law_1203 ?_
  refine jk_sld hJ hi.2.2.1 dL_law_1204 ?_
  refine jk_callM hJ hM ha.sy (d' := 27) ml_RL_158 rc_12 obM_0 (by decide) (As := [.int (jxs J (x3 + 1).toNatClampNeg), .int (jxs J (x3 + 2).toNatClampNeg), .int (jxs J (x3 + 3).toNatClampNeg)]) (st := [.int r]) (r := r) (w1 := wm1) (by rw [← e2]; exact c_X12_mend (jl J) Ym hM.1 _ _ _ wm) rfl rfl (Nat.le_of_ble_eq_true rfl) (kq_le hcap) (nq_le hcap) dL_law_1205 ?_
  refine jk_eq hJ (tgt := 1236) (by decide) dL_law_1208 ?_
  exact kk Yc wc1 wm1 hC ha ha.sy hR1
theorem lc_count {REL : Nat → Wd → Nat → Wd → Prop} (hs : ST_count REL) (hb : HB REL) {n : Nat} (hn : n < 512) {J : Lz} (hJ : JOK J) {Yc Ym : Ev} (hC : WL J SC Yc) (hM : WL J SM Ym) (ha : APT Yc Ym) {wc wm : Wd} (hR : REL n wc (yc Yc) wm) {x3 : Int32} (hi : AIN J x3) (kk : KQ REL (n + 1) J Ym x3) : LJ J 1213 (LVs J Yc Ym x3) [] (kq (yc Yc)) (nq (yc Yc)) Yc wc Ym wm := by
  have hcap := hb _ _ _ _ hR
  obtain ⟨r, wc1, wm1, e1, e2, hR1⟩ := hs _ _ _ _ hn hR (jxs J (x3 + 1).toNatClampNeg)
  refine jk_aload_n hJ 1 rfl dL_law_1213 ?_
  refine jk_aload_n hJ 0 rfl dL_law_1214 ?_
  refine jk_iload_n hJ 3 rfl dL_law_1215 ?_
  refine jk_iconst hJ 1 rfl dL_law_1216 ?_
  refine jk_iadd hJ dL_law_1217 ?_
  refine jk_sld hJ hi.1 dL_law_1218 ?_
  refine jk_callC hJ hC ha (d' := 2) ml_RL_159 rc_11 obC_0 (by decide) (As := [.int (jxs J (x3 + 1).toNatClampNeg)]) (st := []) (r := r) (w1 := wc1) (by rw [← e1]; exact c_X11_count (jl J) Yc hC.1 _ wc) rfl rfl (by decide) (kq_le hcap) (nq_le hcap) dL_law_1219 ?_
  refine jk_aload_n hJ 2 rfl dL_law_1222 ?_
  refine jk_aload_n hJ 0 rfl dL_law_1223 ?_
  refine jk_iload_n hJ 3 rfl dL_law_1224 ?_
  refine jk_iconst hJ 1 rfl dL_law_1225 ?_
  refine jk_iadd hJ dL_law_1226 ?_
  refine jk_sld hJ hi.1 dL_law_1227 ?_
  refine jk_callM hJ hM ha.sy (d' := 2) ml_RL_162 rc_12 obM_0 (by decide) (As := [.int (jxs J (x3 + 1).toNatClampNeg)]) (st := [.int r]) (r := r) (w1 := wm1) (by rw [← e2]; exact c_X12_count (jl J) Ym hM.1 _ wm) rfl rfl (Nat.le_of_ble_eq_true rfl) (kq_le hcap) (nq_le hcap) dL_law_1228 ?_
  refine jk_eq hJ (tgt := 1236) (by decide) dL_law_1231 ?_
  exact kk Yc wc1 wm1 hC ha ha.sy hR1
