-- X10_lesser TreeHandsModel.lesser(II)I
def rm_X10_lesser : Room := { frames := 0, cells := 0, slots := 0, locals := 0 }
theorem hy_X10_lesser : yX10_lesser.cls ≠ "java/lang/invoke/MethodHandle" ∧ yX10_lesser.cls ≠ "java/lang/invoke/VarHandle" ∧ (parseMethodDescriptor yX10_lesser.desc).map (fun d => d.parameters.length) = some 2 := by decide +kernel
abbrev R_X10_lesser (V : VV) (x0 x1 : Int) (M : Mem) (Q : Int → Mem → Prop) : Prop := RunsM V yX10_lesser (.code yX10_lesser cX10_lesser 2 (Option.some Jvm.ClassFile.FieldType.int)) rm_X10_lesser 0 [(0, x0), (0, x1)] M Q
def wp_X10_lesser (V : VV) (x0 x1 : Int) (M : Mem) (Q : Int → Mem → Prop) : Prop :=
  (x1 ≤ x0 →
    Q x1 M) ∧ (¬ (x1 ≤ x0) →
    Q x0 M)
theorem of_X10_lesser {V : VV} {x0 x1 : Int} {M : Mem} {Q : Int → Mem → Prop} (h : wp_X10_lesser V x0 x1 M Q) : R_X10_lesser V x0 x1 M Q := by
  refine met_in (own := "TreeHandsModel") (by decide +kernel) rfl rfl (Nat.le_of_ble_eq_true rfl) ?_
  intro X G Z hn hr hv
  subst hv
  unfold wp_X10_lesser at h
  show AW X 0 [(0, x0), (0, x1)] [] M
  refine am_iload_n (i := 0) (pc := 0) G dX10_lesser_0 rfl rfl ?_
  refine am_iload_n (i := 1) (pc := 1) G dX10_lesser_1 rfl rfl ?_
  refine am_icmp_ge (pc := 2) G 9 dX10_lesser_2 (by decide) (fun c => ?_) (fun c => ?_)
  · have h := h.1 c
    refine am_iload_n (i := 1) (pc := 9) G dX10_lesser_9 rfl rfl ?_
    exact am_iret (pc := 10) G Z dX10_lesser_10 h
  · have h := h.2 c
    refine am_iload_n (i := 0) (pc := 5) G dX10_lesser_5 rfl rfl ?_
    refine am_goto (pc := 6) G 10 dX10_lesser_6 (by decide) ?_
    exact am_iret (pc := 10) G Z dX10_lesser_10 h
-- X10_workForest TreeHandsModel.workForest(II)V
def rm_X10_workForest : Room := { frames := 1, cells := 0, slots := 0, locals := 21 }
theorem hy_X10_workForest : yX10_workForest.cls ≠ "java/lang/invoke/MethodHandle" ∧ yX10_workForest.cls ≠ "java/lang/invoke/VarHandle" ∧ (parseMethodDescriptor yX10_workForest.desc).map (fun d => d.parameters.length) = some 2 := by decide +kernel
abbrev R_X10_workForest (V : VV) (x1 x2 : Int) (M : Mem) (Q : Int → Mem → Prop) : Prop := RunsM V yX10_workForest (.code yX10_workForest cX10_workForest 10 (Option.none : Option Jvm.ClassFile.FieldType)) rm_X10_workForest 4 [(20, 203), (0, x1), (0, x2)] M Q
def wp_X10_workForest_339 (V : VV) (x1 x2 x3 x4 x5 x6 x7 x8 s0 : Int) (M : Mem) (Q : Int → Mem → Prop) (B148 : Int → Mem → Prop) (B158 : Int → Mem → Prop) : Prop :=
  R_X10_lesser V x7 s0 M (fun r5 M6 =>
  ((0 : Int) ≤ w32 (w32 (17 * x5) + x6) ∧ w32 (w32 (17 * x5) + x6) < (289 : Int)) ∧
  (x8 = 0 →
    B158 (w32 (x6 + 1)) (mset M6 219 (w32 (w32 (17 * x5) + x6)) r5)) ∧ (¬ (x8 = 0) →
    ∀ M7 : Mem, M7 = mset M6 219 (w32 (w32 (17 * x5) + x6)) r5 →
    ((0 : Int) ≤ w32 (w32 (17 * x5) + x6) ∧ w32 (w32 (17 * x5) + x6) < (289 : Int)) ∧
    ((0 : Int) ≤ w32 (w32 (17 * x5) + x6) ∧ w32 (w32 (17 * x5) + x6) < (289 : Int)) ∧
    B158 (w32 (x6 + 1)) (mset M7 218 (w32 (w32 (17 * x5) + x6)) (M7 219 (w32 (w32 (17 * x5) + x6))))))
theorem swp_X10_workForest_339 {X : XX} {Q : Int → Mem → Prop} (G : GX X cX10_workForest "TreeHandsModel") (Z : RX X 4 Q) (hn : nLX X = 10) (hr : roomX X = rm_X10_workForest) (x1 x2 x3 x4 x5 x6 x7 x8 s0 : Int) (M : Mem) (B148 : Int → Mem → Prop) (B158 : Int → Mem → Prop) (k148 : ∀ (z5 : Int) (N : Mem), B148 z5 N → AW X 148 [(20, 203), (0, x1), (0, x2), (0, x3), (0, x4), (0, z5), (99, 0), (99, 0), (99, 0), (99, 0)] [] N) (k158 : ∀ (z6 : Int) (N : Mem), B158 z6 N → AW X 158 [(20, 203), (0, x1), (0, x2), (0, x3), (0, x4), (0, x5), (0, z6), (99, 0), (99, 0), (99, 0)] [] N) (h : wp_X10_workForest_339 (vX X) x1 x2 x3 x4 x5 x6 x7 x8 s0 M Q B148 B158) : AW X 339 [(20, 203), (0, x1), (0, x2), (0, x3), (0, x4), (0, x5), (0, x6), (0, x7), (0, x8), (99, 0)] [(0, s0)] M := by
  unfold wp_X10_workForest_339 at h
  refine am_istore (pc := 339) G dX10_workForest_339 (nlx hn rfl) rfl ?_
  refine am_aload_n (i := 0) (t := 17) (pc := 341) (ls := [(20, _), (0, _), (0, _), (0, _), (0, _), (0, _), (0, _), (0, _), (0, _), (0, _)]) G dX10_workForest_341 rfl rfl rfl ?_
  refine gf_X10_21 (pc := 342) G dX10_workForest_342 tw_f_RX10_55 ?_
  refine am_bipush (pc := 345) G dX10_workForest_345 (by decide) (by decide) ?_
  refine am_iload (pc := 347) G dX10_workForest_347 rfl ?_
  refine am_imul (pc := 349) G dX10_workForest_349 ?_
  refine am_iload (pc := 350) G dX10_workForest_350 rfl ?_
  refine am_iadd (pc := 352) G dX10_workForest_352 ?_
  refine am_iload (pc := 353) G dX10_workForest_353 rfl ?_
  refine am_iload (pc := 355) G dX10_workForest_355 rfl ?_
  refine am_callS (rk := 0) (rmc := rm_X10_lesser) (st := [(0, _), (389, _)]) (pc := 357) G [(0, _), (0, _)] dX10_workForest_357 tw_m_RX10_167 tw_s_X10_lesser tw_z_RX10 tw_c_X10_lesser hy_X10_lesser (callrm hr rfl) rfl (RunsM.mono h (fun r5 M6 h => ?_)) Z.rm
  show AW X 360 _ [(0, _), (0, _), (389, _)] M6
  refine am_iast (pc := 360) G 289 dX10_workForest_360 (by decide) h.1 ?_
  have h := h.2
  refine am_iload (pc := 361) G dX10_workForest_361 rfl ?_
  refine am_if_eq (pc := 363) G 392 dX10_workForest_363 (by decide) (fun c => ?_) (fun c => ?_)
  · have h := h.1 c
    refine am_iinc (pc := 392) G dX10_workForest_392 rfl (nlx hn rfl) rfl ?_
    refine am_goto (pc := 395) (ls := [(20, _), (0, _), (0, _), (0, _), (0, _), (0, _), (0, _), (0, _), (0, _), (0, _)]) G 158 dX10_workForest_395 (by decide) ?_
    refine am_le (ls' := [(20, _), (0, _), (0, _), (0, _), (0, _), (0, _), (0, _), (99, 0), (99, 0), (99, 0)]) ⟨Or.inr rfl, ⟨Or.inr rfl, ⟨Or.inr rfl, ⟨Or.inr rfl, ⟨Or.inr rfl, ⟨Or.inr rfl, ⟨Or.inr rfl, ⟨Or.inl rfl, ⟨Or.inl rfl, ⟨Or.inl rfl, trivial⟩⟩⟩⟩⟩⟩⟩⟩⟩⟩ ?_
    exact k158 _ _ h
  · have h := h.2 c
    refine am_aload_n (i := 0) (t := 17) (pc := 366) G dX10_workForest_366 rfl rfl rfl ?_
    refine gf_X10_20 (pc := 367) G dX10_workForest_367 tw_f_RX10_52 ?_
    refine am_bipush (pc := 370) G dX10_workForest_370 (by decide) (by decide) ?_
    refine am_iload (pc := 372) G dX10_workForest_372 rfl ?_
    refine am_imul (pc := 374) G dX10_workForest_374 ?_
    refine am_iload (pc := 375) G dX10_workForest_375 rfl ?_
    refine am_iadd (pc := 377) G dX10_workForest_377 ?_
    refine am_aload_n (i := 0) (t := 17) (pc := 378) G dX10_workForest_378 rfl rfl rfl ?_
    refine gf_X10_21 (pc := 379) G dX10_workForest_379 tw_f_RX10_55 ?_
    refine am_bipush (pc := 382) G dX10_workForest_382 (by decide) (by decide) ?_
    refine am_iload (pc := 384) G dX10_workForest_384 rfl ?_
    refine am_imul (pc := 386) G dX10_workForest_386 ?_
    refine am_iload (pc := 387) G dX10_workForest_387 rfl ?_
    refine am_iadd (pc := 389) G dX10_workForest_389 ?_
    have h := h _ rfl
    refine am_iald (pc := 390) G 289 dX10_workForest_390 (by decide) h.1 ?_
    have h := h.2
    refine am_iast (pc := 391) G 289 dX10_workForest_391 (by decide) h.1 ?_
    have h := h.2
    refine am_iinc (pc := 392) G dX10_workForest_392 rfl (nlx hn rfl) rfl ?_
    refine am_goto (pc := 395) (ls := [(20, _), (0, _), (0, _), (0, _), (0, _), (0, _), (0, _), (0, _), (0, _), (0, _)]) G 158 dX10_workForest_395 (by decide) ?_
    refine am_le (ls' := [(20, _), (0, _), (0, _), (0, _), (0, _), (0, _), (0, _), (99, 0), (99, 0), (99, 0)]) ⟨Or.inr rfl, ⟨Or.inr rfl, ⟨Or.inr rfl, ⟨Or.inr rfl, ⟨Or.inr rfl, ⟨Or.inr rfl, ⟨Or.inr rfl, ⟨Or.inl rfl, ⟨Or.inl rfl, ⟨Or.inl rfl, trivial⟩⟩⟩⟩⟩⟩⟩⟩⟩⟩ ?_
    exact k158 _ _ h
def wp_X10_workForest_247 (V : VV) (x1 x2 x3 x4 x5 x6 x7 s0 : Int) (M : Mem) (Q : Int → Mem → Prop) (B148 : Int → Mem → Prop) (B158 : Int → Mem → Prop) : Prop :=
  (s0 = 0 →
    ((0 : Int) ≤ x5 ∧ x5 < (17 : Int)) ∧
    ((0 : Int) ≤ x6 ∧ x6 < (17 : Int)) ∧
    ((0 : Int) ≤ w32 (w32 (w32 (17 * w32 (M 212 x5 - 1)) + M 213 x6) - 1) ∧ w32 (w32 (w32 (17 * w32 (M 212 x5 - 1)) + M 213 x6) - 1) < (289 : Int)) ∧
    ((0 : Int) ≤ w32 (w32 (17 * x5) + x6) ∧ w32 (w32 (17 * x5) + x6) < (289 : Int)) ∧
    wp_X10_workForest_339 V x1 x2 x3 x4 x5 x6 x7 s0 (w32 (M 219 (w32 (w32 (w32 (17 * w32 (M 212 x5 - 1)) + M 213 x6) - 1)) + M 218 (w32 (w32 (17 * x5) + x6)))) M Q B148 B158) ∧ (¬ (s0 = 0) →
    ((0 : Int) ≤ w32 (w32 (w32 (17 * w32 (x5 - 1)) + x6) - 1) ∧ w32 (w32 (w32 (17 * w32 (x5 - 1)) + x6) - 1) < (289 : Int)) ∧
    ((0 : Int) ≤ x5 ∧ x5 < (17 : Int)) ∧
    ((0 : Int) ≤ x6 ∧ x6 < (17 : Int)) ∧
    ((0 : Int) ≤ w32 (w32 (16 * M 216 x5) + M 217 x6) ∧ w32 (w32 (16 * M 216 x5) + M 217 x6) < (256 : Int)) ∧
    wp_X10_workForest_339 V x1 x2 x3 x4 x5 x6 x7 s0 (w32 (M 219 (w32 (w32 (w32 (17 * w32 (x5 - 1)) + x6) - 1)) + M 214 (w32 (w32 (16 * M 216 x5) + M 217 x6)))) M Q B148 B158)
theorem swp_X10_workForest_247 {X : XX} {Q : Int → Mem → Prop} (G : GX X cX10_workForest "TreeHandsModel") (Z : RX X 4 Q) (hn : nLX X = 10) (hr : roomX X = rm_X10_workForest) (x1 x2 x3 x4 x5 x6 x7 s0 : Int) (M : Mem) (B148 : Int → Mem → Prop) (B158 : Int → Mem → Prop) (k148 : ∀ (z5 : Int) (N : Mem), B148 z5 N → AW X 148 [(20, 203), (0, x1), (0, x2), (0, x3), (0, x4), (0, z5), (99, 0), (99, 0), (99, 0), (99, 0)] [] N) (k158 : ∀ (z6 : Int) (N : Mem), B158 z6 N → AW X 158 [(20, 203), (0, x1), (0, x2), (0, x3), (0, x4), (0, x5), (0, z6), (99, 0), (99, 0), (99, 0)] [] N) (h : wp_X10_workForest_247 (vX X) x1 x2 x3 x4 x5 x6 x7 s0 M Q B148 B158) : AW X 247 [(20, 203), (0, x1), (0, x2), (0, x3), (0, x4), (0, x5), (0, x6), (0, x7), (99, 0), (99, 0)] [(0, s0)] M := by
  unfold wp_X10_workForest_247 at h
  refine am_istore (pc := 247) G dX10_workForest_247 (nlx hn rfl) rfl ?_
  refine am_iload (pc := 249) (ls := [(20, _), (0, _), (0, _), (0, _), (0, _), (0, _), (0, _), (0, _), (0, _), (99, _)]) G dX10_workForest_249 rfl ?_
  refine am_if_eq (pc := 251) G 298 dX10_workForest_251 (by decide) (fun c => ?_) (fun c => ?_)
  · have h := h.1 c
    refine am_aload_n (i := 0) (t := 17) (pc := 298) G dX10_workForest_298 rfl rfl rfl ?_
    refine gf_X10_21 (pc := 299) G dX10_workForest_299 tw_f_RX10_55 ?_
    refine am_bipush (pc := 302) G dX10_workForest_302 (by decide) (by decide) ?_
    refine am_aload_n (i := 0) (t := 17) (pc := 304) G dX10_workForest_304 rfl rfl rfl ?_
    refine gf_X10_14 (pc := 305) G dX10_workForest_305 tw_f_RX10_34 ?_
    refine am_iload (pc := 308) G dX10_workForest_308 rfl ?_
    refine am_iald (pc := 310) G 17 dX10_workForest_310 (by decide) h.1 ?_
    have h := h.2
    refine am_iconst (pc := 311) G dX10_workForest_311 (by decide) ?_
    refine am_isub (pc := 312) G dX10_workForest_312 ?_
    refine am_imul (pc := 313) G dX10_workForest_313 ?_
    refine am_aload_n (i := 0) (t := 17) (pc := 314) G dX10_workForest_314 rfl rfl rfl ?_
    refine gf_X10_15 (pc := 315) G dX10_workForest_315 tw_f_RX10_37 ?_
    refine am_iload (pc := 318) G dX10_workForest_318 rfl ?_
    refine am_iald (pc := 320) G 17 dX10_workForest_320 (by decide) h.1 ?_
    have h := h.2
    refine am_iadd (pc := 321) G dX10_workForest_321 ?_
    refine am_iconst (pc := 322) G dX10_workForest_322 (by decide) ?_
    refine am_isub (pc := 323) G dX10_workForest_323 ?_
    refine am_iald (pc := 324) G 289 dX10_workForest_324 (by decide) h.1 ?_
    have h := h.2
    refine am_aload_n (i := 0) (t := 17) (pc := 325) G dX10_workForest_325 rfl rfl rfl ?_
    refine gf_X10_20 (pc := 326) G dX10_workForest_326 tw_f_RX10_52 ?_
    refine am_bipush (pc := 329) G dX10_workForest_329 (by decide) (by decide) ?_
    refine am_iload (pc := 331) G dX10_workForest_331 rfl ?_
    refine am_imul (pc := 333) G dX10_workForest_333 ?_
    refine am_iload (pc := 334) G dX10_workForest_334 rfl ?_
    refine am_iadd (pc := 336) G dX10_workForest_336 ?_
    refine am_iald (pc := 337) G 289 dX10_workForest_337 (by decide) h.1 ?_
    have h := h.2
    refine am_iadd (pc := 338) G dX10_workForest_338 ?_
    refine am_le (ls' := [(20, _), (0, _), (0, _), (0, _), (0, _), (0, _), (0, _), (0, _), (0, _), (99, 0)]) ⟨Or.inr rfl, ⟨Or.inr rfl, ⟨Or.inr rfl, ⟨Or.inr rfl, ⟨Or.inr rfl, ⟨Or.inr rfl, ⟨Or.inr rfl, ⟨Or.inr rfl, ⟨Or.inr rfl, ⟨Or.inl rfl, trivial⟩⟩⟩⟩⟩⟩⟩⟩⟩⟩ ?_
    exact swp_X10_workForest_339 G Z hn hr _ _ _ _ _ _ _ _ _ _ B148 B158 k148 k158 h
  · have h := h.2 c
    refine am_aload_n (i := 0) (t := 17) (pc := 254) G dX10_workForest_254 rfl rfl rfl ?_
    refine gf_X10_21 (pc := 255) G dX10_workForest_255 tw_f_RX10_55 ?_
    refine am_bipush (pc := 258) G dX10_workForest_258 (by decide) (by decide) ?_
    refine am_iload (pc := 260) G dX10_workForest_260 rfl ?_
    refine am_iconst (pc := 262) G dX10_workForest_262 (by decide) ?_
    refine am_isub (pc := 263) G dX10_workForest_263 ?_
    refine am_imul (pc := 264) G dX10_workForest_264 ?_
    refine am_iload (pc := 265) G dX10_workForest_265 rfl ?_
    refine am_iadd (pc := 267) G dX10_workForest_267 ?_
    refine am_iconst (pc := 268) G dX10_workForest_268 (by decide) ?_
    refine am_isub (pc := 269) G dX10_workForest_269 ?_
    refine am_iald (pc := 270) G 289 dX10_workForest_270 (by decide) h.1 ?_
    have h := h.2
    refine am_aload_n (i := 0) (t := 17) (pc := 271) G dX10_workForest_271 rfl rfl rfl ?_
    refine gf_X10_16 (pc := 272) G dX10_workForest_272 tw_f_RX10_40 ?_
    refine am_bipush (pc := 275) G dX10_workForest_275 (by decide) (by decide) ?_
    refine am_aload_n (i := 0) (t := 17) (pc := 277) G dX10_workForest_277 rfl rfl rfl ?_
    refine gf_X10_18 (pc := 278) G dX10_workForest_278 tw_f_RX10_46 ?_
    refine am_iload (pc := 281) G dX10_workForest_281 rfl ?_
    refine am_iald (pc := 283) G 17 dX10_workForest_283 (by decide) h.1 ?_
    have h := h.2
    refine am_imul (pc := 284) G dX10_workForest_284 ?_
    refine am_aload_n (i := 0) (t := 17) (pc := 285) G dX10_workForest_285 rfl rfl rfl ?_
    refine gf_X10_19 (pc := 286) G dX10_workForest_286 tw_f_RX10_49 ?_
    refine am_iload (pc := 289) G dX10_workForest_289 rfl ?_
    refine am_iald (pc := 291) G 17 dX10_workForest_291 (by decide) h.1 ?_
    have h := h.2
    refine am_iadd (pc := 292) G dX10_workForest_292 ?_
    refine am_iald (pc := 293) G 256 dX10_workForest_293 (by decide) h.1 ?_
    have h := h.2
    refine am_iadd (pc := 294) G dX10_workForest_294 ?_
    refine am_goto (pc := 295) G 339 dX10_workForest_295 (by decide) ?_
    refine am_le (ls' := [(20, _), (0, _), (0, _), (0, _), (0, _), (0, _), (0, _), (0, _), (0, _), (99, 0)]) ⟨Or.inr rfl, ⟨Or.inr rfl, ⟨Or.inr rfl, ⟨Or.inr rfl, ⟨Or.inr rfl, ⟨Or.inr rfl, ⟨Or.inr rfl, ⟨Or.inr rfl, ⟨Or.inr rfl, ⟨Or.inl rfl, trivial⟩⟩⟩⟩⟩⟩⟩⟩⟩⟩ ?_
    exact swp_X10_workForest_339 G Z hn hr _ _ _ _ _ _ _ _ _ _ B148 B158 k148 k158 h
def wp_X10_workForest_246 (V : VV) (x1 x2 x3 x4 x5 x6 x7 : Int) (M : Mem) (Q : Int → Mem → Prop) (B148 : Int → Mem → Prop) (B158 : Int → Mem → Prop) : Prop :=
  wp_X10_workForest_247 V x1 x2 x3 x4 x5 x6 x7 0 M Q B148 B158
theorem swp_X10_workForest_246 {X : XX} {Q : Int → Mem → Prop} (G : GX X cX10_workForest "TreeHandsModel") (Z : RX X 4 Q) (hn : nLX X = 10) (hr : roomX X = rm_X10_workForest) (x1 x2 x3 x4 x5 x6 x7 : Int) (M : Mem) (B148 : Int → Mem → Prop) (B158 : Int → Mem → Prop) (k148 : ∀ (z5 : Int) (N : Mem), B148 z5 N → AW X 148 [(20, 203), (0, x1), (0, x2), (0, x3), (0, x4), (0, z5), (99, 0), (99, 0), (99, 0), (99, 0)] [] N) (k158 : ∀ (z6 : Int) (N : Mem), B158 z6 N → AW X 158 [(20, 203), (0, x1), (0, x2), (0, x3), (0, x4), (0, x5), (0, z6), (99, 0), (99, 0), (99, 0)] [] N) (h : wp_X10_workForest_246 (vX X) x1 x2 x3 x4 x5 x6 x7 M Q B148 B158) : AW X 246 [(20, 203), (0, x1), (0, x2), (0, x3), (0, x4), (0, x5), (0, x6), (0, x7), (99, 0), (99, 0)] [] M := by
  unfold wp_X10_workForest_246 at h
  refine am_iconst (pc := 246) G dX10_workForest_246 (by decide) ?_
  refine am_le (ls' := [(20, _), (0, _), (0, _), (0, _), (0, _), (0, _), (0, _), (0, _), (99, 0), (99, 0)]) ⟨Or.inr rfl, ⟨Or.inr rfl, ⟨Or.inr rfl, ⟨Or.inr rfl, ⟨Or.inr rfl, ⟨Or.inr rfl, ⟨Or.inr rfl, ⟨Or.inr rfl, ⟨Or.inl rfl, ⟨Or.inl rfl, trivial⟩⟩⟩⟩⟩⟩⟩⟩⟩⟩ ?_
  exact swp_X10_workForest_247 G Z hn hr _ _ _ _ _ _ _ _ _ B148 B158 k148 k158 h
def wp_X10_workForest_158_b (V : VV) (x1 x2 x3 x4 x5 x6 : Int) (M : Mem) (Q : Int → Mem → Prop) (B148 : Int → Mem → Prop) (B158 : Int → Mem → Prop) : Prop :=
  (x2 < x6 →
    B148 (w32 (x5 + 1)) M) ∧ (¬ (x2 < x6) →
    ((0 : Int) ≤ w32 (w32 (17 * w32 (x5 - 1)) + x6) ∧ w32 (w32 (17 * w32 (x5 - 1)) + x6) < (289 : Int)) ∧
    ((0 : Int) ≤ x5 ∧ x5 < (17 : Int)) ∧
    ((0 : Int) ≤ M 216 x5 ∧ M 216 x5 < (16 : Int)) ∧
    ((0 : Int) ≤ w32 (w32 (w32 (17 * x5) + x6) - 1) ∧ w32 (w32 (w32 (17 * x5) + x6) - 1) < (289 : Int)) ∧
    ((0 : Int) ≤ 1 ∧ 1 < (3 : Int)) ∧
    R_X10_lesser V (w32 (M 219 (w32 (w32 (17 * w32 (x5 - 1)) + x6)) + M 215 (M 216 x5))) (w32 (M 219 (w32 (w32 (w32 (17 * x5) + x6) - 1)) + M 208 1)) M (fun r3 M4 =>
    ((0 : Int) ≤ x5 ∧ x5 < (17 : Int)) ∧
    (M4 212 x5 = x3 →
      ((0 : Int) ≤ x6 ∧ x6 < (17 : Int)) ∧
      (M4 213 x6 = x4 →
        wp_X10_workForest_247 V x1 x2 x3 x4 x5 x6 r3 1 M4 Q B148 B158) ∧ (¬ (M4 213 x6 = x4) →
        wp_X10_workForest_246 V x1 x2 x3 x4 x5 x6 r3 M4 Q B148 B158)) ∧ (¬ (M4 212 x5 = x3) →
      wp_X10_workForest_246 V x1 x2 x3 x4 x5 x6 r3 M4 Q B148 B158)))
theorem swp_X10_workForest_158_b {X : XX} {Q : Int → Mem → Prop} (G : GX X cX10_workForest "TreeHandsModel") (Z : RX X 4 Q) (hn : nLX X = 10) (hr : roomX X = rm_X10_workForest) (x1 x2 x3 x4 x5 x6 : Int) (M : Mem) (B148 : Int → Mem → Prop) (k148 : ∀ (z5 : Int) (N : Mem), B148 z5 N → AW X 148 [(20, 203), (0, x1), (0, x2), (0, x3), (0, x4), (0, z5), (99, 0), (99, 0), (99, 0), (99, 0)] [] N) (B158 : Int → Mem → Prop) (k158 : ∀ (z6 : Int) (N : Mem), B158 z6 N → AW X 158 [(20, 203), (0, x1), (0, x2), (0, x3), (0, x4), (0, x5), (0, z6), (99, 0), (99, 0), (99, 0)] [] N) (h : wp_X10_workForest_158_b (vX X) x1 x2 x3 x4 x5 x6 M Q B148 B158) : AW X 158 [(20, 203), (0, x1), (0, x2), (0, x3), (0, x4), (0, x5), (0, x6), (99, 0), (99, 0), (99, 0)] [] M := by
  unfold wp_X10_workForest_158_b at h
  refine am_iload (pc := 158) G dX10_workForest_158 rfl ?_
  refine am_iload_n (i := 2) (pc := 160) G dX10_workForest_160 rfl rfl ?_
  refine am_icmp_gt (pc := 161) G 398 dX10_workForest_161 (by decide) (fun c => ?_) (fun c => ?_)
  · have h := h.1 c
    refine am_iinc (pc := 398) G dX10_workForest_398 rfl (nlx hn rfl) rfl ?_
    refine am_goto (pc := 401) (ls := [(20, _), (0, _), (0, _), (0, _), (0, _), (0, _), (0, _), (99, _), (99, _), (99, _)]) G 148 dX10_workForest_401 (by decide) ?_
    refine am_le (ls' := [(20, _), (0, _), (0, _), (0, _), (0, _), (0, _), (99, 0), (99, 0), (99, 0), (99, 0)]) ⟨Or.inr rfl, ⟨Or.inr rfl, ⟨Or.inr rfl, ⟨Or.inr rfl, ⟨Or.inr rfl, ⟨Or.inr rfl, ⟨Or.inl rfl, ⟨Or.inl rfl, ⟨Or.inl rfl, ⟨Or.inl rfl, trivial⟩⟩⟩⟩⟩⟩⟩⟩⟩⟩ ?_
    exact k148 _ _ h
  · have h := h.2 c
    refine am_aload_n (i := 0) (t := 17) (pc := 164) G dX10_workForest_164 rfl rfl rfl ?_
    refine gf_X10_21 (pc := 165) G dX10_workForest_165 tw_f_RX10_55 ?_
    refine am_bipush (pc := 168) G dX10_workForest_168 (by decide) (by decide) ?_
    refine am_iload (pc := 170) G dX10_workForest_170 rfl ?_
    refine am_iconst (pc := 172) G dX10_workForest_172 (by decide) ?_
    refine am_isub (pc := 173) G dX10_workForest_173 ?_
    refine am_imul (pc := 174) G dX10_workForest_174 ?_
    refine am_iload (pc := 175) G dX10_workForest_175 rfl ?_
    refine am_iadd (pc := 177) G dX10_workForest_177 ?_
    refine am_iald (pc := 178) G 289 dX10_workForest_178 (by decide) h.1 ?_
    have h := h.2
    refine am_aload_n (i := 0) (t := 17) (pc := 179) G dX10_workForest_179 rfl rfl rfl ?_
    refine gf_X10_17 (pc := 180) G dX10_workForest_180 tw_f_RX10_43 ?_
    refine am_aload_n (i := 0) (t := 17) (pc := 183) G dX10_workForest_183 rfl rfl rfl ?_
    refine gf_X10_18 (pc := 184) G dX10_workForest_184 tw_f_RX10_46 ?_
    refine am_iload (pc := 187) G dX10_workForest_187 rfl ?_
    refine am_iald (pc := 189) G 17 dX10_workForest_189 (by decide) h.1 ?_
    have h := h.2
    refine am_iald (pc := 190) G 16 dX10_workForest_190 (by decide) h.1 ?_
    have h := h.2
    refine am_iadd (pc := 191) G dX10_workForest_191 ?_
    refine am_aload_n (i := 0) (t := 17) (pc := 192) G dX10_workForest_192 rfl rfl rfl ?_
    refine gf_X10_21 (pc := 193) G dX10_workForest_193 tw_f_RX10_55 ?_
    refine am_bipush (pc := 196) G dX10_workForest_196 (by decide) (by decide) ?_
    refine am_iload (pc := 198) G dX10_workForest_198 rfl ?_
    refine am_imul (pc := 200) G dX10_workForest_200 ?_
    refine am_iload (pc := 201) G dX10_workForest_201 rfl ?_
    refine am_iadd (pc := 203) G dX10_workForest_203 ?_
    refine am_iconst (pc := 204) G dX10_workForest_204 (by decide) ?_
    refine am_isub (pc := 205) G dX10_workForest_205 ?_
    refine am_iald (pc := 206) G 289 dX10_workForest_206 (by decide) h.1 ?_
    have h := h.2
    refine am_aload_n (i := 0) (t := 17) (pc := 207) G dX10_workForest_207 rfl rfl rfl ?_
    refine gf_X10_6 (pc := 208) G dX10_workForest_208 tw_f_RX10_22 ?_
    refine am_iconst (pc := 211) G dX10_workForest_211 (by decide) ?_
    refine am_iald (pc := 212) G 3 dX10_workForest_212 (by decide) h.1 ?_
    have h := h.2
    refine am_iadd (pc := 213) G dX10_workForest_213 ?_
    refine am_callS (rk := 0) (rmc := rm_X10_lesser) (st := []) (pc := 214) G [(0, _), (0, _)] dX10_workForest_214 tw_m_RX10_167 tw_s_X10_lesser tw_z_RX10 tw_c_X10_lesser hy_X10_lesser (callrm hr rfl) rfl (RunsM.mono h (fun r3 M4 h => ?_)) Z.rm
    show AW X 217 _ [(0, _)] M4
    refine am_istore (pc := 217) G dX10_workForest_217 (nlx hn rfl) rfl ?_
    refine am_aload_n (i := 0) (t := 17) (pc := 219) (ls := [(20, _), (0, _), (0, _), (0, _), (0, _), (0, _), (0, _), (0, _), (99, _), (99, _)]) G dX10_workForest_219 rfl rfl rfl ?_
    refine gf_X10_14 (pc := 220) G dX10_workForest_220 tw_f_RX10_34 ?_
    refine am_iload (pc := 223) G dX10_workForest_223 rfl ?_
    refine am_iald (pc := 225) G 17 dX10_workForest_225 (by decide) h.1 ?_
    have h := h.2
    refine am_iload_n (i := 3) (pc := 226) G dX10_workForest_226 rfl rfl ?_
    refine am_icmp_ne (pc := 227) G 246 dX10_workForest_227 (by decide) (fun c => ?_) (fun c => ?_)
    · have h := h.2 c
      refine am_le (ls' := [(20, _), (0, _), (0, _), (0, _), (0, _), (0, _), (0, _), (0, _), (99, 0), (99, 0)]) ⟨Or.inr rfl, ⟨Or.inr rfl, ⟨Or.inr rfl, ⟨Or.inr rfl, ⟨Or.inr rfl, ⟨Or.inr rfl, ⟨Or.inr rfl, ⟨Or.inr rfl, ⟨Or.inl rfl, ⟨Or.inl rfl, trivial⟩⟩⟩⟩⟩⟩⟩⟩⟩⟩ ?_
      exact swp_X10_workForest_246 G Z hn hr _ _ _ _ _ _ _ _ B148 B158 k148 k158 h
    · have h := h.1 c
      refine am_aload_n (i := 0) (t := 17) (pc := 230) G dX10_workForest_230 rfl rfl rfl ?_
      refine gf_X10_15 (pc := 231) G dX10_workForest_231 tw_f_RX10_37 ?_
      refine am_iload (pc := 234) G dX10_workForest_234 rfl ?_
      refine am_iald (pc := 236) G 17 dX10_workForest_236 (by decide) h.1 ?_
      have h := h.2
      refine am_iload (pc := 237) G dX10_workForest_237 rfl ?_
      refine am_icmp_ne (pc := 239) G 246 dX10_workForest_239 (by decide) (fun c => ?_) (fun c => ?_)
      · have h := h.2 c
        refine am_le (ls' := [(20, _), (0, _), (0, _), (0, _), (0, _), (0, _), (0, _), (0, _), (99, 0), (99, 0)]) ⟨Or.inr rfl, ⟨Or.inr rfl, ⟨Or.inr rfl, ⟨Or.inr rfl, ⟨Or.inr rfl, ⟨Or.inr rfl, ⟨Or.inr rfl, ⟨Or.inr rfl, ⟨Or.inl rfl, ⟨Or.inl rfl, trivial⟩⟩⟩⟩⟩⟩⟩⟩⟩⟩ ?_
        exact swp_X10_workForest_246 G Z hn hr _ _ _ _ _ _ _ _ B148 B158 k148 k158 h
      · have h := h.1 c
        refine am_iconst (pc := 242) G dX10_workForest_242 (by decide) ?_
        refine am_goto (pc := 243) G 247 dX10_workForest_243 (by decide) ?_
        refine am_le (ls' := [(20, _), (0, _), (0, _), (0, _), (0, _), (0, _), (0, _), (0, _), (99, 0), (99, 0)]) ⟨Or.inr rfl, ⟨Or.inr rfl, ⟨Or.inr rfl, ⟨Or.inr rfl, ⟨Or.inr rfl, ⟨Or.inr rfl, ⟨Or.inr rfl, ⟨Or.inr rfl, ⟨Or.inl rfl, ⟨Or.inl rfl, trivial⟩⟩⟩⟩⟩⟩⟩⟩⟩⟩ ?_
        exact swp_X10_workForest_247 G Z hn hr _ _ _ _ _ _ _ _ _ B148 B158 k148 k158 h
def wp_X10_workForest_158 (V : VV) (x1 x2 x3 x4 x5 x6 : Int) (M : Mem) (Q : Int → Mem → Prop) (B148 : Int → Mem → Prop) : Prop :=
  ∃ (I : Int → Mem → Prop) (μ : Int → Mem → Nat), I x6 M ∧ ∀ (y6 : Int) (N : Mem), I y6 N → wp_X10_workForest_158_b V x1 x2 x3 x4 x5 y6 N Q B148 (fun z6 N1 => I z6 N1 ∧ μ z6 N1 < μ y6 N)
theorem swp_X10_workForest_158 {X : XX} {Q : Int → Mem → Prop} (G : GX X cX10_workForest "TreeHandsModel") (Z : RX X 4 Q) (hn : nLX X = 10) (hr : roomX X = rm_X10_workForest) (x1 x2 x3 x4 x5 x6 : Int) (M : Mem) (B148 : Int → Mem → Prop) (k148 : ∀ (z5 : Int) (N : Mem), B148 z5 N → AW X 148 [(20, 203), (0, x1), (0, x2), (0, x3), (0, x4), (0, z5), (99, 0), (99, 0), (99, 0), (99, 0)] [] N) (h : wp_X10_workForest_158 (vX X) x1 x2 x3 x4 x5 x6 M Q B148) : AW X 158 [(20, 203), (0, x1), (0, x2), (0, x3), (0, x4), (0, x5), (0, x6), (99, 0), (99, 0), (99, 0)] [] M := by
  unfold wp_X10_workForest_158 at h
  obtain ⟨I, μ, hI, hs⟩ := h
  have key : ∀ (n : Nat) (y6 : Int) (N : Mem), μ y6 N < n → I y6 N → AW X 158 [(20, 203), (0, x1), (0, x2), (0, x3), (0, x4), (0, x5), (0, y6), (99, 0), (99, 0), (99, 0)] [] N := by
    intro n
    induction n with
    | zero => intro y6 N hlt; exact absurd hlt (Nat.not_lt_zero _)
    | succ n ih =>
      intro y6 N hlt hI
      exact swp_X10_workForest_158_b G Z hn hr x1 x2 x3 x4 x5 y6 N B148 k148 (fun z6 N1 => I z6 N1 ∧ μ z6 N1 < μ y6 N) (fun z6 N1 hz => ih z6 N1 (by omega) hz.1) (hs y6 N hI)
  exact key _ x6 M (Nat.lt_succ_self _) hI
def wp_X10_workForest_148_b (V : VV) (x1 x2 x3 x4 x5 : Int) (M : Mem) (Q : Int → Mem → Prop) (B148 : Int → Mem → Prop) : Prop :=
  (x1 < x5 →
    Q 0 M) ∧ (¬ (x1 < x5) →
    wp_X10_workForest_158 V x1 x2 x3 x4 x5 x4 M Q B148)
theorem swp_X10_workForest_148_b {X : XX} {Q : Int → Mem → Prop} (G : GX X cX10_workForest "TreeHandsModel") (Z : RX X 4 Q) (hn : nLX X = 10) (hr : roomX X = rm_X10_workForest) (x1 x2 x3 x4 x5 : Int) (M : Mem) (B148 : Int → Mem → Prop) (k148 : ∀ (z5 : Int) (N : Mem), B148 z5 N → AW X 148 [(20, 203), (0, x1), (0, x2), (0, x3), (0, x4), (0, z5), (99, 0), (99, 0), (99, 0), (99, 0)] [] N) (h : wp_X10_workForest_148_b (vX X) x1 x2 x3 x4 x5 M Q B148) : AW X 148 [(20, 203), (0, x1), (0, x2), (0, x3), (0, x4), (0, x5), (99, 0), (99, 0), (99, 0), (99, 0)] [] M := by
  unfold wp_X10_workForest_148_b at h
  refine am_iload (pc := 148) G dX10_workForest_148 rfl ?_
  refine am_iload_n (i := 1) (pc := 150) G dX10_workForest_150 rfl rfl ?_
  refine am_icmp_gt (pc := 151) G 404 dX10_workForest_151 (by decide) (fun c => ?_) (fun c => ?_)
  · have h := h.1 c
    exact am_vret (pc := 404) G Z dX10_workForest_404 h
  · have h := h.2 c
    refine am_iload (pc := 154) G dX10_workForest_154 rfl ?_
    refine am_istore (pc := 156) G dX10_workForest_156 (nlx hn rfl) rfl ?_
    refine am_le (ls' := [(20, _), (0, _), (0, _), (0, _), (0, _), (0, _), (0, _), (99, 0), (99, 0), (99, 0)]) ⟨Or.inr rfl, ⟨Or.inr rfl, ⟨Or.inr rfl, ⟨Or.inr rfl, ⟨Or.inr rfl, ⟨Or.inr rfl, ⟨Or.inr rfl, ⟨Or.inl rfl, ⟨Or.inl rfl, ⟨Or.inl rfl, trivial⟩⟩⟩⟩⟩⟩⟩⟩⟩⟩ ?_
    exact swp_X10_workForest_158 G Z hn hr _ _ _ _ _ _ _ B148 k148 h
def wp_X10_workForest_148 (V : VV) (x1 x2 x3 x4 x5 : Int) (M : Mem) (Q : Int → Mem → Prop) : Prop :=
  ∃ (I : Int → Mem → Prop) (μ : Int → Mem → Nat), I x5 M ∧ ∀ (y5 : Int) (N : Mem), I y5 N → wp_X10_workForest_148_b V x1 x2 x3 x4 y5 N Q (fun z5 N1 => I z5 N1 ∧ μ z5 N1 < μ y5 N)
theorem swp_X10_workForest_148 {X : XX} {Q : Int → Mem → Prop} (G : GX X cX10_workForest "TreeHandsModel") (Z : RX X 4 Q) (hn : nLX X = 10) (hr : roomX X = rm_X10_workForest) (x1 x2 x3 x4 x5 : Int) (M : Mem) (h : wp_X10_workForest_148 (vX X) x1 x2 x3 x4 x5 M Q) : AW X 148 [(20, 203), (0, x1), (0, x2), (0, x3), (0, x4), (0, x5), (99, 0), (99, 0), (99, 0), (99, 0)] [] M := by
  unfold wp_X10_workForest_148 at h
  obtain ⟨I, μ, hI, hs⟩ := h
  have key : ∀ (n : Nat) (y5 : Int) (N : Mem), μ y5 N < n → I y5 N → AW X 148 [(20, 203), (0, x1), (0, x2), (0, x3), (0, x4), (0, y5), (99, 0), (99, 0), (99, 0), (99, 0)] [] N := by
    intro n
    induction n with
    | zero => intro y5 N hlt; exact absurd hlt (Nat.not_lt_zero _)
    | succ n ih =>
      intro y5 N hlt hI
      exact swp_X10_workForest_148_b G Z hn hr x1 x2 x3 x4 y5 N (fun z5 N1 => I z5 N1 ∧ μ z5 N1 < μ y5 N) (fun z5 N1 hz => ih z5 N1 (by omega) hz.1) (hs y5 N hI)
  exact key _ x5 M (Nat.lt_succ_self _) hI
def wp_X10_workForest_96_b (V : VV) (x1 x2 x3 x4 x5 : Int) (M : Mem) (Q : Int → Mem → Prop) (B96 : Int → Mem → Prop) : Prop :=
  (x2 < x5 →
    wp_X10_workForest_148 V x1 x2 x3 x4 x3 M Q) ∧ (¬ (x2 < x5) →
    ((0 : Int) ≤ w32 (w32 (w32 (17 * w32 (x3 - 1)) + x5) - 1) ∧ w32 (w32 (w32 (17 * w32 (x3 - 1)) + x5) - 1) < (289 : Int)) ∧
    ((0 : Int) ≤ 1 ∧ 1 < (3 : Int)) ∧
    ((0 : Int) ≤ w32 (w32 (17 * w32 (x3 - 1)) + x5) ∧ w32 (w32 (17 * w32 (x3 - 1)) + x5) < (289 : Int)) ∧
    B96 (w32 (x5 + 1)) (mset M 219 (w32 (w32 (17 * w32 (x3 - 1)) + x5)) (w32 (M 219 (w32 (w32 (w32 (17 * w32 (x3 - 1)) + x5) - 1)) + M 208 1))))
theorem swp_X10_workForest_96_b {X : XX} {Q : Int → Mem → Prop} (G : GX X cX10_workForest "TreeHandsModel") (Z : RX X 4 Q) (hn : nLX X = 10) (hr : roomX X = rm_X10_workForest) (x1 x2 x3 x4 x5 : Int) (M : Mem) (B96 : Int → Mem → Prop) (k96 : ∀ (z5 : Int) (N : Mem), B96 z5 N → AW X 96 [(20, 203), (0, x1), (0, x2), (0, x3), (0, x4), (0, z5), (99, 0), (99, 0), (99, 0), (99, 0)] [] N) (h : wp_X10_workForest_96_b (vX X) x1 x2 x3 x4 x5 M Q B96) : AW X 96 [(20, 203), (0, x1), (0, x2), (0, x3), (0, x4), (0, x5), (99, 0), (99, 0), (99, 0), (99, 0)] [] M := by
  unfold wp_X10_workForest_96_b at h
  refine am_iload (pc := 96) G dX10_workForest_96 rfl ?_
  refine am_iload_n (i := 2) (pc := 98) G dX10_workForest_98 rfl rfl ?_
  refine am_icmp_gt (pc := 99) G 145 dX10_workForest_99 (by decide) (fun c => ?_) (fun c => ?_)
  · have h := h.1 c
    refine am_iload_n (i := 3) (pc := 145) G dX10_workForest_145 rfl rfl ?_
    refine am_istore (pc := 146) G dX10_workForest_146 (nlx hn rfl) rfl ?_
    refine am_le (ls' := [(20, _), (0, _), (0, _), (0, _), (0, _), (0, _), (99, 0), (99, 0), (99, 0), (99, 0)]) ⟨Or.inr rfl, ⟨Or.inr rfl, ⟨Or.inr rfl, ⟨Or.inr rfl, ⟨Or.inr rfl, ⟨Or.inr rfl, ⟨Or.inl rfl, ⟨Or.inl rfl, ⟨Or.inl rfl, ⟨Or.inl rfl, trivial⟩⟩⟩⟩⟩⟩⟩⟩⟩⟩ ?_
    exact swp_X10_workForest_148 G Z hn hr _ _ _ _ _ _ h
  · have h := h.2 c
    refine am_aload_n (i := 0) (t := 17) (pc := 102) G dX10_workForest_102 rfl rfl rfl ?_
    refine gf_X10_21 (pc := 103) G dX10_workForest_103 tw_f_RX10_55 ?_
    refine am_bipush (pc := 106) G dX10_workForest_106 (by decide) (by decide) ?_
    refine am_iload_n (i := 3) (pc := 108) G dX10_workForest_108 rfl rfl ?_
    refine am_iconst (pc := 109) G dX10_workForest_109 (by decide) ?_
    refine am_isub (pc := 110) G dX10_workForest_110 ?_
    refine am_imul (pc := 111) G dX10_workForest_111 ?_
    refine am_iload (pc := 112) G dX10_workForest_112 rfl ?_
    refine am_iadd (pc := 114) G dX10_workForest_114 ?_
    refine am_aload_n (i := 0) (t := 17) (pc := 115) G dX10_workForest_115 rfl rfl rfl ?_
    refine gf_X10_21 (pc := 116) G dX10_workForest_116 tw_f_RX10_55 ?_
    refine am_bipush (pc := 119) G dX10_workForest_119 (by decide) (by decide) ?_
    refine am_iload_n (i := 3) (pc := 121) G dX10_workForest_121 rfl rfl ?_
    refine am_iconst (pc := 122) G dX10_workForest_122 (by decide) ?_
    refine am_isub (pc := 123) G dX10_workForest_123 ?_
    refine am_imul (pc := 124) G dX10_workForest_124 ?_
    refine am_iload (pc := 125) G dX10_workForest_125 rfl ?_
    refine am_iadd (pc := 127) G dX10_workForest_127 ?_
    refine am_iconst (pc := 128) G dX10_workForest_128 (by decide) ?_
    refine am_isub (pc := 129) G dX10_workForest_129 ?_
    refine am_iald (pc := 130) G 289 dX10_workForest_130 (by decide) h.1 ?_
    have h := h.2
    refine am_aload_n (i := 0) (t := 17) (pc := 131) G dX10_workForest_131 rfl rfl rfl ?_
    refine gf_X10_6 (pc := 132) G dX10_workForest_132 tw_f_RX10_22 ?_
    refine am_iconst (pc := 135) G dX10_workForest_135 (by decide) ?_
    refine am_iald (pc := 136) G 3 dX10_workForest_136 (by decide) h.1 ?_
    have h := h.2
    refine am_iadd (pc := 137) G dX10_workForest_137 ?_
    refine am_iast (pc := 138) G 289 dX10_workForest_138 (by decide) h.1 ?_
    have h := h.2
    refine am_iinc (pc := 139) G dX10_workForest_139 rfl (nlx hn rfl) rfl ?_
    refine am_goto (pc := 142) (ls := [(20, _), (0, _), (0, _), (0, _), (0, _), (0, _), (99, _), (99, _), (99, _), (99, _)]) G 96 dX10_workForest_142 (by decide) ?_
    refine am_le (ls' := [(20, _), (0, _), (0, _), (0, _), (0, _), (0, _), (99, 0), (99, 0), (99, 0), (99, 0)]) ⟨Or.inr rfl, ⟨Or.inr rfl, ⟨Or.inr rfl, ⟨Or.inr rfl, ⟨Or.inr rfl, ⟨Or.inr rfl, ⟨Or.inl rfl, ⟨Or.inl rfl, ⟨Or.inl rfl, ⟨Or.inl rfl, trivial⟩⟩⟩⟩⟩⟩⟩⟩⟩⟩ ?_
    exact k96 _ _ h
def wp_X10_workForest_96 (V : VV) (x1 x2 x3 x4 x5 : Int) (M : Mem) (Q : Int → Mem → Prop) : Prop :=
  ∃ (I : Int → Mem → Prop) (μ : Int → Mem → Nat), I x5 M ∧ ∀ (y5 : Int) (N : Mem), I y5 N → wp_X10_workForest_96_b V x1 x2 x3 x4 y5 N Q (fun z5 N1 => I z5 N1 ∧ μ z5 N1 < μ y5 N)
theorem swp_X10_workForest_96 {X : XX} {Q : Int → Mem → Prop} (G : GX X cX10_workForest "TreeHandsModel") (Z : RX X 4 Q) (hn : nLX X = 10) (hr : roomX X = rm_X10_workForest) (x1 x2 x3 x4 x5 : Int) (M : Mem) (h : wp_X10_workForest_96 (vX X) x1 x2 x3 x4 x5 M Q) : AW X 96 [(20, 203), (0, x1), (0, x2), (0, x3), (0, x4), (0, x5), (99, 0), (99, 0), (99, 0), (99, 0)] [] M := by
  unfold wp_X10_workForest_96 at h
  obtain ⟨I, μ, hI, hs⟩ := h
  have key : ∀ (n : Nat) (y5 : Int) (N : Mem), μ y5 N < n → I y5 N → AW X 96 [(20, 203), (0, x1), (0, x2), (0, x3), (0, x4), (0, y5), (99, 0), (99, 0), (99, 0), (99, 0)] [] N := by
    intro n
    induction n with
    | zero => intro y5 N hlt; exact absurd hlt (Nat.not_lt_zero _)
    | succ n ih =>
      intro y5 N hlt hI
      exact swp_X10_workForest_96_b G Z hn hr x1 x2 x3 x4 y5 N (fun z5 N1 => I z5 N1 ∧ μ z5 N1 < μ y5 N) (fun z5 N1 hz => ih z5 N1 (by omega) hz.1) (hs y5 N hI)
  exact key _ x5 M (Nat.lt_succ_self _) hI
def wp_X10_workForest_35_b (V : VV) (x1 x2 x3 x4 x5 : Int) (M : Mem) (Q : Int → Mem → Prop) (B35 : Int → Mem → Prop) : Prop :=
  (x1 < x5 →
    wp_X10_workForest_96 V x1 x2 x3 x4 x4 M Q) ∧ (¬ (x1 < x5) →
    ((0 : Int) ≤ w32 (w32 (w32 (17 * w32 (x5 - 1)) + x4) - 1) ∧ w32 (w32 (w32 (17 * w32 (x5 - 1)) + x4) - 1) < (289 : Int)) ∧
    ((0 : Int) ≤ x5 ∧ x5 < (17 : Int)) ∧
    ((0 : Int) ≤ M 216 x5 ∧ M 216 x5 < (16 : Int)) ∧
    ((0 : Int) ≤ w32 (w32 (w32 (17 * x5) + x4) - 1) ∧ w32 (w32 (w32 (17 * x5) + x4) - 1) < (289 : Int)) ∧
    B35 (w32 (x5 + 1)) (mset M 219 (w32 (w32 (w32 (17 * x5) + x4) - 1)) (w32 (M 219 (w32 (w32 (w32 (17 * w32 (x5 - 1)) + x4) - 1)) + M 215 (M 216 x5)))))
theorem swp_X10_workForest_35_b {X : XX} {Q : Int → Mem → Prop} (G : GX X cX10_workForest "TreeHandsModel") (Z : RX X 4 Q) (hn : nLX X = 10) (hr : roomX X = rm_X10_workForest) (x1 x2 x3 x4 x5 : Int) (M : Mem) (B35 : Int → Mem → Prop) (k35 : ∀ (z5 : Int) (N : Mem), B35 z5 N → AW X 35 [(20, 203), (0, x1), (0, x2), (0, x3), (0, x4), (0, z5), (99, 0), (99, 0), (99, 0), (99, 0)] [] N) (h : wp_X10_workForest_35_b (vX X) x1 x2 x3 x4 x5 M Q B35) : AW X 35 [(20, 203), (0, x1), (0, x2), (0, x3), (0, x4), (0, x5), (99, 0), (99, 0), (99, 0), (99, 0)] [] M := by
  unfold wp_X10_workForest_35_b at h
  refine am_iload (pc := 35) G dX10_workForest_35 rfl ?_
  refine am_iload_n (i := 1) (pc := 37) G dX10_workForest_37 rfl rfl ?_
  refine am_icmp_gt (pc := 38) G 92 dX10_workForest_38 (by decide) (fun c => ?_) (fun c => ?_)
  · have h := h.1 c
    refine am_iload (pc := 92) G dX10_workForest_92 rfl ?_
    refine am_istore (pc := 94) G dX10_workForest_94 (nlx hn rfl) rfl ?_
    refine am_le (ls' := [(20, _), (0, _), (0, _), (0, _), (0, _), (0, _), (99, 0), (99, 0), (99, 0), (99, 0)]) ⟨Or.inr rfl, ⟨Or.inr rfl, ⟨Or.inr rfl, ⟨Or.inr rfl, ⟨Or.inr rfl, ⟨Or.inr rfl, ⟨Or.inl rfl, ⟨Or.inl rfl, ⟨Or.inl rfl, ⟨Or.inl rfl, trivial⟩⟩⟩⟩⟩⟩⟩⟩⟩⟩ ?_
    exact swp_X10_workForest_96 G Z hn hr _ _ _ _ _ _ h
  · have h := h.2 c
    refine am_aload_n (i := 0) (t := 17) (pc := 41) G dX10_workForest_41 rfl rfl rfl ?_
    refine gf_X10_21 (pc := 42) G dX10_workForest_42 tw_f_RX10_55 ?_
    refine am_bipush (pc := 45) G dX10_workForest_45 (by decide) (by decide) ?_
    refine am_iload (pc := 47) G dX10_workForest_47 rfl ?_
    refine am_imul (pc := 49) G dX10_workForest_49 ?_
    refine am_iload (pc := 50) G dX10_workForest_50 rfl ?_
    refine am_iadd (pc := 52) G dX10_workForest_52 ?_
    refine am_iconst (pc := 53) G dX10_workForest_53 (by decide) ?_
    refine am_isub (pc := 54) G dX10_workForest_54 ?_
    refine am_aload_n (i := 0) (t := 17) (pc := 55) G dX10_workForest_55 rfl rfl rfl ?_
    refine gf_X10_21 (pc := 56) G dX10_workForest_56 tw_f_RX10_55 ?_
    refine am_bipush (pc := 59) G dX10_workForest_59 (by decide) (by decide) ?_
    refine am_iload (pc := 61) G dX10_workForest_61 rfl ?_
    refine am_iconst (pc := 63) G dX10_workForest_63 (by decide) ?_
    refine am_isub (pc := 64) G dX10_workForest_64 ?_
    refine am_imul (pc := 65) G dX10_workForest_65 ?_
    refine am_iload (pc := 66) G dX10_workForest_66 rfl ?_
    refine am_iadd (pc := 68) G dX10_workForest_68 ?_
    refine am_iconst (pc := 69) G dX10_workForest_69 (by decide) ?_
    refine am_isub (pc := 70) G dX10_workForest_70 ?_
    refine am_iald (pc := 71) G 289 dX10_workForest_71 (by decide) h.1 ?_
    have h := h.2
    refine am_aload_n (i := 0) (t := 17) (pc := 72) G dX10_workForest_72 rfl rfl rfl ?_
    refine gf_X10_17 (pc := 73) G dX10_workForest_73 tw_f_RX10_43 ?_
    refine am_aload_n (i := 0) (t := 17) (pc := 76) G dX10_workForest_76 rfl rfl rfl ?_
    refine gf_X10_18 (pc := 77) G dX10_workForest_77 tw_f_RX10_46 ?_
    refine am_iload (pc := 80) G dX10_workForest_80 rfl ?_
    refine am_iald (pc := 82) G 17 dX10_workForest_82 (by decide) h.1 ?_
    have h := h.2
    refine am_iald (pc := 83) G 16 dX10_workForest_83 (by decide) h.1 ?_
    have h := h.2
    refine am_iadd (pc := 84) G dX10_workForest_84 ?_
    refine am_iast (pc := 85) G 289 dX10_workForest_85 (by decide) h.1 ?_
    have h := h.2
    refine am_iinc (pc := 86) G dX10_workForest_86 rfl (nlx hn rfl) rfl ?_
    refine am_goto (pc := 89) (ls := [(20, _), (0, _), (0, _), (0, _), (0, _), (0, _), (99, _), (99, _), (99, _), (99, _)]) G 35 dX10_workForest_89 (by decide) ?_
    refine am_le (ls' := [(20, _), (0, _), (0, _), (0, _), (0, _), (0, _), (99, 0), (99, 0), (99, 0), (99, 0)]) ⟨Or.inr rfl, ⟨Or.inr rfl, ⟨Or.inr rfl, ⟨Or.inr rfl, ⟨Or.inr rfl, ⟨Or.inr rfl, ⟨Or.inl rfl, ⟨Or.inl rfl, ⟨Or.inl rfl, ⟨Or.inl rfl, trivial⟩⟩⟩⟩⟩⟩⟩⟩⟩⟩ ?_
    exact k35 _ _ h
def wp_X10_workForest_35 (V : VV) (x1 x2 x3 x4 x5 : Int) (M : Mem) (Q : Int → Mem → Prop) : Prop :=
  ∃ (I : Int → Mem → Prop) (μ : Int → Mem → Nat), I x5 M ∧ ∀ (y5 : Int) (N : Mem), I y5 N → wp_X10_workForest_35_b V x1 x2 x3 x4 y5 N Q (fun z5 N1 => I z5 N1 ∧ μ z5 N1 < μ y5 N)
theorem swp_X10_workForest_35 {X : XX} {Q : Int → Mem → Prop} (G : GX X cX10_workForest "TreeHandsModel") (Z : RX X 4 Q) (hn : nLX X = 10) (hr : roomX X = rm_X10_workForest) (x1 x2 x3 x4 x5 : Int) (M : Mem) (h : wp_X10_workForest_35 (vX X) x1 x2 x3 x4 x5 M Q) : AW X 35 [(20, 203), (0, x1), (0, x2), (0, x3), (0, x4), (0, x5), (99, 0), (99, 0), (99, 0), (99, 0)] [] M := by
  unfold wp_X10_workForest_35 at h
  obtain ⟨I, μ, hI, hs⟩ := h
  have key : ∀ (n : Nat) (y5 : Int) (N : Mem), μ y5 N < n → I y5 N → AW X 35 [(20, 203), (0, x1), (0, x2), (0, x3), (0, x4), (0, y5), (99, 0), (99, 0), (99, 0), (99, 0)] [] N := by
    intro n
    induction n with
    | zero => intro y5 N hlt; exact absurd hlt (Nat.not_lt_zero _)
    | succ n ih =>
      intro y5 N hlt hI
      exact swp_X10_workForest_35_b G Z hn hr x1 x2 x3 x4 y5 N (fun z5 N1 => I z5 N1 ∧ μ z5 N1 < μ y5 N) (fun z5 N1 hz => ih z5 N1 (by omega) hz.1) (hs y5 N hI)
  exact key _ x5 M (Nat.lt_succ_self _) hI
def wp_X10_workForest (V : VV) (x1 x2 : Int) (M : Mem) (Q : Int → Mem → Prop) : Prop :=
  ((0 : Int) ≤ x1 ∧ x1 < (17 : Int)) ∧
  ∀ v1 : Int, v1 = M 212 x1 →
  ((0 : Int) ≤ x2 ∧ x2 < (17 : Int)) ∧
  ∀ v2 : Int, v2 = M 213 x2 →
  ((0 : Int) ≤ w32 (w32 (w32 (17 * w32 (v1 - 1)) + v2) - 1) ∧ w32 (w32 (w32 (17 * w32 (v1 - 1)) + v2) - 1) < (289 : Int)) ∧
  wp_X10_workForest_35 V x1 x2 v1 v2 v1 (mset M 219 (w32 (w32 (w32 (17 * w32 (v1 - 1)) + v2) - 1)) 0) Q
theorem of_X10_workForest {V : VV} {x1 x2 : Int} {M : Mem} {Q : Int → Mem → Prop} (h : wp_X10_workForest V x1 x2 M Q) : R_X10_workForest V x1 x2 M Q := by
  refine met_in (own := "TreeHandsModel") (by decide +kernel) rfl rfl (Nat.le_of_ble_eq_true rfl) ?_
  intro X G Z hn hr hv
  subst hv
  unfold wp_X10_workForest at h
  show AW X 0 [(20, 203), (0, x1), (0, x2), (99, 0), (99, 0), (99, 0), (99, 0), (99, 0), (99, 0), (99, 0)] [] M
  refine am_aload_n (i := 0) (t := 17) (pc := 0) G dX10_workForest_0 rfl rfl rfl ?_
  refine gf_X10_14 (pc := 1) G dX10_workForest_1 tw_f_RX10_34 ?_
  refine am_iload_n (i := 1) (pc := 4) G dX10_workForest_4 rfl rfl ?_
  refine am_iald (pc := 5) G 17 dX10_workForest_5 (by decide) h.1 ?_
  have h := h.2
  have h := h _ rfl
  refine am_istore_n (pc := 6) G dX10_workForest_6 rfl (nlx hn rfl) rfl ?_
  refine am_aload_n (i := 0) (t := 17) (pc := 7) (ls := [(20, _), (0, _), (0, _), (0, _), (99, _), (99, _), (99, _), (99, _), (99, _), (99, _)]) G dX10_workForest_7 rfl rfl rfl ?_
  refine gf_X10_15 (pc := 8) G dX10_workForest_8 tw_f_RX10_37 ?_
  refine am_iload_n (i := 2) (pc := 11) G dX10_workForest_11 rfl rfl ?_
  refine am_iald (pc := 12) G 17 dX10_workForest_12 (by decide) h.1 ?_
  have h := h.2
  have h := h _ rfl
  refine am_istore (pc := 13) G dX10_workForest_13 (nlx hn rfl) rfl ?_
  refine am_aload_n (i := 0) (t := 17) (pc := 15) (ls := [(20, _), (0, _), (0, _), (0, _), (0, _), (99, _), (99, _), (99, _), (99, _), (99, _)]) G dX10_workForest_15 rfl rfl rfl ?_
  refine gf_X10_21 (pc := 16) G dX10_workForest_16 tw_f_RX10_55 ?_
  refine am_bipush (pc := 19) G dX10_workForest_19 (by decide) (by decide) ?_
  refine am_iload_n (i := 3) (pc := 21) G dX10_workForest_21 rfl rfl ?_
  refine am_iconst (pc := 22) G dX10_workForest_22 (by decide) ?_
  refine am_isub (pc := 23) G dX10_workForest_23 ?_
  refine am_imul (pc := 24) G dX10_workForest_24 ?_
  refine am_iload (pc := 25) G dX10_workForest_25 rfl ?_
  refine am_iadd (pc := 27) G dX10_workForest_27 ?_
  refine am_iconst (pc := 28) G dX10_workForest_28 (by decide) ?_
  refine am_isub (pc := 29) G dX10_workForest_29 ?_
  refine am_iconst (pc := 30) G dX10_workForest_30 (by decide) ?_
  refine am_iast (pc := 31) G 289 dX10_workForest_31 (by decide) h.1 ?_
  have h := h.2
  refine am_iload_n (i := 3) (pc := 32) G dX10_workForest_32 rfl rfl ?_
  refine am_istore (pc := 33) G dX10_workForest_33 (nlx hn rfl) rfl ?_
  refine am_le (ls' := [(20, _), (0, _), (0, _), (0, _), (0, _), (0, _), (99, 0), (99, 0), (99, 0), (99, 0)]) ⟨Or.inr rfl, ⟨Or.inr rfl, ⟨Or.inr rfl, ⟨Or.inr rfl, ⟨Or.inr rfl, ⟨Or.inr rfl, ⟨Or.inl rfl, ⟨Or.inl rfl, ⟨Or.inl rfl, ⟨Or.inl rfl, trivial⟩⟩⟩⟩⟩⟩⟩⟩⟩⟩ ?_
  exact swp_X10_workForest_35 G Z hn hr _ _ _ _ _ _ h
-- X10_work TreeHandsModel.work()I
def rm_X10_work : Room := { frames := 2, cells := 0, slots := 0, locals := 50 }
theorem hy_X10_work : yX10_work.cls ≠ "java/lang/invoke/MethodHandle" ∧ yX10_work.cls ≠ "java/lang/invoke/VarHandle" ∧ (parseMethodDescriptor yX10_work.desc).map (fun d => d.parameters.length) = some 0 := by decide +kernel
abbrev R_X10_work (V : VV) (M : Mem) (Q : Int → Mem → Prop) : Prop := RunsM V yX10_work (.code yX10_work cX10_work 3 (Option.some Jvm.ClassFile.FieldType.int)) rm_X10_work 0 [(20, 203)] M Q
def wp_X10_work_12_b (V : VV) (x1 x2 : Int) (M : Mem) (Q : Int → Mem → Prop) (B2 : Int → Mem → Prop) (B12 : Int → Mem → Prop) : Prop :=
  (M 203 11 < x2 →
    B2 (w32 (x1 + 1)) M) ∧ (¬ (M 203 11 < x2) →
    R_X10_workForest V x1 x2 M (fun _ M2 =>
    B12 (w32 (x2 + 1)) M2))
theorem swp_X10_work_12_b {X : XX} {Q : Int → Mem → Prop} (G : GX X cX10_work "TreeHandsModel") (Z : RX X 0 Q) (hn : nLX X = 3) (hr : roomX X = rm_X10_work) (x1 x2 : Int) (M : Mem) (B2 : Int → Mem → Prop) (k2 : ∀ (z1 : Int) (N : Mem), B2 z1 N → AW X 2 [(20, 203), (0, z1), (99, 0)] [] N) (B12 : Int → Mem → Prop) (k12 : ∀ (z2 : Int) (N : Mem), B12 z2 N → AW X 12 [(20, 203), (0, x1), (0, z2)] [] N) (h : wp_X10_work_12_b (vX X) x1 x2 M Q B2 B12) : AW X 12 [(20, 203), (0, x1), (0, x2)] [] M := by
  unfold wp_X10_work_12_b at h
  refine am_iload_n (i := 2) (pc := 12) G dX10_work_12 rfl rfl ?_
  refine am_aload_n (i := 0) (t := 17) (pc := 13) G dX10_work_13 rfl rfl rfl ?_
  refine gf_X10_11 (pc := 14) G dX10_work_14 tw_f_RX10_160 ?_
  refine am_icmp_gt (pc := 17) G 32 dX10_work_17 (by decide) (fun c => ?_) (fun c => ?_)
  · have h := h.1 c
    refine am_iinc (pc := 32) G dX10_work_32 rfl (nlx hn rfl) rfl ?_
    refine am_goto (pc := 35) (ls := [(20, _), (0, _), (0, _)]) G 2 dX10_work_35 (by decide) ?_
    refine am_le (ls' := [(20, _), (0, _), (99, 0)]) ⟨Or.inr rfl, ⟨Or.inr rfl, ⟨Or.inl rfl, trivial⟩⟩⟩ ?_
    exact k2 _ _ h
  · have h := h.2 c
    refine am_aload_n (i := 0) (t := 17) (pc := 20) G dX10_work_20 rfl rfl rfl ?_
    refine am_iload_n (i := 1) (pc := 21) G dX10_work_21 rfl rfl ?_
    refine am_iload_n (i := 2) (pc := 22) G dX10_work_22 rfl rfl ?_
    refine am_callV (rk := 4) (rmc := rm_X10_workForest) (st := []) (pc := 23) G 10 [(0, _), (0, _)] rfl (by decide) rfl dX10_work_23 tw_m_RX10_163 tw_i_X10_workForest tw_v_X10_workForest tw_z_RX10 tw_c_X10_workForest hy_X10_workForest (callrm hr rfl) rfl (RunsM.mono h (fun r1 M2 h => ?_)) Z.rm
    show AW X 26 _ [] M2
    refine am_iinc (pc := 26) G dX10_work_26 rfl (nlx hn rfl) rfl ?_
    refine am_goto (pc := 29) (ls := [(20, _), (0, _), (0, _)]) G 12 dX10_work_29 (by decide) ?_
    refine am_le (ls' := [(20, _), (0, _), (0, _)]) ⟨Or.inr rfl, ⟨Or.inr rfl, ⟨Or.inr rfl, trivial⟩⟩⟩ ?_
    exact k12 _ _ h
def wp_X10_work_12 (V : VV) (x1 x2 : Int) (M : Mem) (Q : Int → Mem → Prop) (B2 : Int → Mem → Prop) : Prop :=
  ∃ (I : Int → Mem → Prop) (μ : Int → Mem → Nat), I x2 M ∧ ∀ (y2 : Int) (N : Mem), I y2 N → wp_X10_work_12_b V x1 y2 N Q B2 (fun z2 N1 => I z2 N1 ∧ μ z2 N1 < μ y2 N)
theorem swp_X10_work_12 {X : XX} {Q : Int → Mem → Prop} (G : GX X cX10_work "TreeHandsModel") (Z : RX X 0 Q) (hn : nLX X = 3) (hr : roomX X = rm_X10_work) (x1 x2 : Int) (M : Mem) (B2 : Int → Mem → Prop) (k2 : ∀ (z1 : Int) (N : Mem), B2 z1 N → AW X 2 [(20, 203), (0, z1), (99, 0)] [] N) (h : wp_X10_work_12 (vX X) x1 x2 M Q B2) : AW X 12 [(20, 203), (0, x1), (0, x2)] [] M := by
  unfold wp_X10_work_12 at h
  obtain ⟨I, μ, hI, hs⟩ := h
  have key : ∀ (n : Nat) (y2 : Int) (N : Mem), μ y2 N < n → I y2 N → AW X 12 [(20, 203), (0, x1), (0, y2)] [] N := by
    intro n
    induction n with
    | zero => intro y2 N hlt; exact absurd hlt (Nat.not_lt_zero _)
    | succ n ih =>
      intro y2 N hlt hI
      exact swp_X10_work_12_b G Z hn hr x1 y2 N B2 k2 (fun z2 N1 => I z2 N1 ∧ μ z2 N1 < μ y2 N) (fun z2 N1 hz => ih z2 N1 (by omega) hz.1) (hs y2 N hI)
  exact key _ x2 M (Nat.lt_succ_self _) hI
def wp_X10_work_2_b (V : VV) (x1 : Int) (M : Mem) (Q : Int → Mem → Prop) (B2 : Int → Mem → Prop) : Prop :=
  (M 203 10 < x1 →
    ((0 : Int) ≤ w32 (w32 (17 * M 203 10) + M 203 11) ∧ w32 (w32 (17 * M 203 10) + M 203 11) < (289 : Int)) ∧
    Q (M 218 (w32 (w32 (17 * M 203 10) + M 203 11))) M) ∧ (¬ (M 203 10 < x1) →
    wp_X10_work_12 V x1 1 M Q B2)
theorem swp_X10_work_2_b {X : XX} {Q : Int → Mem → Prop} (G : GX X cX10_work "TreeHandsModel") (Z : RX X 0 Q) (hn : nLX X = 3) (hr : roomX X = rm_X10_work) (x1 : Int) (M : Mem) (B2 : Int → Mem → Prop) (k2 : ∀ (z1 : Int) (N : Mem), B2 z1 N → AW X 2 [(20, 203), (0, z1), (99, 0)] [] N) (h : wp_X10_work_2_b (vX X) x1 M Q B2) : AW X 2 [(20, 203), (0, x1), (99, 0)] [] M := by
  unfold wp_X10_work_2_b at h
  refine am_iload_n (i := 1) (pc := 2) G dX10_work_2 rfl rfl ?_
  refine am_aload_n (i := 0) (t := 17) (pc := 3) G dX10_work_3 rfl rfl rfl ?_
  refine gf_X10_10 (pc := 4) G dX10_work_4 tw_f_RX10_157 ?_
  refine am_icmp_gt (pc := 7) G 38 dX10_work_7 (by decide) (fun c => ?_) (fun c => ?_)
  · have h := h.1 c
    refine am_aload_n (i := 0) (t := 17) (pc := 38) G dX10_work_38 rfl rfl rfl ?_
    refine gf_X10_20 (pc := 39) G dX10_work_39 tw_f_RX10_52 ?_
    refine am_bipush (pc := 42) G dX10_work_42 (by decide) (by decide) ?_
    refine am_aload_n (i := 0) (t := 17) (pc := 44) G dX10_work_44 rfl rfl rfl ?_
    refine gf_X10_10 (pc := 45) G dX10_work_45 tw_f_RX10_157 ?_
    refine am_imul (pc := 48) G dX10_work_48 ?_
    refine am_aload_n (i := 0) (t := 17) (pc := 49) G dX10_work_49 rfl rfl rfl ?_
    refine gf_X10_11 (pc := 50) G dX10_work_50 tw_f_RX10_160 ?_
    refine am_iadd (pc := 53) G dX10_work_53 ?_
    refine am_iald (pc := 54) G 289 dX10_work_54 (by decide) h.1 ?_
    have h := h.2
    exact am_iret (pc := 55) G Z dX10_work_55 h
  · have h := h.2 c
    refine am_iconst (pc := 10) G dX10_work_10 (by decide) ?_
    refine am_istore_n (pc := 11) G dX10_work_11 rfl (nlx hn rfl) rfl ?_
    refine am_le (ls' := [(20, _), (0, _), (0, _)]) ⟨Or.inr rfl, ⟨Or.inr rfl, ⟨Or.inr rfl, trivial⟩⟩⟩ ?_
    exact swp_X10_work_12 G Z hn hr _ _ _ B2 k2 h
def wp_X10_work_2 (V : VV) (x1 : Int) (M : Mem) (Q : Int → Mem → Prop) : Prop :=
  ∃ (I : Int → Mem → Prop) (μ : Int → Mem → Nat), I x1 M ∧ ∀ (y1 : Int) (N : Mem), I y1 N → wp_X10_work_2_b V y1 N Q (fun z1 N1 => I z1 N1 ∧ μ z1 N1 < μ y1 N)
theorem swp_X10_work_2 {X : XX} {Q : Int → Mem → Prop} (G : GX X cX10_work "TreeHandsModel") (Z : RX X 0 Q) (hn : nLX X = 3) (hr : roomX X = rm_X10_work) (x1 : Int) (M : Mem) (h : wp_X10_work_2 (vX X) x1 M Q) : AW X 2 [(20, 203), (0, x1), (99, 0)] [] M := by
  unfold wp_X10_work_2 at h
  obtain ⟨I, μ, hI, hs⟩ := h
  have key : ∀ (n : Nat) (y1 : Int) (N : Mem), μ y1 N < n → I y1 N → AW X 2 [(20, 203), (0, y1), (99, 0)] [] N := by
    intro n
    induction n with
    | zero => intro y1 N hlt; exact absurd hlt (Nat.not_lt_zero _)
    | succ n ih =>
      intro y1 N hlt hI
      exact swp_X10_work_2_b G Z hn hr y1 N (fun z1 N1 => I z1 N1 ∧ μ z1 N1 < μ y1 N) (fun z1 N1 hz => ih z1 N1 (by omega) hz.1) (hs y1 N hI)
  exact key _ x1 M (Nat.lt_succ_self _) hI
def wp_X10_work (V : VV) (M : Mem) (Q : Int → Mem → Prop) : Prop :=
  wp_X10_work_2 V 1 M Q
theorem of_X10_work {V : VV} {M : Mem} {Q : Int → Mem → Prop} (h : wp_X10_work V M Q) : R_X10_work V M Q := by
  refine met_in (own := "TreeHandsModel") (by decide +kernel) rfl rfl (Nat.le_of_ble_eq_true rfl) ?_
  intro X G Z hn hr hv
  subst hv
  unfold wp_X10_work at h
  show AW X 0 [(20, 203), (99, 0), (99, 0)] [] M
  refine am_iconst (pc := 0) G dX10_work_0 (by decide) ?_
  refine am_istore_n (pc := 1) G dX10_work_1 rfl (nlx hn rfl) rfl ?_
  refine am_le (ls' := [(20, _), (0, _), (99, 0)]) ⟨Or.inr rfl, ⟨Or.inr rfl, ⟨Or.inl rfl, trivial⟩⟩⟩ ?_
  exact swp_X10_work_2 G Z hn hr _ _ h
-- X10_layPrices TreeHandsModel.layPrices(II)V
def rm_X10_layPrices : Room := { frames := 0, cells := 0, slots := 0, locals := 0 }
theorem hy_X10_layPrices : yX10_layPrices.cls ≠ "java/lang/invoke/MethodHandle" ∧ yX10_layPrices.cls ≠ "java/lang/invoke/VarHandle" ∧ (parseMethodDescriptor yX10_layPrices.desc).map (fun d => d.parameters.length) = some 2 := by decide +kernel
abbrev R_X10_layPrices (V : VV) (x1 x2 : Int) (M : Mem) (Q : Int → Mem → Prop) : Prop := RunsM V yX10_layPrices (.code yX10_layPrices cX10_layPrices 5 (Option.none : Option Jvm.ClassFile.FieldType)) rm_X10_layPrices 4 [(20, 203), (0, x1), (0, x2)] M Q
def wp_X10_layPrices_25_b (V : VV) (x1 x2 x3 x4 : Int) (M : Mem) (Q : Int → Mem → Prop) (B2 : Int → Mem → Prop) (B25 : Int → Mem → Prop) : Prop :=
  (M 203 11 ≤ x4 →
    B2 (w32 (x3 + 1)) M) ∧ (¬ (M 203 11 ≤ x4) →
    ((0 : Int) ≤ w32 (w32 (32 * x1) + x3) ∧ w32 (w32 (32 * x1) + x3) < (672 : Int)) ∧
    ((0 : Int) ≤ w32 (w32 (32 * x2) + x4) ∧ w32 (w32 (32 * x2) + x4) < (672 : Int)) ∧
    (M 205 (w32 (w32 (32 * x1) + x3)) = M 205 (w32 (w32 (32 * x2) + x4)) →
      ((0 : Int) ≤ w32 (w32 (16 * x3) + x4) ∧ w32 (w32 (16 * x3) + x4) < (256 : Int)) ∧
      B25 (w32 (x4 + 1)) (mset M 214 (w32 (w32 (16 * x3) + x4)) 0)) ∧ (¬ (M 205 (w32 (w32 (32 * x1) + x3)) = M 205 (w32 (w32 (32 * x2) + x4))) →
      ((0 : Int) ≤ 2 ∧ 2 < (3 : Int)) ∧
      ((0 : Int) ≤ w32 (w32 (16 * x3) + x4) ∧ w32 (w32 (16 * x3) + x4) < (256 : Int)) ∧
      B25 (w32 (x4 + 1)) (mset M 214 (w32 (w32 (16 * x3) + x4)) (M 208 2))))
theorem swp_X10_layPrices_25_b {X : XX} {Q : Int → Mem → Prop} (G : GX X cX10_layPrices "TreeHandsModel") (Z : RX X 4 Q) (hn : nLX X = 5) (hr : roomX X = rm_X10_layPrices) (x1 x2 x3 x4 : Int) (M : Mem) (B2 : Int → Mem → Prop) (k2 : ∀ (z3 : Int) (N : Mem), B2 z3 N → AW X 2 [(20, 203), (0, x1), (0, x2), (0, z3), (99, 0)] [] N) (B25 : Int → Mem → Prop) (k25 : ∀ (z4 : Int) (N : Mem), B25 z4 N → AW X 25 [(20, 203), (0, x1), (0, x2), (0, x3), (0, z4)] [] N) (h : wp_X10_layPrices_25_b (vX X) x1 x2 x3 x4 M Q B2 B25) : AW X 25 [(20, 203), (0, x1), (0, x2), (0, x3), (0, x4)] [] M := by
  unfold wp_X10_layPrices_25_b at h
  refine am_iload (pc := 25) G dX10_layPrices_25 rfl ?_
  refine am_aload_n (i := 0) (t := 17) (pc := 27) G dX10_layPrices_27 rfl rfl rfl ?_
  refine gf_X10_11 (pc := 28) G dX10_layPrices_28 tw_f_RX10_160 ?_
  refine am_icmp_ge (pc := 31) G 88 dX10_layPrices_31 (by decide) (fun c => ?_) (fun c => ?_)
  · have h := h.1 c
    refine am_iinc (pc := 88) G dX10_layPrices_88 rfl (nlx hn rfl) rfl ?_
    refine am_goto (pc := 91) (ls := [(20, _), (0, _), (0, _), (0, _), (0, _)]) G 2 dX10_layPrices_91 (by decide) ?_
    refine am_le (ls' := [(20, _), (0, _), (0, _), (0, _), (99, 0)]) ⟨Or.inr rfl, ⟨Or.inr rfl, ⟨Or.inr rfl, ⟨Or.inr rfl, ⟨Or.inl rfl, trivial⟩⟩⟩⟩⟩ ?_
    exact k2 _ _ h
  · have h := h.2 c
    refine am_aload_n (i := 0) (t := 17) (pc := 34) G dX10_layPrices_34 rfl rfl rfl ?_
    refine gf_X10_16 (pc := 35) G dX10_layPrices_35 tw_f_RX10_40 ?_
    refine am_bipush (pc := 38) G dX10_layPrices_38 (by decide) (by decide) ?_
    refine am_iload_n (i := 3) (pc := 40) G dX10_layPrices_40 rfl rfl ?_
    refine am_imul (pc := 41) G dX10_layPrices_41 ?_
    refine am_iload (pc := 42) G dX10_layPrices_42 rfl ?_
    refine am_iadd (pc := 44) G dX10_layPrices_44 ?_
    refine am_aload_n (i := 0) (t := 17) (pc := 45) G dX10_layPrices_45 rfl rfl rfl ?_
    refine gf_X10_1 (pc := 46) G dX10_layPrices_46 tw_f_RX10_13 ?_
    refine am_bipush (pc := 49) G dX10_layPrices_49 (by decide) (by decide) ?_
    refine am_iload_n (i := 1) (pc := 51) G dX10_layPrices_51 rfl rfl ?_
    refine am_imul (pc := 52) G dX10_layPrices_52 ?_
    refine am_iload_n (i := 3) (pc := 53) G dX10_layPrices_53 rfl rfl ?_
    refine am_iadd (pc := 54) G dX10_layPrices_54 ?_
    refine am_iald (pc := 55) G 672 dX10_layPrices_55 (by decide) h.1 ?_
    have h := h.2
    refine am_aload_n (i := 0) (t := 17) (pc := 56) G dX10_layPrices_56 rfl rfl rfl ?_
    refine gf_X10_1 (pc := 57) G dX10_layPrices_57 tw_f_RX10_13 ?_
    refine am_bipush (pc := 60) G dX10_layPrices_60 (by decide) (by decide) ?_
    refine am_iload_n (i := 2) (pc := 62) G dX10_layPrices_62 rfl rfl ?_
    refine am_imul (pc := 63) G dX10_layPrices_63 ?_
    refine am_iload (pc := 64) G dX10_layPrices_64 rfl ?_
    refine am_iadd (pc := 66) G dX10_layPrices_66 ?_
    refine am_iald (pc := 67) G 672 dX10_layPrices_67 (by decide) h.1 ?_
    have h := h.2
    refine am_icmp_ne (pc := 68) G 75 dX10_layPrices_68 (by decide) (fun c => ?_) (fun c => ?_)
    · have h := h.2 c
      refine am_aload_n (i := 0) (t := 17) (pc := 75) G dX10_layPrices_75 rfl rfl rfl ?_
      refine gf_X10_6 (pc := 76) G dX10_layPrices_76 tw_f_RX10_22 ?_
      refine am_iconst (pc := 79) G dX10_layPrices_79 (by decide) ?_
      refine am_iald (pc := 80) G 3 dX10_layPrices_80 (by decide) h.1 ?_
      have h := h.2
      refine am_iast (pc := 81) G 256 dX10_layPrices_81 (by decide) h.1 ?_
      have h := h.2
      refine am_iinc (pc := 82) G dX10_layPrices_82 rfl (nlx hn rfl) rfl ?_
      refine am_goto (pc := 85) (ls := [(20, _), (0, _), (0, _), (0, _), (0, _)]) G 25 dX10_layPrices_85 (by decide) ?_
      refine am_le (ls' := [(20, _), (0, _), (0, _), (0, _), (0, _)]) ⟨Or.inr rfl, ⟨Or.inr rfl, ⟨Or.inr rfl, ⟨Or.inr rfl, ⟨Or.inr rfl, trivial⟩⟩⟩⟩⟩ ?_
      exact k25 _ _ h
    · have h := h.1 c
      refine am_iconst (pc := 71) G dX10_layPrices_71 (by decide) ?_
      refine am_goto (pc := 72) G 81 dX10_layPrices_72 (by decide) ?_
      refine am_iast (pc := 81) G 256 dX10_layPrices_81 (by decide) h.1 ?_
      have h := h.2
      refine am_iinc (pc := 82) G dX10_layPrices_82 rfl (nlx hn rfl) rfl ?_
      refine am_goto (pc := 85) (ls := [(20, _), (0, _), (0, _), (0, _), (0, _)]) G 25 dX10_layPrices_85 (by decide) ?_
      refine am_le (ls' := [(20, _), (0, _), (0, _), (0, _), (0, _)]) ⟨Or.inr rfl, ⟨Or.inr rfl, ⟨Or.inr rfl, ⟨Or.inr rfl, ⟨Or.inr rfl, trivial⟩⟩⟩⟩⟩ ?_
      exact k25 _ _ h
def wp_X10_layPrices_25 (V : VV) (x1 x2 x3 x4 : Int) (M : Mem) (Q : Int → Mem → Prop) (B2 : Int → Mem → Prop) : Prop :=
  ∃ (I : Int → Mem → Prop) (μ : Int → Mem → Nat), I x4 M ∧ ∀ (y4 : Int) (N : Mem), I y4 N → wp_X10_layPrices_25_b V x1 x2 x3 y4 N Q B2 (fun z4 N1 => I z4 N1 ∧ μ z4 N1 < μ y4 N)
theorem swp_X10_layPrices_25 {X : XX} {Q : Int → Mem → Prop} (G : GX X cX10_layPrices "TreeHandsModel") (Z : RX X 4 Q) (hn : nLX X = 5) (hr : roomX X = rm_X10_layPrices) (x1 x2 x3 x4 : Int) (M : Mem) (B2 : Int → Mem → Prop) (k2 : ∀ (z3 : Int) (N : Mem), B2 z3 N → AW X 2 [(20, 203), (0, x1), (0, x2), (0, z3), (99, 0)] [] N) (h : wp_X10_layPrices_25 (vX X) x1 x2 x3 x4 M Q B2) : AW X 25 [(20, 203), (0, x1), (0, x2), (0, x3), (0, x4)] [] M := by
  unfold wp_X10_layPrices_25 at h
  obtain ⟨I, μ, hI, hs⟩ := h
  have key : ∀ (n : Nat) (y4 : Int) (N : Mem), μ y4 N < n → I y4 N → AW X 25 [(20, 203), (0, x1), (0, x2), (0, x3), (0, y4)] [] N := by
    intro n
    induction n with
    | zero => intro y4 N hlt; exact absurd hlt (Nat.not_lt_zero _)
    | succ n ih =>
      intro y4 N hlt hI
      exact swp_X10_layPrices_25_b G Z hn hr x1 x2 x3 y4 N B2 k2 (fun z4 N1 => I z4 N1 ∧ μ z4 N1 < μ y4 N) (fun z4 N1 hz => ih z4 N1 (by omega) hz.1) (hs y4 N hI)
  exact key _ x4 M (Nat.lt_succ_self _) hI
def wp_X10_layPrices_2_b (V : VV) (x1 x2 x3 : Int) (M : Mem) (Q : Int → Mem → Prop) (B2 : Int → Mem → Prop) : Prop :=
  (M 203 10 ≤ x3 →
    Q 0 M) ∧ (¬ (M 203 10 ≤ x3) →
    ((0 : Int) ≤ 0 ∧ 0 < (3 : Int)) ∧
    ((0 : Int) ≤ x3 ∧ x3 < (16 : Int)) ∧
    wp_X10_layPrices_25 V x1 x2 x3 0 (mset M 215 x3 (M 208 0)) Q B2)
theorem swp_X10_layPrices_2_b {X : XX} {Q : Int → Mem → Prop} (G : GX X cX10_layPrices "TreeHandsModel") (Z : RX X 4 Q) (hn : nLX X = 5) (hr : roomX X = rm_X10_layPrices) (x1 x2 x3 : Int) (M : Mem) (B2 : Int → Mem → Prop) (k2 : ∀ (z3 : Int) (N : Mem), B2 z3 N → AW X 2 [(20, 203), (0, x1), (0, x2), (0, z3), (99, 0)] [] N) (h : wp_X10_layPrices_2_b (vX X) x1 x2 x3 M Q B2) : AW X 2 [(20, 203), (0, x1), (0, x2), (0, x3), (99, 0)] [] M := by
  unfold wp_X10_layPrices_2_b at h
  refine am_iload_n (i := 3) (pc := 2) G dX10_layPrices_2 rfl rfl ?_
  refine am_aload_n (i := 0) (t := 17) (pc := 3) G dX10_layPrices_3 rfl rfl rfl ?_
  refine gf_X10_10 (pc := 4) G dX10_layPrices_4 tw_f_RX10_157 ?_
  refine am_icmp_ge (pc := 7) G 94 dX10_layPrices_7 (by decide) (fun c => ?_) (fun c => ?_)
  · have h := h.1 c
    exact am_vret (pc := 94) G Z dX10_layPrices_94 h
  · have h := h.2 c
    refine am_aload_n (i := 0) (t := 17) (pc := 10) G dX10_layPrices_10 rfl rfl rfl ?_
    refine gf_X10_17 (pc := 11) G dX10_layPrices_11 tw_f_RX10_43 ?_
    refine am_iload_n (i := 3) (pc := 14) G dX10_layPrices_14 rfl rfl ?_
    refine am_aload_n (i := 0) (t := 17) (pc := 15) G dX10_layPrices_15 rfl rfl rfl ?_
    refine gf_X10_6 (pc := 16) G dX10_layPrices_16 tw_f_RX10_22 ?_
    refine am_iconst (pc := 19) G dX10_layPrices_19 (by decide) ?_
    refine am_iald (pc := 20) G 3 dX10_layPrices_20 (by decide) h.1 ?_
    have h := h.2
    refine am_iast (pc := 21) G 16 dX10_layPrices_21 (by decide) h.1 ?_
    have h := h.2
    refine am_iconst (pc := 22) G dX10_layPrices_22 (by decide) ?_
    refine am_istore (pc := 23) G dX10_layPrices_23 (nlx hn rfl) rfl ?_
    refine am_le (ls' := [(20, _), (0, _), (0, _), (0, _), (0, _)]) ⟨Or.inr rfl, ⟨Or.inr rfl, ⟨Or.inr rfl, ⟨Or.inr rfl, ⟨Or.inr rfl, trivial⟩⟩⟩⟩⟩ ?_
    exact swp_X10_layPrices_25 G Z hn hr _ _ _ _ _ B2 k2 h
def wp_X10_layPrices_2 (V : VV) (x1 x2 x3 : Int) (M : Mem) (Q : Int → Mem → Prop) : Prop :=
  ∃ (I : Int → Mem → Prop) (μ : Int → Mem → Nat), I x3 M ∧ ∀ (y3 : Int) (N : Mem), I y3 N → wp_X10_layPrices_2_b V x1 x2 y3 N Q (fun z3 N1 => I z3 N1 ∧ μ z3 N1 < μ y3 N)
theorem swp_X10_layPrices_2 {X : XX} {Q : Int → Mem → Prop} (G : GX X cX10_layPrices "TreeHandsModel") (Z : RX X 4 Q) (hn : nLX X = 5) (hr : roomX X = rm_X10_layPrices) (x1 x2 x3 : Int) (M : Mem) (h : wp_X10_layPrices_2 (vX X) x1 x2 x3 M Q) : AW X 2 [(20, 203), (0, x1), (0, x2), (0, x3), (99, 0)] [] M := by
  unfold wp_X10_layPrices_2 at h
  obtain ⟨I, μ, hI, hs⟩ := h
  have key : ∀ (n : Nat) (y3 : Int) (N : Mem), μ y3 N < n → I y3 N → AW X 2 [(20, 203), (0, x1), (0, x2), (0, y3), (99, 0)] [] N := by
    intro n
    induction n with
    | zero => intro y3 N hlt; exact absurd hlt (Nat.not_lt_zero _)
    | succ n ih =>
      intro y3 N hlt hI
      exact swp_X10_layPrices_2_b G Z hn hr x1 x2 y3 N (fun z3 N1 => I z3 N1 ∧ μ z3 N1 < μ y3 N) (fun z3 N1 hz => ih z3 N1 (by omega) hz.1) (hs y3 N hI)
  exact key _ x3 M (Nat.lt_succ_self _) hI
def wp_X10_layPrices (V : VV) (x1 x2 : Int) (M : Mem) (Q : Int → Mem → Prop) : Prop :=
  wp_X10_layPrices_2 V x1 x2 0 M Q
theorem of_X10_layPrices {V : VV} {x1 x2 : Int} {M : Mem} {Q : Int → Mem → Prop} (h : wp_X10_layPrices V x1 x2 M Q) : R_X10_layPrices V x1 x2 M Q := by
  refine met_in (own := "TreeHandsModel") (by decide +kernel) rfl rfl (Nat.le_of_ble_eq_true rfl) ?_
  intro X G Z hn hr hv
  subst hv
  unfold wp_X10_layPrices at h
  show AW X 0 [(20, 203), (0, x1), (0, x2), (99, 0), (99, 0)] [] M
  refine am_iconst (pc := 0) G dX10_layPrices_0 (by decide) ?_
  refine am_istore_n (pc := 1) G dX10_layPrices_1 rfl (nlx hn rfl) rfl ?_
  refine am_le (ls' := [(20, _), (0, _), (0, _), (0, _), (99, 0)]) ⟨Or.inr rfl, ⟨Or.inr rfl, ⟨Or.inr rfl, ⟨Or.inr rfl, ⟨Or.inl rfl, trivial⟩⟩⟩⟩⟩ ?_
  exact swp_X10_layPrices_2 G Z hn hr _ _ _ _ h
-- X10_leastOf TreeHandsModel.leastOf(II)I
def rm_X10_leastOf : Room := { frames := 3, cells := 0, slots := 0, locals := 72 }
theorem hy_X10_leastOf : yX10_leastOf.cls ≠ "java/lang/invoke/MethodHandle" ∧ yX10_leastOf.cls ≠ "java/lang/invoke/VarHandle" ∧ (parseMethodDescriptor yX10_leastOf.desc).map (fun d => d.parameters.length) = some 2 := by decide +kernel
abbrev R_X10_leastOf (V : VV) (x1 x2 : Int) (M : Mem) (Q : Int → Mem → Prop) : Prop := RunsM V yX10_leastOf (.code yX10_leastOf cX10_leastOf 3 (Option.some Jvm.ClassFile.FieldType.int)) rm_X10_leastOf 0 [(20, 203), (0, x1), (0, x2)] M Q
def wp_X10_leastOf (V : VV) (x1 x2 : Int) (M : Mem) (Q : Int → Mem → Prop) : Prop :=
  R_X10_layOrders V x1 x2 M (fun _ M2 =>
  R_X10_layPrices V x1 x2 M2 (fun _ M4 =>
  R_X10_work V M4 (fun r5 M6 =>
  Q r5 M6)))
theorem of_X10_leastOf {V : VV} {x1 x2 : Int} {M : Mem} {Q : Int → Mem → Prop} (h : wp_X10_leastOf V x1 x2 M Q) : R_X10_leastOf V x1 x2 M Q := by
  refine met_in (own := "TreeHandsModel") (by decide +kernel) rfl rfl (Nat.le_of_ble_eq_true rfl) ?_
  intro X G Z hn hr hv
  subst hv
  unfold wp_X10_leastOf at h
  show AW X 0 [(20, 203), (0, x1), (0, x2)] [] M
  refine am_aload_n (i := 0) (t := 17) (pc := 0) G dX10_leastOf_0 rfl rfl rfl ?_
  refine am_iload_n (i := 1) (pc := 1) G dX10_leastOf_1 rfl rfl ?_
  refine am_iload_n (i := 2) (pc := 2) G dX10_leastOf_2 rfl rfl ?_
  refine am_callV (rk := 4) (rmc := rm_X10_layOrders) (st := []) (pc := 3) G 10 [(0, _), (0, _)] rfl (by decide) rfl dX10_leastOf_3 tw_m_RX10_170 tw_i_X10_layOrders tw_v_X10_layOrders tw_z_RX10 tw_c_X10_layOrders hy_X10_layOrders (callrm hr rfl) rfl (RunsM.mono h (fun r1 M2 h => ?_)) Z.rm
  show AW X 6 _ [] M2
  refine am_aload_n (i := 0) (t := 17) (pc := 6) G dX10_leastOf_6 rfl rfl rfl ?_
  refine am_iload_n (i := 1) (pc := 7) G dX10_leastOf_7 rfl rfl ?_
  refine am_iload_n (i := 2) (pc := 8) G dX10_leastOf_8 rfl rfl ?_
  refine am_callV (rk := 4) (rmc := rm_X10_layPrices) (st := []) (pc := 9) G 10 [(0, _), (0, _)] rfl (by decide) rfl dX10_leastOf_9 tw_m_RX10_173 tw_i_X10_layPrices tw_v_X10_layPrices tw_z_RX10 tw_c_X10_layPrices hy_X10_layPrices (callrm hr rfl) rfl (RunsM.mono h (fun r3 M4 h => ?_)) Z.rm
  show AW X 12 _ [] M4
  refine am_aload_n (i := 0) (t := 17) (pc := 12) G dX10_leastOf_12 rfl rfl rfl ?_
  refine am_callV (rk := 0) (rmc := rm_X10_work) (st := []) (pc := 13) G 10 [] rfl (by decide) rfl dX10_leastOf_13 tw_m_RX10_176 tw_i_X10_work tw_v_X10_work tw_z_RX10 tw_c_X10_work hy_X10_work (callrm hr rfl) rfl (RunsM.mono h (fun r5 M6 h => ?_)) Z.rm
  show AW X 16 _ [(0, _)] M6
  exact am_iret (pc := 16) G Z dX10_leastOf_16 h
-- X10_areBoth TreeHandsModel.areBoth(II)Z
def rm_X10_areBoth : Room := { frames := 2, cells := 0, slots := 0, locals := 42 }
theorem hy_X10_areBoth : yX10_areBoth.cls ≠ "java/lang/invoke/MethodHandle" ∧ yX10_areBoth.cls ≠ "java/lang/invoke/VarHandle" ∧ (parseMethodDescriptor yX10_areBoth.desc).map (fun d => d.parameters.length) = some 2 := by decide +kernel
abbrev R_X10_areBoth (V : VV) (x1 x2 : Int) (M : Mem) (Q : Int → Mem → Prop) : Prop := RunsM V yX10_areBoth (.code yX10_areBoth cX10_areBoth 3 (Option.some Jvm.ClassFile.FieldType.boolean)) rm_X10_areBoth 1 [(20, 203), (0, x1), (0, x2)] M Q
def wp_X10_areBoth (V : VV) (x1 x2 : Int) (M : Mem) (Q : Int → Mem → Prop) : Prop :=
  R_X10_isTree V x1 M (fun r1 M2 =>
  (r1 = 0 →
    Q 0 M2) ∧ (¬ (r1 = 0) →
    R_X10_isTree V x2 M2 (fun r3 M4 =>
    (r3 = 0 →
      Q 0 M4) ∧ (¬ (r3 = 0) →
      ((0 : Int) ≤ x1 ∧ x1 < (21 : Int)) ∧
      (M4 204 x1 ≤ 0 →
        Q 0 M4) ∧ (¬ (M4 204 x1 ≤ 0) →
        ((0 : Int) ≤ x2 ∧ x2 < (21 : Int)) ∧
        (M4 204 x2 ≤ 0 →
          Q 0 M4) ∧ (¬ (M4 204 x2 ≤ 0) →
          Q 1 M4))))))
theorem of_X10_areBoth {V : VV} {x1 x2 : Int} {M : Mem} {Q : Int → Mem → Prop} (h : wp_X10_areBoth V x1 x2 M Q) : R_X10_areBoth V x1 x2 M Q := by
  refine met_in (own := "TreeHandsModel") (by decide +kernel) rfl rfl (Nat.le_of_ble_eq_true rfl) ?_
  intro X G Z hn hr hv
  subst hv
  unfold wp_X10_areBoth at h
  show AW X 0 [(20, 203), (0, x1), (0, x2)] [] M
  refine am_iload_n (i := 1) (pc := 0) G dX10_areBoth_0 rfl rfl ?_
  refine am_callS (rk := 1) (rmc := rm_X10_isTree) (st := []) (pc := 1) G [(0, _)] dX10_areBoth_1 tw_m_RX10_114 tw_s_X10_isTree tw_z_RX10 tw_c_X10_isTree hy_X10_isTree (callrm hr rfl) rfl (RunsM.mono h (fun r1 M2 h => ?_)) Z.rm
  show AW X 4 _ [(0, _)] M2
  refine am_if_eq (pc := 4) G 36 dX10_areBoth_4 (by decide) (fun c => ?_) (fun c => ?_)
  · have h := h.1 c
    refine am_iconst (pc := 36) G dX10_areBoth_36 (by decide) ?_
    exact am_zret (pc := 37) G Z dX10_areBoth_37 ⟨by decide, h⟩
  · have h := h.2 c
    refine am_iload_n (i := 2) (pc := 7) G dX10_areBoth_7 rfl rfl ?_
    refine am_callS (rk := 1) (rmc := rm_X10_isTree) (st := []) (pc := 8) G [(0, _)] dX10_areBoth_8 tw_m_RX10_114 tw_s_X10_isTree tw_z_RX10 tw_c_X10_isTree hy_X10_isTree (callrm hr rfl) rfl (RunsM.mono h (fun r3 M4 h => ?_)) Z.rm
    show AW X 11 _ [(0, _)] M4
    refine am_if_eq (pc := 11) G 36 dX10_areBoth_11 (by decide) (fun c => ?_) (fun c => ?_)
    · have h := h.1 c
      refine am_iconst (pc := 36) G dX10_areBoth_36 (by decide) ?_
      exact am_zret (pc := 37) G Z dX10_areBoth_37 ⟨by decide, h⟩
    · have h := h.2 c
      refine am_aload_n (i := 0) (t := 17) (pc := 14) G dX10_areBoth_14 rfl rfl rfl ?_
      refine gf_X10_0 (pc := 15) G dX10_areBoth_15 tw_f_RX10_7 ?_
      refine am_iload_n (i := 1) (pc := 18) G dX10_areBoth_18 rfl rfl ?_
      refine am_iald (pc := 19) G 21 dX10_areBoth_19 (by decide) h.1 ?_
      have h := h.2
      refine am_if_le (pc := 20) G 36 dX10_areBoth_20 (by decide) (fun c => ?_) (fun c => ?_)
      · have h := h.1 c
        refine am_iconst (pc := 36) G dX10_areBoth_36 (by decide) ?_
        exact am_zret (pc := 37) G Z dX10_areBoth_37 ⟨by decide, h⟩
      · have h := h.2 c
        refine am_aload_n (i := 0) (t := 17) (pc := 23) G dX10_areBoth_23 rfl rfl rfl ?_
        refine gf_X10_0 (pc := 24) G dX10_areBoth_24 tw_f_RX10_7 ?_
        refine am_iload_n (i := 2) (pc := 27) G dX10_areBoth_27 rfl rfl ?_
        refine am_iald (pc := 28) G 21 dX10_areBoth_28 (by decide) h.1 ?_
        have h := h.2
        refine am_if_le (pc := 29) G 36 dX10_areBoth_29 (by decide) (fun c => ?_) (fun c => ?_)
        · have h := h.1 c
          refine am_iconst (pc := 36) G dX10_areBoth_36 (by decide) ?_
          exact am_zret (pc := 37) G Z dX10_areBoth_37 ⟨by decide, h⟩
        · have h := h.2 c
          refine am_iconst (pc := 32) G dX10_areBoth_32 (by decide) ?_
          refine am_goto (pc := 33) G 37 dX10_areBoth_33 (by decide) ?_
          exact am_zret (pc := 37) G Z dX10_areBoth_37 ⟨by decide, h⟩
-- X10_least TreeHandsModel.least(II)I
def rm_X10_least : Room := { frames := 4, cells := 0, slots := 0, locals := 94 }
theorem hy_X10_least : yX10_least.cls ≠ "java/lang/invoke/MethodHandle" ∧ yX10_least.cls ≠ "java/lang/invoke/VarHandle" ∧ (parseMethodDescriptor yX10_least.desc).map (fun d => d.parameters.length) = some 2 := by decide +kernel
abbrev R_X10_least (V : VV) (x1 x2 : Int) (M : Mem) (Q : Int → Mem → Prop) : Prop := RunsM V yX10_least (.code yX10_least cX10_least 3 (Option.some Jvm.ClassFile.FieldType.int)) rm_X10_least 0 [(20, 203), (0, x1), (0, x2)] M Q
def wp_X10_least (V : VV) (x1 x2 : Int) (M : Mem) (Q : Int → Mem → Prop) : Prop :=
  R_X10_areBoth V x1 x2 M (fun r1 M2 =>
  (r1 = 0 →
    Q (-1) M2) ∧ (¬ (r1 = 0) →
    R_X10_leastOf V x1 x2 M2 (fun r3 M4 =>
    Q r3 M4)))
theorem of_X10_least {V : VV} {x1 x2 : Int} {M : Mem} {Q : Int → Mem → Prop} (h : wp_X10_least V x1 x2 M Q) : R_X10_least V x1 x2 M Q := by
  refine met_in (own := "TreeHandsModel") (by decide +kernel) rfl rfl (Nat.le_of_ble_eq_true rfl) ?_
  intro X G Z hn hr hv
  subst hv
  unfold wp_X10_least at h
  show AW X 0 [(20, 203), (0, x1), (0, x2)] [] M
  refine am_aload_n (i := 0) (t := 17) (pc := 0) G dX10_least_0 rfl rfl rfl ?_
  refine am_iload_n (i := 1) (pc := 1) G dX10_least_1 rfl rfl ?_
  refine am_iload_n (i := 2) (pc := 2) G dX10_least_2 rfl rfl ?_
  refine am_callV (rk := 1) (rmc := rm_X10_areBoth) (st := []) (pc := 3) G 10 [(0, _), (0, _)] rfl (by decide) rfl dX10_least_3 tw_m_RX10_179 tw_i_X10_areBoth tw_v_X10_areBoth tw_z_RX10 tw_c_X10_areBoth hy_X10_areBoth (callrm hr rfl) rfl (RunsM.mono h (fun r1 M2 h => ?_)) Z.rm
  show AW X 6 _ [(0, _)] M2
  refine am_if_eq (pc := 6) G 18 dX10_least_6 (by decide) (fun c => ?_) (fun c => ?_)
  · have h := h.1 c
    refine am_iconst (pc := 18) G dX10_least_18 (by decide) ?_
    exact am_iret (pc := 19) G Z dX10_least_19 h
  · have h := h.2 c
    refine am_aload_n (i := 0) (t := 17) (pc := 9) G dX10_least_9 rfl rfl rfl ?_
    refine am_iload_n (i := 1) (pc := 10) G dX10_least_10 rfl rfl ?_
    refine am_iload_n (i := 2) (pc := 11) G dX10_least_11 rfl rfl ?_
    refine am_callV (rk := 0) (rmc := rm_X10_leastOf) (st := []) (pc := 12) G 10 [(0, _), (0, _)] rfl (by decide) rfl dX10_least_12 tw_m_RX10_182 tw_i_X10_leastOf tw_v_X10_leastOf tw_z_RX10 tw_c_X10_leastOf hy_X10_leastOf (callrm hr rfl) rfl (RunsM.mono h (fun r3 M4 h => ?_)) Z.rm
    show AW X 15 _ [(0, _)] M4
    refine am_goto (pc := 15) G 19 dX10_least_15 (by decide) ?_
    exact am_iret (pc := 19) G Z dX10_least_19 h
-- X10_keepOnly TreeHandsModel.keepOnly(II)V
def rm_X10_keepOnly : Room := { frames := 0, cells := 0, slots := 0, locals := 0 }
theorem hy_X10_keepOnly : yX10_keepOnly.cls ≠ "java/lang/invoke/MethodHandle" ∧ yX10_keepOnly.cls ≠ "java/lang/invoke/VarHandle" ∧ (parseMethodDescriptor yX10_keepOnly.desc).map (fun d => d.parameters.length) = some 2 := by decide +kernel
abbrev R_X10_keepOnly (V : VV) (x1 x2 : Int) (M : Mem) (Q : Int → Mem → Prop) : Prop := RunsM V yX10_keepOnly (.code yX10_keepOnly cX10_keepOnly 4 (Option.none : Option Jvm.ClassFile.FieldType)) rm_X10_keepOnly 4 [(20, 203), (0, x1), (0, x2)] M Q
def wp_X10_keepOnly_2_b (V : VV) (x1 x2 x3 : Int) (M : Mem) (Q : Int → Mem → Prop) (B2 : Int → Mem → Prop) : Prop :=
  (M 203 11 ≤ x3 →
    Q 0 M) ∧ (¬ (M 203 11 ≤ x3) →
    (x3 = x2 →
      ((0 : Int) ≤ w32 (w32 (16 * x1) + x3) ∧ w32 (w32 (16 * x1) + x3) < (256 : Int)) ∧
      ((0 : Int) ≤ w32 (w32 (16 * x1) + x3) ∧ w32 (w32 (16 * x1) + x3) < (256 : Int)) ∧
      B2 (w32 (x3 + 1)) (mset M 214 (w32 (w32 (16 * x1) + x3)) (M 214 (w32 (w32 (16 * x1) + x3))))) ∧ (¬ (x3 = x2) →
      ((0 : Int) ≤ w32 (w32 (16 * x1) + x3) ∧ w32 (w32 (16 * x1) + x3) < (256 : Int)) ∧
      B2 (w32 (x3 + 1)) (mset M 214 (w32 (w32 (16 * x1) + x3)) 100000)))
theorem swp_X10_keepOnly_2_b {X : XX} {Q : Int → Mem → Prop} (G : GX X cX10_keepOnly "TreeHandsModel") (Z : RX X 4 Q) (hn : nLX X = 4) (hr : roomX X = rm_X10_keepOnly) (x1 x2 x3 : Int) (M : Mem) (B2 : Int → Mem → Prop) (k2 : ∀ (z3 : Int) (N : Mem), B2 z3 N → AW X 2 [(20, 203), (0, x1), (0, x2), (0, z3)] [] N) (h : wp_X10_keepOnly_2_b (vX X) x1 x2 x3 M Q B2) : AW X 2 [(20, 203), (0, x1), (0, x2), (0, x3)] [] M := by
  unfold wp_X10_keepOnly_2_b at h
  refine am_iload_n (i := 3) (pc := 2) G dX10_keepOnly_2 rfl rfl ?_
  refine am_aload_n (i := 0) (t := 17) (pc := 3) G dX10_keepOnly_3 rfl rfl rfl ?_
  refine gf_X10_11 (pc := 4) G dX10_keepOnly_4 tw_f_RX10_160 ?_
  refine am_icmp_ge (pc := 7) G 48 dX10_keepOnly_7 (by decide) (fun c => ?_) (fun c => ?_)
  · have h := h.1 c
    exact am_vret (pc := 48) G Z dX10_keepOnly_48 h
  · have h := h.2 c
    refine am_aload_n (i := 0) (t := 17) (pc := 10) G dX10_keepOnly_10 rfl rfl rfl ?_
    refine gf_X10_16 (pc := 11) G dX10_keepOnly_11 tw_f_RX10_40 ?_
    refine am_bipush (pc := 14) G dX10_keepOnly_14 (by decide) (by decide) ?_
    refine am_iload_n (i := 1) (pc := 16) G dX10_keepOnly_16 rfl rfl ?_
    refine am_imul (pc := 17) G dX10_keepOnly_17 ?_
    refine am_iload_n (i := 3) (pc := 18) G dX10_keepOnly_18 rfl rfl ?_
    refine am_iadd (pc := 19) G dX10_keepOnly_19 ?_
    refine am_iload_n (i := 3) (pc := 20) G dX10_keepOnly_20 rfl rfl ?_
    refine am_iload_n (i := 2) (pc := 21) G dX10_keepOnly_21 rfl rfl ?_
    refine am_icmp_ne (pc := 22) G 39 dX10_keepOnly_22 (by decide) (fun c => ?_) (fun c => ?_)
    · have h := h.2 c
      refine am_ldc (n := 100000) (pc := 39) G tw_k_RX10_185 dX10_keepOnly_39 (by decide) (by decide) ?_
      refine am_iast (pc := 41) G 256 dX10_keepOnly_41 (by decide) h.1 ?_
      have h := h.2
      refine am_iinc (pc := 42) G dX10_keepOnly_42 rfl (nlx hn rfl) rfl ?_
      refine am_goto (pc := 45) (ls := [(20, _), (0, _), (0, _), (0, _)]) G 2 dX10_keepOnly_45 (by decide) ?_
      refine am_le (ls' := [(20, _), (0, _), (0, _), (0, _)]) ⟨Or.inr rfl, ⟨Or.inr rfl, ⟨Or.inr rfl, ⟨Or.inr rfl, trivial⟩⟩⟩⟩ ?_
      exact k2 _ _ h
    · have h := h.1 c
      refine am_aload_n (i := 0) (t := 17) (pc := 25) G dX10_keepOnly_25 rfl rfl rfl ?_
      refine gf_X10_16 (pc := 26) G dX10_keepOnly_26 tw_f_RX10_40 ?_
      refine am_bipush (pc := 29) G dX10_keepOnly_29 (by decide) (by decide) ?_
      refine am_iload_n (i := 1) (pc := 31) G dX10_keepOnly_31 rfl rfl ?_
      refine am_imul (pc := 32) G dX10_keepOnly_32 ?_
      refine am_iload_n (i := 3) (pc := 33) G dX10_keepOnly_33 rfl rfl ?_
      refine am_iadd (pc := 34) G dX10_keepOnly_34 ?_
      refine am_iald (pc := 35) G 256 dX10_keepOnly_35 (by decide) h.1 ?_
      have h := h.2
      refine am_goto (pc := 36) G 41 dX10_keepOnly_36 (by decide) ?_
      refine am_iast (pc := 41) G 256 dX10_keepOnly_41 (by decide) h.1 ?_
      have h := h.2
      refine am_iinc (pc := 42) G dX10_keepOnly_42 rfl (nlx hn rfl) rfl ?_
      refine am_goto (pc := 45) (ls := [(20, _), (0, _), (0, _), (0, _)]) G 2 dX10_keepOnly_45 (by decide) ?_
      refine am_le (ls' := [(20, _), (0, _), (0, _), (0, _)]) ⟨Or.inr rfl, ⟨Or.inr rfl, ⟨Or.inr rfl, ⟨Or.inr rfl, trivial⟩⟩⟩⟩ ?_
      exact k2 _ _ h
def wp_X10_keepOnly_2 (V : VV) (x1 x2 x3 : Int) (M : Mem) (Q : Int → Mem → Prop) : Prop :=
  ∃ (I : Int → Mem → Prop) (μ : Int → Mem → Nat), I x3 M ∧ ∀ (y3 : Int) (N : Mem), I y3 N → wp_X10_keepOnly_2_b V x1 x2 y3 N Q (fun z3 N1 => I z3 N1 ∧ μ z3 N1 < μ y3 N)
theorem swp_X10_keepOnly_2 {X : XX} {Q : Int → Mem → Prop} (G : GX X cX10_keepOnly "TreeHandsModel") (Z : RX X 4 Q) (hn : nLX X = 4) (hr : roomX X = rm_X10_keepOnly) (x1 x2 x3 : Int) (M : Mem) (h : wp_X10_keepOnly_2 (vX X) x1 x2 x3 M Q) : AW X 2 [(20, 203), (0, x1), (0, x2), (0, x3)] [] M := by
  unfold wp_X10_keepOnly_2 at h
  obtain ⟨I, μ, hI, hs⟩ := h
  have key : ∀ (n : Nat) (y3 : Int) (N : Mem), μ y3 N < n → I y3 N → AW X 2 [(20, 203), (0, x1), (0, x2), (0, y3)] [] N := by
    intro n
    induction n with
    | zero => intro y3 N hlt; exact absurd hlt (Nat.not_lt_zero _)
    | succ n ih =>
      intro y3 N hlt hI
      exact swp_X10_keepOnly_2_b G Z hn hr x1 x2 y3 N (fun z3 N1 => I z3 N1 ∧ μ z3 N1 < μ y3 N) (fun z3 N1 hz => ih z3 N1 (by omega) hz.1) (hs y3 N hI)
  exact key _ x3 M (Nat.lt_succ_self _) hI
def wp_X10_keepOnly (V : VV) (x1 x2 : Int) (M : Mem) (Q : Int → Mem → Prop) : Prop :=
  wp_X10_keepOnly_2 V x1 x2 0 M Q
theorem of_X10_keepOnly {V : VV} {x1 x2 : Int} {M : Mem} {Q : Int → Mem → Prop} (h : wp_X10_keepOnly V x1 x2 M Q) : R_X10_keepOnly V x1 x2 M Q := by
  refine met_in (own := "TreeHandsModel") (by decide +kernel) rfl rfl (Nat.le_of_ble_eq_true rfl) ?_
  intro X G Z hn hr hv
  subst hv
  unfold wp_X10_keepOnly at h
  show AW X 0 [(20, 203), (0, x1), (0, x2), (99, 0)] [] M
  refine am_iconst (pc := 0) G dX10_keepOnly_0 (by decide) ?_
  refine am_istore_n (pc := 1) G dX10_keepOnly_1 rfl (nlx hn rfl) rfl ?_
  refine am_le (ls' := [(20, _), (0, _), (0, _), (0, _)]) ⟨Or.inr rfl, ⟨Or.inr rfl, ⟨Or.inr rfl, ⟨Or.inr rfl, trivial⟩⟩⟩⟩ ?_
  exact swp_X10_keepOnly_2 G Z hn hr _ _ _ _ h
-- X10_bringBack TreeHandsModel.bringBack(III)V
def rm_X10_bringBack : Room := { frames := 0, cells := 0, slots := 0, locals := 0 }
theorem hy_X10_bringBack : yX10_bringBack.cls ≠ "java/lang/invoke/MethodHandle" ∧ yX10_bringBack.cls ≠ "java/lang/invoke/VarHandle" ∧ (parseMethodDescriptor yX10_bringBack.desc).map (fun d => d.parameters.length) = some 3 := by decide +kernel
abbrev R_X10_bringBack (V : VV) (x1 x2 x3 : Int) (M : Mem) (Q : Int → Mem → Prop) : Prop := RunsM V yX10_bringBack (.code yX10_bringBack cX10_bringBack 5 (Option.none : Option Jvm.ClassFile.FieldType)) rm_X10_bringBack 4 [(20, 203), (0, x1), (0, x2), (0, x3)] M Q
def wp_X10_bringBack_3_b (V : VV) (x1 x2 x3 x4 : Int) (M : Mem) (Q : Int → Mem → Prop) (B3 : Int → Mem → Prop) : Prop :=
  (M 203 11 ≤ x4 →
    Q 0 M) ∧ (¬ (M 203 11 ≤ x4) →
    ((0 : Int) ≤ w32 (w32 (32 * x1) + x3) ∧ w32 (w32 (32 * x1) + x3) < (672 : Int)) ∧
    ((0 : Int) ≤ w32 (w32 (32 * x2) + x4) ∧ w32 (w32 (32 * x2) + x4) < (672 : Int)) ∧
    (M 205 (w32 (w32 (32 * x1) + x3)) = M 205 (w32 (w32 (32 * x2) + x4)) →
      ((0 : Int) ≤ w32 (w32 (16 * x3) + x4) ∧ w32 (w32 (16 * x3) + x4) < (256 : Int)) ∧
      B3 (w32 (x4 + 1)) (mset M 214 (w32 (w32 (16 * x3) + x4)) 0)) ∧ (¬ (M 205 (w32 (w32 (32 * x1) + x3)) = M 205 (w32 (w32 (32 * x2) + x4))) →
      ((0 : Int) ≤ 2 ∧ 2 < (3 : Int)) ∧
      ((0 : Int) ≤ w32 (w32 (16 * x3) + x4) ∧ w32 (w32 (16 * x3) + x4) < (256 : Int)) ∧
      B3 (w32 (x4 + 1)) (mset M 214 (w32 (w32 (16 * x3) + x4)) (M 208 2))))
theorem swp_X10_bringBack_3_b {X : XX} {Q : Int → Mem → Prop} (G : GX X cX10_bringBack "TreeHandsModel") (Z : RX X 4 Q) (hn : nLX X = 5) (hr : roomX X = rm_X10_bringBack) (x1 x2 x3 x4 : Int) (M : Mem) (B3 : Int → Mem → Prop) (k3 : ∀ (z4 : Int) (N : Mem), B3 z4 N → AW X 3 [(20, 203), (0, x1), (0, x2), (0, x3), (0, z4)] [] N) (h : wp_X10_bringBack_3_b (vX X) x1 x2 x3 x4 M Q B3) : AW X 3 [(20, 203), (0, x1), (0, x2), (0, x3), (0, x4)] [] M := by
  unfold wp_X10_bringBack_3_b at h
  refine am_iload (pc := 3) G dX10_bringBack_3 rfl ?_
  refine am_aload_n (i := 0) (t := 17) (pc := 5) G dX10_bringBack_5 rfl rfl rfl ?_
  refine gf_X10_11 (pc := 6) G dX10_bringBack_6 tw_f_RX10_160 ?_
  refine am_icmp_ge (pc := 9) G 66 dX10_bringBack_9 (by decide) (fun c => ?_) (fun c => ?_)
  · have h := h.1 c
    exact am_vret (pc := 66) G Z dX10_bringBack_66 h
  · have h := h.2 c
    refine am_aload_n (i := 0) (t := 17) (pc := 12) G dX10_bringBack_12 rfl rfl rfl ?_
    refine gf_X10_16 (pc := 13) G dX10_bringBack_13 tw_f_RX10_40 ?_
    refine am_bipush (pc := 16) G dX10_bringBack_16 (by decide) (by decide) ?_
    refine am_iload_n (i := 3) (pc := 18) G dX10_bringBack_18 rfl rfl ?_
    refine am_imul (pc := 19) G dX10_bringBack_19 ?_
    refine am_iload (pc := 20) G dX10_bringBack_20 rfl ?_
    refine am_iadd (pc := 22) G dX10_bringBack_22 ?_
    refine am_aload_n (i := 0) (t := 17) (pc := 23) G dX10_bringBack_23 rfl rfl rfl ?_
    refine gf_X10_1 (pc := 24) G dX10_bringBack_24 tw_f_RX10_13 ?_
    refine am_bipush (pc := 27) G dX10_bringBack_27 (by decide) (by decide) ?_
    refine am_iload_n (i := 1) (pc := 29) G dX10_bringBack_29 rfl rfl ?_
    refine am_imul (pc := 30) G dX10_bringBack_30 ?_
    refine am_iload_n (i := 3) (pc := 31) G dX10_bringBack_31 rfl rfl ?_
    refine am_iadd (pc := 32) G dX10_bringBack_32 ?_
    refine am_iald (pc := 33) G 672 dX10_bringBack_33 (by decide) h.1 ?_
    have h := h.2
    refine am_aload_n (i := 0) (t := 17) (pc := 34) G dX10_bringBack_34 rfl rfl rfl ?_
    refine gf_X10_1 (pc := 35) G dX10_bringBack_35 tw_f_RX10_13 ?_
    refine am_bipush (pc := 38) G dX10_bringBack_38 (by decide) (by decide) ?_
    refine am_iload_n (i := 2) (pc := 40) G dX10_bringBack_40 rfl rfl ?_
    refine am_imul (pc := 41) G dX10_bringBack_41 ?_
    refine am_iload (pc := 42) G dX10_bringBack_42 rfl ?_
    refine am_iadd (pc := 44) G dX10_bringBack_44 ?_
    refine am_iald (pc := 45) G 672 dX10_bringBack_45 (by decide) h.1 ?_
    have h := h.2
    refine am_icmp_ne (pc := 46) G 53 dX10_bringBack_46 (by decide) (fun c => ?_) (fun c => ?_)
    · have h := h.2 c
      refine am_aload_n (i := 0) (t := 17) (pc := 53) G dX10_bringBack_53 rfl rfl rfl ?_
      refine gf_X10_6 (pc := 54) G dX10_bringBack_54 tw_f_RX10_22 ?_
      refine am_iconst (pc := 57) G dX10_bringBack_57 (by decide) ?_
      refine am_iald (pc := 58) G 3 dX10_bringBack_58 (by decide) h.1 ?_
      have h := h.2
      refine am_iast (pc := 59) G 256 dX10_bringBack_59 (by decide) h.1 ?_
      have h := h.2
      refine am_iinc (pc := 60) G dX10_bringBack_60 rfl (nlx hn rfl) rfl ?_
      refine am_goto (pc := 63) (ls := [(20, _), (0, _), (0, _), (0, _), (0, _)]) G 3 dX10_bringBack_63 (by decide) ?_
      refine am_le (ls' := [(20, _), (0, _), (0, _), (0, _), (0, _)]) ⟨Or.inr rfl, ⟨Or.inr rfl, ⟨Or.inr rfl, ⟨Or.inr rfl, ⟨Or.inr rfl, trivial⟩⟩⟩⟩⟩ ?_
      exact k3 _ _ h
    · have h := h.1 c
      refine am_iconst (pc := 49) G dX10_bringBack_49 (by decide) ?_
      refine am_goto (pc := 50) G 59 dX10_bringBack_50 (by decide) ?_
      refine am_iast (pc := 59) G 256 dX10_bringBack_59 (by decide) h.1 ?_
      have h := h.2
      refine am_iinc (pc := 60) G dX10_bringBack_60 rfl (nlx hn rfl) rfl ?_
      refine am_goto (pc := 63) (ls := [(20, _), (0, _), (0, _), (0, _), (0, _)]) G 3 dX10_bringBack_63 (by decide) ?_
      refine am_le (ls' := [(20, _), (0, _), (0, _), (0, _), (0, _)]) ⟨Or.inr rfl, ⟨Or.inr rfl, ⟨Or.inr rfl, ⟨Or.inr rfl, ⟨Or.inr rfl, trivial⟩⟩⟩⟩⟩ ?_
      exact k3 _ _ h
def wp_X10_bringBack_3 (V : VV) (x1 x2 x3 x4 : Int) (M : Mem) (Q : Int → Mem → Prop) : Prop :=
  ∃ (I : Int → Mem → Prop) (μ : Int → Mem → Nat), I x4 M ∧ ∀ (y4 : Int) (N : Mem), I y4 N → wp_X10_bringBack_3_b V x1 x2 x3 y4 N Q (fun z4 N1 => I z4 N1 ∧ μ z4 N1 < μ y4 N)
theorem swp_X10_bringBack_3 {X : XX} {Q : Int → Mem → Prop} (G : GX X cX10_bringBack "TreeHandsModel") (Z : RX X 4 Q) (hn : nLX X = 5) (hr : roomX X = rm_X10_bringBack) (x1 x2 x3 x4 : Int) (M : Mem) (h : wp_X10_bringBack_3 (vX X) x1 x2 x3 x4 M Q) : AW X 3 [(20, 203), (0, x1), (0, x2), (0, x3), (0, x4)] [] M := by
  unfold wp_X10_bringBack_3 at h
  obtain ⟨I, μ, hI, hs⟩ := h
  have key : ∀ (n : Nat) (y4 : Int) (N : Mem), μ y4 N < n → I y4 N → AW X 3 [(20, 203), (0, x1), (0, x2), (0, x3), (0, y4)] [] N := by
    intro n
    induction n with
    | zero => intro y4 N hlt; exact absurd hlt (Nat.not_lt_zero _)
    | succ n ih =>
      intro y4 N hlt hI
      exact swp_X10_bringBack_3_b G Z hn hr x1 x2 x3 y4 N (fun z4 N1 => I z4 N1 ∧ μ z4 N1 < μ y4 N) (fun z4 N1 hz => ih z4 N1 (by omega) hz.1) (hs y4 N hI)
  exact key _ x4 M (Nat.lt_succ_self _) hI
def wp_X10_bringBack (V : VV) (x1 x2 x3 : Int) (M : Mem) (Q : Int → Mem → Prop) : Prop :=
  wp_X10_bringBack_3 V x1 x2 x3 0 M Q
theorem of_X10_bringBack {V : VV} {x1 x2 x3 : Int} {M : Mem} {Q : Int → Mem → Prop} (h : wp_X10_bringBack V x1 x2 x3 M Q) : R_X10_bringBack V x1 x2 x3 M Q := by
  refine met_in (own := "TreeHandsModel") (by decide +kernel) rfl rfl (Nat.le_of_ble_eq_true rfl) ?_
  intro X G Z hn hr hv
  subst hv
  unfold wp_X10_bringBack at h
  show AW X 0 [(20, 203), (0, x1), (0, x2), (0, x3), (99, 0)] [] M
  refine am_iconst (pc := 0) G dX10_bringBack_0 (by decide) ?_
  refine am_istore (pc := 1) G dX10_bringBack_1 (nlx hn rfl) rfl ?_
  refine am_le (ls' := [(20, _), (0, _), (0, _), (0, _), (0, _)]) ⟨Or.inr rfl, ⟨Or.inr rfl, ⟨Or.inr rfl, ⟨Or.inr rfl, ⟨Or.inr rfl, trivial⟩⟩⟩⟩⟩ ?_
  exact swp_X10_bringBack_3 G Z hn hr _ _ _ _ _ h
-- X10_layLed TreeHandsModel.layLed(II)V
def rm_X10_layLed : Room := { frames := 4, cells := 0, slots := 0, locals := 94 }
theorem hy_X10_layLed : yX10_layLed.cls ≠ "java/lang/invoke/MethodHandle" ∧ yX10_layLed.cls ≠ "java/lang/invoke/VarHandle" ∧ (parseMethodDescriptor yX10_layLed.desc).map (fun d => d.parameters.length) = some 2 := by decide +kernel
abbrev R_X10_layLed (V : VV) (x1 x2 : Int) (M : Mem) (Q : Int → Mem → Prop) : Prop := RunsM V yX10_layLed (.code yX10_layLed cX10_layLed 8 (Option.none : Option Jvm.ClassFile.FieldType)) rm_X10_layLed 4 [(20, 203), (0, x1), (0, x2)] M Q
def wp_X10_layLed_189_b (V : VV) (x1 x2 x3 x4 x7 : Int) (M : Mem) (Q : Int → Mem → Prop) (B37 : Int → Mem → Prop) (B189 : Int → Mem → Prop) : Prop :=
  (M 203 11 ≤ x7 →
    B37 (w32 (x4 + 1)) M) ∧ (¬ (M 203 11 ≤ x7) →
    ((0 : Int) ≤ w32 (w32 (16 * x4) + x7) ∧ w32 (w32 (16 * x4) + x7) < (256 : Int)) ∧
    B189 (w32 (x7 + 1)) (mset M 214 (w32 (w32 (16 * x4) + x7)) 100000))
theorem swp_X10_layLed_189_b {X : XX} {Q : Int → Mem → Prop} (G : GX X cX10_layLed "TreeHandsModel") (Z : RX X 4 Q) (hn : nLX X = 8) (hr : roomX X = rm_X10_layLed) (x1 x2 x3 x4 x7 : Int) (M : Mem) (B37 : Int → Mem → Prop) (k37 : ∀ (z4 : Int) (N : Mem), B37 z4 N → AW X 37 [(20, 203), (0, x1), (0, x2), (0, x3), (0, z4), (99, 0), (99, 0), (99, 0)] [] N) (B189 : Int → Mem → Prop) (k189 : ∀ (z7 : Int) (N : Mem), B189 z7 N → AW X 189 [(20, 203), (0, x1), (0, x2), (0, x3), (0, x4), (99, 0), (99, 0), (0, z7)] [] N) (h : wp_X10_layLed_189_b (vX X) x1 x2 x3 x4 x7 M Q B37 B189) : AW X 189 [(20, 203), (0, x1), (0, x2), (0, x3), (0, x4), (99, 0), (99, 0), (0, x7)] [] M := by
  unfold wp_X10_layLed_189_b at h
  refine am_iload (pc := 189) G dX10_layLed_189 rfl ?_
  refine am_aload_n (i := 0) (t := 17) (pc := 191) G dX10_layLed_191 rfl rfl rfl ?_
  refine gf_X10_11 (pc := 192) G dX10_layLed_192 tw_f_RX10_160 ?_
  refine am_icmp_ge (pc := 195) G 219 dX10_layLed_195 (by decide) (fun c => ?_) (fun c => ?_)
  · have h := h.1 c
    refine am_goto (pc := 219) G 231 dX10_layLed_219 (by decide) ?_
    refine am_iinc (pc := 231) G dX10_layLed_231 rfl (nlx hn rfl) rfl ?_
    refine am_goto (pc := 234) (ls := [(20, _), (0, _), (0, _), (0, _), (0, _), (99, _), (99, _), (0, _)]) G 37 dX10_layLed_234 (by decide) ?_
    refine am_le (ls' := [(20, _), (0, _), (0, _), (0, _), (0, _), (99, 0), (99, 0), (99, 0)]) ⟨Or.inr rfl, ⟨Or.inr rfl, ⟨Or.inr rfl, ⟨Or.inr rfl, ⟨Or.inr rfl, ⟨Or.inl rfl, ⟨Or.inl rfl, ⟨Or.inl rfl, trivial⟩⟩⟩⟩⟩⟩⟩⟩ ?_
    exact k37 _ _ h
  · have h := h.2 c
    refine am_aload_n (i := 0) (t := 17) (pc := 198) G dX10_layLed_198 rfl rfl rfl ?_
    refine gf_X10_16 (pc := 199) G dX10_layLed_199 tw_f_RX10_40 ?_
    refine am_bipush (pc := 202) G dX10_layLed_202 (by decide) (by decide) ?_
    refine am_iload (pc := 204) G dX10_layLed_204 rfl ?_
    refine am_imul (pc := 206) G dX10_layLed_206 ?_
    refine am_iload (pc := 207) G dX10_layLed_207 rfl ?_
    refine am_iadd (pc := 209) G dX10_layLed_209 ?_
    refine am_ldc (n := 100000) (pc := 210) G tw_k_RX10_185 dX10_layLed_210 (by decide) (by decide) ?_
    refine am_iast (pc := 212) G 256 dX10_layLed_212 (by decide) h.1 ?_
    have h := h.2
    refine am_iinc (pc := 213) G dX10_layLed_213 rfl (nlx hn rfl) rfl ?_
    refine am_goto (pc := 216) (ls := [(20, _), (0, _), (0, _), (0, _), (0, _), (99, _), (99, _), (0, _)]) G 189 dX10_layLed_216 (by decide) ?_
    refine am_le (ls' := [(20, _), (0, _), (0, _), (0, _), (0, _), (99, 0), (99, 0), (0, _)]) ⟨Or.inr rfl, ⟨Or.inr rfl, ⟨Or.inr rfl, ⟨Or.inr rfl, ⟨Or.inr rfl, ⟨Or.inl rfl, ⟨Or.inl rfl, ⟨Or.inr rfl, trivial⟩⟩⟩⟩⟩⟩⟩⟩ ?_
    exact k189 _ _ h
def wp_X10_layLed_189 (V : VV) (x1 x2 x3 x4 x7 : Int) (M : Mem) (Q : Int → Mem → Prop) (B37 : Int → Mem → Prop) : Prop :=
  ∃ (I : Int → Mem → Prop) (μ : Int → Mem → Nat), I x7 M ∧ ∀ (y7 : Int) (N : Mem), I y7 N → wp_X10_layLed_189_b V x1 x2 x3 x4 y7 N Q B37 (fun z7 N1 => I z7 N1 ∧ μ z7 N1 < μ y7 N)
theorem swp_X10_layLed_189 {X : XX} {Q : Int → Mem → Prop} (G : GX X cX10_layLed "TreeHandsModel") (Z : RX X 4 Q) (hn : nLX X = 8) (hr : roomX X = rm_X10_layLed) (x1 x2 x3 x4 x7 : Int) (M : Mem) (B37 : Int → Mem → Prop) (k37 : ∀ (z4 : Int) (N : Mem), B37 z4 N → AW X 37 [(20, 203), (0, x1), (0, x2), (0, x3), (0, z4), (99, 0), (99, 0), (99, 0)] [] N) (h : wp_X10_layLed_189 (vX X) x1 x2 x3 x4 x7 M Q B37) : AW X 189 [(20, 203), (0, x1), (0, x2), (0, x3), (0, x4), (99, 0), (99, 0), (0, x7)] [] M := by
  unfold wp_X10_layLed_189 at h
  obtain ⟨I, μ, hI, hs⟩ := h
  have key : ∀ (n : Nat) (y7 : Int) (N : Mem), μ y7 N < n → I y7 N → AW X 189 [(20, 203), (0, x1), (0, x2), (0, x3), (0, x4), (99, 0), (99, 0), (0, y7)] [] N := by
    intro n
    induction n with
    | zero => intro y7 N hlt; exact absurd hlt (Nat.not_lt_zero _)
    | succ n ih =>
      intro y7 N hlt hI
      exact swp_X10_layLed_189_b G Z hn hr x1 x2 x3 x4 y7 N B37 k37 (fun z7 N1 => I z7 N1 ∧ μ z7 N1 < μ y7 N) (fun z7 N1 hz => ih z7 N1 (by omega) hz.1) (hs y7 N hI)
  exact key _ x7 M (Nat.lt_succ_self _) hI
def wp_X10_layLed_161 (V : VV) (x1 x2 x3 x4 x5 x6 : Int) (M : Mem) (Q : Int → Mem → Prop) (B37 : Int → Mem → Prop) : Prop :=
  ((0 : Int) ≤ x4 ∧ x4 < (16 : Int)) ∧
  (x5 = 99 →
    ∀ M5 : Mem, M5 = mset M 220 x4 x5 →
    ((0 : Int) ≤ x4 ∧ x4 < (16 : Int)) ∧
    wp_X10_layLed_189 V x1 x2 x3 x4 0 (mset M5 215 x4 x6) Q B37) ∧ (¬ (x5 = 99) →
    ∀ M4 : Mem, M4 = mset M 220 x4 x5 →
    ((0 : Int) ≤ x5 ∧ x5 < (16 : Int)) ∧
    B37 (w32 (x4 + 1)) (mset M4 221 x5 x4))
theorem swp_X10_layLed_161 {X : XX} {Q : Int → Mem → Prop} (G : GX X cX10_layLed "TreeHandsModel") (Z : RX X 4 Q) (hn : nLX X = 8) (hr : roomX X = rm_X10_layLed) (x1 x2 x3 x4 x5 x6 : Int) (M : Mem) (B37 : Int → Mem → Prop) (k37 : ∀ (z4 : Int) (N : Mem), B37 z4 N → AW X 37 [(20, 203), (0, x1), (0, x2), (0, x3), (0, z4), (99, 0), (99, 0), (99, 0)] [] N) (h : wp_X10_layLed_161 (vX X) x1 x2 x3 x4 x5 x6 M Q B37) : AW X 161 [(20, 203), (0, x1), (0, x2), (0, x3), (0, x4), (0, x5), (0, x6), (99, 0)] [] M := by
  unfold wp_X10_layLed_161 at h
  refine am_aload_n (i := 0) (t := 17) (pc := 161) G dX10_layLed_161 rfl rfl rfl ?_
  refine gf_X10_22 (pc := 162) G dX10_layLed_162 tw_f_RX10_58 ?_
  refine am_iload (pc := 165) G dX10_layLed_165 rfl ?_
  refine am_iload (pc := 167) G dX10_layLed_167 rfl ?_
  refine am_iast (pc := 169) G 16 dX10_layLed_169 (by decide) h.1 ?_
  have h := h.2
  refine am_iload (pc := 170) G dX10_layLed_170 rfl ?_
  refine am_bipush (pc := 172) G dX10_layLed_172 (by decide) (by decide) ?_
  refine am_icmp_ne (pc := 174) G 222 dX10_layLed_174 (by decide) (fun c => ?_) (fun c => ?_)
  · have h := h.2 c
    refine am_aload_n (i := 0) (t := 17) (pc := 222) G dX10_layLed_222 rfl rfl rfl ?_
    refine gf_X10_23 (pc := 223) G dX10_layLed_223 tw_f_RX10_61 ?_
    refine am_iload (pc := 226) G dX10_layLed_226 rfl ?_
    refine am_iload (pc := 228) G dX10_layLed_228 rfl ?_
    have h := h _ rfl
    refine am_iast (pc := 230) G 16 dX10_layLed_230 (by decide) h.1 ?_
    have h := h.2
    refine am_iinc (pc := 231) G dX10_layLed_231 rfl (nlx hn rfl) rfl ?_
    refine am_goto (pc := 234) (ls := [(20, _), (0, _), (0, _), (0, _), (0, _), (0, _), (0, _), (99, _)]) G 37 dX10_layLed_234 (by decide) ?_
    refine am_le (ls' := [(20, _), (0, _), (0, _), (0, _), (0, _), (99, 0), (99, 0), (99, 0)]) ⟨Or.inr rfl, ⟨Or.inr rfl, ⟨Or.inr rfl, ⟨Or.inr rfl, ⟨Or.inr rfl, ⟨Or.inl rfl, ⟨Or.inl rfl, ⟨Or.inl rfl, trivial⟩⟩⟩⟩⟩⟩⟩⟩ ?_
    exact k37 _ _ h
  · have h := h.1 c
    refine am_aload_n (i := 0) (t := 17) (pc := 177) G dX10_layLed_177 rfl rfl rfl ?_
    refine gf_X10_17 (pc := 178) G dX10_layLed_178 tw_f_RX10_43 ?_
    refine am_iload (pc := 181) G dX10_layLed_181 rfl ?_
    refine am_iload (pc := 183) G dX10_layLed_183 rfl ?_
    have h := h _ rfl
    refine am_iast (pc := 185) G 16 dX10_layLed_185 (by decide) h.1 ?_
    have h := h.2
    refine am_iconst (pc := 186) G dX10_layLed_186 (by decide) ?_
    refine am_istore (pc := 187) G dX10_layLed_187 (nlx hn rfl) rfl ?_
    refine am_le (ls' := [(20, _), (0, _), (0, _), (0, _), (0, _), (99, 0), (99, 0), (0, _)]) ⟨Or.inr rfl, ⟨Or.inr rfl, ⟨Or.inr rfl, ⟨Or.inr rfl, ⟨Or.inr rfl, ⟨Or.inl rfl, ⟨Or.inl rfl, ⟨Or.inr rfl, trivial⟩⟩⟩⟩⟩⟩⟩⟩ ?_
    exact swp_X10_layLed_189 G Z hn hr _ _ _ _ _ _ B37 k37 h
def wp_X10_layLed_138 (V : VV) (x1 x2 x3 x4 x6 x7 s0 : Int) (M : Mem) (Q : Int → Mem → Prop) (B37 : Int → Mem → Prop) (B71 : Int → Int → Mem → Prop) : Prop :=
  (s0 = 99 →
    R_X10_bringBack V x1 x2 x4 M (fun _ M11 =>
    B71 s0 (w32 (x7 + 1)) M11)) ∧ (¬ (s0 = 99) →
    B71 s0 (w32 (x7 + 1)) M)
theorem swp_X10_layLed_138 {X : XX} {Q : Int → Mem → Prop} (G : GX X cX10_layLed "TreeHandsModel") (Z : RX X 4 Q) (hn : nLX X = 8) (hr : roomX X = rm_X10_layLed) (x1 x2 x3 x4 x6 x7 s0 : Int) (M : Mem) (B37 : Int → Mem → Prop) (B71 : Int → Int → Mem → Prop) (k37 : ∀ (z4 : Int) (N : Mem), B37 z4 N → AW X 37 [(20, 203), (0, x1), (0, x2), (0, x3), (0, z4), (99, 0), (99, 0), (99, 0)] [] N) (k71 : ∀ (z5 z7 : Int) (N : Mem), B71 z5 z7 N → AW X 71 [(20, 203), (0, x1), (0, x2), (0, x3), (0, x4), (0, z5), (0, x6), (0, z7)] [] N) (h : wp_X10_layLed_138 (vX X) x1 x2 x3 x4 x6 x7 s0 M Q B37 B71) : AW X 138 [(20, 203), (0, x1), (0, x2), (0, x3), (0, x4), (99, 0), (0, x6), (0, x7)] [(0, s0)] M := by
  unfold wp_X10_layLed_138 at h
  refine am_istore (pc := 138) G dX10_layLed_138 (nlx hn rfl) rfl ?_
  refine am_iload (pc := 140) (ls := [(20, _), (0, _), (0, _), (0, _), (0, _), (0, _), (0, _), (0, _)]) G dX10_layLed_140 rfl ?_
  refine am_bipush (pc := 142) G dX10_layLed_142 (by decide) (by decide) ?_
  refine am_icmp_ne (pc := 144) G 155 dX10_layLed_144 (by decide) (fun c => ?_) (fun c => ?_)
  · have h := h.2 c
    refine am_iinc (pc := 155) G dX10_layLed_155 rfl (nlx hn rfl) rfl ?_
    refine am_goto (pc := 158) (ls := [(20, _), (0, _), (0, _), (0, _), (0, _), (0, _), (0, _), (0, _)]) G 71 dX10_layLed_158 (by decide) ?_
    refine am_le (ls' := [(20, _), (0, _), (0, _), (0, _), (0, _), (0, _), (0, _), (0, _)]) ⟨Or.inr rfl, ⟨Or.inr rfl, ⟨Or.inr rfl, ⟨Or.inr rfl, ⟨Or.inr rfl, ⟨Or.inr rfl, ⟨Or.inr rfl, ⟨Or.inr rfl, trivial⟩⟩⟩⟩⟩⟩⟩⟩ ?_
    exact k71 _ _ _ h
  · have h := h.1 c
    refine am_aload_n (i := 0) (t := 17) (pc := 147) G dX10_layLed_147 rfl rfl rfl ?_
    refine am_iload_n (i := 1) (pc := 148) G dX10_layLed_148 rfl rfl ?_
    refine am_iload_n (i := 2) (pc := 149) G dX10_layLed_149 rfl rfl ?_
    refine am_iload (pc := 150) G dX10_layLed_150 rfl ?_
    refine am_callV (rk := 4) (rmc := rm_X10_bringBack) (st := []) (pc := 152) G 10 [(0, _), (0, _), (0, _)] rfl (by decide) rfl dX10_layLed_152 tw_m_RX10_189 tw_i_X10_bringBack tw_v_X10_bringBack tw_z_RX10 tw_c_X10_bringBack hy_X10_bringBack (callrm hr rfl) rfl (RunsM.mono h (fun r10 M11 h => ?_)) Z.rm
    show AW X 155 _ [] M11
    refine am_iinc (pc := 155) G dX10_layLed_155 rfl (nlx hn rfl) rfl ?_
    refine am_goto (pc := 158) (ls := [(20, _), (0, _), (0, _), (0, _), (0, _), (0, _), (0, _), (0, _)]) G 71 dX10_layLed_158 (by decide) ?_
    refine am_le (ls' := [(20, _), (0, _), (0, _), (0, _), (0, _), (0, _), (0, _), (0, _)]) ⟨Or.inr rfl, ⟨Or.inr rfl, ⟨Or.inr rfl, ⟨Or.inr rfl, ⟨Or.inr rfl, ⟨Or.inr rfl, ⟨Or.inr rfl, ⟨Or.inr rfl, trivial⟩⟩⟩⟩⟩⟩⟩⟩ ?_
    exact k71 _ _ _ h
def wp_X10_layLed_71_b (V : VV) (x1 x2 x3 x4 x5 x6 x7 : Int) (M : Mem) (Q : Int → Mem → Prop) (B37 : Int → Mem → Prop) (B71 : Int → Int → Mem → Prop) : Prop :=
  (M 203 11 ≤ x7 →
    wp_X10_layLed_161 V x1 x2 x3 x4 x5 x6 M Q B37) ∧ (¬ (M 203 11 ≤ x7) →
    (x5 = 99 →
      ((0 : Int) ≤ x7 ∧ x7 < (16 : Int)) ∧
      (0 ≤ M 221 x7 →
        B71 x5 (w32 (x7 + 1)) M) ∧ (¬ (0 ≤ M 221 x7) →
        ((0 : Int) ≤ w32 (w32 (16 * x4) + x7) ∧ w32 (w32 (16 * x4) + x7) < (256 : Int)) ∧
        (100000 ≤ M 214 (w32 (w32 (16 * x4) + x7)) →
          B71 x5 (w32 (x7 + 1)) M) ∧ (¬ (100000 ≤ M 214 (w32 (w32 (16 * x4) + x7))) →
          R_X10_keepOnly V x4 x7 M (fun _ M7 =>
          R_X10_work V M7 (fun r8 M9 =>
          (r8 = x3 →
            wp_X10_layLed_138 V x1 x2 x3 x4 x6 x7 x7 M9 Q B37 B71) ∧ (¬ (r8 = x3) →
            wp_X10_layLed_138 V x1 x2 x3 x4 x6 x7 99 M9 Q B37 B71)))))) ∧ (¬ (x5 = 99) →
      wp_X10_layLed_161 V x1 x2 x3 x4 x5 x6 M Q B37))
theorem swp_X10_layLed_71_b {X : XX} {Q : Int → Mem → Prop} (G : GX X cX10_layLed "TreeHandsModel") (Z : RX X 4 Q) (hn : nLX X = 8) (hr : roomX X = rm_X10_layLed) (x1 x2 x3 x4 x5 x6 x7 : Int) (M : Mem) (B37 : Int → Mem → Prop) (k37 : ∀ (z4 : Int) (N : Mem), B37 z4 N → AW X 37 [(20, 203), (0, x1), (0, x2), (0, x3), (0, z4), (99, 0), (99, 0), (99, 0)] [] N) (B71 : Int → Int → Mem → Prop) (k71 : ∀ (z5 z7 : Int) (N : Mem), B71 z5 z7 N → AW X 71 [(20, 203), (0, x1), (0, x2), (0, x3), (0, x4), (0, z5), (0, x6), (0, z7)] [] N) (h : wp_X10_layLed_71_b (vX X) x1 x2 x3 x4 x5 x6 x7 M Q B37 B71) : AW X 71 [(20, 203), (0, x1), (0, x2), (0, x3), (0, x4), (0, x5), (0, x6), (0, x7)] [] M := by
  unfold wp_X10_layLed_71_b at h
  refine am_iload (pc := 71) G dX10_layLed_71 rfl ?_
  refine am_aload_n (i := 0) (t := 17) (pc := 73) G dX10_layLed_73 rfl rfl rfl ?_
  refine gf_X10_11 (pc := 74) G dX10_layLed_74 tw_f_RX10_160 ?_
  refine am_icmp_ge (pc := 77) G 161 dX10_layLed_77 (by decide) (fun c => ?_) (fun c => ?_)
  · have h := h.1 c
    refine am_le (ls' := [(20, _), (0, _), (0, _), (0, _), (0, _), (0, _), (0, _), (99, 0)]) ⟨Or.inr rfl, ⟨Or.inr rfl, ⟨Or.inr rfl, ⟨Or.inr rfl, ⟨Or.inr rfl, ⟨Or.inr rfl, ⟨Or.inr rfl, ⟨Or.inl rfl, trivial⟩⟩⟩⟩⟩⟩⟩⟩ ?_
    exact swp_X10_layLed_161 G Z hn hr _ _ _ _ _ _ _ B37 k37 h
  · have h := h.2 c
    refine am_iload (pc := 80) G dX10_layLed_80 rfl ?_
    refine am_bipush (pc := 82) G dX10_layLed_82 (by decide) (by decide) ?_
    refine am_icmp_ne (pc := 84) G 161 dX10_layLed_84 (by decide) (fun c => ?_) (fun c => ?_)
    · have h := h.2 c
      refine am_le (ls' := [(20, _), (0, _), (0, _), (0, _), (0, _), (0, _), (0, _), (99, 0)]) ⟨Or.inr rfl, ⟨Or.inr rfl, ⟨Or.inr rfl, ⟨Or.inr rfl, ⟨Or.inr rfl, ⟨Or.inr rfl, ⟨Or.inr rfl, ⟨Or.inl rfl, trivial⟩⟩⟩⟩⟩⟩⟩⟩ ?_
      exact swp_X10_layLed_161 G Z hn hr _ _ _ _ _ _ _ B37 k37 h
    · have h := h.1 c
      refine am_aload_n (i := 0) (t := 17) (pc := 87) G dX10_layLed_87 rfl rfl rfl ?_
      refine gf_X10_23 (pc := 88) G dX10_layLed_88 tw_f_RX10_61 ?_
      refine am_iload (pc := 91) G dX10_layLed_91 rfl ?_
      refine am_iald (pc := 93) G 16 dX10_layLed_93 (by decide) h.1 ?_
      have h := h.2
      refine am_if_ge (pc := 94) G 155 dX10_layLed_94 (by decide) (fun c => ?_) (fun c => ?_)
      · have h := h.1 c
        refine am_iinc (pc := 155) G dX10_layLed_155 rfl (nlx hn rfl) rfl ?_
        refine am_goto (pc := 158) (ls := [(20, _), (0, _), (0, _), (0, _), (0, _), (0, _), (0, _), (0, _)]) G 71 dX10_layLed_158 (by decide) ?_
        refine am_le (ls' := [(20, _), (0, _), (0, _), (0, _), (0, _), (0, _), (0, _), (0, _)]) ⟨Or.inr rfl, ⟨Or.inr rfl, ⟨Or.inr rfl, ⟨Or.inr rfl, ⟨Or.inr rfl, ⟨Or.inr rfl, ⟨Or.inr rfl, ⟨Or.inr rfl, trivial⟩⟩⟩⟩⟩⟩⟩⟩ ?_
        exact k71 _ _ _ h
      · have h := h.2 c
        refine am_aload_n (i := 0) (t := 17) (pc := 97) G dX10_layLed_97 rfl rfl rfl ?_
        refine gf_X10_16 (pc := 98) G dX10_layLed_98 tw_f_RX10_40 ?_
        refine am_bipush (pc := 101) G dX10_layLed_101 (by decide) (by decide) ?_
        refine am_iload (pc := 103) G dX10_layLed_103 rfl ?_
        refine am_imul (pc := 105) G dX10_layLed_105 ?_
        refine am_iload (pc := 106) G dX10_layLed_106 rfl ?_
        refine am_iadd (pc := 108) G dX10_layLed_108 ?_
        refine am_iald (pc := 109) G 256 dX10_layLed_109 (by decide) h.1 ?_
        have h := h.2
        refine am_ldc (n := 100000) (pc := 110) G tw_k_RX10_185 dX10_layLed_110 (by decide) (by decide) ?_
        refine am_icmp_ge (pc := 112) G 155 dX10_layLed_112 (by decide) (fun c => ?_) (fun c => ?_)
        · have h := h.1 c
          refine am_iinc (pc := 155) G dX10_layLed_155 rfl (nlx hn rfl) rfl ?_
          refine am_goto (pc := 158) (ls := [(20, _), (0, _), (0, _), (0, _), (0, _), (0, _), (0, _), (0, _)]) G 71 dX10_layLed_158 (by decide) ?_
          refine am_le (ls' := [(20, _), (0, _), (0, _), (0, _), (0, _), (0, _), (0, _), (0, _)]) ⟨Or.inr rfl, ⟨Or.inr rfl, ⟨Or.inr rfl, ⟨Or.inr rfl, ⟨Or.inr rfl, ⟨Or.inr rfl, ⟨Or.inr rfl, ⟨Or.inr rfl, trivial⟩⟩⟩⟩⟩⟩⟩⟩ ?_
          exact k71 _ _ _ h
        · have h := h.2 c
          refine am_aload_n (i := 0) (t := 17) (pc := 115) G dX10_layLed_115 rfl rfl rfl ?_
          refine am_iload (pc := 116) G dX10_layLed_116 rfl ?_
          refine am_iload (pc := 118) G dX10_layLed_118 rfl ?_
          refine am_callV (rk := 4) (rmc := rm_X10_keepOnly) (st := []) (pc := 120) G 10 [(0, _), (0, _)] rfl (by decide) rfl dX10_layLed_120 tw_m_RX10_186 tw_i_X10_keepOnly tw_v_X10_keepOnly tw_z_RX10 tw_c_X10_keepOnly hy_X10_keepOnly (callrm hr rfl) rfl (RunsM.mono h (fun r6 M7 h => ?_)) Z.rm
          show AW X 123 _ [] M7
          refine am_aload_n (i := 0) (t := 17) (pc := 123) G dX10_layLed_123 rfl rfl rfl ?_
          refine am_callV (rk := 0) (rmc := rm_X10_work) (st := []) (pc := 124) G 10 [] rfl (by decide) rfl dX10_layLed_124 tw_m_RX10_176 tw_i_X10_work tw_v_X10_work tw_z_RX10 tw_c_X10_work hy_X10_work (callrm hr rfl) rfl (RunsM.mono h (fun r8 M9 h => ?_)) Z.rm
          show AW X 127 _ [(0, _)] M9
          refine am_iload_n (i := 3) (pc := 127) G dX10_layLed_127 rfl rfl ?_
          refine am_icmp_ne (pc := 128) G 136 dX10_layLed_128 (by decide) (fun c => ?_) (fun c => ?_)
          · have h := h.2 c
            refine am_bipush (pc := 136) G dX10_layLed_136 (by decide) (by decide) ?_
            refine am_le (ls' := [(20, _), (0, _), (0, _), (0, _), (0, _), (99, 0), (0, _), (0, _)]) ⟨Or.inr rfl, ⟨Or.inr rfl, ⟨Or.inr rfl, ⟨Or.inr rfl, ⟨Or.inr rfl, ⟨Or.inl rfl, ⟨Or.inr rfl, ⟨Or.inr rfl, trivial⟩⟩⟩⟩⟩⟩⟩⟩ ?_
            exact swp_X10_layLed_138 G Z hn hr _ _ _ _ _ _ _ _ B37 B71 k37 k71 h
          · have h := h.1 c
            refine am_iload (pc := 131) G dX10_layLed_131 rfl ?_
            refine am_goto (pc := 133) G 138 dX10_layLed_133 (by decide) ?_
            refine am_le (ls' := [(20, _), (0, _), (0, _), (0, _), (0, _), (99, 0), (0, _), (0, _)]) ⟨Or.inr rfl, ⟨Or.inr rfl, ⟨Or.inr rfl, ⟨Or.inr rfl, ⟨Or.inr rfl, ⟨Or.inl rfl, ⟨Or.inr rfl, ⟨Or.inr rfl, trivial⟩⟩⟩⟩⟩⟩⟩⟩ ?_
            exact swp_X10_layLed_138 G Z hn hr _ _ _ _ _ _ _ _ B37 B71 k37 k71 h
def wp_X10_layLed_71 (V : VV) (x1 x2 x3 x4 x5 x6 x7 : Int) (M : Mem) (Q : Int → Mem → Prop) (B37 : Int → Mem → Prop) : Prop :=
  ∃ (I : Int → Int → Mem → Prop) (μ : Int → Int → Mem → Nat), I x5 x7 M ∧ ∀ (y5 y7 : Int) (N : Mem), I y5 y7 N → wp_X10_layLed_71_b V x1 x2 x3 x4 y5 x6 y7 N Q B37 (fun z5 z7 N1 => I z5 z7 N1 ∧ μ z5 z7 N1 < μ y5 y7 N)
theorem swp_X10_layLed_71 {X : XX} {Q : Int → Mem → Prop} (G : GX X cX10_layLed "TreeHandsModel") (Z : RX X 4 Q) (hn : nLX X = 8) (hr : roomX X = rm_X10_layLed) (x1 x2 x3 x4 x5 x6 x7 : Int) (M : Mem) (B37 : Int → Mem → Prop) (k37 : ∀ (z4 : Int) (N : Mem), B37 z4 N → AW X 37 [(20, 203), (0, x1), (0, x2), (0, x3), (0, z4), (99, 0), (99, 0), (99, 0)] [] N) (h : wp_X10_layLed_71 (vX X) x1 x2 x3 x4 x5 x6 x7 M Q B37) : AW X 71 [(20, 203), (0, x1), (0, x2), (0, x3), (0, x4), (0, x5), (0, x6), (0, x7)] [] M := by
  unfold wp_X10_layLed_71 at h
  obtain ⟨I, μ, hI, hs⟩ := h
  have key : ∀ (n : Nat) (y5 y7 : Int) (N : Mem), μ y5 y7 N < n → I y5 y7 N → AW X 71 [(20, 203), (0, x1), (0, x2), (0, x3), (0, x4), (0, y5), (0, x6), (0, y7)] [] N := by
    intro n
    induction n with
    | zero => intro y5 y7 N hlt; exact absurd hlt (Nat.not_lt_zero _)
    | succ n ih =>
      intro y5 y7 N hlt hI
      exact swp_X10_layLed_71_b G Z hn hr x1 x2 x3 x4 y5 x6 y7 N B37 k37 (fun z5 z7 N1 => I z5 z7 N1 ∧ μ z5 z7 N1 < μ y5 y7 N) (fun z5 z7 N1 hz => ih z5 z7 N1 (by omega) hz.1) (hs y5 y7 N hI)
  exact key _ x5 x7 M (Nat.lt_succ_self _) hI
def wp_X10_layLed_37_b (V : VV) (x1 x2 x3 x4 : Int) (M : Mem) (Q : Int → Mem → Prop) (B37 : Int → Mem → Prop) : Prop :=
  (M 203 10 ≤ x4 →
    Q 0 M) ∧ (¬ (M 203 10 ≤ x4) →
    ((0 : Int) ≤ x4 ∧ x4 < (16 : Int)) ∧
    ∀ v3 : Int, v3 = M 215 x4 →
    ((0 : Int) ≤ x4 ∧ x4 < (16 : Int)) ∧
    wp_X10_layLed_71 V x1 x2 x3 x4 99 v3 0 (mset M 215 x4 100000) Q B37)
theorem swp_X10_layLed_37_b {X : XX} {Q : Int → Mem → Prop} (G : GX X cX10_layLed "TreeHandsModel") (Z : RX X 4 Q) (hn : nLX X = 8) (hr : roomX X = rm_X10_layLed) (x1 x2 x3 x4 : Int) (M : Mem) (B37 : Int → Mem → Prop) (k37 : ∀ (z4 : Int) (N : Mem), B37 z4 N → AW X 37 [(20, 203), (0, x1), (0, x2), (0, x3), (0, z4), (99, 0), (99, 0), (99, 0)] [] N) (h : wp_X10_layLed_37_b (vX X) x1 x2 x3 x4 M Q B37) : AW X 37 [(20, 203), (0, x1), (0, x2), (0, x3), (0, x4), (99, 0), (99, 0), (99, 0)] [] M := by
  unfold wp_X10_layLed_37_b at h
  refine am_iload (pc := 37) G dX10_layLed_37 rfl ?_
  refine am_aload_n (i := 0) (t := 17) (pc := 39) G dX10_layLed_39 rfl rfl rfl ?_
  refine gf_X10_10 (pc := 40) G dX10_layLed_40 tw_f_RX10_157 ?_
  refine am_icmp_ge (pc := 43) G 237 dX10_layLed_43 (by decide) (fun c => ?_) (fun c => ?_)
  · have h := h.1 c
    exact am_vret (pc := 237) G Z dX10_layLed_237 h
  · have h := h.2 c
    refine am_bipush (pc := 46) G dX10_layLed_46 (by decide) (by decide) ?_
    refine am_istore (pc := 48) G dX10_layLed_48 (nlx hn rfl) rfl ?_
    refine am_aload_n (i := 0) (t := 17) (pc := 50) (ls := [(20, _), (0, _), (0, _), (0, _), (0, _), (0, _), (99, _), (99, _)]) G dX10_layLed_50 rfl rfl rfl ?_
    refine gf_X10_17 (pc := 51) G dX10_layLed_51 tw_f_RX10_43 ?_
    refine am_iload (pc := 54) G dX10_layLed_54 rfl ?_
    refine am_iald (pc := 56) G 16 dX10_layLed_56 (by decide) h.1 ?_
    have h := h.2
    have h := h _ rfl
    refine am_istore (pc := 57) G dX10_layLed_57 (nlx hn rfl) rfl ?_
    refine am_aload_n (i := 0) (t := 17) (pc := 59) (ls := [(20, _), (0, _), (0, _), (0, _), (0, _), (0, _), (0, _), (99, _)]) G dX10_layLed_59 rfl rfl rfl ?_
    refine gf_X10_17 (pc := 60) G dX10_layLed_60 tw_f_RX10_43 ?_
    refine am_iload (pc := 63) G dX10_layLed_63 rfl ?_
    refine am_ldc (n := 100000) (pc := 65) G tw_k_RX10_185 dX10_layLed_65 (by decide) (by decide) ?_
    refine am_iast (pc := 67) G 16 dX10_layLed_67 (by decide) h.1 ?_
    have h := h.2
    refine am_iconst (pc := 68) G dX10_layLed_68 (by decide) ?_
    refine am_istore (pc := 69) G dX10_layLed_69 (nlx hn rfl) rfl ?_
    refine am_le (ls' := [(20, _), (0, _), (0, _), (0, _), (0, _), (0, _), (0, _), (0, _)]) ⟨Or.inr rfl, ⟨Or.inr rfl, ⟨Or.inr rfl, ⟨Or.inr rfl, ⟨Or.inr rfl, ⟨Or.inr rfl, ⟨Or.inr rfl, ⟨Or.inr rfl, trivial⟩⟩⟩⟩⟩⟩⟩⟩ ?_
    exact swp_X10_layLed_71 G Z hn hr _ _ _ _ _ _ _ _ B37 k37 h
def wp_X10_layLed_37 (V : VV) (x1 x2 x3 x4 : Int) (M : Mem) (Q : Int → Mem → Prop) : Prop :=
  ∃ (I : Int → Mem → Prop) (μ : Int → Mem → Nat), I x4 M ∧ ∀ (y4 : Int) (N : Mem), I y4 N → wp_X10_layLed_37_b V x1 x2 x3 y4 N Q (fun z4 N1 => I z4 N1 ∧ μ z4 N1 < μ y4 N)
theorem swp_X10_layLed_37 {X : XX} {Q : Int → Mem → Prop} (G : GX X cX10_layLed "TreeHandsModel") (Z : RX X 4 Q) (hn : nLX X = 8) (hr : roomX X = rm_X10_layLed) (x1 x2 x3 x4 : Int) (M : Mem) (h : wp_X10_layLed_37 (vX X) x1 x2 x3 x4 M Q) : AW X 37 [(20, 203), (0, x1), (0, x2), (0, x3), (0, x4), (99, 0), (99, 0), (99, 0)] [] M := by
  unfold wp_X10_layLed_37 at h
  obtain ⟨I, μ, hI, hs⟩ := h
  have key : ∀ (n : Nat) (y4 : Int) (N : Mem), μ y4 N < n → I y4 N → AW X 37 [(20, 203), (0, x1), (0, x2), (0, x3), (0, y4), (99, 0), (99, 0), (99, 0)] [] N := by
    intro n
    induction n with
    | zero => intro y4 N hlt; exact absurd hlt (Nat.not_lt_zero _)
    | succ n ih =>
      intro y4 N hlt hI
      exact swp_X10_layLed_37_b G Z hn hr x1 x2 x3 y4 N (fun z4 N1 => I z4 N1 ∧ μ z4 N1 < μ y4 N) (fun z4 N1 hz => ih z4 N1 (by omega) hz.1) (hs y4 N hI)
  exact key _ x4 M (Nat.lt_succ_self _) hI
def wp_X10_layLed_10_b (V : VV) (x1 x2 x3 x4 : Int) (M : Mem) (Q : Int → Mem → Prop) (B10 : Int → Mem → Prop) : Prop :=
  (M 203 11 ≤ x4 →
    wp_X10_layLed_37 V x1 x2 x3 0 M Q) ∧ (¬ (M 203 11 ≤ x4) →
    ((0 : Int) ≤ x4 ∧ x4 < (16 : Int)) ∧
    B10 (w32 (x4 + 1)) (mset M 221 x4 (-6)))
theorem swp_X10_layLed_10_b {X : XX} {Q : Int → Mem → Prop} (G : GX X cX10_layLed "TreeHandsModel") (Z : RX X 4 Q) (hn : nLX X = 8) (hr : roomX X = rm_X10_layLed) (x1 x2 x3 x4 : Int) (M : Mem) (B10 : Int → Mem → Prop) (k10 : ∀ (z4 : Int) (N : Mem), B10 z4 N → AW X 10 [(20, 203), (0, x1), (0, x2), (0, x3), (0, z4), (99, 0), (99, 0), (99, 0)] [] N) (h : wp_X10_layLed_10_b (vX X) x1 x2 x3 x4 M Q B10) : AW X 10 [(20, 203), (0, x1), (0, x2), (0, x3), (0, x4), (99, 0), (99, 0), (99, 0)] [] M := by
  unfold wp_X10_layLed_10_b at h
  refine am_iload (pc := 10) G dX10_layLed_10 rfl ?_
  refine am_aload_n (i := 0) (t := 17) (pc := 12) G dX10_layLed_12 rfl rfl rfl ?_
  refine gf_X10_11 (pc := 13) G dX10_layLed_13 tw_f_RX10_160 ?_
  refine am_icmp_ge (pc := 16) G 34 dX10_layLed_16 (by decide) (fun c => ?_) (fun c => ?_)
  · have h := h.1 c
    refine am_iconst (pc := 34) G dX10_layLed_34 (by decide) ?_
    refine am_istore (pc := 35) G dX10_layLed_35 (nlx hn rfl) rfl ?_
    refine am_le (ls' := [(20, _), (0, _), (0, _), (0, _), (0, _), (99, 0), (99, 0), (99, 0)]) ⟨Or.inr rfl, ⟨Or.inr rfl, ⟨Or.inr rfl, ⟨Or.inr rfl, ⟨Or.inr rfl, ⟨Or.inl rfl, ⟨Or.inl rfl, ⟨Or.inl rfl, trivial⟩⟩⟩⟩⟩⟩⟩⟩ ?_
    exact swp_X10_layLed_37 G Z hn hr _ _ _ _ _ h
  · have h := h.2 c
    refine am_aload_n (i := 0) (t := 17) (pc := 19) G dX10_layLed_19 rfl rfl rfl ?_
    refine gf_X10_23 (pc := 20) G dX10_layLed_20 tw_f_RX10_61 ?_
    refine am_iload (pc := 23) G dX10_layLed_23 rfl ?_
    refine am_bipush (pc := 25) G dX10_layLed_25 (by decide) (by decide) ?_
    refine am_iast (pc := 27) G 16 dX10_layLed_27 (by decide) h.1 ?_
    have h := h.2
    refine am_iinc (pc := 28) G dX10_layLed_28 rfl (nlx hn rfl) rfl ?_
    refine am_goto (pc := 31) (ls := [(20, _), (0, _), (0, _), (0, _), (0, _), (99, _), (99, _), (99, _)]) G 10 dX10_layLed_31 (by decide) ?_
    refine am_le (ls' := [(20, _), (0, _), (0, _), (0, _), (0, _), (99, 0), (99, 0), (99, 0)]) ⟨Or.inr rfl, ⟨Or.inr rfl, ⟨Or.inr rfl, ⟨Or.inr rfl, ⟨Or.inr rfl, ⟨Or.inl rfl, ⟨Or.inl rfl, ⟨Or.inl rfl, trivial⟩⟩⟩⟩⟩⟩⟩⟩ ?_
    exact k10 _ _ h
def wp_X10_layLed_10 (V : VV) (x1 x2 x3 x4 : Int) (M : Mem) (Q : Int → Mem → Prop) : Prop :=
  ∃ (I : Int → Mem → Prop) (μ : Int → Mem → Nat), I x4 M ∧ ∀ (y4 : Int) (N : Mem), I y4 N → wp_X10_layLed_10_b V x1 x2 x3 y4 N Q (fun z4 N1 => I z4 N1 ∧ μ z4 N1 < μ y4 N)
theorem swp_X10_layLed_10 {X : XX} {Q : Int → Mem → Prop} (G : GX X cX10_layLed "TreeHandsModel") (Z : RX X 4 Q) (hn : nLX X = 8) (hr : roomX X = rm_X10_layLed) (x1 x2 x3 x4 : Int) (M : Mem) (h : wp_X10_layLed_10 (vX X) x1 x2 x3 x4 M Q) : AW X 10 [(20, 203), (0, x1), (0, x2), (0, x3), (0, x4), (99, 0), (99, 0), (99, 0)] [] M := by
  unfold wp_X10_layLed_10 at h
  obtain ⟨I, μ, hI, hs⟩ := h
  have key : ∀ (n : Nat) (y4 : Int) (N : Mem), μ y4 N < n → I y4 N → AW X 10 [(20, 203), (0, x1), (0, x2), (0, x3), (0, y4), (99, 0), (99, 0), (99, 0)] [] N := by
    intro n
    induction n with
    | zero => intro y4 N hlt; exact absurd hlt (Nat.not_lt_zero _)
    | succ n ih =>
      intro y4 N hlt hI
      exact swp_X10_layLed_10_b G Z hn hr x1 x2 x3 y4 N (fun z4 N1 => I z4 N1 ∧ μ z4 N1 < μ y4 N) (fun z4 N1 hz => ih z4 N1 (by omega) hz.1) (hs y4 N hI)
  exact key _ x4 M (Nat.lt_succ_self _) hI
def wp_X10_layLed (V : VV) (x1 x2 : Int) (M : Mem) (Q : Int → Mem → Prop) : Prop :=
  R_X10_leastOf V x1 x2 M (fun r1 M2 =>
  wp_X10_layLed_10 V x1 x2 r1 0 M2 Q)
theorem of_X10_layLed {V : VV} {x1 x2 : Int} {M : Mem} {Q : Int → Mem → Prop} (h : wp_X10_layLed V x1 x2 M Q) : R_X10_layLed V x1 x2 M Q := by
  refine met_in (own := "TreeHandsModel") (by decide +kernel) rfl rfl (Nat.le_of_ble_eq_true rfl) ?_
  intro X G Z hn hr hv
  subst hv
  unfold wp_X10_layLed at h
  show AW X 0 [(20, 203), (0, x1), (0, x2), (99, 0), (99, 0), (99, 0), (99, 0), (99, 0)] [] M
  refine am_aload_n (i := 0) (t := 17) (pc := 0) G dX10_layLed_0 rfl rfl rfl ?_
  refine am_iload_n (i := 1) (pc := 1) G dX10_layLed_1 rfl rfl ?_
  refine am_iload_n (i := 2) (pc := 2) G dX10_layLed_2 rfl rfl ?_
  refine am_callV (rk := 0) (rmc := rm_X10_leastOf) (st := []) (pc := 3) G 10 [(0, _), (0, _)] rfl (by decide) rfl dX10_layLed_3 tw_m_RX10_182 tw_i_X10_leastOf tw_v_X10_leastOf tw_z_RX10 tw_c_X10_leastOf hy_X10_leastOf (callrm hr rfl) rfl (RunsM.mono h (fun r1 M2 h => ?_)) Z.rm
  show AW X 6 _ [(0, _)] M2
  refine am_istore_n (pc := 6) G dX10_layLed_6 rfl (nlx hn rfl) rfl ?_
  refine am_iconst (pc := 7) (ls := [(20, _), (0, _), (0, _), (0, _), (99, _), (99, _), (99, _), (99, _)]) G dX10_layLed_7 (by decide) ?_
  refine am_istore (pc := 8) G dX10_layLed_8 (nlx hn rfl) rfl ?_
  refine am_le (ls' := [(20, _), (0, _), (0, _), (0, _), (0, _), (99, 0), (99, 0), (99, 0)]) ⟨Or.inr rfl, ⟨Or.inr rfl, ⟨Or.inr rfl, ⟨Or.inr rfl, ⟨Or.inr rfl, ⟨Or.inl rfl, ⟨Or.inl rfl, ⟨Or.inl rfl, trivial⟩⟩⟩⟩⟩⟩⟩⟩ ?_
  exact swp_X10_layLed_10 G Z hn hr _ _ _ _ _ h
-- X10_led TreeHandsModel.led(III)I
def rm_X10_led : Room := { frames := 5, cells := 0, slots := 0, locals := 121 }
theorem hy_X10_led : yX10_led.cls ≠ "java/lang/invoke/MethodHandle" ∧ yX10_led.cls ≠ "java/lang/invoke/VarHandle" ∧ (parseMethodDescriptor yX10_led.desc).map (fun d => d.parameters.length) = some 3 := by decide +kernel
abbrev R_X10_led (V : VV) (x1 x2 x3 : Int) (M : Mem) (Q : Int → Mem → Prop) : Prop := RunsM V yX10_led (.code yX10_led cX10_led 4 (Option.some Jvm.ClassFile.FieldType.int)) rm_X10_led 0 [(20, 203), (0, x1), (0, x2), (0, x3)] M Q
def wp_X10_led (V : VV) (x1 x2 x3 : Int) (M : Mem) (Q : Int → Mem → Prop) : Prop :=
  R_X10_areBoth V x1 x2 M (fun r1 M2 =>
  (r1 = 0 →
    Q (-1) M2) ∧ (¬ (r1 = 0) →
    ((0 : Int) ≤ x1 ∧ x1 < (21 : Int)) ∧
    R_X10_in V x3 0 (w32 (M2 204 x1 - 1)) M2 (fun r3 M4 =>
    (r3 = 0 →
      Q (-1) M4) ∧ (¬ (r3 = 0) →
      R_X10_layLed V x1 x2 M4 (fun _ M6 =>
      ((0 : Int) ≤ x3 ∧ x3 < (16 : Int)) ∧
      Q (M6 220 x3) M6)))))
theorem of_X10_led {V : VV} {x1 x2 x3 : Int} {M : Mem} {Q : Int → Mem → Prop} (h : wp_X10_led V x1 x2 x3 M Q) : R_X10_led V x1 x2 x3 M Q := by
  refine met_in (own := "TreeHandsModel") (by decide +kernel) rfl rfl (Nat.le_of_ble_eq_true rfl) ?_
  intro X G Z hn hr hv
  subst hv
  unfold wp_X10_led at h
  show AW X 0 [(20, 203), (0, x1), (0, x2), (0, x3)] [] M
  refine am_aload_n (i := 0) (t := 17) (pc := 0) G dX10_led_0 rfl rfl rfl ?_
  refine am_iload_n (i := 1) (pc := 1) G dX10_led_1 rfl rfl ?_
  refine am_iload_n (i := 2) (pc := 2) G dX10_led_2 rfl rfl ?_
  refine am_callV (rk := 1) (rmc := rm_X10_areBoth) (st := []) (pc := 3) G 10 [(0, _), (0, _)] rfl (by decide) rfl dX10_led_3 tw_m_RX10_179 tw_i_X10_areBoth tw_v_X10_areBoth tw_z_RX10 tw_c_X10_areBoth hy_X10_areBoth (callrm hr rfl) rfl (RunsM.mono h (fun r1 M2 h => ?_)) Z.rm
  show AW X 6 _ [(0, _)] M2
  refine am_if_eq (pc := 6) G 25 dX10_led_6 (by decide) (fun c => ?_) (fun c => ?_)
  · have h := h.1 c
    refine am_iconst (pc := 25) G dX10_led_25 (by decide) ?_
    exact am_iret (pc := 26) G Z dX10_led_26 h
  · have h := h.2 c
    refine am_iload_n (i := 3) (pc := 9) G dX10_led_9 rfl rfl ?_
    refine am_iconst (pc := 10) G dX10_led_10 (by decide) ?_
    refine am_aload_n (i := 0) (t := 17) (pc := 11) G dX10_led_11 rfl rfl rfl ?_
    refine gf_X10_0 (pc := 12) G dX10_led_12 tw_f_RX10_7 ?_
    refine am_iload_n (i := 1) (pc := 15) G dX10_led_15 rfl rfl ?_
    refine am_iald (pc := 16) G 21 dX10_led_16 (by decide) h.1 ?_
    have h := h.2
    refine am_iconst (pc := 17) G dX10_led_17 (by decide) ?_
    refine am_isub (pc := 18) G dX10_led_18 ?_
    refine am_callS (rk := 1) (rmc := rm_X10_in) (st := []) (pc := 19) G [(0, _), (0, _), (0, _)] dX10_led_19 tw_m_RX10_110 tw_s_X10_in tw_z_RX10 tw_c_X10_in hy_X10_in (callrm hr rfl) rfl (RunsM.mono h (fun r3 M4 h => ?_)) Z.rm
    show AW X 22 _ [(0, _)] M4
    refine am_if_ne (pc := 22) G 27 dX10_led_22 (by decide) (fun c => ?_) (fun c => ?_)
    · have h := h.2 c
      refine am_aload_n (i := 0) (t := 17) (pc := 27) G dX10_led_27 rfl rfl rfl ?_
      refine am_iload_n (i := 1) (pc := 28) G dX10_led_28 rfl rfl ?_
      refine am_iload_n (i := 2) (pc := 29) G dX10_led_29 rfl rfl ?_
      refine am_callV (rk := 4) (rmc := rm_X10_layLed) (st := []) (pc := 30) G 10 [(0, _), (0, _)] rfl (by decide) rfl dX10_led_30 tw_m_RX10_193 tw_i_X10_layLed tw_v_X10_layLed tw_z_RX10 tw_c_X10_layLed hy_X10_layLed (callrm hr rfl) rfl (RunsM.mono h (fun r5 M6 h => ?_)) Z.rm
      show AW X 33 _ [] M6
      refine am_aload_n (i := 0) (t := 17) (pc := 33) G dX10_led_33 rfl rfl rfl ?_
      refine gf_X10_22 (pc := 34) G dX10_led_34 tw_f_RX10_58 ?_
      refine am_iload_n (i := 3) (pc := 37) G dX10_led_37 rfl rfl ?_
      refine am_iald (pc := 38) G 16 dX10_led_38 (by decide) h.1 ?_
      have h := h.2
      exact am_iret (pc := 39) G Z dX10_led_39 h
    · have h := h.1 c
      refine am_iconst (pc := 25) G dX10_led_25 (by decide) ?_
      exact am_iret (pc := 26) G Z dX10_led_26 h
-- X10_layMoved TreeHandsModel.layMoved(II)V
def rm_X10_layMoved : Room := { frames := 5, cells := 0, slots := 0, locals := 121 }
theorem hy_X10_layMoved : yX10_layMoved.cls ≠ "java/lang/invoke/MethodHandle" ∧ yX10_layMoved.cls ≠ "java/lang/invoke/VarHandle" ∧ (parseMethodDescriptor yX10_layMoved.desc).map (fun d => d.parameters.length) = some 2 := by decide +kernel
abbrev R_X10_layMoved (V : VV) (x1 x2 : Int) (M : Mem) (Q : Int → Mem → Prop) : Prop := RunsM V yX10_layMoved (.code yX10_layMoved cX10_layMoved 14 (Option.none : Option Jvm.ClassFile.FieldType)) rm_X10_layMoved 4 [(20, 203), (0, x1), (0, x2)] M Q
def wp_X10_layMoved_279 (V : VV) (x1 x2 x3 x4 x6 x7 x8 s0 : Int) (M : Mem) (Q : Int → Mem → Prop) (B106 : Int → Int → Int → Mem → Prop) : Prop :=
  (s0 = 0 →
    B106 x3 x4 s0 M) ∧ (¬ (s0 = 0) →
    ∀ v4 : Int, v4 = w32 (shl32 1 x8 - 1) →
    ∀ v5 : Int, v5 = and32 x3 (xor32 (shl32 v4 x6) (-1)) →
    ∀ v6 : Int, v6 = and32 x4 (xor32 (shl32 v4 x7) (-1)) →
    ((0 : Int) ≤ M 203 24 ∧ M 203 24 < (16 : Int)) ∧
    ∀ M7 : Mem, M7 = mset M 222 (M 203 24) x6 →
    ((0 : Int) ≤ M7 203 24 ∧ M7 203 24 < (16 : Int)) ∧
    ∀ M8 : Mem, M8 = mset M7 223 (M7 203 24) x7 →
    ∀ M9 : Mem, M9 = mset M8 203 24 (w32 (M8 203 24 + 1)) →
    B106 v5 v6 s0 (mset M9 203 27 (w32 (M9 203 27 + x8))))
theorem swp_X10_layMoved_279 {X : XX} {Q : Int → Mem → Prop} (G : GX X cX10_layMoved "TreeHandsModel") (Z : RX X 4 Q) (hn : nLX X = 14) (hr : roomX X = rm_X10_layMoved) (x1 x2 x3 x4 x6 x7 x8 s0 : Int) (M : Mem) (B106 : Int → Int → Int → Mem → Prop) (k106 : ∀ (z3 z4 z5 : Int) (N : Mem), B106 z3 z4 z5 N → AW X 106 [(20, 203), (0, x1), (0, x2), (0, z3), (0, z4), (0, z5), (99, 0), (99, 0), (99, 0), (99, 0), (99, 0), (99, 0), (99, 0), (99, 0)] [] N) (h : wp_X10_layMoved_279 (vX X) x1 x2 x3 x4 x6 x7 x8 s0 M Q B106) : AW X 279 [(20, 203), (0, x1), (0, x2), (0, x3), (0, x4), (99, 0), (0, x6), (0, x7), (0, x8), (99, 0), (99, 0), (99, 0), (99, 0), (99, 0)] [(0, s0)] M := by
  unfold wp_X10_layMoved_279 at h
  refine am_istore (pc := 279) G dX10_layMoved_279 (nlx hn rfl) rfl ?_
  refine am_iload (pc := 281) (ls := [(20, _), (0, _), (0, _), (0, _), (0, _), (0, _), (0, _), (0, _), (0, _), (99, _), (99, _), (99, _), (99, _), (99, _)]) G dX10_layMoved_281 rfl ?_
  refine am_if_eq (pc := 283) G 359 dX10_layMoved_283 (by decide) (fun c => ?_) (fun c => ?_)
  · have h := h.1 c
    refine am_goto (pc := 359) G 106 dX10_layMoved_359 (by decide) ?_
    refine am_le (ls' := [(20, _), (0, _), (0, _), (0, _), (0, _), (0, _), (99, 0), (99, 0), (99, 0), (99, 0), (99, 0), (99, 0), (99, 0), (99, 0)]) ⟨Or.inr rfl, ⟨Or.inr rfl, ⟨Or.inr rfl, ⟨Or.inr rfl, ⟨Or.inr rfl, ⟨Or.inr rfl, ⟨Or.inl rfl, ⟨Or.inl rfl, ⟨Or.inl rfl, ⟨Or.inl rfl, ⟨Or.inl rfl, ⟨Or.inl rfl, ⟨Or.inl rfl, ⟨Or.inl rfl, trivial⟩⟩⟩⟩⟩⟩⟩⟩⟩⟩⟩⟩⟩⟩ ?_
    exact k106 _ _ _ _ h
  · have h := h.2 c
    refine am_iconst (pc := 286) G dX10_layMoved_286 (by decide) ?_
    refine am_iload (pc := 287) G dX10_layMoved_287 rfl ?_
    refine am_ishl (pc := 289) G dX10_layMoved_289 ?_
    refine am_iconst (pc := 290) G dX10_layMoved_290 (by decide) ?_
    refine am_isub (pc := 291) G dX10_layMoved_291 ?_
    have h := h _ rfl
    refine am_istore (pc := 292) G dX10_layMoved_292 (nlx hn rfl) rfl ?_
    refine am_iload_n (i := 3) (pc := 294) (ls := [(20, _), (0, _), (0, _), (0, _), (0, _), (0, _), (0, _), (0, _), (0, _), (0, _), (99, _), (99, _), (99, _), (99, _)]) G dX10_layMoved_294 rfl rfl ?_
    refine am_iload (pc := 295) G dX10_layMoved_295 rfl ?_
    refine am_iload (pc := 297) G dX10_layMoved_297 rfl ?_
    refine am_ishl (pc := 299) G dX10_layMoved_299 ?_
    refine am_iconst (pc := 300) G dX10_layMoved_300 (by decide) ?_
    refine am_ixor (pc := 301) G dX10_layMoved_301 ?_
    refine am_iand (pc := 302) G dX10_layMoved_302 ?_
    have h := h _ rfl
    refine am_istore_n (pc := 303) G dX10_layMoved_303 rfl (nlx hn rfl) rfl ?_
    refine am_iload (pc := 304) (ls := [(20, _), (0, _), (0, _), (0, _), (0, _), (0, _), (0, _), (0, _), (0, _), (0, _), (99, _), (99, _), (99, _), (99, _)]) G dX10_layMoved_304 rfl ?_
    refine am_iload (pc := 306) G dX10_layMoved_306 rfl ?_
    refine am_iload (pc := 308) G dX10_layMoved_308 rfl ?_
    refine am_ishl (pc := 310) G dX10_layMoved_310 ?_
    refine am_iconst (pc := 311) G dX10_layMoved_311 (by decide) ?_
    refine am_ixor (pc := 312) G dX10_layMoved_312 ?_
    refine am_iand (pc := 313) G dX10_layMoved_313 ?_
    have h := h _ rfl
    refine am_istore (pc := 314) G dX10_layMoved_314 (nlx hn rfl) rfl ?_
    refine am_aload_n (i := 0) (t := 17) (pc := 316) (ls := [(20, _), (0, _), (0, _), (0, _), (0, _), (0, _), (0, _), (0, _), (0, _), (0, _), (99, _), (99, _), (99, _), (99, _)]) G dX10_layMoved_316 rfl rfl rfl ?_
    refine gf_X10_25 (pc := 317) G dX10_layMoved_317 tw_f_RX10_64 ?_
    refine am_aload_n (i := 0) (t := 17) (pc := 320) G dX10_layMoved_320 rfl rfl rfl ?_
    refine gf_X10_24 (pc := 321) G dX10_layMoved_321 tw_f_RX10_196 ?_
    refine am_iload (pc := 324) G dX10_layMoved_324 rfl ?_
    refine am_iast (pc := 326) G 16 dX10_layMoved_326 (by decide) h.1 ?_
    have h := h.2
    refine am_aload_n (i := 0) (t := 17) (pc := 327) G dX10_layMoved_327 rfl rfl rfl ?_
    refine gf_X10_26 (pc := 328) G dX10_layMoved_328 tw_f_RX10_67 ?_
    refine am_aload_n (i := 0) (t := 17) (pc := 331) G dX10_layMoved_331 rfl rfl rfl ?_
    have h := h _ rfl
    refine gf_X10_24 (pc := 332) G dX10_layMoved_332 tw_f_RX10_196 ?_
    refine am_iload (pc := 335) G dX10_layMoved_335 rfl ?_
    refine am_iast (pc := 337) G 16 dX10_layMoved_337 (by decide) h.1 ?_
    have h := h.2
    refine am_aload_n (i := 0) (t := 17) (pc := 338) G dX10_layMoved_338 rfl rfl rfl ?_
    refine am_dup (pc := 339) G dX10_layMoved_339 (Nat.ne_of_beq_eq_false rfl) ?_
    have h := h _ rfl
    refine gf_X10_24 (pc := 340) G dX10_layMoved_340 tw_f_RX10_196 ?_
    refine am_iconst (pc := 343) G dX10_layMoved_343 (by decide) ?_
    refine am_iadd (pc := 344) G dX10_layMoved_344 ?_
    refine pf_X10_24 (pc := 345) G dX10_layMoved_345 tw_f_RX10_196 ?_
    refine am_aload_n (i := 0) (t := 17) (pc := 348) G dX10_layMoved_348 rfl rfl rfl ?_
    refine am_dup (pc := 349) G dX10_layMoved_349 (Nat.ne_of_beq_eq_false rfl) ?_
    have h := h _ rfl
    refine gf_X10_27 (pc := 350) G dX10_layMoved_350 tw_f_RX10_199 ?_
    refine am_iload (pc := 353) G dX10_layMoved_353 rfl ?_
    refine am_iadd (pc := 355) G dX10_layMoved_355 ?_
    refine pf_X10_27 (pc := 356) G dX10_layMoved_356 tw_f_RX10_199 ?_
    refine am_goto (pc := 359) G 106 dX10_layMoved_359 (by decide) ?_
    refine am_le (ls' := [(20, _), (0, _), (0, _), (0, _), (0, _), (0, _), (99, 0), (99, 0), (99, 0), (99, 0), (99, 0), (99, 0), (99, 0), (99, 0)]) ⟨Or.inr rfl, ⟨Or.inr rfl, ⟨Or.inr rfl, ⟨Or.inr rfl, ⟨Or.inr rfl, ⟨Or.inr rfl, ⟨Or.inl rfl, ⟨Or.inl rfl, ⟨Or.inl rfl, ⟨Or.inl rfl, ⟨Or.inl rfl, ⟨Or.inl rfl, ⟨Or.inl rfl, ⟨Or.inl rfl, trivial⟩⟩⟩⟩⟩⟩⟩⟩⟩⟩⟩⟩⟩⟩ ?_
    exact k106 _ _ _ _ h
def wp_X10_layMoved_241 (V : VV) (x1 x2 x3 x4 x6 x8 x9 x10 x11 x13 s0 : Int) (M : Mem) (Q : Int → Mem → Prop) (B106 : Int → Int → Int → Mem → Prop) (B125 : Int → Int → Int → Int → Mem → Prop) (B137 : Int → Int → Int → Int → Mem → Prop) : Prop :=
  (x13 = 0 →
    B137 x6 s0 x8 (w32 (x10 + 1)) M) ∧ (¬ (x13 = 0) →
    B137 x6 s0 x11 (w32 (x10 + 1)) M)
theorem swp_X10_layMoved_241 {X : XX} {Q : Int → Mem → Prop} (G : GX X cX10_layMoved "TreeHandsModel") (Z : RX X 4 Q) (hn : nLX X = 14) (hr : roomX X = rm_X10_layMoved) (x1 x2 x3 x4 x6 x8 x9 x10 x11 x13 s0 : Int) (M : Mem) (B106 : Int → Int → Int → Mem → Prop) (B125 : Int → Int → Int → Int → Mem → Prop) (B137 : Int → Int → Int → Int → Mem → Prop) (k106 : ∀ (z3 z4 z5 : Int) (N : Mem), B106 z3 z4 z5 N → AW X 106 [(20, 203), (0, x1), (0, x2), (0, z3), (0, z4), (0, z5), (99, 0), (99, 0), (99, 0), (99, 0), (99, 0), (99, 0), (99, 0), (99, 0)] [] N) (k125 : ∀ (z6 z7 z8 z9 : Int) (N : Mem), B125 z6 z7 z8 z9 N → AW X 125 [(20, 203), (0, x1), (0, x2), (0, x3), (0, x4), (99, 0), (0, z6), (0, z7), (0, z8), (0, z9), (99, 0), (99, 0), (99, 0), (99, 0)] [] N) (k137 : ∀ (z6 z7 z8 z10 : Int) (N : Mem), B137 z6 z7 z8 z10 N → AW X 137 [(20, 203), (0, x1), (0, x2), (0, x3), (0, x4), (99, 0), (0, z6), (0, z7), (0, z8), (0, x9), (0, z10), (99, 0), (99, 0), (99, 0)] [] N) (h : wp_X10_layMoved_241 (vX X) x1 x2 x3 x4 x6 x8 x9 x10 x11 x13 s0 M Q B106 B125 B137) : AW X 241 [(20, 203), (0, x1), (0, x2), (0, x3), (0, x4), (99, 0), (0, x6), (99, 0), (0, x8), (0, x9), (0, x10), (0, x11), (99, 0), (0, x13)] [(0, s0)] M := by
  unfold wp_X10_layMoved_241 at h
  refine am_istore (pc := 241) G dX10_layMoved_241 (nlx hn rfl) rfl ?_
  refine am_iload (pc := 243) (ls := [(20, _), (0, _), (0, _), (0, _), (0, _), (99, _), (0, _), (0, _), (0, _), (0, _), (0, _), (0, _), (99, _), (0, _)]) G dX10_layMoved_243 rfl ?_
  refine am_if_eq (pc := 245) G 253 dX10_layMoved_245 (by decide) (fun c => ?_) (fun c => ?_)
  · have h := h.1 c
    refine am_iload (pc := 253) G dX10_layMoved_253 rfl ?_
    refine am_istore (pc := 255) G dX10_layMoved_255 (nlx hn rfl) rfl ?_
    refine am_iinc (pc := 257) (ls := [(20, _), (0, _), (0, _), (0, _), (0, _), (99, _), (0, _), (0, _), (0, _), (0, _), (0, _), (0, _), (99, _), (0, _)]) G dX10_layMoved_257 rfl (nlx hn rfl) rfl ?_
    refine am_goto (pc := 260) (ls := [(20, _), (0, _), (0, _), (0, _), (0, _), (99, _), (0, _), (0, _), (0, _), (0, _), (0, _), (0, _), (99, _), (0, _)]) G 137 dX10_layMoved_260 (by decide) ?_
    refine am_le (ls' := [(20, _), (0, _), (0, _), (0, _), (0, _), (99, 0), (0, _), (0, _), (0, _), (0, _), (0, _), (99, 0), (99, 0), (99, 0)]) ⟨Or.inr rfl, ⟨Or.inr rfl, ⟨Or.inr rfl, ⟨Or.inr rfl, ⟨Or.inr rfl, ⟨Or.inl rfl, ⟨Or.inr rfl, ⟨Or.inr rfl, ⟨Or.inr rfl, ⟨Or.inr rfl, ⟨Or.inr rfl, ⟨Or.inl rfl, ⟨Or.inl rfl, ⟨Or.inl rfl, trivial⟩⟩⟩⟩⟩⟩⟩⟩⟩⟩⟩⟩⟩⟩ ?_
    exact k137 _ _ _ _ _ h
  · have h := h.2 c
    refine am_iload (pc := 248) G dX10_layMoved_248 rfl ?_
    refine am_goto (pc := 250) G 255 dX10_layMoved_250 (by decide) ?_
    refine am_istore (pc := 255) G dX10_layMoved_255 (nlx hn rfl) rfl ?_
    refine am_iinc (pc := 257) (ls := [(20, _), (0, _), (0, _), (0, _), (0, _), (99, _), (0, _), (0, _), (0, _), (0, _), (0, _), (0, _), (99, _), (0, _)]) G dX10_layMoved_257 rfl (nlx hn rfl) rfl ?_
    refine am_goto (pc := 260) (ls := [(20, _), (0, _), (0, _), (0, _), (0, _), (99, _), (0, _), (0, _), (0, _), (0, _), (0, _), (0, _), (99, _), (0, _)]) G 137 dX10_layMoved_260 (by decide) ?_
    refine am_le (ls' := [(20, _), (0, _), (0, _), (0, _), (0, _), (99, 0), (0, _), (0, _), (0, _), (0, _), (0, _), (99, 0), (99, 0), (99, 0)]) ⟨Or.inr rfl, ⟨Or.inr rfl, ⟨Or.inr rfl, ⟨Or.inr rfl, ⟨Or.inr rfl, ⟨Or.inl rfl, ⟨Or.inr rfl, ⟨Or.inr rfl, ⟨Or.inr rfl, ⟨Or.inr rfl, ⟨Or.inr rfl, ⟨Or.inl rfl, ⟨Or.inl rfl, ⟨Or.inl rfl, trivial⟩⟩⟩⟩⟩⟩⟩⟩⟩⟩⟩⟩⟩⟩ ?_
    exact k137 _ _ _ _ _ h
def wp_X10_layMoved_227 (V : VV) (x1 x2 x3 x4 x7 x8 x9 x10 x11 x13 s0 : Int) (M : Mem) (Q : Int → Mem → Prop) (B106 : Int → Int → Int → Mem → Prop) (B125 : Int → Int → Int → Int → Mem → Prop) (B137 : Int → Int → Int → Int → Mem → Prop) : Prop :=
  (x13 = 0 →
    wp_X10_layMoved_241 V x1 x2 x3 x4 s0 x8 x9 x10 x11 x13 x7 M Q B106 B125 B137) ∧ (¬ (x13 = 0) →
    wp_X10_layMoved_241 V x1 x2 x3 x4 s0 x8 x9 x10 x11 x13 x10 M Q B106 B125 B137)
theorem swp_X10_layMoved_227 {X : XX} {Q : Int → Mem → Prop} (G : GX X cX10_layMoved "TreeHandsModel") (Z : RX X 4 Q) (hn : nLX X = 14) (hr : roomX X = rm_X10_layMoved) (x1 x2 x3 x4 x7 x8 x9 x10 x11 x13 s0 : Int) (M : Mem) (B106 : Int → Int → Int → Mem → Prop) (B125 : Int → Int → Int → Int → Mem → Prop) (B137 : Int → Int → Int → Int → Mem → Prop) (k106 : ∀ (z3 z4 z5 : Int) (N : Mem), B106 z3 z4 z5 N → AW X 106 [(20, 203), (0, x1), (0, x2), (0, z3), (0, z4), (0, z5), (99, 0), (99, 0), (99, 0), (99, 0), (99, 0), (99, 0), (99, 0), (99, 0)] [] N) (k125 : ∀ (z6 z7 z8 z9 : Int) (N : Mem), B125 z6 z7 z8 z9 N → AW X 125 [(20, 203), (0, x1), (0, x2), (0, x3), (0, x4), (99, 0), (0, z6), (0, z7), (0, z8), (0, z9), (99, 0), (99, 0), (99, 0), (99, 0)] [] N) (k137 : ∀ (z6 z7 z8 z10 : Int) (N : Mem), B137 z6 z7 z8 z10 N → AW X 137 [(20, 203), (0, x1), (0, x2), (0, x3), (0, x4), (99, 0), (0, z6), (0, z7), (0, z8), (0, x9), (0, z10), (99, 0), (99, 0), (99, 0)] [] N) (h : wp_X10_layMoved_227 (vX X) x1 x2 x3 x4 x7 x8 x9 x10 x11 x13 s0 M Q B106 B125 B137) : AW X 227 [(20, 203), (0, x1), (0, x2), (0, x3), (0, x4), (99, 0), (99, 0), (0, x7), (0, x8), (0, x9), (0, x10), (0, x11), (99, 0), (0, x13)] [(0, s0)] M := by
  unfold wp_X10_layMoved_227 at h
  refine am_istore (pc := 227) G dX10_layMoved_227 (nlx hn rfl) rfl ?_
  refine am_iload (pc := 229) (ls := [(20, _), (0, _), (0, _), (0, _), (0, _), (99, _), (0, _), (0, _), (0, _), (0, _), (0, _), (0, _), (99, _), (0, _)]) G dX10_layMoved_229 rfl ?_
  refine am_if_eq (pc := 231) G 239 dX10_layMoved_231 (by decide) (fun c => ?_) (fun c => ?_)
  · have h := h.1 c
    refine am_iload (pc := 239) G dX10_layMoved_239 rfl ?_
    refine am_le (ls' := [(20, _), (0, _), (0, _), (0, _), (0, _), (99, 0), (0, _), (99, 0), (0, _), (0, _), (0, _), (0, _), (99, 0), (0, _)]) ⟨Or.inr rfl, ⟨Or.inr rfl, ⟨Or.inr rfl, ⟨Or.inr rfl, ⟨Or.inr rfl, ⟨Or.inl rfl, ⟨Or.inr rfl, ⟨Or.inl rfl, ⟨Or.inr rfl, ⟨Or.inr rfl, ⟨Or.inr rfl, ⟨Or.inr rfl, ⟨Or.inl rfl, ⟨Or.inr rfl, trivial⟩⟩⟩⟩⟩⟩⟩⟩⟩⟩⟩⟩⟩⟩ ?_
    exact swp_X10_layMoved_241 G Z hn hr _ _ _ _ _ _ _ _ _ _ _ _ B106 B125 B137 k106 k125 k137 h
  · have h := h.2 c
    refine am_iload (pc := 234) G dX10_layMoved_234 rfl ?_
    refine am_goto (pc := 236) G 241 dX10_layMoved_236 (by decide) ?_
    refine am_le (ls' := [(20, _), (0, _), (0, _), (0, _), (0, _), (99, 0), (0, _), (99, 0), (0, _), (0, _), (0, _), (0, _), (99, 0), (0, _)]) ⟨Or.inr rfl, ⟨Or.inr rfl, ⟨Or.inr rfl, ⟨Or.inr rfl, ⟨Or.inr rfl, ⟨Or.inl rfl, ⟨Or.inr rfl, ⟨Or.inl rfl, ⟨Or.inr rfl, ⟨Or.inr rfl, ⟨Or.inr rfl, ⟨Or.inr rfl, ⟨Or.inl rfl, ⟨Or.inr rfl, trivial⟩⟩⟩⟩⟩⟩⟩⟩⟩⟩⟩⟩⟩⟩ ?_
    exact swp_X10_layMoved_241 G Z hn hr _ _ _ _ _ _ _ _ _ _ _ _ B106 B125 B137 k106 k125 k137 h
def wp_X10_layMoved_213 (V : VV) (x1 x2 x3 x4 x6 x7 x8 x9 x10 x11 s0 : Int) (M : Mem) (Q : Int → Mem → Prop) (B106 : Int → Int → Int → Mem → Prop) (B125 : Int → Int → Int → Int → Mem → Prop) (B137 : Int → Int → Int → Int → Mem → Prop) : Prop :=
  (s0 = 0 →
    wp_X10_layMoved_227 V x1 x2 x3 x4 x7 x8 x9 x10 x11 s0 x6 M Q B106 B125 B137) ∧ (¬ (s0 = 0) →
    wp_X10_layMoved_227 V x1 x2 x3 x4 x7 x8 x9 x10 x11 s0 x9 M Q B106 B125 B137)
theorem swp_X10_layMoved_213 {X : XX} {Q : Int → Mem → Prop} (G : GX X cX10_layMoved "TreeHandsModel") (Z : RX X 4 Q) (hn : nLX X = 14) (hr : roomX X = rm_X10_layMoved) (x1 x2 x3 x4 x6 x7 x8 x9 x10 x11 s0 : Int) (M : Mem) (B106 : Int → Int → Int → Mem → Prop) (B125 : Int → Int → Int → Int → Mem → Prop) (B137 : Int → Int → Int → Int → Mem → Prop) (k106 : ∀ (z3 z4 z5 : Int) (N : Mem), B106 z3 z4 z5 N → AW X 106 [(20, 203), (0, x1), (0, x2), (0, z3), (0, z4), (0, z5), (99, 0), (99, 0), (99, 0), (99, 0), (99, 0), (99, 0), (99, 0), (99, 0)] [] N) (k125 : ∀ (z6 z7 z8 z9 : Int) (N : Mem), B125 z6 z7 z8 z9 N → AW X 125 [(20, 203), (0, x1), (0, x2), (0, x3), (0, x4), (99, 0), (0, z6), (0, z7), (0, z8), (0, z9), (99, 0), (99, 0), (99, 0), (99, 0)] [] N) (k137 : ∀ (z6 z7 z8 z10 : Int) (N : Mem), B137 z6 z7 z8 z10 N → AW X 137 [(20, 203), (0, x1), (0, x2), (0, x3), (0, x4), (99, 0), (0, z6), (0, z7), (0, z8), (0, x9), (0, z10), (99, 0), (99, 0), (99, 0)] [] N) (h : wp_X10_layMoved_213 (vX X) x1 x2 x3 x4 x6 x7 x8 x9 x10 x11 s0 M Q B106 B125 B137) : AW X 213 [(20, 203), (0, x1), (0, x2), (0, x3), (0, x4), (99, 0), (0, x6), (0, x7), (0, x8), (0, x9), (0, x10), (0, x11), (99, 0), (99, 0)] [(0, s0)] M := by
  unfold wp_X10_layMoved_213 at h
  refine am_istore (pc := 213) G dX10_layMoved_213 (nlx hn rfl) rfl ?_
  refine am_iload (pc := 215) (ls := [(20, _), (0, _), (0, _), (0, _), (0, _), (99, _), (0, _), (0, _), (0, _), (0, _), (0, _), (0, _), (99, _), (0, _)]) G dX10_layMoved_215 rfl ?_
  refine am_if_eq (pc := 217) G 225 dX10_layMoved_217 (by decide) (fun c => ?_) (fun c => ?_)
  · have h := h.1 c
    refine am_iload (pc := 225) G dX10_layMoved_225 rfl ?_
    refine am_le (ls' := [(20, _), (0, _), (0, _), (0, _), (0, _), (99, 0), (99, 0), (0, _), (0, _), (0, _), (0, _), (0, _), (99, 0), (0, _)]) ⟨Or.inr rfl, ⟨Or.inr rfl, ⟨Or.inr rfl, ⟨Or.inr rfl, ⟨Or.inr rfl, ⟨Or.inl rfl, ⟨Or.inl rfl, ⟨Or.inr rfl, ⟨Or.inr rfl, ⟨Or.inr rfl, ⟨Or.inr rfl, ⟨Or.inr rfl, ⟨Or.inl rfl, ⟨Or.inr rfl, trivial⟩⟩⟩⟩⟩⟩⟩⟩⟩⟩⟩⟩⟩⟩ ?_
    exact swp_X10_layMoved_227 G Z hn hr _ _ _ _ _ _ _ _ _ _ _ _ B106 B125 B137 k106 k125 k137 h
  · have h := h.2 c
    refine am_iload (pc := 220) G dX10_layMoved_220 rfl ?_
    refine am_goto (pc := 222) G 227 dX10_layMoved_222 (by decide) ?_
    refine am_le (ls' := [(20, _), (0, _), (0, _), (0, _), (0, _), (99, 0), (99, 0), (0, _), (0, _), (0, _), (0, _), (0, _), (99, 0), (0, _)]) ⟨Or.inr rfl, ⟨Or.inr rfl, ⟨Or.inr rfl, ⟨Or.inr rfl, ⟨Or.inr rfl, ⟨Or.inl rfl, ⟨Or.inl rfl, ⟨Or.inr rfl, ⟨Or.inr rfl, ⟨Or.inr rfl, ⟨Or.inr rfl, ⟨Or.inr rfl, ⟨Or.inl rfl, ⟨Or.inr rfl, trivial⟩⟩⟩⟩⟩⟩⟩⟩⟩⟩⟩⟩⟩⟩ ?_
    exact swp_X10_layMoved_227 G Z hn hr _ _ _ _ _ _ _ _ _ _ _ _ B106 B125 B137 k106 k125 k137 h
def wp_X10_layMoved_212 (V : VV) (x1 x2 x3 x4 x6 x7 x8 x9 x10 x11 : Int) (M : Mem) (Q : Int → Mem → Prop) (B106 : Int → Int → Int → Mem → Prop) (B125 : Int → Int → Int → Int → Mem → Prop) (B137 : Int → Int → Int → Int → Mem → Prop) : Prop :=
  wp_X10_layMoved_213 V x1 x2 x3 x4 x6 x7 x8 x9 x10 x11 0 M Q B106 B125 B137
theorem swp_X10_layMoved_212 {X : XX} {Q : Int → Mem → Prop} (G : GX X cX10_layMoved "TreeHandsModel") (Z : RX X 4 Q) (hn : nLX X = 14) (hr : roomX X = rm_X10_layMoved) (x1 x2 x3 x4 x6 x7 x8 x9 x10 x11 : Int) (M : Mem) (B106 : Int → Int → Int → Mem → Prop) (B125 : Int → Int → Int → Int → Mem → Prop) (B137 : Int → Int → Int → Int → Mem → Prop) (k106 : ∀ (z3 z4 z5 : Int) (N : Mem), B106 z3 z4 z5 N → AW X 106 [(20, 203), (0, x1), (0, x2), (0, z3), (0, z4), (0, z5), (99, 0), (99, 0), (99, 0), (99, 0), (99, 0), (99, 0), (99, 0), (99, 0)] [] N) (k125 : ∀ (z6 z7 z8 z9 : Int) (N : Mem), B125 z6 z7 z8 z9 N → AW X 125 [(20, 203), (0, x1), (0, x2), (0, x3), (0, x4), (99, 0), (0, z6), (0, z7), (0, z8), (0, z9), (99, 0), (99, 0), (99, 0), (99, 0)] [] N) (k137 : ∀ (z6 z7 z8 z10 : Int) (N : Mem), B137 z6 z7 z8 z10 N → AW X 137 [(20, 203), (0, x1), (0, x2), (0, x3), (0, x4), (99, 0), (0, z6), (0, z7), (0, z8), (0, x9), (0, z10), (99, 0), (99, 0), (99, 0)] [] N) (h : wp_X10_layMoved_212 (vX X) x1 x2 x3 x4 x6 x7 x8 x9 x10 x11 M Q B106 B125 B137) : AW X 212 [(20, 203), (0, x1), (0, x2), (0, x3), (0, x4), (99, 0), (0, x6), (0, x7), (0, x8), (0, x9), (0, x10), (0, x11), (99, 0), (99, 0)] [] M := by
  unfold wp_X10_layMoved_212 at h
  refine am_iconst (pc := 212) G dX10_layMoved_212 (by decide) ?_
  refine am_le (ls' := [(20, _), (0, _), (0, _), (0, _), (0, _), (99, 0), (0, _), (0, _), (0, _), (0, _), (0, _), (0, _), (99, 0), (99, 0)]) ⟨Or.inr rfl, ⟨Or.inr rfl, ⟨Or.inr rfl, ⟨Or.inr rfl, ⟨Or.inr rfl, ⟨Or.inl rfl, ⟨Or.inr rfl, ⟨Or.inr rfl, ⟨Or.inr rfl, ⟨Or.inr rfl, ⟨Or.inr rfl, ⟨Or.inr rfl, ⟨Or.inl rfl, ⟨Or.inl rfl, trivial⟩⟩⟩⟩⟩⟩⟩⟩⟩⟩⟩⟩⟩⟩ ?_
  exact swp_X10_layMoved_213 G Z hn hr _ _ _ _ _ _ _ _ _ _ _ _ B106 B125 B137 k106 k125 k137 h
def wp_X10_layMoved_137_b (V : VV) (x1 x2 x3 x4 x6 x7 x8 x9 x10 : Int) (M : Mem) (Q : Int → Mem → Prop) (B106 : Int → Int → Int → Mem → Prop) (B125 : Int → Int → Int → Int → Mem → Prop) (B137 : Int → Int → Int → Int → Mem → Prop) : Prop :=
  (M 203 11 ≤ x10 →
    B125 x6 x7 x8 (w32 (x9 + 1)) M) ∧ (¬ (M 203 11 ≤ x10) →
    R_X10_sizeOf V x1 x9 M (fun r10 M11 =>
    ∀ v12 : Int, v12 = w32 (shl32 1 r10 - 1) →
    (r10 ≤ x8 →
      wp_X10_layMoved_212 V x1 x2 x3 x4 x6 x7 x8 x9 x10 r10 M11 Q B106 B125 B137) ∧ (¬ (r10 ≤ x8) →
      (and32 (shr32 x3 x9) v12 = v12 →
        (and32 (shr32 x4 x10) v12 = v12 →
          R_X10_same V x1 x9 x2 x10 M11 (fun r13 M14 =>
          (r13 = 0 →
            wp_X10_layMoved_212 V x1 x2 x3 x4 x6 x7 x8 x9 x10 r10 M14 Q B106 B125 B137) ∧ (¬ (r13 = 0) →
            wp_X10_layMoved_213 V x1 x2 x3 x4 x6 x7 x8 x9 x10 r10 1 M14 Q B106 B125 B137))) ∧ (¬ (and32 (shr32 x4 x10) v12 = v12) →
          wp_X10_layMoved_212 V x1 x2 x3 x4 x6 x7 x8 x9 x10 r10 M11 Q B106 B125 B137)) ∧ (¬ (and32 (shr32 x3 x9) v12 = v12) →
        wp_X10_layMoved_212 V x1 x2 x3 x4 x6 x7 x8 x9 x10 r10 M11 Q B106 B125 B137))))
theorem swp_X10_layMoved_137_b {X : XX} {Q : Int → Mem → Prop} (G : GX X cX10_layMoved "TreeHandsModel") (Z : RX X 4 Q) (hn : nLX X = 14) (hr : roomX X = rm_X10_layMoved) (x1 x2 x3 x4 x6 x7 x8 x9 x10 : Int) (M : Mem) (B106 : Int → Int → Int → Mem → Prop) (B125 : Int → Int → Int → Int → Mem → Prop) (k106 : ∀ (z3 z4 z5 : Int) (N : Mem), B106 z3 z4 z5 N → AW X 106 [(20, 203), (0, x1), (0, x2), (0, z3), (0, z4), (0, z5), (99, 0), (99, 0), (99, 0), (99, 0), (99, 0), (99, 0), (99, 0), (99, 0)] [] N) (k125 : ∀ (z6 z7 z8 z9 : Int) (N : Mem), B125 z6 z7 z8 z9 N → AW X 125 [(20, 203), (0, x1), (0, x2), (0, x3), (0, x4), (99, 0), (0, z6), (0, z7), (0, z8), (0, z9), (99, 0), (99, 0), (99, 0), (99, 0)] [] N) (B137 : Int → Int → Int → Int → Mem → Prop) (k137 : ∀ (z6 z7 z8 z10 : Int) (N : Mem), B137 z6 z7 z8 z10 N → AW X 137 [(20, 203), (0, x1), (0, x2), (0, x3), (0, x4), (99, 0), (0, z6), (0, z7), (0, z8), (0, x9), (0, z10), (99, 0), (99, 0), (99, 0)] [] N) (h : wp_X10_layMoved_137_b (vX X) x1 x2 x3 x4 x6 x7 x8 x9 x10 M Q B106 B125 B137) : AW X 137 [(20, 203), (0, x1), (0, x2), (0, x3), (0, x4), (99, 0), (0, x6), (0, x7), (0, x8), (0, x9), (0, x10), (99, 0), (99, 0), (99, 0)] [] M := by
  unfold wp_X10_layMoved_137_b at h
  refine am_iload (pc := 137) G dX10_layMoved_137 rfl ?_
  refine am_aload_n (i := 0) (t := 17) (pc := 139) G dX10_layMoved_139 rfl rfl rfl ?_
  refine gf_X10_11 (pc := 140) G dX10_layMoved_140 tw_f_RX10_160 ?_
  refine am_icmp_ge (pc := 143) G 263 dX10_layMoved_143 (by decide) (fun c => ?_) (fun c => ?_)
  · have h := h.1 c
    refine am_iinc (pc := 263) G dX10_layMoved_263 rfl (nlx hn rfl) rfl ?_
    refine am_goto (pc := 266) (ls := [(20, _), (0, _), (0, _), (0, _), (0, _), (99, _), (0, _), (0, _), (0, _), (0, _), (0, _), (99, _), (99, _), (99, _)]) G 125 dX10_layMoved_266 (by decide) ?_
    refine am_le (ls' := [(20, _), (0, _), (0, _), (0, _), (0, _), (99, 0), (0, _), (0, _), (0, _), (0, _), (99, 0), (99, 0), (99, 0), (99, 0)]) ⟨Or.inr rfl, ⟨Or.inr rfl, ⟨Or.inr rfl, ⟨Or.inr rfl, ⟨Or.inr rfl, ⟨Or.inl rfl, ⟨Or.inr rfl, ⟨Or.inr rfl, ⟨Or.inr rfl, ⟨Or.inr rfl, ⟨Or.inl rfl, ⟨Or.inl rfl, ⟨Or.inl rfl, ⟨Or.inl rfl, trivial⟩⟩⟩⟩⟩⟩⟩⟩⟩⟩⟩⟩⟩⟩ ?_
    exact k125 _ _ _ _ _ h
  · have h := h.2 c
    refine am_aload_n (i := 0) (t := 17) (pc := 146) G dX10_layMoved_146 rfl rfl rfl ?_
    refine am_iload_n (i := 1) (pc := 147) G dX10_layMoved_147 rfl rfl ?_
    refine am_iload (pc := 148) G dX10_layMoved_148 rfl ?_
    refine am_callV (rk := 0) (rmc := rm_X10_sizeOf) (st := []) (pc := 150) G 10 [(0, _), (0, _)] rfl (by decide) rfl dX10_layMoved_150 tw_m_RX10_128 tw_i_X10_sizeOf tw_v_X10_sizeOf tw_z_RX10 tw_c_X10_sizeOf hy_X10_sizeOf (callrm hr rfl) rfl (RunsM.mono h (fun r10 M11 h => ?_)) Z.rm
    show AW X 153 _ [(0, _)] M11
    refine am_istore (pc := 153) G dX10_layMoved_153 (nlx hn rfl) rfl ?_
    refine am_iconst (pc := 155) (ls := [(20, _), (0, _), (0, _), (0, _), (0, _), (99, _), (0, _), (0, _), (0, _), (0, _), (0, _), (0, _), (99, _), (99, _)]) G dX10_layMoved_155 (by decide) ?_
    refine am_iload (pc := 156) G dX10_layMoved_156 rfl ?_
    refine am_ishl (pc := 158) G dX10_layMoved_158 ?_
    refine am_iconst (pc := 159) G dX10_layMoved_159 (by decide) ?_
    refine am_isub (pc := 160) G dX10_layMoved_160 ?_
    have h := h _ rfl
    refine am_istore (pc := 161) G dX10_layMoved_161 (nlx hn rfl) rfl ?_
    refine am_iload (pc := 163) (ls := [(20, _), (0, _), (0, _), (0, _), (0, _), (99, _), (0, _), (0, _), (0, _), (0, _), (0, _), (0, _), (0, _), (99, _)]) G dX10_layMoved_163 rfl ?_
    refine am_iload (pc := 165) G dX10_layMoved_165 rfl ?_
    refine am_icmp_le (pc := 167) G 212 dX10_layMoved_167 (by decide) (fun c => ?_) (fun c => ?_)
    · have h := h.1 c
      refine am_le (ls' := [(20, _), (0, _), (0, _), (0, _), (0, _), (99, 0), (0, _), (0, _), (0, _), (0, _), (0, _), (0, _), (99, 0), (99, 0)]) ⟨Or.inr rfl, ⟨Or.inr rfl, ⟨Or.inr rfl, ⟨Or.inr rfl, ⟨Or.inr rfl, ⟨Or.inl rfl, ⟨Or.inr rfl, ⟨Or.inr rfl, ⟨Or.inr rfl, ⟨Or.inr rfl, ⟨Or.inr rfl, ⟨Or.inr rfl, ⟨Or.inl rfl, ⟨Or.inl rfl, trivial⟩⟩⟩⟩⟩⟩⟩⟩⟩⟩⟩⟩⟩⟩ ?_
      exact swp_X10_layMoved_212 G Z hn hr _ _ _ _ _ _ _ _ _ _ _ B106 B125 B137 k106 k125 k137 h
    · have h := h.2 c
      refine am_iload_n (i := 3) (pc := 170) G dX10_layMoved_170 rfl rfl ?_
      refine am_iload (pc := 171) G dX10_layMoved_171 rfl ?_
      refine am_ishr (pc := 173) G dX10_layMoved_173 ?_
      refine am_iload (pc := 174) G dX10_layMoved_174 rfl ?_
      refine am_iand (pc := 176) G dX10_layMoved_176 ?_
      refine am_iload (pc := 177) G dX10_layMoved_177 rfl ?_
      refine am_icmp_ne (pc := 179) G 212 dX10_layMoved_179 (by decide) (fun c => ?_) (fun c => ?_)
      · have h := h.2 c
        refine am_le (ls' := [(20, _), (0, _), (0, _), (0, _), (0, _), (99, 0), (0, _), (0, _), (0, _), (0, _), (0, _), (0, _), (99, 0), (99, 0)]) ⟨Or.inr rfl, ⟨Or.inr rfl, ⟨Or.inr rfl, ⟨Or.inr rfl, ⟨Or.inr rfl, ⟨Or.inl rfl, ⟨Or.inr rfl, ⟨Or.inr rfl, ⟨Or.inr rfl, ⟨Or.inr rfl, ⟨Or.inr rfl, ⟨Or.inr rfl, ⟨Or.inl rfl, ⟨Or.inl rfl, trivial⟩⟩⟩⟩⟩⟩⟩⟩⟩⟩⟩⟩⟩⟩ ?_
        exact swp_X10_layMoved_212 G Z hn hr _ _ _ _ _ _ _ _ _ _ _ B106 B125 B137 k106 k125 k137 h
      · have h := h.1 c
        refine am_iload (pc := 182) G dX10_layMoved_182 rfl ?_
        refine am_iload (pc := 184) G dX10_layMoved_184 rfl ?_
        refine am_ishr (pc := 186) G dX10_layMoved_186 ?_
        refine am_iload (pc := 187) G dX10_layMoved_187 rfl ?_
        refine am_iand (pc := 189) G dX10_layMoved_189 ?_
        refine am_iload (pc := 190) G dX10_layMoved_190 rfl ?_
        refine am_icmp_ne (pc := 192) G 212 dX10_layMoved_192 (by decide) (fun c => ?_) (fun c => ?_)
        · have h := h.2 c
          refine am_le (ls' := [(20, _), (0, _), (0, _), (0, _), (0, _), (99, 0), (0, _), (0, _), (0, _), (0, _), (0, _), (0, _), (99, 0), (99, 0)]) ⟨Or.inr rfl, ⟨Or.inr rfl, ⟨Or.inr rfl, ⟨Or.inr rfl, ⟨Or.inr rfl, ⟨Or.inl rfl, ⟨Or.inr rfl, ⟨Or.inr rfl, ⟨Or.inr rfl, ⟨Or.inr rfl, ⟨Or.inr rfl, ⟨Or.inr rfl, ⟨Or.inl rfl, ⟨Or.inl rfl, trivial⟩⟩⟩⟩⟩⟩⟩⟩⟩⟩⟩⟩⟩⟩ ?_
          exact swp_X10_layMoved_212 G Z hn hr _ _ _ _ _ _ _ _ _ _ _ B106 B125 B137 k106 k125 k137 h
        · have h := h.1 c
          refine am_aload_n (i := 0) (t := 17) (pc := 195) G dX10_layMoved_195 rfl rfl rfl ?_
          refine am_iload_n (i := 1) (pc := 196) G dX10_layMoved_196 rfl rfl ?_
          refine am_iload (pc := 197) G dX10_layMoved_197 rfl ?_
          refine am_iload_n (i := 2) (pc := 199) G dX10_layMoved_199 rfl rfl ?_
          refine am_iload (pc := 200) G dX10_layMoved_200 rfl ?_
          refine am_callV (rk := 1) (rmc := rm_X10_same) (st := []) (pc := 202) G 10 [(0, _), (0, _), (0, _), (0, _)] rfl (by decide) rfl dX10_layMoved_202 tw_m_RX10_153 tw_i_X10_same tw_v_X10_same tw_z_RX10 tw_c_X10_same hy_X10_same (callrm hr rfl) rfl (RunsM.mono h (fun r13 M14 h => ?_)) Z.rm
          show AW X 205 _ [(0, _)] M14
          refine am_if_eq (pc := 205) G 212 dX10_layMoved_205 (by decide) (fun c => ?_) (fun c => ?_)
          · have h := h.1 c
            refine am_le (ls' := [(20, _), (0, _), (0, _), (0, _), (0, _), (99, 0), (0, _), (0, _), (0, _), (0, _), (0, _), (0, _), (99, 0), (99, 0)]) ⟨Or.inr rfl, ⟨Or.inr rfl, ⟨Or.inr rfl, ⟨Or.inr rfl, ⟨Or.inr rfl, ⟨Or.inl rfl, ⟨Or.inr rfl, ⟨Or.inr rfl, ⟨Or.inr rfl, ⟨Or.inr rfl, ⟨Or.inr rfl, ⟨Or.inr rfl, ⟨Or.inl rfl, ⟨Or.inl rfl, trivial⟩⟩⟩⟩⟩⟩⟩⟩⟩⟩⟩⟩⟩⟩ ?_
            exact swp_X10_layMoved_212 G Z hn hr _ _ _ _ _ _ _ _ _ _ _ B106 B125 B137 k106 k125 k137 h
          · have h := h.2 c
            refine am_iconst (pc := 208) G dX10_layMoved_208 (by decide) ?_
            refine am_goto (pc := 209) G 213 dX10_layMoved_209 (by decide) ?_
            refine am_le (ls' := [(20, _), (0, _), (0, _), (0, _), (0, _), (99, 0), (0, _), (0, _), (0, _), (0, _), (0, _), (0, _), (99, 0), (99, 0)]) ⟨Or.inr rfl, ⟨Or.inr rfl, ⟨Or.inr rfl, ⟨Or.inr rfl, ⟨Or.inr rfl, ⟨Or.inl rfl, ⟨Or.inr rfl, ⟨Or.inr rfl, ⟨Or.inr rfl, ⟨Or.inr rfl, ⟨Or.inr rfl, ⟨Or.inr rfl, ⟨Or.inl rfl, ⟨Or.inl rfl, trivial⟩⟩⟩⟩⟩⟩⟩⟩⟩⟩⟩⟩⟩⟩ ?_
            exact swp_X10_layMoved_213 G Z hn hr _ _ _ _ _ _ _ _ _ _ _ _ B106 B125 B137 k106 k125 k137 h
def wp_X10_layMoved_137 (V : VV) (x1 x2 x3 x4 x6 x7 x8 x9 x10 : Int) (M : Mem) (Q : Int → Mem → Prop) (B106 : Int → Int → Int → Mem → Prop) (B125 : Int → Int → Int → Int → Mem → Prop) : Prop :=
  ∃ (I : Int → Int → Int → Int → Mem → Prop) (μ : Int → Int → Int → Int → Mem → Nat), I x6 x7 x8 x10 M ∧ ∀ (y6 y7 y8 y10 : Int) (N : Mem), I y6 y7 y8 y10 N → wp_X10_layMoved_137_b V x1 x2 x3 x4 y6 y7 y8 x9 y10 N Q B106 B125 (fun z6 z7 z8 z10 N1 => I z6 z7 z8 z10 N1 ∧ μ z6 z7 z8 z10 N1 < μ y6 y7 y8 y10 N)
theorem swp_X10_layMoved_137 {X : XX} {Q : Int → Mem → Prop} (G : GX X cX10_layMoved "TreeHandsModel") (Z : RX X 4 Q) (hn : nLX X = 14) (hr : roomX X = rm_X10_layMoved) (x1 x2 x3 x4 x6 x7 x8 x9 x10 : Int) (M : Mem) (B106 : Int → Int → Int → Mem → Prop) (B125 : Int → Int → Int → Int → Mem → Prop) (k106 : ∀ (z3 z4 z5 : Int) (N : Mem), B106 z3 z4 z5 N → AW X 106 [(20, 203), (0, x1), (0, x2), (0, z3), (0, z4), (0, z5), (99, 0), (99, 0), (99, 0), (99, 0), (99, 0), (99, 0), (99, 0), (99, 0)] [] N) (k125 : ∀ (z6 z7 z8 z9 : Int) (N : Mem), B125 z6 z7 z8 z9 N → AW X 125 [(20, 203), (0, x1), (0, x2), (0, x3), (0, x4), (99, 0), (0, z6), (0, z7), (0, z8), (0, z9), (99, 0), (99, 0), (99, 0), (99, 0)] [] N) (h : wp_X10_layMoved_137 (vX X) x1 x2 x3 x4 x6 x7 x8 x9 x10 M Q B106 B125) : AW X 137 [(20, 203), (0, x1), (0, x2), (0, x3), (0, x4), (99, 0), (0, x6), (0, x7), (0, x8), (0, x9), (0, x10), (99, 0), (99, 0), (99, 0)] [] M := by
  unfold wp_X10_layMoved_137 at h
  obtain ⟨I, μ, hI, hs⟩ := h
  have key : ∀ (n : Nat) (y6 y7 y8 y10 : Int) (N : Mem), μ y6 y7 y8 y10 N < n → I y6 y7 y8 y10 N → AW X 137 [(20, 203), (0, x1), (0, x2), (0, x3), (0, x4), (99, 0), (0, y6), (0, y7), (0, y8), (0, x9), (0, y10), (99, 0), (99, 0), (99, 0)] [] N := by
    intro n
    induction n with
    | zero => intro y6 y7 y8 y10 N hlt; exact absurd hlt (Nat.not_lt_zero _)
    | succ n ih =>
      intro y6 y7 y8 y10 N hlt hI
      exact swp_X10_layMoved_137_b G Z hn hr x1 x2 x3 x4 y6 y7 y8 x9 y10 N B106 B125 k106 k125 (fun z6 z7 z8 z10 N1 => I z6 z7 z8 z10 N1 ∧ μ z6 z7 z8 z10 N1 < μ y6 y7 y8 y10 N) (fun z6 z7 z8 z10 N1 hz => ih z6 z7 z8 z10 N1 (by omega) hz.1) (hs y6 y7 y8 y10 N hI)
  exact key _ x6 x7 x8 x10 M (Nat.lt_succ_self _) hI
def wp_X10_layMoved_125_b (V : VV) (x1 x2 x3 x4 x6 x7 x8 x9 : Int) (M : Mem) (Q : Int → Mem → Prop) (B106 : Int → Int → Int → Mem → Prop) (B125 : Int → Int → Int → Int → Mem → Prop) : Prop :=
  (M 203 10 ≤ x9 →
    (x6 < 0 →
      wp_X10_layMoved_279 V x1 x2 x3 x4 x6 x7 x8 0 M Q B106) ∧ (¬ (x6 < 0) →
      wp_X10_layMoved_279 V x1 x2 x3 x4 x6 x7 x8 1 M Q B106)) ∧ (¬ (M 203 10 ≤ x9) →
    wp_X10_layMoved_137 V x1 x2 x3 x4 x6 x7 x8 x9 0 M Q B106 B125)
theorem swp_X10_layMoved_125_b {X : XX} {Q : Int → Mem → Prop} (G : GX X cX10_layMoved "TreeHandsModel") (Z : RX X 4 Q) (hn : nLX X = 14) (hr : roomX X = rm_X10_layMoved) (x1 x2 x3 x4 x6 x7 x8 x9 : Int) (M : Mem) (B106 : Int → Int → Int → Mem → Prop) (k106 : ∀ (z3 z4 z5 : Int) (N : Mem), B106 z3 z4 z5 N → AW X 106 [(20, 203), (0, x1), (0, x2), (0, z3), (0, z4), (0, z5), (99, 0), (99, 0), (99, 0), (99, 0), (99, 0), (99, 0), (99, 0), (99, 0)] [] N) (B125 : Int → Int → Int → Int → Mem → Prop) (k125 : ∀ (z6 z7 z8 z9 : Int) (N : Mem), B125 z6 z7 z8 z9 N → AW X 125 [(20, 203), (0, x1), (0, x2), (0, x3), (0, x4), (99, 0), (0, z6), (0, z7), (0, z8), (0, z9), (99, 0), (99, 0), (99, 0), (99, 0)] [] N) (h : wp_X10_layMoved_125_b (vX X) x1 x2 x3 x4 x6 x7 x8 x9 M Q B106 B125) : AW X 125 [(20, 203), (0, x1), (0, x2), (0, x3), (0, x4), (99, 0), (0, x6), (0, x7), (0, x8), (0, x9), (99, 0), (99, 0), (99, 0), (99, 0)] [] M := by
  unfold wp_X10_layMoved_125_b at h
  refine am_iload (pc := 125) G dX10_layMoved_125 rfl ?_
  refine am_aload_n (i := 0) (t := 17) (pc := 127) G dX10_layMoved_127 rfl rfl rfl ?_
  refine gf_X10_10 (pc := 128) G dX10_layMoved_128 tw_f_RX10_157 ?_
  refine am_icmp_ge (pc := 131) G 269 dX10_layMoved_131 (by decide) (fun c => ?_) (fun c => ?_)
  · have h := h.1 c
    refine am_iload (pc := 269) G dX10_layMoved_269 rfl ?_
    refine am_if_lt (pc := 271) G 278 dX10_layMoved_271 (by decide) (fun c => ?_) (fun c => ?_)
    · have h := h.1 c
      refine am_iconst (pc := 278) G dX10_layMoved_278 (by decide) ?_
      refine am_le (ls' := [(20, _), (0, _), (0, _), (0, _), (0, _), (99, 0), (0, _), (0, _), (0, _), (99, 0), (99, 0), (99, 0), (99, 0), (99, 0)]) ⟨Or.inr rfl, ⟨Or.inr rfl, ⟨Or.inr rfl, ⟨Or.inr rfl, ⟨Or.inr rfl, ⟨Or.inl rfl, ⟨Or.inr rfl, ⟨Or.inr rfl, ⟨Or.inr rfl, ⟨Or.inl rfl, ⟨Or.inl rfl, ⟨Or.inl rfl, ⟨Or.inl rfl, ⟨Or.inl rfl, trivial⟩⟩⟩⟩⟩⟩⟩⟩⟩⟩⟩⟩⟩⟩ ?_
      exact swp_X10_layMoved_279 G Z hn hr _ _ _ _ _ _ _ _ _ B106 k106 h
    · have h := h.2 c
      refine am_iconst (pc := 274) G dX10_layMoved_274 (by decide) ?_
      refine am_goto (pc := 275) G 279 dX10_layMoved_275 (by decide) ?_
      refine am_le (ls' := [(20, _), (0, _), (0, _), (0, _), (0, _), (99, 0), (0, _), (0, _), (0, _), (99, 0), (99, 0), (99, 0), (99, 0), (99, 0)]) ⟨Or.inr rfl, ⟨Or.inr rfl, ⟨Or.inr rfl, ⟨Or.inr rfl, ⟨Or.inr rfl, ⟨Or.inl rfl, ⟨Or.inr rfl, ⟨Or.inr rfl, ⟨Or.inr rfl, ⟨Or.inl rfl, ⟨Or.inl rfl, ⟨Or.inl rfl, ⟨Or.inl rfl, ⟨Or.inl rfl, trivial⟩⟩⟩⟩⟩⟩⟩⟩⟩⟩⟩⟩⟩⟩ ?_
      exact swp_X10_layMoved_279 G Z hn hr _ _ _ _ _ _ _ _ _ B106 k106 h
  · have h := h.2 c
    refine am_iconst (pc := 134) G dX10_layMoved_134 (by decide) ?_
    refine am_istore (pc := 135) G dX10_layMoved_135 (nlx hn rfl) rfl ?_
    refine am_le (ls' := [(20, _), (0, _), (0, _), (0, _), (0, _), (99, 0), (0, _), (0, _), (0, _), (0, _), (0, _), (99, 0), (99, 0), (99, 0)]) ⟨Or.inr rfl, ⟨Or.inr rfl, ⟨Or.inr rfl, ⟨Or.inr rfl, ⟨Or.inr rfl, ⟨Or.inl rfl, ⟨Or.inr rfl, ⟨Or.inr rfl, ⟨Or.inr rfl, ⟨Or.inr rfl, ⟨Or.inr rfl, ⟨Or.inl rfl, ⟨Or.inl rfl, ⟨Or.inl rfl, trivial⟩⟩⟩⟩⟩⟩⟩⟩⟩⟩⟩⟩⟩⟩ ?_
    exact swp_X10_layMoved_137 G Z hn hr _ _ _ _ _ _ _ _ _ _ B106 B125 k106 k125 h
def wp_X10_layMoved_125 (V : VV) (x1 x2 x3 x4 x6 x7 x8 x9 : Int) (M : Mem) (Q : Int → Mem → Prop) (B106 : Int → Int → Int → Mem → Prop) : Prop :=
  ∃ (I : Int → Int → Int → Int → Mem → Prop) (μ : Int → Int → Int → Int → Mem → Nat), I x6 x7 x8 x9 M ∧ ∀ (y6 y7 y8 y9 : Int) (N : Mem), I y6 y7 y8 y9 N → wp_X10_layMoved_125_b V x1 x2 x3 x4 y6 y7 y8 y9 N Q B106 (fun z6 z7 z8 z9 N1 => I z6 z7 z8 z9 N1 ∧ μ z6 z7 z8 z9 N1 < μ y6 y7 y8 y9 N)
theorem swp_X10_layMoved_125 {X : XX} {Q : Int → Mem → Prop} (G : GX X cX10_layMoved "TreeHandsModel") (Z : RX X 4 Q) (hn : nLX X = 14) (hr : roomX X = rm_X10_layMoved) (x1 x2 x3 x4 x6 x7 x8 x9 : Int) (M : Mem) (B106 : Int → Int → Int → Mem → Prop) (k106 : ∀ (z3 z4 z5 : Int) (N : Mem), B106 z3 z4 z5 N → AW X 106 [(20, 203), (0, x1), (0, x2), (0, z3), (0, z4), (0, z5), (99, 0), (99, 0), (99, 0), (99, 0), (99, 0), (99, 0), (99, 0), (99, 0)] [] N) (h : wp_X10_layMoved_125 (vX X) x1 x2 x3 x4 x6 x7 x8 x9 M Q B106) : AW X 125 [(20, 203), (0, x1), (0, x2), (0, x3), (0, x4), (99, 0), (0, x6), (0, x7), (0, x8), (0, x9), (99, 0), (99, 0), (99, 0), (99, 0)] [] M := by
  unfold wp_X10_layMoved_125 at h
  obtain ⟨I, μ, hI, hs⟩ := h
  have key : ∀ (n : Nat) (y6 y7 y8 y9 : Int) (N : Mem), μ y6 y7 y8 y9 N < n → I y6 y7 y8 y9 N → AW X 125 [(20, 203), (0, x1), (0, x2), (0, x3), (0, x4), (99, 0), (0, y6), (0, y7), (0, y8), (0, y9), (99, 0), (99, 0), (99, 0), (99, 0)] [] N := by
    intro n
    induction n with
    | zero => intro y6 y7 y8 y9 N hlt; exact absurd hlt (Nat.not_lt_zero _)
    | succ n ih =>
      intro y6 y7 y8 y9 N hlt hI
      exact swp_X10_layMoved_125_b G Z hn hr x1 x2 x3 x4 y6 y7 y8 y9 N B106 k106 (fun z6 z7 z8 z9 N1 => I z6 z7 z8 z9 N1 ∧ μ z6 z7 z8 z9 N1 < μ y6 y7 y8 y9 N) (fun z6 z7 z8 z9 N1 hz => ih z6 z7 z8 z9 N1 (by omega) hz.1) (hs y6 y7 y8 y9 N hI)
  exact key _ x6 x7 x8 x9 M (Nat.lt_succ_self _) hI
def wp_X10_layMoved_106_b (V : VV) (x1 x2 x3 x4 x5 : Int) (M : Mem) (Q : Int → Mem → Prop) (B106 : Int → Int → Int → Mem → Prop) : Prop :=
  (x5 = 0 →
    Q 0 M) ∧ (¬ (x5 = 0) →
    wp_X10_layMoved_125 V x1 x2 x3 x4 (-6) (-6) 0 0 M Q B106)
theorem swp_X10_layMoved_106_b {X : XX} {Q : Int → Mem → Prop} (G : GX X cX10_layMoved "TreeHandsModel") (Z : RX X 4 Q) (hn : nLX X = 14) (hr : roomX X = rm_X10_layMoved) (x1 x2 x3 x4 x5 : Int) (M : Mem) (B106 : Int → Int → Int → Mem → Prop) (k106 : ∀ (z3 z4 z5 : Int) (N : Mem), B106 z3 z4 z5 N → AW X 106 [(20, 203), (0, x1), (0, x2), (0, z3), (0, z4), (0, z5), (99, 0), (99, 0), (99, 0), (99, 0), (99, 0), (99, 0), (99, 0), (99, 0)] [] N) (h : wp_X10_layMoved_106_b (vX X) x1 x2 x3 x4 x5 M Q B106) : AW X 106 [(20, 203), (0, x1), (0, x2), (0, x3), (0, x4), (0, x5), (99, 0), (99, 0), (99, 0), (99, 0), (99, 0), (99, 0), (99, 0), (99, 0)] [] M := by
  unfold wp_X10_layMoved_106_b at h
  refine am_iload (pc := 106) G dX10_layMoved_106 rfl ?_
  refine am_if_eq (pc := 108) G 362 dX10_layMoved_108 (by decide) (fun c => ?_) (fun c => ?_)
  · have h := h.1 c
    exact am_vret (pc := 362) G Z dX10_layMoved_362 h
  · have h := h.2 c
    refine am_bipush (pc := 111) G dX10_layMoved_111 (by decide) (by decide) ?_
    refine am_istore (pc := 113) G dX10_layMoved_113 (nlx hn rfl) rfl ?_
    refine am_bipush (pc := 115) (ls := [(20, _), (0, _), (0, _), (0, _), (0, _), (0, _), (0, _), (99, _), (99, _), (99, _), (99, _), (99, _), (99, _), (99, _)]) G dX10_layMoved_115 (by decide) (by decide) ?_
    refine am_istore (pc := 117) G dX10_layMoved_117 (nlx hn rfl) rfl ?_
    refine am_iconst (pc := 119) (ls := [(20, _), (0, _), (0, _), (0, _), (0, _), (0, _), (0, _), (0, _), (99, _), (99, _), (99, _), (99, _), (99, _), (99, _)]) G dX10_layMoved_119 (by decide) ?_
    refine am_istore (pc := 120) G dX10_layMoved_120 (nlx hn rfl) rfl ?_
    refine am_iconst (pc := 122) (ls := [(20, _), (0, _), (0, _), (0, _), (0, _), (0, _), (0, _), (0, _), (0, _), (99, _), (99, _), (99, _), (99, _), (99, _)]) G dX10_layMoved_122 (by decide) ?_
    refine am_istore (pc := 123) G dX10_layMoved_123 (nlx hn rfl) rfl ?_
    refine am_le (ls' := [(20, _), (0, _), (0, _), (0, _), (0, _), (99, 0), (0, _), (0, _), (0, _), (0, _), (99, 0), (99, 0), (99, 0), (99, 0)]) ⟨Or.inr rfl, ⟨Or.inr rfl, ⟨Or.inr rfl, ⟨Or.inr rfl, ⟨Or.inr rfl, ⟨Or.inl rfl, ⟨Or.inr rfl, ⟨Or.inr rfl, ⟨Or.inr rfl, ⟨Or.inr rfl, ⟨Or.inl rfl, ⟨Or.inl rfl, ⟨Or.inl rfl, ⟨Or.inl rfl, trivial⟩⟩⟩⟩⟩⟩⟩⟩⟩⟩⟩⟩⟩⟩ ?_
    exact swp_X10_layMoved_125 G Z hn hr _ _ _ _ _ _ _ _ _ B106 k106 h
def wp_X10_layMoved_106 (V : VV) (x1 x2 x3 x4 x5 : Int) (M : Mem) (Q : Int → Mem → Prop) : Prop :=
  ∃ (I : Int → Int → Int → Mem → Prop) (μ : Int → Int → Int → Mem → Nat), I x3 x4 x5 M ∧ ∀ (y3 y4 y5 : Int) (N : Mem), I y3 y4 y5 N → wp_X10_layMoved_106_b V x1 x2 y3 y4 y5 N Q (fun z3 z4 z5 N1 => I z3 z4 z5 N1 ∧ μ z3 z4 z5 N1 < μ y3 y4 y5 N)
theorem swp_X10_layMoved_106 {X : XX} {Q : Int → Mem → Prop} (G : GX X cX10_layMoved "TreeHandsModel") (Z : RX X 4 Q) (hn : nLX X = 14) (hr : roomX X = rm_X10_layMoved) (x1 x2 x3 x4 x5 : Int) (M : Mem) (h : wp_X10_layMoved_106 (vX X) x1 x2 x3 x4 x5 M Q) : AW X 106 [(20, 203), (0, x1), (0, x2), (0, x3), (0, x4), (0, x5), (99, 0), (99, 0), (99, 0), (99, 0), (99, 0), (99, 0), (99, 0), (99, 0)] [] M := by
  unfold wp_X10_layMoved_106 at h
  obtain ⟨I, μ, hI, hs⟩ := h
  have key : ∀ (n : Nat) (y3 y4 y5 : Int) (N : Mem), μ y3 y4 y5 N < n → I y3 y4 y5 N → AW X 106 [(20, 203), (0, x1), (0, x2), (0, y3), (0, y4), (0, y5), (99, 0), (99, 0), (99, 0), (99, 0), (99, 0), (99, 0), (99, 0), (99, 0)] [] N := by
    intro n
    induction n with
    | zero => intro y3 y4 y5 N hlt; exact absurd hlt (Nat.not_lt_zero _)
    | succ n ih =>
      intro y3 y4 y5 N hlt hI
      exact swp_X10_layMoved_106_b G Z hn hr x1 x2 y3 y4 y5 N (fun z3 z4 z5 N1 => I z3 z4 z5 N1 ∧ μ z3 z4 z5 N1 < μ y3 y4 y5 N) (fun z3 z4 z5 N1 hz => ih z3 z4 z5 N1 (by omega) hz.1) (hs y3 y4 y5 N hI)
  exact key _ x3 x4 x5 M (Nat.lt_succ_self _) hI
def wp_X10_layMoved_84 (V : VV) (x1 x2 x3 x5 s0 s1 : Int) (M : Mem) (Q : Int → Mem → Prop) (B55 : Int → Int → Prop) : Prop :=
  ∀ v15 : Int, v15 = or32 s1 s0 →
  B55 v15 (w32 (x5 + 1))
theorem swp_X10_layMoved_84 {X : XX} {Q : Int → Mem → Prop} (G : GX X cX10_layMoved "TreeHandsModel") (Z : RX X 4 Q) (hn : nLX X = 14) (hr : roomX X = rm_X10_layMoved) (x1 x2 x3 x5 s0 s1 : Int) (M : Mem) (B55 : Int → Int → Prop) (k55 : ∀ (z4 z5 : Int), B55 z4 z5 → AW X 55 [(20, 203), (0, x1), (0, x2), (0, x3), (0, z4), (0, z5), (99, 0), (99, 0), (99, 0), (99, 0), (99, 0), (99, 0), (99, 0), (99, 0)] [] M) (h : wp_X10_layMoved_84 (vX X) x1 x2 x3 x5 s0 s1 M Q B55) : AW X 84 [(20, 203), (0, x1), (0, x2), (0, x3), (99, 0), (0, x5), (99, 0), (99, 0), (99, 0), (99, 0), (99, 0), (99, 0), (99, 0), (99, 0)] [(0, s0), (0, s1)] M := by
  unfold wp_X10_layMoved_84 at h
  refine am_ior (pc := 84) G dX10_layMoved_84 ?_
  have h := h _ rfl
  refine am_istore (pc := 85) G dX10_layMoved_85 (nlx hn rfl) rfl ?_
  refine am_iinc (pc := 87) (ls := [(20, _), (0, _), (0, _), (0, _), (0, _), (0, _), (99, _), (99, _), (99, _), (99, _), (99, _), (99, _), (99, _), (99, _)]) G dX10_layMoved_87 rfl (nlx hn rfl) rfl ?_
  refine am_goto (pc := 90) (ls := [(20, _), (0, _), (0, _), (0, _), (0, _), (0, _), (99, _), (99, _), (99, _), (99, _), (99, _), (99, _), (99, _), (99, _)]) G 55 dX10_layMoved_90 (by decide) ?_
  refine am_le (ls' := [(20, _), (0, _), (0, _), (0, _), (0, _), (0, _), (99, 0), (99, 0), (99, 0), (99, 0), (99, 0), (99, 0), (99, 0), (99, 0)]) ⟨Or.inr rfl, ⟨Or.inr rfl, ⟨Or.inr rfl, ⟨Or.inr rfl, ⟨Or.inr rfl, ⟨Or.inr rfl, ⟨Or.inl rfl, ⟨Or.inl rfl, ⟨Or.inl rfl, ⟨Or.inl rfl, ⟨Or.inl rfl, ⟨Or.inl rfl, ⟨Or.inl rfl, ⟨Or.inl rfl, trivial⟩⟩⟩⟩⟩⟩⟩⟩⟩⟩⟩⟩⟩⟩ ?_
  exact k55 _ _ h
def wp_X10_layMoved_55_b (V : VV) (x1 x2 x3 x4 x5 : Int) (M : Mem) (Q : Int → Mem → Prop) (B55 : Int → Int → Prop) : Prop :=
  (M 203 11 ≤ x5 →
    ∀ M3 : Mem, M3 = mset M 203 24 0 →
    wp_X10_layMoved_106 V x1 x2 x3 x4 1 (mset M3 203 27 0) Q) ∧ (¬ (M 203 11 ≤ x5) →
    ((0 : Int) ≤ x5 ∧ x5 < (16 : Int)) ∧
    (0 ≤ M 221 x5 →
      wp_X10_layMoved_84 V x1 x2 x3 x5 0 x4 M Q B55) ∧ (¬ (0 ≤ M 221 x5) →
      wp_X10_layMoved_84 V x1 x2 x3 x5 (shl32 1 x5) x4 M Q B55))
theorem swp_X10_layMoved_55_b {X : XX} {Q : Int → Mem → Prop} (G : GX X cX10_layMoved "TreeHandsModel") (Z : RX X 4 Q) (hn : nLX X = 14) (hr : roomX X = rm_X10_layMoved) (x1 x2 x3 x4 x5 : Int) (M : Mem) (B55 : Int → Int → Prop) (k55 : ∀ (z4 z5 : Int), B55 z4 z5 → AW X 55 [(20, 203), (0, x1), (0, x2), (0, x3), (0, z4), (0, z5), (99, 0), (99, 0), (99, 0), (99, 0), (99, 0), (99, 0), (99, 0), (99, 0)] [] M) (h : wp_X10_layMoved_55_b (vX X) x1 x2 x3 x4 x5 M Q B55) : AW X 55 [(20, 203), (0, x1), (0, x2), (0, x3), (0, x4), (0, x5), (99, 0), (99, 0), (99, 0), (99, 0), (99, 0), (99, 0), (99, 0), (99, 0)] [] M := by
  unfold wp_X10_layMoved_55_b at h
  refine am_iload (pc := 55) G dX10_layMoved_55 rfl ?_
  refine am_aload_n (i := 0) (t := 17) (pc := 57) G dX10_layMoved_57 rfl rfl rfl ?_
  refine gf_X10_11 (pc := 58) G dX10_layMoved_58 tw_f_RX10_160 ?_
  refine am_icmp_ge (pc := 61) G 93 dX10_layMoved_61 (by decide) (fun c => ?_) (fun c => ?_)
  · have h := h.1 c
    refine am_aload_n (i := 0) (t := 17) (pc := 93) G dX10_layMoved_93 rfl rfl rfl ?_
    refine am_iconst (pc := 94) G dX10_layMoved_94 (by decide) ?_
    refine pf_X10_24 (pc := 95) G dX10_layMoved_95 tw_f_RX10_196 ?_
    refine am_aload_n (i := 0) (t := 17) (pc := 98) G dX10_layMoved_98 rfl rfl rfl ?_
    refine am_iconst (pc := 99) G dX10_layMoved_99 (by decide) ?_
    have h := h _ rfl
    refine pf_X10_27 (pc := 100) G dX10_layMoved_100 tw_f_RX10_199 ?_
    refine am_iconst (pc := 103) G dX10_layMoved_103 (by decide) ?_
    refine am_istore (pc := 104) G dX10_layMoved_104 (nlx hn rfl) rfl ?_
    refine am_le (ls' := [(20, _), (0, _), (0, _), (0, _), (0, _), (0, _), (99, 0), (99, 0), (99, 0), (99, 0), (99, 0), (99, 0), (99, 0), (99, 0)]) ⟨Or.inr rfl, ⟨Or.inr rfl, ⟨Or.inr rfl, ⟨Or.inr rfl, ⟨Or.inr rfl, ⟨Or.inr rfl, ⟨Or.inl rfl, ⟨Or.inl rfl, ⟨Or.inl rfl, ⟨Or.inl rfl, ⟨Or.inl rfl, ⟨Or.inl rfl, ⟨Or.inl rfl, ⟨Or.inl rfl, trivial⟩⟩⟩⟩⟩⟩⟩⟩⟩⟩⟩⟩⟩⟩ ?_
    exact swp_X10_layMoved_106 G Z hn hr _ _ _ _ _ _ h
  · have h := h.2 c
    refine am_iload (pc := 64) G dX10_layMoved_64 rfl ?_
    refine am_aload_n (i := 0) (t := 17) (pc := 66) G dX10_layMoved_66 rfl rfl rfl ?_
    refine gf_X10_23 (pc := 67) G dX10_layMoved_67 tw_f_RX10_61 ?_
    refine am_iload (pc := 70) G dX10_layMoved_70 rfl ?_
    refine am_iald (pc := 72) G 16 dX10_layMoved_72 (by decide) h.1 ?_
    have h := h.2
    refine am_if_ge (pc := 73) G 83 dX10_layMoved_73 (by decide) (fun c => ?_) (fun c => ?_)
    · have h := h.1 c
      refine am_iconst (pc := 83) G dX10_layMoved_83 (by decide) ?_
      refine am_le (ls' := [(20, _), (0, _), (0, _), (0, _), (99, 0), (0, _), (99, 0), (99, 0), (99, 0), (99, 0), (99, 0), (99, 0), (99, 0), (99, 0)]) ⟨Or.inr rfl, ⟨Or.inr rfl, ⟨Or.inr rfl, ⟨Or.inr rfl, ⟨Or.inl rfl, ⟨Or.inr rfl, ⟨Or.inl rfl, ⟨Or.inl rfl, ⟨Or.inl rfl, ⟨Or.inl rfl, ⟨Or.inl rfl, ⟨Or.inl rfl, ⟨Or.inl rfl, ⟨Or.inl rfl, trivial⟩⟩⟩⟩⟩⟩⟩⟩⟩⟩⟩⟩⟩⟩ ?_
      exact swp_X10_layMoved_84 G Z hn hr _ _ _ _ _ _ _ B55 k55 h
    · have h := h.2 c
      refine am_iconst (pc := 76) G dX10_layMoved_76 (by decide) ?_
      refine am_iload (pc := 77) G dX10_layMoved_77 rfl ?_
      refine am_ishl (pc := 79) G dX10_layMoved_79 ?_
      refine am_goto (pc := 80) G 84 dX10_layMoved_80 (by decide) ?_
      refine am_le (ls' := [(20, _), (0, _), (0, _), (0, _), (99, 0), (0, _), (99, 0), (99, 0), (99, 0), (99, 0), (99, 0), (99, 0), (99, 0), (99, 0)]) ⟨Or.inr rfl, ⟨Or.inr rfl, ⟨Or.inr rfl, ⟨Or.inr rfl, ⟨Or.inl rfl, ⟨Or.inr rfl, ⟨Or.inl rfl, ⟨Or.inl rfl, ⟨Or.inl rfl, ⟨Or.inl rfl, ⟨Or.inl rfl, ⟨Or.inl rfl, ⟨Or.inl rfl, ⟨Or.inl rfl, trivial⟩⟩⟩⟩⟩⟩⟩⟩⟩⟩⟩⟩⟩⟩ ?_
      exact swp_X10_layMoved_84 G Z hn hr _ _ _ _ _ _ _ B55 k55 h
def wp_X10_layMoved_55 (V : VV) (x1 x2 x3 x4 x5 : Int) (M : Mem) (Q : Int → Mem → Prop) : Prop :=
  ∃ (I : Int → Int → Prop) (μ : Int → Int → Nat), I x4 x5 ∧ ∀ (y4 y5 : Int), I y4 y5 → wp_X10_layMoved_55_b V x1 x2 x3 y4 y5 M Q (fun z4 z5 => I z4 z5 ∧ μ z4 z5 < μ y4 y5)
theorem swp_X10_layMoved_55 {X : XX} {Q : Int → Mem → Prop} (G : GX X cX10_layMoved "TreeHandsModel") (Z : RX X 4 Q) (hn : nLX X = 14) (hr : roomX X = rm_X10_layMoved) (x1 x2 x3 x4 x5 : Int) (M : Mem) (h : wp_X10_layMoved_55 (vX X) x1 x2 x3 x4 x5 M Q) : AW X 55 [(20, 203), (0, x1), (0, x2), (0, x3), (0, x4), (0, x5), (99, 0), (99, 0), (99, 0), (99, 0), (99, 0), (99, 0), (99, 0), (99, 0)] [] M := by
  unfold wp_X10_layMoved_55 at h
  obtain ⟨I, μ, hI, hs⟩ := h
  have key : ∀ (n : Nat) (y4 y5 : Int), μ y4 y5 < n → I y4 y5 → AW X 55 [(20, 203), (0, x1), (0, x2), (0, x3), (0, y4), (0, y5), (99, 0), (99, 0), (99, 0), (99, 0), (99, 0), (99, 0), (99, 0), (99, 0)] [] M := by
    intro n
    induction n with
    | zero => intro y4 y5 hlt; exact absurd hlt (Nat.not_lt_zero _)
    | succ n ih =>
      intro y4 y5 hlt hI
      exact swp_X10_layMoved_55_b G Z hn hr x1 x2 x3 y4 y5 M (fun z4 z5 => I z4 z5 ∧ μ z4 z5 < μ y4 y5) (fun z4 z5 hz => ih z4 z5 (by omega) hz.1) (hs y4 y5 hI)
  exact key _ x4 x5 (Nat.lt_succ_self _) hI
def wp_X10_layMoved_44 (V : VV) (x1 x2 x4 x5 s0 s1 : Int) (M : Mem) (Q : Int → Mem → Prop) (B14 : Int → Int → Prop) : Prop :=
  ∀ v16 : Int, v16 = or32 s1 s0 →
  B14 v16 (w32 (x5 + 1))
theorem swp_X10_layMoved_44 {X : XX} {Q : Int → Mem → Prop} (G : GX X cX10_layMoved "TreeHandsModel") (Z : RX X 4 Q) (hn : nLX X = 14) (hr : roomX X = rm_X10_layMoved) (x1 x2 x4 x5 s0 s1 : Int) (M : Mem) (B14 : Int → Int → Prop) (k14 : ∀ (z3 z5 : Int), B14 z3 z5 → AW X 14 [(20, 203), (0, x1), (0, x2), (0, z3), (0, x4), (0, z5), (99, 0), (99, 0), (99, 0), (99, 0), (99, 0), (99, 0), (99, 0), (99, 0)] [] M) (h : wp_X10_layMoved_44 (vX X) x1 x2 x4 x5 s0 s1 M Q B14) : AW X 44 [(20, 203), (0, x1), (0, x2), (99, 0), (0, x4), (0, x5), (99, 0), (99, 0), (99, 0), (99, 0), (99, 0), (99, 0), (99, 0), (99, 0)] [(0, s0), (0, s1)] M := by
  unfold wp_X10_layMoved_44 at h
  refine am_ior (pc := 44) G dX10_layMoved_44 ?_
  have h := h _ rfl
  refine am_istore_n (pc := 45) G dX10_layMoved_45 rfl (nlx hn rfl) rfl ?_
  refine am_iinc (pc := 46) (ls := [(20, _), (0, _), (0, _), (0, _), (0, _), (0, _), (99, _), (99, _), (99, _), (99, _), (99, _), (99, _), (99, _), (99, _)]) G dX10_layMoved_46 rfl (nlx hn rfl) rfl ?_
  refine am_goto (pc := 49) (ls := [(20, _), (0, _), (0, _), (0, _), (0, _), (0, _), (99, _), (99, _), (99, _), (99, _), (99, _), (99, _), (99, _), (99, _)]) G 14 dX10_layMoved_49 (by decide) ?_
  refine am_le (ls' := [(20, _), (0, _), (0, _), (0, _), (0, _), (0, _), (99, 0), (99, 0), (99, 0), (99, 0), (99, 0), (99, 0), (99, 0), (99, 0)]) ⟨Or.inr rfl, ⟨Or.inr rfl, ⟨Or.inr rfl, ⟨Or.inr rfl, ⟨Or.inr rfl, ⟨Or.inr rfl, ⟨Or.inl rfl, ⟨Or.inl rfl, ⟨Or.inl rfl, ⟨Or.inl rfl, ⟨Or.inl rfl, ⟨Or.inl rfl, ⟨Or.inl rfl, ⟨Or.inl rfl, trivial⟩⟩⟩⟩⟩⟩⟩⟩⟩⟩⟩⟩⟩⟩ ?_
  exact k14 _ _ h
def wp_X10_layMoved_14_b (V : VV) (x1 x2 x3 x4 x5 : Int) (M : Mem) (Q : Int → Mem → Prop) (B14 : Int → Int → Prop) : Prop :=
  (M 203 10 ≤ x5 →
    wp_X10_layMoved_55 V x1 x2 x3 x4 0 M Q) ∧ (¬ (M 203 10 ≤ x5) →
    ((0 : Int) ≤ x5 ∧ x5 < (16 : Int)) ∧
    (M 220 x5 = 99 →
      wp_X10_layMoved_44 V x1 x2 x4 x5 (shl32 1 x5) x3 M Q B14) ∧ (¬ (M 220 x5 = 99) →
      wp_X10_layMoved_44 V x1 x2 x4 x5 0 x3 M Q B14))
theorem swp_X10_layMoved_14_b {X : XX} {Q : Int → Mem → Prop} (G : GX X cX10_layMoved "TreeHandsModel") (Z : RX X 4 Q) (hn : nLX X = 14) (hr : roomX X = rm_X10_layMoved) (x1 x2 x3 x4 x5 : Int) (M : Mem) (B14 : Int → Int → Prop) (k14 : ∀ (z3 z5 : Int), B14 z3 z5 → AW X 14 [(20, 203), (0, x1), (0, x2), (0, z3), (0, x4), (0, z5), (99, 0), (99, 0), (99, 0), (99, 0), (99, 0), (99, 0), (99, 0), (99, 0)] [] M) (h : wp_X10_layMoved_14_b (vX X) x1 x2 x3 x4 x5 M Q B14) : AW X 14 [(20, 203), (0, x1), (0, x2), (0, x3), (0, x4), (0, x5), (99, 0), (99, 0), (99, 0), (99, 0), (99, 0), (99, 0), (99, 0), (99, 0)] [] M := by
  unfold wp_X10_layMoved_14_b at h
  refine am_iload (pc := 14) G dX10_layMoved_14 rfl ?_
  refine am_aload_n (i := 0) (t := 17) (pc := 16) G dX10_layMoved_16 rfl rfl rfl ?_
  refine gf_X10_10 (pc := 17) G dX10_layMoved_17 tw_f_RX10_157 ?_
  refine am_icmp_ge (pc := 20) G 52 dX10_layMoved_20 (by decide) (fun c => ?_) (fun c => ?_)
  · have h := h.1 c
    refine am_iconst (pc := 52) G dX10_layMoved_52 (by decide) ?_
    refine am_istore (pc := 53) G dX10_layMoved_53 (nlx hn rfl) rfl ?_
    refine am_le (ls' := [(20, _), (0, _), (0, _), (0, _), (0, _), (0, _), (99, 0), (99, 0), (99, 0), (99, 0), (99, 0), (99, 0), (99, 0), (99, 0)]) ⟨Or.inr rfl, ⟨Or.inr rfl, ⟨Or.inr rfl, ⟨Or.inr rfl, ⟨Or.inr rfl, ⟨Or.inr rfl, ⟨Or.inl rfl, ⟨Or.inl rfl, ⟨Or.inl rfl, ⟨Or.inl rfl, ⟨Or.inl rfl, ⟨Or.inl rfl, ⟨Or.inl rfl, ⟨Or.inl rfl, trivial⟩⟩⟩⟩⟩⟩⟩⟩⟩⟩⟩⟩⟩⟩ ?_
    exact swp_X10_layMoved_55 G Z hn hr _ _ _ _ _ _ h
  · have h := h.2 c
    refine am_iload_n (i := 3) (pc := 23) G dX10_layMoved_23 rfl rfl ?_
    refine am_aload_n (i := 0) (t := 17) (pc := 24) G dX10_layMoved_24 rfl rfl rfl ?_
    refine gf_X10_22 (pc := 25) G dX10_layMoved_25 tw_f_RX10_58 ?_
    refine am_iload (pc := 28) G dX10_layMoved_28 rfl ?_
    refine am_iald (pc := 30) G 16 dX10_layMoved_30 (by decide) h.1 ?_
    have h := h.2
    refine am_bipush (pc := 31) G dX10_layMoved_31 (by decide) (by decide) ?_
    refine am_icmp_ne (pc := 33) G 43 dX10_layMoved_33 (by decide) (fun c => ?_) (fun c => ?_)
    · have h := h.2 c
      refine am_iconst (pc := 43) G dX10_layMoved_43 (by decide) ?_
      refine am_le (ls' := [(20, _), (0, _), (0, _), (99, 0), (0, _), (0, _), (99, 0), (99, 0), (99, 0), (99, 0), (99, 0), (99, 0), (99, 0), (99, 0)]) ⟨Or.inr rfl, ⟨Or.inr rfl, ⟨Or.inr rfl, ⟨Or.inl rfl, ⟨Or.inr rfl, ⟨Or.inr rfl, ⟨Or.inl rfl, ⟨Or.inl rfl, ⟨Or.inl rfl, ⟨Or.inl rfl, ⟨Or.inl rfl, ⟨Or.inl rfl, ⟨Or.inl rfl, ⟨Or.inl rfl, trivial⟩⟩⟩⟩⟩⟩⟩⟩⟩⟩⟩⟩⟩⟩ ?_
      exact swp_X10_layMoved_44 G Z hn hr _ _ _ _ _ _ _ B14 k14 h
    · have h := h.1 c
      refine am_iconst (pc := 36) G dX10_layMoved_36 (by decide) ?_
      refine am_iload (pc := 37) G dX10_layMoved_37 rfl ?_
      refine am_ishl (pc := 39) G dX10_layMoved_39 ?_
      refine am_goto (pc := 40) G 44 dX10_layMoved_40 (by decide) ?_
      refine am_le (ls' := [(20, _), (0, _), (0, _), (99, 0), (0, _), (0, _), (99, 0), (99, 0), (99, 0), (99, 0), (99, 0), (99, 0), (99, 0), (99, 0)]) ⟨Or.inr rfl, ⟨Or.inr rfl, ⟨Or.inr rfl, ⟨Or.inl rfl, ⟨Or.inr rfl, ⟨Or.inr rfl, ⟨Or.inl rfl, ⟨Or.inl rfl, ⟨Or.inl rfl, ⟨Or.inl rfl, ⟨Or.inl rfl, ⟨Or.inl rfl, ⟨Or.inl rfl, ⟨Or.inl rfl, trivial⟩⟩⟩⟩⟩⟩⟩⟩⟩⟩⟩⟩⟩⟩ ?_
      exact swp_X10_layMoved_44 G Z hn hr _ _ _ _ _ _ _ B14 k14 h
def wp_X10_layMoved_14 (V : VV) (x1 x2 x3 x4 x5 : Int) (M : Mem) (Q : Int → Mem → Prop) : Prop :=
  ∃ (I : Int → Int → Prop) (μ : Int → Int → Nat), I x3 x5 ∧ ∀ (y3 y5 : Int), I y3 y5 → wp_X10_layMoved_14_b V x1 x2 y3 x4 y5 M Q (fun z3 z5 => I z3 z5 ∧ μ z3 z5 < μ y3 y5)
theorem swp_X10_layMoved_14 {X : XX} {Q : Int → Mem → Prop} (G : GX X cX10_layMoved "TreeHandsModel") (Z : RX X 4 Q) (hn : nLX X = 14) (hr : roomX X = rm_X10_layMoved) (x1 x2 x3 x4 x5 : Int) (M : Mem) (h : wp_X10_layMoved_14 (vX X) x1 x2 x3 x4 x5 M Q) : AW X 14 [(20, 203), (0, x1), (0, x2), (0, x3), (0, x4), (0, x5), (99, 0), (99, 0), (99, 0), (99, 0), (99, 0), (99, 0), (99, 0), (99, 0)] [] M := by
  unfold wp_X10_layMoved_14 at h
  obtain ⟨I, μ, hI, hs⟩ := h
  have key : ∀ (n : Nat) (y3 y5 : Int), μ y3 y5 < n → I y3 y5 → AW X 14 [(20, 203), (0, x1), (0, x2), (0, y3), (0, x4), (0, y5), (99, 0), (99, 0), (99, 0), (99, 0), (99, 0), (99, 0), (99, 0), (99, 0)] [] M := by
    intro n
    induction n with
    | zero => intro y3 y5 hlt; exact absurd hlt (Nat.not_lt_zero _)
    | succ n ih =>
      intro y3 y5 hlt hI
      exact swp_X10_layMoved_14_b G Z hn hr x1 x2 y3 x4 y5 M (fun z3 z5 => I z3 z5 ∧ μ z3 z5 < μ y3 y5) (fun z3 z5 hz => ih z3 z5 (by omega) hz.1) (hs y3 y5 hI)
  exact key _ x3 x5 (Nat.lt_succ_self _) hI
def wp_X10_layMoved (V : VV) (x1 x2 : Int) (M : Mem) (Q : Int → Mem → Prop) : Prop :=
  R_X10_layLed V x1 x2 M (fun _ M2 =>
  wp_X10_layMoved_14 V x1 x2 0 0 0 M2 Q)
theorem of_X10_layMoved {V : VV} {x1 x2 : Int} {M : Mem} {Q : Int → Mem → Prop} (h : wp_X10_layMoved V x1 x2 M Q) : R_X10_layMoved V x1 x2 M Q := by
  refine met_in (own := "TreeHandsModel") (by decide +kernel) rfl rfl (Nat.le_of_ble_eq_true rfl) ?_
  intro X G Z hn hr hv
  subst hv
  unfold wp_X10_layMoved at h
  show AW X 0 [(20, 203), (0, x1), (0, x2), (99, 0), (99, 0), (99, 0), (99, 0), (99, 0), (99, 0), (99, 0), (99, 0), (99, 0), (99, 0), (99, 0)] [] M
  refine am_aload_n (i := 0) (t := 17) (pc := 0) G dX10_layMoved_0 rfl rfl rfl ?_
  refine am_iload_n (i := 1) (pc := 1) G dX10_layMoved_1 rfl rfl ?_
  refine am_iload_n (i := 2) (pc := 2) G dX10_layMoved_2 rfl rfl ?_
  refine am_callV (rk := 4) (rmc := rm_X10_layLed) (st := []) (pc := 3) G 10 [(0, _), (0, _)] rfl (by decide) rfl dX10_layMoved_3 tw_m_RX10_193 tw_i_X10_layLed tw_v_X10_layLed tw_z_RX10 tw_c_X10_layLed hy_X10_layLed (callrm hr rfl) rfl (RunsM.mono h (fun r1 M2 h => ?_)) Z.rm
  show AW X 6 _ [] M2
  refine am_iconst (pc := 6) G dX10_layMoved_6 (by decide) ?_
  refine am_istore_n (pc := 7) G dX10_layMoved_7 rfl (nlx hn rfl) rfl ?_
  refine am_iconst (pc := 8) (ls := [(20, _), (0, _), (0, _), (0, _), (99, _), (99, _), (99, _), (99, _), (99, _), (99, _), (99, _), (99, _), (99, _), (99, _)]) G dX10_layMoved_8 (by decide) ?_
  refine am_istore (pc := 9) G dX10_layMoved_9 (nlx hn rfl) rfl ?_
  refine am_iconst (pc := 11) (ls := [(20, _), (0, _), (0, _), (0, _), (0, _), (99, _), (99, _), (99, _), (99, _), (99, _), (99, _), (99, _), (99, _), (99, _)]) G dX10_layMoved_11 (by decide) ?_
  refine am_istore (pc := 12) G dX10_layMoved_12 (nlx hn rfl) rfl ?_
  refine am_le (ls' := [(20, _), (0, _), (0, _), (0, _), (0, _), (0, _), (99, 0), (99, 0), (99, 0), (99, 0), (99, 0), (99, 0), (99, 0), (99, 0)]) ⟨Or.inr rfl, ⟨Or.inr rfl, ⟨Or.inr rfl, ⟨Or.inr rfl, ⟨Or.inr rfl, ⟨Or.inr rfl, ⟨Or.inl rfl, ⟨Or.inl rfl, ⟨Or.inl rfl, ⟨Or.inl rfl, ⟨Or.inl rfl, ⟨Or.inl rfl, ⟨Or.inl rfl, ⟨Or.inl rfl, trivial⟩⟩⟩⟩⟩⟩⟩⟩⟩⟩⟩⟩⟩⟩ ?_
  exact swp_X10_layMoved_14 G Z hn hr _ _ _ _ _ _ h
-- X10_edits TreeHandsModel.edits(III)I
def rm_X10_edits : Room := { frames := 6, cells := 0, slots := 0, locals := 154 }
theorem hy_X10_edits : yX10_edits.cls ≠ "java/lang/invoke/MethodHandle" ∧ yX10_edits.cls ≠ "java/lang/invoke/VarHandle" ∧ (parseMethodDescriptor yX10_edits.desc).map (fun d => d.parameters.length) = some 3 := by decide +kernel
abbrev R_X10_edits (V : VV) (x1 x2 x3 : Int) (M : Mem) (Q : Int → Mem → Prop) : Prop := RunsM V yX10_edits (.code yX10_edits cX10_edits 7 (Option.some Jvm.ClassFile.FieldType.int)) rm_X10_edits 0 [(20, 203), (0, x1), (0, x2), (0, x3)] M Q
def wp_X10_edits_120 (V : VV) (x1 x2 x3 x4 x6 s0 s1 : Int) (M : Mem) (Q : Int → Mem → Prop) (B38 : Int → Int → Int → Prop) : Prop :=
  B38 x4 (w32 (s1 + s0)) (w32 (x6 + 1))
theorem swp_X10_edits_120 {X : XX} {Q : Int → Mem → Prop} (G : GX X cX10_edits "TreeHandsModel") (Z : RX X 0 Q) (hn : nLX X = 7) (hr : roomX X = rm_X10_edits) (x1 x2 x3 x4 x6 s0 s1 : Int) (M : Mem) (B38 : Int → Int → Int → Prop) (k38 : ∀ (z4 z5 z6 : Int), B38 z4 z5 z6 → AW X 38 [(20, 203), (0, x1), (0, x2), (0, x3), (0, z4), (0, z5), (0, z6)] [] M) (h : wp_X10_edits_120 (vX X) x1 x2 x3 x4 x6 s0 s1 M Q B38) : AW X 120 [(20, 203), (0, x1), (0, x2), (0, x3), (0, x4), (99, 0), (0, x6)] [(0, s0), (0, s1)] M := by
  unfold wp_X10_edits_120 at h
  refine am_iadd (pc := 120) G dX10_edits_120 ?_
  refine am_istore (pc := 121) G dX10_edits_121 (nlx hn rfl) rfl ?_
  refine am_iinc (pc := 123) (ls := [(20, _), (0, _), (0, _), (0, _), (0, _), (0, _), (0, _)]) G dX10_edits_123 rfl (nlx hn rfl) rfl ?_
  refine am_goto (pc := 126) (ls := [(20, _), (0, _), (0, _), (0, _), (0, _), (0, _), (0, _)]) G 38 dX10_edits_126 (by decide) ?_
  refine am_le (ls' := [(20, _), (0, _), (0, _), (0, _), (0, _), (0, _), (0, _)]) ⟨Or.inr rfl, ⟨Or.inr rfl, ⟨Or.inr rfl, ⟨Or.inr rfl, ⟨Or.inr rfl, ⟨Or.inr rfl, ⟨Or.inr rfl, trivial⟩⟩⟩⟩⟩⟩⟩ ?_
  exact k38 _ _ _ h
def wp_X10_edits_119 (V : VV) (x1 x2 x3 x4 x6 s0 : Int) (M : Mem) (Q : Int → Mem → Prop) (B38 : Int → Int → Int → Prop) : Prop :=
  wp_X10_edits_120 V x1 x2 x3 x4 x6 0 s0 M Q B38
theorem swp_X10_edits_119 {X : XX} {Q : Int → Mem → Prop} (G : GX X cX10_edits "TreeHandsModel") (Z : RX X 0 Q) (hn : nLX X = 7) (hr : roomX X = rm_X10_edits) (x1 x2 x3 x4 x6 s0 : Int) (M : Mem) (B38 : Int → Int → Int → Prop) (k38 : ∀ (z4 z5 z6 : Int), B38 z4 z5 z6 → AW X 38 [(20, 203), (0, x1), (0, x2), (0, x3), (0, z4), (0, z5), (0, z6)] [] M) (h : wp_X10_edits_119 (vX X) x1 x2 x3 x4 x6 s0 M Q B38) : AW X 119 [(20, 203), (0, x1), (0, x2), (0, x3), (0, x4), (99, 0), (0, x6)] [(0, s0)] M := by
  unfold wp_X10_edits_119 at h
  refine am_iconst (pc := 119) G dX10_edits_119 (by decide) ?_
  refine am_le (ls' := [(20, _), (0, _), (0, _), (0, _), (0, _), (99, 0), (0, _)]) ⟨Or.inr rfl, ⟨Or.inr rfl, ⟨Or.inr rfl, ⟨Or.inr rfl, ⟨Or.inr rfl, ⟨Or.inl rfl, ⟨Or.inr rfl, trivial⟩⟩⟩⟩⟩⟩⟩ ?_
  exact swp_X10_edits_120 G Z hn hr _ _ _ _ _ _ _ _ B38 k38 h
def wp_X10_edits_66 (V : VV) (x1 x2 x3 x5 x6 s0 s1 : Int) (M : Mem) (Q : Int → Mem → Prop) (B38 : Int → Int → Int → Prop) : Prop :=
  ((0 : Int) ≤ x6 ∧ x6 < (16 : Int)) ∧
  (99 ≤ M 220 x6 →
    wp_X10_edits_119 V x1 x2 x3 (w32 (s1 + s0)) x6 x5 M Q B38) ∧ (¬ (99 ≤ M 220 x6) →
    ((0 : Int) ≤ w32 (w32 (32 * x1) + x6) ∧ w32 (w32 (32 * x1) + x6) < (672 : Int)) ∧
    ((0 : Int) ≤ x6 ∧ x6 < (16 : Int)) ∧
    ((0 : Int) ≤ w32 (w32 (32 * x2) + M 220 x6) ∧ w32 (w32 (32 * x2) + M 220 x6) < (672 : Int)) ∧
    (M 205 (w32 (w32 (32 * x1) + x6)) = M 205 (w32 (w32 (32 * x2) + M 220 x6)) →
      wp_X10_edits_119 V x1 x2 x3 (w32 (s1 + s0)) x6 x5 M Q B38) ∧ (¬ (M 205 (w32 (w32 (32 * x1) + x6)) = M 205 (w32 (w32 (32 * x2) + M 220 x6))) →
      wp_X10_edits_120 V x1 x2 x3 (w32 (s1 + s0)) x6 1 x5 M Q B38))
theorem swp_X10_edits_66 {X : XX} {Q : Int → Mem → Prop} (G : GX X cX10_edits "TreeHandsModel") (Z : RX X 0 Q) (hn : nLX X = 7) (hr : roomX X = rm_X10_edits) (x1 x2 x3 x5 x6 s0 s1 : Int) (M : Mem) (B38 : Int → Int → Int → Prop) (k38 : ∀ (z4 z5 z6 : Int), B38 z4 z5 z6 → AW X 38 [(20, 203), (0, x1), (0, x2), (0, x3), (0, z4), (0, z5), (0, z6)] [] M) (h : wp_X10_edits_66 (vX X) x1 x2 x3 x5 x6 s0 s1 M Q B38) : AW X 66 [(20, 203), (0, x1), (0, x2), (0, x3), (99, 0), (0, x5), (0, x6)] [(0, s0), (0, s1)] M := by
  unfold wp_X10_edits_66 at h
  refine am_iadd (pc := 66) G dX10_edits_66 ?_
  refine am_istore (pc := 67) G dX10_edits_67 (nlx hn rfl) rfl ?_
  refine am_iload (pc := 69) (ls := [(20, _), (0, _), (0, _), (0, _), (0, _), (0, _), (0, _)]) G dX10_edits_69 rfl ?_
  refine am_aload_n (i := 0) (t := 17) (pc := 71) G dX10_edits_71 rfl rfl rfl ?_
  refine gf_X10_22 (pc := 72) G dX10_edits_72 tw_f_RX10_58 ?_
  refine am_iload (pc := 75) G dX10_edits_75 rfl ?_
  refine am_iald (pc := 77) G 16 dX10_edits_77 (by decide) h.1 ?_
  have h := h.2
  refine am_bipush (pc := 78) G dX10_edits_78 (by decide) (by decide) ?_
  refine am_icmp_ge (pc := 80) G 119 dX10_edits_80 (by decide) (fun c => ?_) (fun c => ?_)
  · have h := h.1 c
    refine am_le (ls' := [(20, _), (0, _), (0, _), (0, _), (0, _), (99, 0), (0, _)]) ⟨Or.inr rfl, ⟨Or.inr rfl, ⟨Or.inr rfl, ⟨Or.inr rfl, ⟨Or.inr rfl, ⟨Or.inl rfl, ⟨Or.inr rfl, trivial⟩⟩⟩⟩⟩⟩⟩ ?_
    exact swp_X10_edits_119 G Z hn hr _ _ _ _ _ _ _ B38 k38 h
  · have h := h.2 c
    refine am_aload_n (i := 0) (t := 17) (pc := 83) G dX10_edits_83 rfl rfl rfl ?_
    refine gf_X10_1 (pc := 84) G dX10_edits_84 tw_f_RX10_13 ?_
    refine am_bipush (pc := 87) G dX10_edits_87 (by decide) (by decide) ?_
    refine am_iload_n (i := 1) (pc := 89) G dX10_edits_89 rfl rfl ?_
    refine am_imul (pc := 90) G dX10_edits_90 ?_
    refine am_iload (pc := 91) G dX10_edits_91 rfl ?_
    refine am_iadd (pc := 93) G dX10_edits_93 ?_
    refine am_iald (pc := 94) G 672 dX10_edits_94 (by decide) h.1 ?_
    have h := h.2
    refine am_aload_n (i := 0) (t := 17) (pc := 95) G dX10_edits_95 rfl rfl rfl ?_
    refine gf_X10_1 (pc := 96) G dX10_edits_96 tw_f_RX10_13 ?_
    refine am_bipush (pc := 99) G dX10_edits_99 (by decide) (by decide) ?_
    refine am_iload_n (i := 2) (pc := 101) G dX10_edits_101 rfl rfl ?_
    refine am_imul (pc := 102) G dX10_edits_102 ?_
    refine am_aload_n (i := 0) (t := 17) (pc := 103) G dX10_edits_103 rfl rfl rfl ?_
    refine gf_X10_22 (pc := 104) G dX10_edits_104 tw_f_RX10_58 ?_
    refine am_iload (pc := 107) G dX10_edits_107 rfl ?_
    refine am_iald (pc := 109) G 16 dX10_edits_109 (by decide) h.1 ?_
    have h := h.2
    refine am_iadd (pc := 110) G dX10_edits_110 ?_
    refine am_iald (pc := 111) G 672 dX10_edits_111 (by decide) h.1 ?_
    have h := h.2
    refine am_icmp_eq (pc := 112) G 119 dX10_edits_112 (by decide) (fun c => ?_) (fun c => ?_)
    · have h := h.1 c
      refine am_le (ls' := [(20, _), (0, _), (0, _), (0, _), (0, _), (99, 0), (0, _)]) ⟨Or.inr rfl, ⟨Or.inr rfl, ⟨Or.inr rfl, ⟨Or.inr rfl, ⟨Or.inr rfl, ⟨Or.inl rfl, ⟨Or.inr rfl, trivial⟩⟩⟩⟩⟩⟩⟩ ?_
      exact swp_X10_edits_119 G Z hn hr _ _ _ _ _ _ _ B38 k38 h
    · have h := h.2 c
      refine am_iconst (pc := 115) G dX10_edits_115 (by decide) ?_
      refine am_goto (pc := 116) G 120 dX10_edits_116 (by decide) ?_
      refine am_le (ls' := [(20, _), (0, _), (0, _), (0, _), (0, _), (99, 0), (0, _)]) ⟨Or.inr rfl, ⟨Or.inr rfl, ⟨Or.inr rfl, ⟨Or.inr rfl, ⟨Or.inr rfl, ⟨Or.inl rfl, ⟨Or.inr rfl, trivial⟩⟩⟩⟩⟩⟩⟩ ?_
      exact swp_X10_edits_120 G Z hn hr _ _ _ _ _ _ _ _ B38 k38 h
def wp_X10_edits_38_b (V : VV) (x1 x2 x3 x4 x5 x6 : Int) (M : Mem) (Q : Int → Mem → Prop) (B38 : Int → Int → Int → Prop) : Prop :=
  (M 203 10 ≤ x6 →
    (x3 = 0 →
      Q x4 M) ∧ (¬ (x3 = 0) →
      (x3 = 1 →
        Q x5 M) ∧ (¬ (x3 = 1) →
        (x3 = 2 →
          Q (w32 (M 203 10 - x4)) M) ∧ (¬ (x3 = 2) →
          (x3 = 3 →
            Q (w32 (M 203 11 - x4)) M) ∧ (¬ (x3 = 3) →
            (x3 = 4 →
              Q (M 203 24) M) ∧ (¬ (x3 = 4) →
              Q (M 203 27) M)))))) ∧ (¬ (M 203 10 ≤ x6) →
    ((0 : Int) ≤ x6 ∧ x6 < (16 : Int)) ∧
    (99 ≤ M 220 x6 →
      wp_X10_edits_66 V x1 x2 x3 x5 x6 0 x4 M Q B38) ∧ (¬ (99 ≤ M 220 x6) →
      wp_X10_edits_66 V x1 x2 x3 x5 x6 1 x4 M Q B38))
theorem swp_X10_edits_38_b {X : XX} {Q : Int → Mem → Prop} (G : GX X cX10_edits "TreeHandsModel") (Z : RX X 0 Q) (hn : nLX X = 7) (hr : roomX X = rm_X10_edits) (x1 x2 x3 x4 x5 x6 : Int) (M : Mem) (B38 : Int → Int → Int → Prop) (k38 : ∀ (z4 z5 z6 : Int), B38 z4 z5 z6 → AW X 38 [(20, 203), (0, x1), (0, x2), (0, x3), (0, z4), (0, z5), (0, z6)] [] M) (h : wp_X10_edits_38_b (vX X) x1 x2 x3 x4 x5 x6 M Q B38) : AW X 38 [(20, 203), (0, x1), (0, x2), (0, x3), (0, x4), (0, x5), (0, x6)] [] M := by
  unfold wp_X10_edits_38_b at h
  refine am_iload (pc := 38) G dX10_edits_38 rfl ?_
  refine am_aload_n (i := 0) (t := 17) (pc := 40) G dX10_edits_40 rfl rfl rfl ?_
  refine gf_X10_10 (pc := 41) G dX10_edits_41 tw_f_RX10_157 ?_
  refine am_icmp_ge (pc := 44) G 129 dX10_edits_44 (by decide) (fun c => ?_) (fun c => ?_)
  · have h := h.1 c
    refine am_iload_n (i := 3) (pc := 129) G dX10_edits_129 rfl rfl ?_
    refine am_if_ne (pc := 130) G 138 dX10_edits_130 (by decide) (fun c => ?_) (fun c => ?_)
    · have h := h.2 c
      refine am_iload_n (i := 3) (pc := 138) G dX10_edits_138 rfl rfl ?_
      refine am_iconst (pc := 139) G dX10_edits_139 (by decide) ?_
      refine am_icmp_ne (pc := 140) G 148 dX10_edits_140 (by decide) (fun c => ?_) (fun c => ?_)
      · have h := h.2 c
        refine am_iload_n (i := 3) (pc := 148) G dX10_edits_148 rfl rfl ?_
        refine am_iconst (pc := 149) G dX10_edits_149 (by decide) ?_
        refine am_icmp_ne (pc := 150) G 163 dX10_edits_150 (by decide) (fun c => ?_) (fun c => ?_)
        · have h := h.2 c
          refine am_iload_n (i := 3) (pc := 163) G dX10_edits_163 rfl rfl ?_
          refine am_iconst (pc := 164) G dX10_edits_164 (by decide) ?_
          refine am_icmp_ne (pc := 165) G 178 dX10_edits_165 (by decide) (fun c => ?_) (fun c => ?_)
          · have h := h.2 c
            refine am_iload_n (i := 3) (pc := 178) G dX10_edits_178 rfl rfl ?_
            refine am_iconst (pc := 179) G dX10_edits_179 (by decide) ?_
            refine am_icmp_ne (pc := 180) G 190 dX10_edits_180 (by decide) (fun c => ?_) (fun c => ?_)
            · have h := h.2 c
              refine am_aload_n (i := 0) (t := 17) (pc := 190) G dX10_edits_190 rfl rfl rfl ?_
              refine gf_X10_27 (pc := 191) G dX10_edits_191 tw_f_RX10_199 ?_
              exact am_iret (pc := 194) G Z dX10_edits_194 h
            · have h := h.1 c
              refine am_aload_n (i := 0) (t := 17) (pc := 183) G dX10_edits_183 rfl rfl rfl ?_
              refine gf_X10_24 (pc := 184) G dX10_edits_184 tw_f_RX10_196 ?_
              refine am_goto (pc := 187) G 194 dX10_edits_187 (by decide) ?_
              exact am_iret (pc := 194) G Z dX10_edits_194 h
          · have h := h.1 c
            refine am_aload_n (i := 0) (t := 17) (pc := 168) G dX10_edits_168 rfl rfl rfl ?_
            refine gf_X10_11 (pc := 169) G dX10_edits_169 tw_f_RX10_160 ?_
            refine am_iload (pc := 172) G dX10_edits_172 rfl ?_
            refine am_isub (pc := 174) G dX10_edits_174 ?_
            refine am_goto (pc := 175) G 194 dX10_edits_175 (by decide) ?_
            exact am_iret (pc := 194) G Z dX10_edits_194 h
        · have h := h.1 c
          refine am_aload_n (i := 0) (t := 17) (pc := 153) G dX10_edits_153 rfl rfl rfl ?_
          refine gf_X10_10 (pc := 154) G dX10_edits_154 tw_f_RX10_157 ?_
          refine am_iload (pc := 157) G dX10_edits_157 rfl ?_
          refine am_isub (pc := 159) G dX10_edits_159 ?_
          refine am_goto (pc := 160) G 194 dX10_edits_160 (by decide) ?_
          exact am_iret (pc := 194) G Z dX10_edits_194 h
      · have h := h.1 c
        refine am_iload (pc := 143) G dX10_edits_143 rfl ?_
        refine am_goto (pc := 145) G 194 dX10_edits_145 (by decide) ?_
        exact am_iret (pc := 194) G Z dX10_edits_194 h
    · have h := h.1 c
      refine am_iload (pc := 133) G dX10_edits_133 rfl ?_
      refine am_goto (pc := 135) G 194 dX10_edits_135 (by decide) ?_
      exact am_iret (pc := 194) G Z dX10_edits_194 h
  · have h := h.2 c
    refine am_iload (pc := 47) G dX10_edits_47 rfl ?_
    refine am_aload_n (i := 0) (t := 17) (pc := 49) G dX10_edits_49 rfl rfl rfl ?_
    refine gf_X10_22 (pc := 50) G dX10_edits_50 tw_f_RX10_58 ?_
    refine am_iload (pc := 53) G dX10_edits_53 rfl ?_
    refine am_iald (pc := 55) G 16 dX10_edits_55 (by decide) h.1 ?_
    have h := h.2
    refine am_bipush (pc := 56) G dX10_edits_56 (by decide) (by decide) ?_
    refine am_icmp_ge (pc := 58) G 65 dX10_edits_58 (by decide) (fun c => ?_) (fun c => ?_)
    · have h := h.1 c
      refine am_iconst (pc := 65) G dX10_edits_65 (by decide) ?_
      refine am_le (ls' := [(20, _), (0, _), (0, _), (0, _), (99, 0), (0, _), (0, _)]) ⟨Or.inr rfl, ⟨Or.inr rfl, ⟨Or.inr rfl, ⟨Or.inr rfl, ⟨Or.inl rfl, ⟨Or.inr rfl, ⟨Or.inr rfl, trivial⟩⟩⟩⟩⟩⟩⟩ ?_
      exact swp_X10_edits_66 G Z hn hr _ _ _ _ _ _ _ _ B38 k38 h
    · have h := h.2 c
      refine am_iconst (pc := 61) G dX10_edits_61 (by decide) ?_
      refine am_goto (pc := 62) G 66 dX10_edits_62 (by decide) ?_
      refine am_le (ls' := [(20, _), (0, _), (0, _), (0, _), (99, 0), (0, _), (0, _)]) ⟨Or.inr rfl, ⟨Or.inr rfl, ⟨Or.inr rfl, ⟨Or.inr rfl, ⟨Or.inl rfl, ⟨Or.inr rfl, ⟨Or.inr rfl, trivial⟩⟩⟩⟩⟩⟩⟩ ?_
      exact swp_X10_edits_66 G Z hn hr _ _ _ _ _ _ _ _ B38 k38 h
def wp_X10_edits_38 (V : VV) (x1 x2 x3 x4 x5 x6 : Int) (M : Mem) (Q : Int → Mem → Prop) : Prop :=
  ∃ (I : Int → Int → Int → Prop) (μ : Int → Int → Int → Nat), I x4 x5 x6 ∧ ∀ (y4 y5 y6 : Int), I y4 y5 y6 → wp_X10_edits_38_b V x1 x2 x3 y4 y5 y6 M Q (fun z4 z5 z6 => I z4 z5 z6 ∧ μ z4 z5 z6 < μ y4 y5 y6)
theorem swp_X10_edits_38 {X : XX} {Q : Int → Mem → Prop} (G : GX X cX10_edits "TreeHandsModel") (Z : RX X 0 Q) (hn : nLX X = 7) (hr : roomX X = rm_X10_edits) (x1 x2 x3 x4 x5 x6 : Int) (M : Mem) (h : wp_X10_edits_38 (vX X) x1 x2 x3 x4 x5 x6 M Q) : AW X 38 [(20, 203), (0, x1), (0, x2), (0, x3), (0, x4), (0, x5), (0, x6)] [] M := by
  unfold wp_X10_edits_38 at h
  obtain ⟨I, μ, hI, hs⟩ := h
  have key : ∀ (n : Nat) (y4 y5 y6 : Int), μ y4 y5 y6 < n → I y4 y5 y6 → AW X 38 [(20, 203), (0, x1), (0, x2), (0, x3), (0, y4), (0, y5), (0, y6)] [] M := by
    intro n
    induction n with
    | zero => intro y4 y5 y6 hlt; exact absurd hlt (Nat.not_lt_zero _)
    | succ n ih =>
      intro y4 y5 y6 hlt hI
      exact swp_X10_edits_38_b G Z hn hr x1 x2 x3 y4 y5 y6 M (fun z4 z5 z6 => I z4 z5 z6 ∧ μ z4 z5 z6 < μ y4 y5 y6) (fun z4 z5 z6 hz => ih z4 z5 z6 (by omega) hz.1) (hs y4 y5 y6 hI)
  exact key _ x4 x5 x6 (Nat.lt_succ_self _) hI
def wp_X10_edits (V : VV) (x1 x2 x3 : Int) (M : Mem) (Q : Int → Mem → Prop) : Prop :=
  R_X10_areBoth V x1 x2 M (fun r1 M2 =>
  (r1 = 0 →
    Q (-1) M2) ∧ (¬ (r1 = 0) →
    R_X10_in V x3 0 5 M2 (fun r3 M4 =>
    (r3 = 0 →
      Q (-2) M4) ∧ (¬ (r3 = 0) →
      R_X10_layMoved V x1 x2 M4 (fun _ M6 =>
      wp_X10_edits_38 V x1 x2 x3 0 0 0 M6 Q)))))
theorem of_X10_edits {V : VV} {x1 x2 x3 : Int} {M : Mem} {Q : Int → Mem → Prop} (h : wp_X10_edits V x1 x2 x3 M Q) : R_X10_edits V x1 x2 x3 M Q := by
  refine met_in (own := "TreeHandsModel") (by decide +kernel) rfl rfl (Nat.le_of_ble_eq_true rfl) ?_
  intro X G Z hn hr hv
  subst hv
  unfold wp_X10_edits at h
  show AW X 0 [(20, 203), (0, x1), (0, x2), (0, x3), (99, 0), (99, 0), (99, 0)] [] M
  refine am_aload_n (i := 0) (t := 17) (pc := 0) G dX10_edits_0 rfl rfl rfl ?_
  refine am_iload_n (i := 1) (pc := 1) G dX10_edits_1 rfl rfl ?_
  refine am_iload_n (i := 2) (pc := 2) G dX10_edits_2 rfl rfl ?_
  refine am_callV (rk := 1) (rmc := rm_X10_areBoth) (st := []) (pc := 3) G 10 [(0, _), (0, _)] rfl (by decide) rfl dX10_edits_3 tw_m_RX10_179 tw_i_X10_areBoth tw_v_X10_areBoth tw_z_RX10 tw_c_X10_areBoth hy_X10_areBoth (callrm hr rfl) rfl (RunsM.mono h (fun r1 M2 h => ?_)) Z.rm
  show AW X 6 _ [(0, _)] M2
  refine am_if_ne (pc := 6) G 11 dX10_edits_6 (by decide) (fun c => ?_) (fun c => ?_)
  · have h := h.2 c
    refine am_iload_n (i := 3) (pc := 11) G dX10_edits_11 rfl rfl ?_
    refine am_iconst (pc := 12) G dX10_edits_12 (by decide) ?_
    refine am_iconst (pc := 13) G dX10_edits_13 (by decide) ?_
    refine am_callS (rk := 1) (rmc := rm_X10_in) (st := []) (pc := 14) G [(0, _), (0, _), (0, _)] dX10_edits_14 tw_m_RX10_110 tw_s_X10_in tw_z_RX10 tw_c_X10_in hy_X10_in (callrm hr rfl) rfl (RunsM.mono h (fun r3 M4 h => ?_)) Z.rm
    show AW X 17 _ [(0, _)] M4
    refine am_if_ne (pc := 17) G 23 dX10_edits_17 (by decide) (fun c => ?_) (fun c => ?_)
    · have h := h.2 c
      refine am_aload_n (i := 0) (t := 17) (pc := 23) G dX10_edits_23 rfl rfl rfl ?_
      refine am_iload_n (i := 1) (pc := 24) G dX10_edits_24 rfl rfl ?_
      refine am_iload_n (i := 2) (pc := 25) G dX10_edits_25 rfl rfl ?_
      refine am_callV (rk := 4) (rmc := rm_X10_layMoved) (st := []) (pc := 26) G 10 [(0, _), (0, _)] rfl (by decide) rfl dX10_edits_26 tw_m_RX10_202 tw_i_X10_layMoved tw_v_X10_layMoved tw_z_RX10 tw_c_X10_layMoved hy_X10_layMoved (callrm hr rfl) rfl (RunsM.mono h (fun r5 M6 h => ?_)) Z.rm
      show AW X 29 _ [] M6
      refine am_iconst (pc := 29) G dX10_edits_29 (by decide) ?_
      refine am_istore (pc := 30) G dX10_edits_30 (nlx hn rfl) rfl ?_
      refine am_iconst (pc := 32) (ls := [(20, _), (0, _), (0, _), (0, _), (0, _), (99, _), (99, _)]) G dX10_edits_32 (by decide) ?_
      refine am_istore (pc := 33) G dX10_edits_33 (nlx hn rfl) rfl ?_
      refine am_iconst (pc := 35) (ls := [(20, _), (0, _), (0, _), (0, _), (0, _), (0, _), (99, _)]) G dX10_edits_35 (by decide) ?_
      refine am_istore (pc := 36) G dX10_edits_36 (nlx hn rfl) rfl ?_
      refine am_le (ls' := [(20, _), (0, _), (0, _), (0, _), (0, _), (0, _), (0, _)]) ⟨Or.inr rfl, ⟨Or.inr rfl, ⟨Or.inr rfl, ⟨Or.inr rfl, ⟨Or.inr rfl, ⟨Or.inr rfl, ⟨Or.inr rfl, trivial⟩⟩⟩⟩⟩⟩⟩ ?_
      exact swp_X10_edits_38 G Z hn hr _ _ _ _ _ _ _ h
    · have h := h.1 c
      refine am_bipush (pc := 20) G dX10_edits_20 (by decide) (by decide) ?_
      exact am_iret (pc := 22) G Z dX10_edits_22 h
  · have h := h.1 c
    refine am_iconst (pc := 9) G dX10_edits_9 (by decide) ?_
    exact am_iret (pc := 10) G Z dX10_edits_10 h
-- X10_moved TreeHandsModel.moved(III)I
def rm_X10_moved : Room := { frames := 6, cells := 0, slots := 0, locals := 154 }
theorem hy_X10_moved : yX10_moved.cls ≠ "java/lang/invoke/MethodHandle" ∧ yX10_moved.cls ≠ "java/lang/invoke/VarHandle" ∧ (parseMethodDescriptor yX10_moved.desc).map (fun d => d.parameters.length) = some 3 := by decide +kernel
abbrev R_X10_moved (V : VV) (x1 x2 x3 : Int) (M : Mem) (Q : Int → Mem → Prop) : Prop := RunsM V yX10_moved (.code yX10_moved cX10_moved 4 (Option.some Jvm.ClassFile.FieldType.int)) rm_X10_moved 0 [(20, 203), (0, x1), (0, x2), (0, x3)] M Q
def wp_X10_moved (V : VV) (x1 x2 x3 : Int) (M : Mem) (Q : Int → Mem → Prop) : Prop :=
  R_X10_areBoth V x1 x2 M (fun r1 M2 =>
  (r1 = 0 →
    Q (-1) M2) ∧ (¬ (r1 = 0) →
    R_X10_layMoved V x1 x2 M2 (fun _ M4 =>
    R_X10_in V x3 0 (w32 (M4 203 24 - 1)) M4 (fun r5 M6 =>
    (r5 = 0 →
      Q (-6) M6) ∧ (¬ (r5 = 0) →
      ((0 : Int) ≤ x3 ∧ x3 < (16 : Int)) ∧
      ((0 : Int) ≤ x3 ∧ x3 < (16 : Int)) ∧
      Q (w32 (w32 (100 * M6 222 x3) + M6 223 x3)) M6)))))
theorem of_X10_moved {V : VV} {x1 x2 x3 : Int} {M : Mem} {Q : Int → Mem → Prop} (h : wp_X10_moved V x1 x2 x3 M Q) : R_X10_moved V x1 x2 x3 M Q := by
  refine met_in (own := "TreeHandsModel") (by decide +kernel) rfl rfl (Nat.le_of_ble_eq_true rfl) ?_
  intro X G Z hn hr hv
  subst hv
  unfold wp_X10_moved at h
  show AW X 0 [(20, 203), (0, x1), (0, x2), (0, x3)] [] M
  refine am_aload_n (i := 0) (t := 17) (pc := 0) G dX10_moved_0 rfl rfl rfl ?_
  refine am_iload_n (i := 1) (pc := 1) G dX10_moved_1 rfl rfl ?_
  refine am_iload_n (i := 2) (pc := 2) G dX10_moved_2 rfl rfl ?_
  refine am_callV (rk := 1) (rmc := rm_X10_areBoth) (st := []) (pc := 3) G 10 [(0, _), (0, _)] rfl (by decide) rfl dX10_moved_3 tw_m_RX10_179 tw_i_X10_areBoth tw_v_X10_areBoth tw_z_RX10 tw_c_X10_areBoth hy_X10_areBoth (callrm hr rfl) rfl (RunsM.mono h (fun r1 M2 h => ?_)) Z.rm
  show AW X 6 _ [(0, _)] M2
  refine am_if_ne (pc := 6) G 11 dX10_moved_6 (by decide) (fun c => ?_) (fun c => ?_)
  · have h := h.2 c
    refine am_aload_n (i := 0) (t := 17) (pc := 11) G dX10_moved_11 rfl rfl rfl ?_
    refine am_iload_n (i := 1) (pc := 12) G dX10_moved_12 rfl rfl ?_
    refine am_iload_n (i := 2) (pc := 13) G dX10_moved_13 rfl rfl ?_
    refine am_callV (rk := 4) (rmc := rm_X10_layMoved) (st := []) (pc := 14) G 10 [(0, _), (0, _)] rfl (by decide) rfl dX10_moved_14 tw_m_RX10_202 tw_i_X10_layMoved tw_v_X10_layMoved tw_z_RX10 tw_c_X10_layMoved hy_X10_layMoved (callrm hr rfl) rfl (RunsM.mono h (fun r3 M4 h => ?_)) Z.rm
    show AW X 17 _ [] M4
    refine am_iload_n (i := 3) (pc := 17) G dX10_moved_17 rfl rfl ?_
    refine am_iconst (pc := 18) G dX10_moved_18 (by decide) ?_
    refine am_aload_n (i := 0) (t := 17) (pc := 19) G dX10_moved_19 rfl rfl rfl ?_
    refine gf_X10_24 (pc := 20) G dX10_moved_20 tw_f_RX10_196 ?_
    refine am_iconst (pc := 23) G dX10_moved_23 (by decide) ?_
    refine am_isub (pc := 24) G dX10_moved_24 ?_
    refine am_callS (rk := 1) (rmc := rm_X10_in) (st := []) (pc := 25) G [(0, _), (0, _), (0, _)] dX10_moved_25 tw_m_RX10_110 tw_s_X10_in tw_z_RX10 tw_c_X10_in hy_X10_in (callrm hr rfl) rfl (RunsM.mono h (fun r5 M6 h => ?_)) Z.rm
    show AW X 28 _ [(0, _)] M6
    refine am_if_eq (pc := 28) G 50 dX10_moved_28 (by decide) (fun c => ?_) (fun c => ?_)
    · have h := h.1 c
      refine am_bipush (pc := 50) G dX10_moved_50 (by decide) (by decide) ?_
      exact am_iret (pc := 52) G Z dX10_moved_52 h
    · have h := h.2 c
      refine am_bipush (pc := 31) G dX10_moved_31 (by decide) (by decide) ?_
      refine am_aload_n (i := 0) (t := 17) (pc := 33) G dX10_moved_33 rfl rfl rfl ?_
      refine gf_X10_25 (pc := 34) G dX10_moved_34 tw_f_RX10_64 ?_
      refine am_iload_n (i := 3) (pc := 37) G dX10_moved_37 rfl rfl ?_
      refine am_iald (pc := 38) G 16 dX10_moved_38 (by decide) h.1 ?_
      have h := h.2
      refine am_imul (pc := 39) G dX10_moved_39 ?_
      refine am_aload_n (i := 0) (t := 17) (pc := 40) G dX10_moved_40 rfl rfl rfl ?_
      refine gf_X10_26 (pc := 41) G dX10_moved_41 tw_f_RX10_67 ?_
      refine am_iload_n (i := 3) (pc := 44) G dX10_moved_44 rfl rfl ?_
      refine am_iald (pc := 45) G 16 dX10_moved_45 (by decide) h.1 ?_
      have h := h.2
      refine am_iadd (pc := 46) G dX10_moved_46 ?_
      refine am_goto (pc := 47) G 52 dX10_moved_47 (by decide) ?_
      exact am_iret (pc := 52) G Z dX10_moved_52 h
  · have h := h.1 c
    refine am_iconst (pc := 9) G dX10_moved_9 (by decide) ?_
    exact am_iret (pc := 10) G Z dX10_moved_10 h
-- X10_isPlain TreeHandsModel.isPlain(I)Z
def rm_X10_isPlain : Room := { frames := 2, cells := 0, slots := 0, locals := 42 }
theorem hy_X10_isPlain : yX10_isPlain.cls ≠ "java/lang/invoke/MethodHandle" ∧ yX10_isPlain.cls ≠ "java/lang/invoke/VarHandle" ∧ (parseMethodDescriptor yX10_isPlain.desc).map (fun d => d.parameters.length) = some 1 := by decide +kernel
abbrev R_X10_isPlain (V : VV) (x1 : Int) (M : Mem) (Q : Int → Mem → Prop) : Prop := RunsM V yX10_isPlain (.code yX10_isPlain cX10_isPlain 4 (Option.some Jvm.ClassFile.FieldType.boolean)) rm_X10_isPlain 1 [(20, 203), (0, x1)] M Q
def wp_X10_isPlain_39 (V : VV) (x1 x3 : Int) (M : Mem) (Q : Int → Mem → Prop) (B4 : Int → Int → Mem → Prop) : Prop :=
  B4 0 (w32 (x3 + 1)) M
theorem swp_X10_isPlain_39 {X : XX} {Q : Int → Mem → Prop} (G : GX X cX10_isPlain "TreeHandsModel") (Z : RX X 1 Q) (hn : nLX X = 4) (hr : roomX X = rm_X10_isPlain) (x1 x3 : Int) (M : Mem) (B4 : Int → Int → Mem → Prop) (k4 : ∀ (z2 z3 : Int) (N : Mem), B4 z2 z3 N → AW X 4 [(20, 203), (0, x1), (0, z2), (0, z3)] [] N) (h : wp_X10_isPlain_39 (vX X) x1 x3 M Q B4) : AW X 39 [(20, 203), (0, x1), (99, 0), (0, x3)] [] M := by
  unfold wp_X10_isPlain_39 at h
  refine am_iconst (pc := 39) G dX10_isPlain_39 (by decide) ?_
  refine am_istore_n (pc := 40) G dX10_isPlain_40 rfl (nlx hn rfl) rfl ?_
  refine am_iinc (pc := 41) (ls := [(20, _), (0, _), (0, _), (0, _)]) G dX10_isPlain_41 rfl (nlx hn rfl) rfl ?_
  refine am_goto (pc := 44) (ls := [(20, _), (0, _), (0, _), (0, _)]) G 4 dX10_isPlain_44 (by decide) ?_
  refine am_le (ls' := [(20, _), (0, _), (0, _), (0, _)]) ⟨Or.inr rfl, ⟨Or.inr rfl, ⟨Or.inr rfl, ⟨Or.inr rfl, trivial⟩⟩⟩⟩ ?_
  exact k4 _ _ _ h
def wp_X10_isPlain_4_b (V : VV) (x1 x2 x3 : Int) (M : Mem) (Q : Int → Mem → Prop) (B4 : Int → Int → Mem → Prop) : Prop :=
  ((0 : Int) ≤ x1 ∧ x1 < (21 : Int)) ∧
  (M 204 x1 ≤ x3 →
    (x2 = 0 ∨ x2 = 1) ∧ Q x2 M) ∧ (¬ (M 204 x1 ≤ x3) →
    (x2 = 0 →
      wp_X10_isPlain_39 V x1 x3 M Q B4) ∧ (¬ (x2 = 0) →
      ((0 : Int) ≤ w32 (w32 (32 * x1) + x3) ∧ w32 (w32 (32 * x1) + x3) < (672 : Int)) ∧
      R_X10_isHole V (M 205 (w32 (w32 (32 * x1) + x3))) M (fun r1 M2 =>
      (r1 = 0 →
        B4 1 (w32 (x3 + 1)) M2) ∧ (¬ (r1 = 0) →
        wp_X10_isPlain_39 V x1 x3 M2 Q B4))))
theorem swp_X10_isPlain_4_b {X : XX} {Q : Int → Mem → Prop} (G : GX X cX10_isPlain "TreeHandsModel") (Z : RX X 1 Q) (hn : nLX X = 4) (hr : roomX X = rm_X10_isPlain) (x1 x2 x3 : Int) (M : Mem) (B4 : Int → Int → Mem → Prop) (k4 : ∀ (z2 z3 : Int) (N : Mem), B4 z2 z3 N → AW X 4 [(20, 203), (0, x1), (0, z2), (0, z3)] [] N) (h : wp_X10_isPlain_4_b (vX X) x1 x2 x3 M Q B4) : AW X 4 [(20, 203), (0, x1), (0, x2), (0, x3)] [] M := by
  unfold wp_X10_isPlain_4_b at h
  refine am_iload_n (i := 3) (pc := 4) G dX10_isPlain_4 rfl rfl ?_
  refine am_aload_n (i := 0) (t := 17) (pc := 5) G dX10_isPlain_5 rfl rfl rfl ?_
  refine gf_X10_0 (pc := 6) G dX10_isPlain_6 tw_f_RX10_7 ?_
  refine am_iload_n (i := 1) (pc := 9) G dX10_isPlain_9 rfl rfl ?_
  refine am_iald (pc := 10) G 21 dX10_isPlain_10 (by decide) h.1 ?_
  have h := h.2
  refine am_icmp_ge (pc := 11) G 47 dX10_isPlain_11 (by decide) (fun c => ?_) (fun c => ?_)
  · have h := h.1 c
    refine am_iload_n (i := 2) (pc := 47) G dX10_isPlain_47 rfl rfl ?_
    exact am_zret (pc := 48) G Z dX10_isPlain_48 h
  · have h := h.2 c
    refine am_iload_n (i := 2) (pc := 14) G dX10_isPlain_14 rfl rfl ?_
    refine am_if_eq (pc := 15) G 39 dX10_isPlain_15 (by decide) (fun c => ?_) (fun c => ?_)
    · have h := h.1 c
      refine am_le (ls' := [(20, _), (0, _), (99, 0), (0, _)]) ⟨Or.inr rfl, ⟨Or.inr rfl, ⟨Or.inl rfl, ⟨Or.inr rfl, trivial⟩⟩⟩⟩ ?_
      exact swp_X10_isPlain_39 G Z hn hr _ _ _ B4 k4 h
    · have h := h.2 c
      refine am_aload_n (i := 0) (t := 17) (pc := 18) G dX10_isPlain_18 rfl rfl rfl ?_
      refine gf_X10_1 (pc := 19) G dX10_isPlain_19 tw_f_RX10_13 ?_
      refine am_bipush (pc := 22) G dX10_isPlain_22 (by decide) (by decide) ?_
      refine am_iload_n (i := 1) (pc := 24) G dX10_isPlain_24 rfl rfl ?_
      refine am_imul (pc := 25) G dX10_isPlain_25 ?_
      refine am_iload_n (i := 3) (pc := 26) G dX10_isPlain_26 rfl rfl ?_
      refine am_iadd (pc := 27) G dX10_isPlain_27 ?_
      refine am_iald (pc := 28) G 672 dX10_isPlain_28 (by decide) h.1 ?_
      have h := h.2
      refine am_callS (rk := 1) (rmc := rm_X10_isHole) (st := []) (pc := 29) G [(0, _)] dX10_isPlain_29 tw_m_RX10_121 tw_s_X10_isHole tw_z_RX10 tw_c_X10_isHole hy_X10_isHole (callrm hr rfl) rfl (RunsM.mono h (fun r1 M2 h => ?_)) Z.rm
      show AW X 32 _ [(0, _)] M2
      refine am_if_ne (pc := 32) G 39 dX10_isPlain_32 (by decide) (fun c => ?_) (fun c => ?_)
      · have h := h.2 c
        refine am_le (ls' := [(20, _), (0, _), (99, 0), (0, _)]) ⟨Or.inr rfl, ⟨Or.inr rfl, ⟨Or.inl rfl, ⟨Or.inr rfl, trivial⟩⟩⟩⟩ ?_
        exact swp_X10_isPlain_39 G Z hn hr _ _ _ B4 k4 h
      · have h := h.1 c
        refine am_iconst (pc := 35) G dX10_isPlain_35 (by decide) ?_
        refine am_goto (pc := 36) G 40 dX10_isPlain_36 (by decide) ?_
        refine am_istore_n (pc := 40) G dX10_isPlain_40 rfl (nlx hn rfl) rfl ?_
        refine am_iinc (pc := 41) (ls := [(20, _), (0, _), (0, _), (0, _)]) G dX10_isPlain_41 rfl (nlx hn rfl) rfl ?_
        refine am_goto (pc := 44) (ls := [(20, _), (0, _), (0, _), (0, _)]) G 4 dX10_isPlain_44 (by decide) ?_
        refine am_le (ls' := [(20, _), (0, _), (0, _), (0, _)]) ⟨Or.inr rfl, ⟨Or.inr rfl, ⟨Or.inr rfl, ⟨Or.inr rfl, trivial⟩⟩⟩⟩ ?_
        exact k4 _ _ _ h
def wp_X10_isPlain_4 (V : VV) (x1 x2 x3 : Int) (M : Mem) (Q : Int → Mem → Prop) : Prop :=
  ∃ (I : Int → Int → Mem → Prop) (μ : Int → Int → Mem → Nat), I x2 x3 M ∧ ∀ (y2 y3 : Int) (N : Mem), I y2 y3 N → wp_X10_isPlain_4_b V x1 y2 y3 N Q (fun z2 z3 N1 => I z2 z3 N1 ∧ μ z2 z3 N1 < μ y2 y3 N)
theorem swp_X10_isPlain_4 {X : XX} {Q : Int → Mem → Prop} (G : GX X cX10_isPlain "TreeHandsModel") (Z : RX X 1 Q) (hn : nLX X = 4) (hr : roomX X = rm_X10_isPlain) (x1 x2 x3 : Int) (M : Mem) (h : wp_X10_isPlain_4 (vX X) x1 x2 x3 M Q) : AW X 4 [(20, 203), (0, x1), (0, x2), (0, x3)] [] M := by
  unfold wp_X10_isPlain_4 at h
  obtain ⟨I, μ, hI, hs⟩ := h
  have key : ∀ (n : Nat) (y2 y3 : Int) (N : Mem), μ y2 y3 N < n → I y2 y3 N → AW X 4 [(20, 203), (0, x1), (0, y2), (0, y3)] [] N := by
    intro n
    induction n with
    | zero => intro y2 y3 N hlt; exact absurd hlt (Nat.not_lt_zero _)
    | succ n ih =>
      intro y2 y3 N hlt hI
      exact swp_X10_isPlain_4_b G Z hn hr x1 y2 y3 N (fun z2 z3 N1 => I z2 z3 N1 ∧ μ z2 z3 N1 < μ y2 y3 N) (fun z2 z3 N1 hz => ih z2 z3 N1 (by omega) hz.1) (hs y2 y3 N hI)
  exact key _ x2 x3 M (Nat.lt_succ_self _) hI
def wp_X10_isPlain (V : VV) (x1 : Int) (M : Mem) (Q : Int → Mem → Prop) : Prop :=
  wp_X10_isPlain_4 V x1 1 0 M Q
theorem of_X10_isPlain {V : VV} {x1 : Int} {M : Mem} {Q : Int → Mem → Prop} (h : wp_X10_isPlain V x1 M Q) : R_X10_isPlain V x1 M Q := by
  refine met_in (own := "TreeHandsModel") (by decide +kernel) rfl rfl (Nat.le_of_ble_eq_true rfl) ?_
  intro X G Z hn hr hv
  subst hv
  unfold wp_X10_isPlain at h
  show AW X 0 [(20, 203), (0, x1), (99, 0), (99, 0)] [] M
  refine am_iconst (pc := 0) G dX10_isPlain_0 (by decide) ?_
  refine am_istore_n (pc := 1) G dX10_isPlain_1 rfl (nlx hn rfl) rfl ?_
  refine am_iconst (pc := 2) (ls := [(20, _), (0, _), (0, _), (99, _)]) G dX10_isPlain_2 (by decide) ?_
  refine am_istore_n (pc := 3) G dX10_isPlain_3 rfl (nlx hn rfl) rfl ?_
  refine am_le (ls' := [(20, _), (0, _), (0, _), (0, _)]) ⟨Or.inr rfl, ⟨Or.inr rfl, ⟨Or.inr rfl, ⟨Or.inr rfl, trivial⟩⟩⟩⟩ ?_
  exact swp_X10_isPlain_4 G Z hn hr _ _ _ _ h
-- X10_common TreeHandsModel.common(IIIII)I
def rm_X10_common : Room := { frames := 3, cells := 0, slots := 0, locals := 65 }
theorem hy_X10_common : yX10_common.cls ≠ "java/lang/invoke/MethodHandle" ∧ yX10_common.cls ≠ "java/lang/invoke/VarHandle" ∧ (parseMethodDescriptor yX10_common.desc).map (fun d => d.parameters.length) = some 5 := by decide +kernel
abbrev R_X10_common (V : VV) (x1 x2 x3 x4 x5 : Int) (M : Mem) (Q : Int → Mem → Prop) : Prop := RunsM V yX10_common (.code yX10_common cX10_common 16 (Option.some Jvm.ClassFile.FieldType.int)) rm_X10_common 0 [(20, 203), (0, x1), (0, x2), (0, x3), (0, x4), (0, x5)] M Q
def wp_X10_common_400 (V : VV) (x1 x3 x5 x6 x7 x8 x12 : Int) (M : Mem) (Q : Int → Mem → Prop) (B72 : Int → Int → Int → Mem → Prop) : Prop :=
  ((0 : Int) ≤ w32 (576 + x7) ∧ w32 (576 + x7) < (672 : Int)) ∧
  ∀ M16 : Mem, M16 = mset M 205 (w32 (576 + x7)) (w32 (65 + x12)) →
  ((0 : Int) ≤ w32 (576 + x7) ∧ w32 (576 + x7) < (672 : Int)) ∧
  B72 x6 (w32 (x7 + 1)) x8 (mset M16 206 (w32 (576 + x7)) 0)
theorem swp_X10_common_400 {X : XX} {Q : Int → Mem → Prop} (G : GX X cX10_common "TreeHandsModel") (Z : RX X 0 Q) (hn : nLX X = 16) (hr : roomX X = rm_X10_common) (x1 x3 x5 x6 x7 x8 x12 : Int) (M : Mem) (B72 : Int → Int → Int → Mem → Prop) (k72 : ∀ (z6 z7 z8 : Int) (N : Mem), B72 z6 z7 z8 N → AW X 72 [(20, 203), (0, x1), (99, 0), (0, x3), (99, 0), (0, x5), (0, z6), (0, z7), (0, z8), (99, 0), (99, 0), (99, 0), (99, 0), (99, 0), (99, 0), (99, 0)] [] N) (h : wp_X10_common_400 (vX X) x1 x3 x5 x6 x7 x8 x12 M Q B72) : AW X 400 [(20, 203), (0, x1), (99, 0), (0, x3), (99, 0), (0, x5), (0, x6), (0, x7), (0, x8), (99, 0), (99, 0), (99, 0), (0, x12), (99, 0), (99, 0), (99, 0)] [] M := by
  unfold wp_X10_common_400 at h
  refine am_aload_n (i := 0) (t := 17) (pc := 400) G dX10_common_400 rfl rfl rfl ?_
  refine gf_X10_1 (pc := 401) G dX10_common_401 tw_f_RX10_13 ?_
  refine am_sipush (pc := 404) G dX10_common_404 (by decide) (by decide) ?_
  refine am_iload (pc := 407) G dX10_common_407 rfl ?_
  refine am_iadd (pc := 409) G dX10_common_409 ?_
  refine am_bipush (pc := 410) G dX10_common_410 (by decide) (by decide) ?_
  refine am_iload (pc := 412) G dX10_common_412 rfl ?_
  refine am_iadd (pc := 414) G dX10_common_414 ?_
  refine am_iast (pc := 415) G 672 dX10_common_415 (by decide) h.1 ?_
  have h := h.2
  refine am_aload_n (i := 0) (t := 17) (pc := 416) G dX10_common_416 rfl rfl rfl ?_
  refine gf_X10_2 (pc := 417) G dX10_common_417 tw_f_RX10_16 ?_
  refine am_sipush (pc := 420) G dX10_common_420 (by decide) (by decide) ?_
  refine am_iload (pc := 423) G dX10_common_423 rfl ?_
  refine am_iadd (pc := 425) G dX10_common_425 ?_
  refine am_iconst (pc := 426) G dX10_common_426 (by decide) ?_
  have h := h _ rfl
  refine am_iast (pc := 427) G 672 dX10_common_427 (by decide) h.1 ?_
  have h := h.2
  refine am_iinc (pc := 428) G dX10_common_428 rfl (nlx hn rfl) rfl ?_
  refine am_goto (pc := 431) (ls := [(20, _), (0, _), (99, _), (0, _), (99, _), (0, _), (0, _), (0, _), (0, _), (99, _), (99, _), (99, _), (0, _), (99, _), (99, _), (99, _)]) G 72 dX10_common_431 (by decide) ?_
  refine am_le (ls' := [(20, _), (0, _), (99, 0), (0, _), (99, 0), (0, _), (0, _), (0, _), (0, _), (99, 0), (99, 0), (99, 0), (99, 0), (99, 0), (99, 0), (99, 0)]) ⟨Or.inr rfl, ⟨Or.inr rfl, ⟨Or.inl rfl, ⟨Or.inr rfl, ⟨Or.inl rfl, ⟨Or.inr rfl, ⟨Or.inr rfl, ⟨Or.inr rfl, ⟨Or.inr rfl, ⟨Or.inl rfl, ⟨Or.inl rfl, ⟨Or.inl rfl, ⟨Or.inl rfl, ⟨Or.inl rfl, ⟨Or.inl rfl, ⟨Or.inl rfl, trivial⟩⟩⟩⟩⟩⟩⟩⟩⟩⟩⟩⟩⟩⟩⟩⟩ ?_
  exact k72 _ _ _ _ h
def wp_X10_common_372 (V : VV) (x1 x3 x5 x6 x7 x8 x9 x10 x12 : Int) (M : Mem) (Q : Int → Mem → Prop) (B72 : Int → Int → Int → Mem → Prop) : Prop :=
  (x12 = x6 →
    ((0 : Int) ≤ x12 ∧ x12 < (16 : Int)) ∧
    ∀ M17 : Mem, M17 = mset M 226 x12 x9 →
    ((0 : Int) ≤ x12 ∧ x12 < (16 : Int)) ∧
    wp_X10_common_400 V x1 x3 x5 (w32 (x6 + 1)) x7 x8 x12 (mset M17 227 x12 x10) Q B72) ∧ (¬ (x12 = x6) →
    wp_X10_common_400 V x1 x3 x5 x6 x7 x8 x12 M Q B72)
theorem swp_X10_common_372 {X : XX} {Q : Int → Mem → Prop} (G : GX X cX10_common "TreeHandsModel") (Z : RX X 0 Q) (hn : nLX X = 16) (hr : roomX X = rm_X10_common) (x1 x3 x5 x6 x7 x8 x9 x10 x12 : Int) (M : Mem) (B72 : Int → Int → Int → Mem → Prop) (k72 : ∀ (z6 z7 z8 : Int) (N : Mem), B72 z6 z7 z8 N → AW X 72 [(20, 203), (0, x1), (99, 0), (0, x3), (99, 0), (0, x5), (0, z6), (0, z7), (0, z8), (99, 0), (99, 0), (99, 0), (99, 0), (99, 0), (99, 0), (99, 0)] [] N) (h : wp_X10_common_372 (vX X) x1 x3 x5 x6 x7 x8 x9 x10 x12 M Q B72) : AW X 372 [(20, 203), (0, x1), (99, 0), (0, x3), (99, 0), (0, x5), (0, x6), (0, x7), (0, x8), (0, x9), (0, x10), (99, 0), (0, x12), (99, 0), (99, 0), (99, 0)] [] M := by
  unfold wp_X10_common_372 at h
  refine am_iload (pc := 372) G dX10_common_372 rfl ?_
  refine am_iload (pc := 374) G dX10_common_374 rfl ?_
  refine am_icmp_ne (pc := 376) G 400 dX10_common_376 (by decide) (fun c => ?_) (fun c => ?_)
  · have h := h.2 c
    refine am_le (ls' := [(20, _), (0, _), (99, 0), (0, _), (99, 0), (0, _), (0, _), (0, _), (0, _), (99, 0), (99, 0), (99, 0), (0, _), (99, 0), (99, 0), (99, 0)]) ⟨Or.inr rfl, ⟨Or.inr rfl, ⟨Or.inl rfl, ⟨Or.inr rfl, ⟨Or.inl rfl, ⟨Or.inr rfl, ⟨Or.inr rfl, ⟨Or.inr rfl, ⟨Or.inr rfl, ⟨Or.inl rfl, ⟨Or.inl rfl, ⟨Or.inl rfl, ⟨Or.inr rfl, ⟨Or.inl rfl, ⟨Or.inl rfl, ⟨Or.inl rfl, trivial⟩⟩⟩⟩⟩⟩⟩⟩⟩⟩⟩⟩⟩⟩⟩⟩ ?_
    exact swp_X10_common_400 G Z hn hr _ _ _ _ _ _ _ _ B72 k72 h
  · have h := h.1 c
    refine am_aload_n (i := 0) (t := 17) (pc := 379) G dX10_common_379 rfl rfl rfl ?_
    refine gf_X10_30 (pc := 380) G dX10_common_380 tw_f_RX10_76 ?_
    refine am_iload (pc := 383) G dX10_common_383 rfl ?_
    refine am_iload (pc := 385) G dX10_common_385 rfl ?_
    refine am_iast (pc := 387) G 16 dX10_common_387 (by decide) h.1 ?_
    have h := h.2
    refine am_aload_n (i := 0) (t := 17) (pc := 388) G dX10_common_388 rfl rfl rfl ?_
    refine gf_X10_31 (pc := 389) G dX10_common_389 tw_f_RX10_79 ?_
    refine am_iload (pc := 392) G dX10_common_392 rfl ?_
    refine am_iload (pc := 394) G dX10_common_394 rfl ?_
    have h := h _ rfl
    refine am_iast (pc := 396) G 16 dX10_common_396 (by decide) h.1 ?_
    have h := h.2
    refine am_iinc (pc := 397) G dX10_common_397 rfl (nlx hn rfl) rfl ?_
    refine am_le (ls' := [(20, _), (0, _), (99, 0), (0, _), (99, 0), (0, _), (0, _), (0, _), (0, _), (99, 0), (99, 0), (99, 0), (0, _), (99, 0), (99, 0), (99, 0)]) ⟨Or.inr rfl, ⟨Or.inr rfl, ⟨Or.inl rfl, ⟨Or.inr rfl, ⟨Or.inl rfl, ⟨Or.inr rfl, ⟨Or.inr rfl, ⟨Or.inr rfl, ⟨Or.inr rfl, ⟨Or.inl rfl, ⟨Or.inl rfl, ⟨Or.inl rfl, ⟨Or.inr rfl, ⟨Or.inl rfl, ⟨Or.inl rfl, ⟨Or.inl rfl, trivial⟩⟩⟩⟩⟩⟩⟩⟩⟩⟩⟩⟩⟩⟩⟩⟩ ?_
    exact swp_X10_common_400 G Z hn hr _ _ _ _ _ _ _ _ B72 k72 h
def wp_X10_common_323_b (V : VV) (x1 x3 x5 x6 x7 x8 x9 x10 x12 : Int) (M : Mem) (Q : Int → Mem → Prop) (B72 : Int → Int → Int → Mem → Prop) (B323 : Int → Mem → Prop) : Prop :=
  (x6 ≤ x12 →
    wp_X10_common_372 V x1 x3 x5 x6 x7 x8 x9 x10 x12 M Q B72) ∧ (¬ (x6 ≤ x12) →
    ((0 : Int) ≤ x12 ∧ x12 < (16 : Int)) ∧
    R_X10_same V x1 (M 226 x12) x1 x9 M (fun r18 M19 =>
    (r18 = 0 →
      B323 (w32 (x12 + 1)) M19) ∧ (¬ (r18 = 0) →
      ((0 : Int) ≤ x12 ∧ x12 < (16 : Int)) ∧
      R_X10_same V x3 (M19 227 x12) x3 x10 M19 (fun r20 M21 =>
      (r20 = 0 →
        B323 (w32 (x12 + 1)) M21) ∧ (¬ (r20 = 0) →
        wp_X10_common_372 V x1 x3 x5 x6 x7 x8 x9 x10 x12 M21 Q B72)))))
theorem swp_X10_common_323_b {X : XX} {Q : Int → Mem → Prop} (G : GX X cX10_common "TreeHandsModel") (Z : RX X 0 Q) (hn : nLX X = 16) (hr : roomX X = rm_X10_common) (x1 x3 x5 x6 x7 x8 x9 x10 x12 : Int) (M : Mem) (B72 : Int → Int → Int → Mem → Prop) (k72 : ∀ (z6 z7 z8 : Int) (N : Mem), B72 z6 z7 z8 N → AW X 72 [(20, 203), (0, x1), (99, 0), (0, x3), (99, 0), (0, x5), (0, z6), (0, z7), (0, z8), (99, 0), (99, 0), (99, 0), (99, 0), (99, 0), (99, 0), (99, 0)] [] N) (B323 : Int → Mem → Prop) (k323 : ∀ (z12 : Int) (N : Mem), B323 z12 N → AW X 323 [(20, 203), (0, x1), (99, 0), (0, x3), (99, 0), (0, x5), (0, x6), (0, x7), (0, x8), (0, x9), (0, x10), (99, 0), (0, z12), (99, 0), (99, 0), (99, 0)] [] N) (h : wp_X10_common_323_b (vX X) x1 x3 x5 x6 x7 x8 x9 x10 x12 M Q B72 B323) : AW X 323 [(20, 203), (0, x1), (99, 0), (0, x3), (99, 0), (0, x5), (0, x6), (0, x7), (0, x8), (0, x9), (0, x10), (99, 0), (0, x12), (99, 0), (99, 0), (99, 0)] [] M := by
  unfold wp_X10_common_323_b at h
  refine am_iload (pc := 323) G dX10_common_323 rfl ?_
  refine am_iload (pc := 325) G dX10_common_325 rfl ?_
  refine am_icmp_ge (pc := 327) G 372 dX10_common_327 (by decide) (fun c => ?_) (fun c => ?_)
  · have h := h.1 c
    refine am_le (ls' := [(20, _), (0, _), (99, 0), (0, _), (99, 0), (0, _), (0, _), (0, _), (0, _), (0, _), (0, _), (99, 0), (0, _), (99, 0), (99, 0), (99, 0)]) ⟨Or.inr rfl, ⟨Or.inr rfl, ⟨Or.inl rfl, ⟨Or.inr rfl, ⟨Or.inl rfl, ⟨Or.inr rfl, ⟨Or.inr rfl, ⟨Or.inr rfl, ⟨Or.inr rfl, ⟨Or.inr rfl, ⟨Or.inr rfl, ⟨Or.inl rfl, ⟨Or.inr rfl, ⟨Or.inl rfl, ⟨Or.inl rfl, ⟨Or.inl rfl, trivial⟩⟩⟩⟩⟩⟩⟩⟩⟩⟩⟩⟩⟩⟩⟩⟩ ?_
    exact swp_X10_common_372 G Z hn hr _ _ _ _ _ _ _ _ _ _ B72 k72 h
  · have h := h.2 c
    refine am_aload_n (i := 0) (t := 17) (pc := 330) G dX10_common_330 rfl rfl rfl ?_
    refine am_iload_n (i := 1) (pc := 331) G dX10_common_331 rfl rfl ?_
    refine am_aload_n (i := 0) (t := 17) (pc := 332) G dX10_common_332 rfl rfl rfl ?_
    refine gf_X10_30 (pc := 333) G dX10_common_333 tw_f_RX10_76 ?_
    refine am_iload (pc := 336) G dX10_common_336 rfl ?_
    refine am_iald (pc := 338) G 16 dX10_common_338 (by decide) h.1 ?_
    have h := h.2
    refine am_iload_n (i := 1) (pc := 339) G dX10_common_339 rfl rfl ?_
    refine am_iload (pc := 340) G dX10_common_340 rfl ?_
    refine am_callV (rk := 1) (rmc := rm_X10_same) (st := []) (pc := 342) G 10 [(0, _), (0, _), (0, _), (0, _)] rfl (by decide) rfl dX10_common_342 tw_m_RX10_153 tw_i_X10_same tw_v_X10_same tw_z_RX10 tw_c_X10_same hy_X10_same (callrm hr rfl) rfl (RunsM.mono h (fun r18 M19 h => ?_)) Z.rm
    show AW X 345 _ [(0, _)] M19
    refine am_if_eq (pc := 345) G 366 dX10_common_345 (by decide) (fun c => ?_) (fun c => ?_)
    · have h := h.1 c
      refine am_iinc (pc := 366) G dX10_common_366 rfl (nlx hn rfl) rfl ?_
      refine am_goto (pc := 369) (ls := [(20, _), (0, _), (99, _), (0, _), (99, _), (0, _), (0, _), (0, _), (0, _), (0, _), (0, _), (99, _), (0, _), (99, _), (99, _), (99, _)]) G 323 dX10_common_369 (by decide) ?_
      refine am_le (ls' := [(20, _), (0, _), (99, 0), (0, _), (99, 0), (0, _), (0, _), (0, _), (0, _), (0, _), (0, _), (99, 0), (0, _), (99, 0), (99, 0), (99, 0)]) ⟨Or.inr rfl, ⟨Or.inr rfl, ⟨Or.inl rfl, ⟨Or.inr rfl, ⟨Or.inl rfl, ⟨Or.inr rfl, ⟨Or.inr rfl, ⟨Or.inr rfl, ⟨Or.inr rfl, ⟨Or.inr rfl, ⟨Or.inr rfl, ⟨Or.inl rfl, ⟨Or.inr rfl, ⟨Or.inl rfl, ⟨Or.inl rfl, ⟨Or.inl rfl, trivial⟩⟩⟩⟩⟩⟩⟩⟩⟩⟩⟩⟩⟩⟩⟩⟩ ?_
      exact k323 _ _ h
    · have h := h.2 c
      refine am_aload_n (i := 0) (t := 17) (pc := 348) G dX10_common_348 rfl rfl rfl ?_
      refine am_iload_n (i := 3) (pc := 349) G dX10_common_349 rfl rfl ?_
      refine am_aload_n (i := 0) (t := 17) (pc := 350) G dX10_common_350 rfl rfl rfl ?_
      refine gf_X10_31 (pc := 351) G dX10_common_351 tw_f_RX10_79 ?_
      refine am_iload (pc := 354) G dX10_common_354 rfl ?_
      refine am_iald (pc := 356) G 16 dX10_common_356 (by decide) h.1 ?_
      have h := h.2
      refine am_iload_n (i := 3) (pc := 357) G dX10_common_357 rfl rfl ?_
      refine am_iload (pc := 358) G dX10_common_358 rfl ?_
      refine am_callV (rk := 1) (rmc := rm_X10_same) (st := []) (pc := 360) G 10 [(0, _), (0, _), (0, _), (0, _)] rfl (by decide) rfl dX10_common_360 tw_m_RX10_153 tw_i_X10_same tw_v_X10_same tw_z_RX10 tw_c_X10_same hy_X10_same (callrm hr rfl) rfl (RunsM.mono h (fun r20 M21 h => ?_)) Z.rm
      show AW X 363 _ [(0, _)] M21
      refine am_if_ne (pc := 363) G 372 dX10_common_363 (by decide) (fun c => ?_) (fun c => ?_)
      · have h := h.2 c
        refine am_le (ls' := [(20, _), (0, _), (99, 0), (0, _), (99, 0), (0, _), (0, _), (0, _), (0, _), (0, _), (0, _), (99, 0), (0, _), (99, 0), (99, 0), (99, 0)]) ⟨Or.inr rfl, ⟨Or.inr rfl, ⟨Or.inl rfl, ⟨Or.inr rfl, ⟨Or.inl rfl, ⟨Or.inr rfl, ⟨Or.inr rfl, ⟨Or.inr rfl, ⟨Or.inr rfl, ⟨Or.inr rfl, ⟨Or.inr rfl, ⟨Or.inl rfl, ⟨Or.inr rfl, ⟨Or.inl rfl, ⟨Or.inl rfl, ⟨Or.inl rfl, trivial⟩⟩⟩⟩⟩⟩⟩⟩⟩⟩⟩⟩⟩⟩⟩⟩ ?_
        exact swp_X10_common_372 G Z hn hr _ _ _ _ _ _ _ _ _ _ B72 k72 h
      · have h := h.1 c
        refine am_iinc (pc := 366) G dX10_common_366 rfl (nlx hn rfl) rfl ?_
        refine am_goto (pc := 369) (ls := [(20, _), (0, _), (99, _), (0, _), (99, _), (0, _), (0, _), (0, _), (0, _), (0, _), (0, _), (99, _), (0, _), (99, _), (99, _), (99, _)]) G 323 dX10_common_369 (by decide) ?_
        refine am_le (ls' := [(20, _), (0, _), (99, 0), (0, _), (99, 0), (0, _), (0, _), (0, _), (0, _), (0, _), (0, _), (99, 0), (0, _), (99, 0), (99, 0), (99, 0)]) ⟨Or.inr rfl, ⟨Or.inr rfl, ⟨Or.inl rfl, ⟨Or.inr rfl, ⟨Or.inl rfl, ⟨Or.inr rfl, ⟨Or.inr rfl, ⟨Or.inr rfl, ⟨Or.inr rfl, ⟨Or.inr rfl, ⟨Or.inr rfl, ⟨Or.inl rfl, ⟨Or.inr rfl, ⟨Or.inl rfl, ⟨Or.inl rfl, ⟨Or.inl rfl, trivial⟩⟩⟩⟩⟩⟩⟩⟩⟩⟩⟩⟩⟩⟩⟩⟩ ?_
        exact k323 _ _ h
def wp_X10_common_323 (V : VV) (x1 x3 x5 x6 x7 x8 x9 x10 x12 : Int) (M : Mem) (Q : Int → Mem → Prop) (B72 : Int → Int → Int → Mem → Prop) : Prop :=
  ∃ (I : Int → Mem → Prop) (μ : Int → Mem → Nat), I x12 M ∧ ∀ (y12 : Int) (N : Mem), I y12 N → wp_X10_common_323_b V x1 x3 x5 x6 x7 x8 x9 x10 y12 N Q B72 (fun z12 N1 => I z12 N1 ∧ μ z12 N1 < μ y12 N)
theorem swp_X10_common_323 {X : XX} {Q : Int → Mem → Prop} (G : GX X cX10_common "TreeHandsModel") (Z : RX X 0 Q) (hn : nLX X = 16) (hr : roomX X = rm_X10_common) (x1 x3 x5 x6 x7 x8 x9 x10 x12 : Int) (M : Mem) (B72 : Int → Int → Int → Mem → Prop) (k72 : ∀ (z6 z7 z8 : Int) (N : Mem), B72 z6 z7 z8 N → AW X 72 [(20, 203), (0, x1), (99, 0), (0, x3), (99, 0), (0, x5), (0, z6), (0, z7), (0, z8), (99, 0), (99, 0), (99, 0), (99, 0), (99, 0), (99, 0), (99, 0)] [] N) (h : wp_X10_common_323 (vX X) x1 x3 x5 x6 x7 x8 x9 x10 x12 M Q B72) : AW X 323 [(20, 203), (0, x1), (99, 0), (0, x3), (99, 0), (0, x5), (0, x6), (0, x7), (0, x8), (0, x9), (0, x10), (99, 0), (0, x12), (99, 0), (99, 0), (99, 0)] [] M := by
  unfold wp_X10_common_323 at h
  obtain ⟨I, μ, hI, hs⟩ := h
  have key : ∀ (n : Nat) (y12 : Int) (N : Mem), μ y12 N < n → I y12 N → AW X 323 [(20, 203), (0, x1), (99, 0), (0, x3), (99, 0), (0, x5), (0, x6), (0, x7), (0, x8), (0, x9), (0, x10), (99, 0), (0, y12), (99, 0), (99, 0), (99, 0)] [] N := by
    intro n
    induction n with
    | zero => intro y12 N hlt; exact absurd hlt (Nat.not_lt_zero _)
    | succ n ih =>
      intro y12 N hlt hI
      exact swp_X10_common_323_b G Z hn hr x1 x3 x5 x6 x7 x8 x9 x10 y12 N B72 k72 (fun z12 N1 => I z12 N1 ∧ μ z12 N1 < μ y12 N) (fun z12 N1 hz => ih z12 N1 (by omega) hz.1) (hs y12 N hI)
  exact key _ x12 M (Nat.lt_succ_self _) hI
def wp_X10_common_239_b (V : VV) (x1 x3 x5 x6 x7 x8 x12 x13 x14 x15 : Int) (M : Mem) (Q : Int → Mem → Prop) (B72 : Int → Int → Int → Mem → Prop) (B239 : Int → Int → Int → Mem → Prop) : Prop :=
  (x12 ≤ x15 →
    B72 x6 (w32 (x7 + 1)) (w32 (x8 + x12)) M) ∧ (¬ (x12 ≤ x15) →
    ((0 : Int) ≤ w32 (w32 (w32 (x8 + x12) - 1) - x15) ∧ w32 (w32 (w32 (x8 + x12) - 1) - x15) < (64 : Int)) ∧
    ∀ M25 : Mem, M25 = mset M 224 (w32 (w32 (w32 (x8 + x12) - 1) - x15)) x13 →
    ((0 : Int) ≤ w32 (w32 (w32 (x8 + x12) - 1) - x15) ∧ w32 (w32 (w32 (x8 + x12) - 1) - x15) < (64 : Int)) ∧
    ∀ M26 : Mem, M26 = mset M25 225 (w32 (w32 (w32 (x8 + x12) - 1) - x15)) x14 →
    R_X10_sizeOf V x1 x13 M26 (fun r27 M28 =>
    R_X10_sizeOf V x3 x14 M28 (fun r29 M30 =>
    B239 (w32 (x13 + r27)) (w32 (x14 + r29)) (w32 (x15 + 1)) M30)))
theorem swp_X10_common_239_b {X : XX} {Q : Int → Mem → Prop} (G : GX X cX10_common "TreeHandsModel") (Z : RX X 0 Q) (hn : nLX X = 16) (hr : roomX X = rm_X10_common) (x1 x3 x5 x6 x7 x8 x12 x13 x14 x15 : Int) (M : Mem) (B72 : Int → Int → Int → Mem → Prop) (k72 : ∀ (z6 z7 z8 : Int) (N : Mem), B72 z6 z7 z8 N → AW X 72 [(20, 203), (0, x1), (99, 0), (0, x3), (99, 0), (0, x5), (0, z6), (0, z7), (0, z8), (99, 0), (99, 0), (99, 0), (99, 0), (99, 0), (99, 0), (99, 0)] [] N) (B239 : Int → Int → Int → Mem → Prop) (k239 : ∀ (z13 z14 z15 : Int) (N : Mem), B239 z13 z14 z15 N → AW X 239 [(20, 203), (0, x1), (99, 0), (0, x3), (99, 0), (0, x5), (0, x6), (0, x7), (0, x8), (99, 0), (99, 0), (99, 0), (0, x12), (0, z13), (0, z14), (0, z15)] [] N) (h : wp_X10_common_239_b (vX X) x1 x3 x5 x6 x7 x8 x12 x13 x14 x15 M Q B72 B239) : AW X 239 [(20, 203), (0, x1), (99, 0), (0, x3), (99, 0), (0, x5), (0, x6), (0, x7), (0, x8), (99, 0), (99, 0), (99, 0), (0, x12), (0, x13), (0, x14), (0, x15)] [] M := by
  unfold wp_X10_common_239_b at h
  refine am_iload (pc := 239) G dX10_common_239 rfl ?_
  refine am_iload (pc := 241) G dX10_common_241 rfl ?_
  refine am_icmp_ge (pc := 243) G 310 dX10_common_243 (by decide) (fun c => ?_) (fun c => ?_)
  · have h := h.1 c
    refine am_iload (pc := 310) G dX10_common_310 rfl ?_
    refine am_iload (pc := 312) G dX10_common_312 rfl ?_
    refine am_iadd (pc := 314) G dX10_common_314 ?_
    refine am_istore (pc := 315) G dX10_common_315 (nlx hn rfl) rfl ?_
    refine am_goto (pc := 317) (ls := [(20, _), (0, _), (99, _), (0, _), (99, _), (0, _), (0, _), (0, _), (0, _), (99, _), (99, _), (99, _), (0, _), (0, _), (0, _), (0, _)]) G 428 dX10_common_317 (by decide) ?_
    refine am_iinc (pc := 428) G dX10_common_428 rfl (nlx hn rfl) rfl ?_
    refine am_goto (pc := 431) (ls := [(20, _), (0, _), (99, _), (0, _), (99, _), (0, _), (0, _), (0, _), (0, _), (99, _), (99, _), (99, _), (0, _), (0, _), (0, _), (0, _)]) G 72 dX10_common_431 (by decide) ?_
    refine am_le (ls' := [(20, _), (0, _), (99, 0), (0, _), (99, 0), (0, _), (0, _), (0, _), (0, _), (99, 0), (99, 0), (99, 0), (99, 0), (99, 0), (99, 0), (99, 0)]) ⟨Or.inr rfl, ⟨Or.inr rfl, ⟨Or.inl rfl, ⟨Or.inr rfl, ⟨Or.inl rfl, ⟨Or.inr rfl, ⟨Or.inr rfl, ⟨Or.inr rfl, ⟨Or.inr rfl, ⟨Or.inl rfl, ⟨Or.inl rfl, ⟨Or.inl rfl, ⟨Or.inl rfl, ⟨Or.inl rfl, ⟨Or.inl rfl, ⟨Or.inl rfl, trivial⟩⟩⟩⟩⟩⟩⟩⟩⟩⟩⟩⟩⟩⟩⟩⟩ ?_
    exact k72 _ _ _ _ h
  · have h := h.2 c
    refine am_aload_n (i := 0) (t := 17) (pc := 246) G dX10_common_246 rfl rfl rfl ?_
    refine gf_X10_28 (pc := 247) G dX10_common_247 tw_f_RX10_70 ?_
    refine am_iload (pc := 250) G dX10_common_250 rfl ?_
    refine am_iload (pc := 252) G dX10_common_252 rfl ?_
    refine am_iadd (pc := 254) G dX10_common_254 ?_
    refine am_iconst (pc := 255) G dX10_common_255 (by decide) ?_
    refine am_isub (pc := 256) G dX10_common_256 ?_
    refine am_iload (pc := 257) G dX10_common_257 rfl ?_
    refine am_isub (pc := 259) G dX10_common_259 ?_
    refine am_iload (pc := 260) G dX10_common_260 rfl ?_
    refine am_iast (pc := 262) G 64 dX10_common_262 (by decide) h.1 ?_
    have h := h.2
    refine am_aload_n (i := 0) (t := 17) (pc := 263) G dX10_common_263 rfl rfl rfl ?_
    refine gf_X10_29 (pc := 264) G dX10_common_264 tw_f_RX10_73 ?_
    refine am_iload (pc := 267) G dX10_common_267 rfl ?_
    refine am_iload (pc := 269) G dX10_common_269 rfl ?_
    refine am_iadd (pc := 271) G dX10_common_271 ?_
    refine am_iconst (pc := 272) G dX10_common_272 (by decide) ?_
    refine am_isub (pc := 273) G dX10_common_273 ?_
    refine am_iload (pc := 274) G dX10_common_274 rfl ?_
    refine am_isub (pc := 276) G dX10_common_276 ?_
    refine am_iload (pc := 277) G dX10_common_277 rfl ?_
    have h := h _ rfl
    refine am_iast (pc := 279) G 64 dX10_common_279 (by decide) h.1 ?_
    have h := h.2
    refine am_iload (pc := 280) G dX10_common_280 rfl ?_
    refine am_aload_n (i := 0) (t := 17) (pc := 282) G dX10_common_282 rfl rfl rfl ?_
    refine am_iload_n (i := 1) (pc := 283) G dX10_common_283 rfl rfl ?_
    refine am_iload (pc := 284) G dX10_common_284 rfl ?_
    have h := h _ rfl
    refine am_callV (rk := 0) (rmc := rm_X10_sizeOf) (st := [(0, _)]) (pc := 286) G 10 [(0, _), (0, _)] rfl (by decide) rfl dX10_common_286 tw_m_RX10_128 tw_i_X10_sizeOf tw_v_X10_sizeOf tw_z_RX10 tw_c_X10_sizeOf hy_X10_sizeOf (callrm hr rfl) rfl (RunsM.mono h (fun r27 M28 h => ?_)) Z.rm
    show AW X 289 _ [(0, _), (0, _)] M28
    refine am_iadd (pc := 289) G dX10_common_289 ?_
    refine am_istore (pc := 290) G dX10_common_290 (nlx hn rfl) rfl ?_
    refine am_iload (pc := 292) (ls := [(20, _), (0, _), (99, _), (0, _), (99, _), (0, _), (0, _), (0, _), (0, _), (99, _), (99, _), (99, _), (0, _), (0, _), (0, _), (0, _)]) G dX10_common_292 rfl ?_
    refine am_aload_n (i := 0) (t := 17) (pc := 294) G dX10_common_294 rfl rfl rfl ?_
    refine am_iload_n (i := 3) (pc := 295) G dX10_common_295 rfl rfl ?_
    refine am_iload (pc := 296) G dX10_common_296 rfl ?_
    refine am_callV (rk := 0) (rmc := rm_X10_sizeOf) (st := [(0, _)]) (pc := 298) G 10 [(0, _), (0, _)] rfl (by decide) rfl dX10_common_298 tw_m_RX10_128 tw_i_X10_sizeOf tw_v_X10_sizeOf tw_z_RX10 tw_c_X10_sizeOf hy_X10_sizeOf (callrm hr rfl) rfl (RunsM.mono h (fun r29 M30 h => ?_)) Z.rm
    show AW X 301 _ [(0, _), (0, _)] M30
    refine am_iadd (pc := 301) G dX10_common_301 ?_
    refine am_istore (pc := 302) G dX10_common_302 (nlx hn rfl) rfl ?_
    refine am_iinc (pc := 304) (ls := [(20, _), (0, _), (99, _), (0, _), (99, _), (0, _), (0, _), (0, _), (0, _), (99, _), (99, _), (99, _), (0, _), (0, _), (0, _), (0, _)]) G dX10_common_304 rfl (nlx hn rfl) rfl ?_
    refine am_goto (pc := 307) (ls := [(20, _), (0, _), (99, _), (0, _), (99, _), (0, _), (0, _), (0, _), (0, _), (99, _), (99, _), (99, _), (0, _), (0, _), (0, _), (0, _)]) G 239 dX10_common_307 (by decide) ?_
    refine am_le (ls' := [(20, _), (0, _), (99, 0), (0, _), (99, 0), (0, _), (0, _), (0, _), (0, _), (99, 0), (99, 0), (99, 0), (0, _), (0, _), (0, _), (0, _)]) ⟨Or.inr rfl, ⟨Or.inr rfl, ⟨Or.inl rfl, ⟨Or.inr rfl, ⟨Or.inl rfl, ⟨Or.inr rfl, ⟨Or.inr rfl, ⟨Or.inr rfl, ⟨Or.inr rfl, ⟨Or.inl rfl, ⟨Or.inl rfl, ⟨Or.inl rfl, ⟨Or.inr rfl, ⟨Or.inr rfl, ⟨Or.inr rfl, ⟨Or.inr rfl, trivial⟩⟩⟩⟩⟩⟩⟩⟩⟩⟩⟩⟩⟩⟩⟩⟩ ?_
    exact k239 _ _ _ _ h
def wp_X10_common_239 (V : VV) (x1 x3 x5 x6 x7 x8 x12 x13 x14 x15 : Int) (M : Mem) (Q : Int → Mem → Prop) (B72 : Int → Int → Int → Mem → Prop) : Prop :=
  ∃ (I : Int → Int → Int → Mem → Prop) (μ : Int → Int → Int → Mem → Nat), I x13 x14 x15 M ∧ ∀ (y13 y14 y15 : Int) (N : Mem), I y13 y14 y15 N → wp_X10_common_239_b V x1 x3 x5 x6 x7 x8 x12 y13 y14 y15 N Q B72 (fun z13 z14 z15 N1 => I z13 z14 z15 N1 ∧ μ z13 z14 z15 N1 < μ y13 y14 y15 N)
theorem swp_X10_common_239 {X : XX} {Q : Int → Mem → Prop} (G : GX X cX10_common "TreeHandsModel") (Z : RX X 0 Q) (hn : nLX X = 16) (hr : roomX X = rm_X10_common) (x1 x3 x5 x6 x7 x8 x12 x13 x14 x15 : Int) (M : Mem) (B72 : Int → Int → Int → Mem → Prop) (k72 : ∀ (z6 z7 z8 : Int) (N : Mem), B72 z6 z7 z8 N → AW X 72 [(20, 203), (0, x1), (99, 0), (0, x3), (99, 0), (0, x5), (0, z6), (0, z7), (0, z8), (99, 0), (99, 0), (99, 0), (99, 0), (99, 0), (99, 0), (99, 0)] [] N) (h : wp_X10_common_239 (vX X) x1 x3 x5 x6 x7 x8 x12 x13 x14 x15 M Q B72) : AW X 239 [(20, 203), (0, x1), (99, 0), (0, x3), (99, 0), (0, x5), (0, x6), (0, x7), (0, x8), (99, 0), (99, 0), (99, 0), (0, x12), (0, x13), (0, x14), (0, x15)] [] M := by
  unfold wp_X10_common_239 at h
  obtain ⟨I, μ, hI, hs⟩ := h
  have key : ∀ (n : Nat) (y13 y14 y15 : Int) (N : Mem), μ y13 y14 y15 N < n → I y13 y14 y15 N → AW X 239 [(20, 203), (0, x1), (99, 0), (0, x3), (99, 0), (0, x5), (0, x6), (0, x7), (0, x8), (99, 0), (99, 0), (99, 0), (0, x12), (0, y13), (0, y14), (0, y15)] [] N := by
    intro n
    induction n with
    | zero => intro y13 y14 y15 N hlt; exact absurd hlt (Nat.not_lt_zero _)
    | succ n ih =>
      intro y13 y14 y15 N hlt hI
      exact swp_X10_common_239_b G Z hn hr x1 x3 x5 x6 x7 x8 x12 y13 y14 y15 N B72 k72 (fun z13 z14 z15 N1 => I z13 z14 z15 N1 ∧ μ z13 z14 z15 N1 < μ y13 y14 y15 N) (fun z13 z14 z15 N1 hz => ih z13 z14 z15 N1 (by omega) hz.1) (hs y13 y14 y15 N hI)
  exact key _ x13 x14 x15 M (Nat.lt_succ_self _) hI
def wp_X10_common_157 (V : VV) (x1 x3 x5 x6 x7 x8 x9 x10 s0 : Int) (M : Mem) (Q : Int → Mem → Prop) (B72 : Int → Int → Int → Mem → Prop) : Prop :=
  (s0 = 0 →
    wp_X10_common_323 V x1 x3 x5 x6 x7 x8 x9 x10 0 M Q B72) ∧ (¬ (s0 = 0) →
    ((0 : Int) ≤ w32 (w32 (32 * x1) + x9) ∧ w32 (w32 (32 * x1) + x9) < (672 : Int)) ∧
    ((0 : Int) ≤ w32 (576 + x7) ∧ w32 (576 + x7) < (672 : Int)) ∧
    ∀ M22 : Mem, M22 = mset M 205 (w32 (576 + x7)) (M 205 (w32 (w32 (32 * x1) + x9))) →
    ((0 : Int) ≤ w32 (w32 (32 * x1) + x9) ∧ w32 (w32 (32 * x1) + x9) < (672 : Int)) ∧
    ((0 : Int) ≤ w32 (576 + x7) ∧ w32 (576 + x7) < (672 : Int)) ∧
    ∀ M23 : Mem, M23 = mset M22 206 (w32 (576 + x7)) (M22 206 (w32 (w32 (32 * x1) + x9))) →
    ((0 : Int) ≤ w32 (w32 (32 * x1) + x9) ∧ w32 (w32 (32 * x1) + x9) < (672 : Int)) ∧
    ∀ v24 : Int, v24 = M23 206 (w32 (w32 (32 * x1) + x9)) →
    wp_X10_common_239 V x1 x3 x5 x6 x7 x8 v24 (w32 (x9 + 1)) (w32 (x10 + 1)) 0 M23 Q B72)
theorem swp_X10_common_157 {X : XX} {Q : Int → Mem → Prop} (G : GX X cX10_common "TreeHandsModel") (Z : RX X 0 Q) (hn : nLX X = 16) (hr : roomX X = rm_X10_common) (x1 x3 x5 x6 x7 x8 x9 x10 s0 : Int) (M : Mem) (B72 : Int → Int → Int → Mem → Prop) (k72 : ∀ (z6 z7 z8 : Int) (N : Mem), B72 z6 z7 z8 N → AW X 72 [(20, 203), (0, x1), (99, 0), (0, x3), (99, 0), (0, x5), (0, z6), (0, z7), (0, z8), (99, 0), (99, 0), (99, 0), (99, 0), (99, 0), (99, 0), (99, 0)] [] N) (h : wp_X10_common_157 (vX X) x1 x3 x5 x6 x7 x8 x9 x10 s0 M Q B72) : AW X 157 [(20, 203), (0, x1), (99, 0), (0, x3), (99, 0), (0, x5), (0, x6), (0, x7), (0, x8), (0, x9), (0, x10), (99, 0), (99, 0), (99, 0), (99, 0), (99, 0)] [(0, s0)] M := by
  unfold wp_X10_common_157 at h
  refine am_istore (pc := 157) G dX10_common_157 (nlx hn rfl) rfl ?_
  refine am_iload (pc := 159) (ls := [(20, _), (0, _), (99, _), (0, _), (99, _), (0, _), (0, _), (0, _), (0, _), (0, _), (0, _), (0, _), (99, _), (99, _), (99, _), (99, _)]) G dX10_common_159 rfl ?_
  refine am_if_eq (pc := 161) G 320 dX10_common_161 (by decide) (fun c => ?_) (fun c => ?_)
  · have h := h.1 c
    refine am_iconst (pc := 320) G dX10_common_320 (by decide) ?_
    refine am_istore (pc := 321) G dX10_common_321 (nlx hn rfl) rfl ?_
    refine am_le (ls' := [(20, _), (0, _), (99, 0), (0, _), (99, 0), (0, _), (0, _), (0, _), (0, _), (0, _), (0, _), (99, 0), (0, _), (99, 0), (99, 0), (99, 0)]) ⟨Or.inr rfl, ⟨Or.inr rfl, ⟨Or.inl rfl, ⟨Or.inr rfl, ⟨Or.inl rfl, ⟨Or.inr rfl, ⟨Or.inr rfl, ⟨Or.inr rfl, ⟨Or.inr rfl, ⟨Or.inr rfl, ⟨Or.inr rfl, ⟨Or.inl rfl, ⟨Or.inr rfl, ⟨Or.inl rfl, ⟨Or.inl rfl, ⟨Or.inl rfl, trivial⟩⟩⟩⟩⟩⟩⟩⟩⟩⟩⟩⟩⟩⟩⟩⟩ ?_
    exact swp_X10_common_323 G Z hn hr _ _ _ _ _ _ _ _ _ _ B72 k72 h
  · have h := h.2 c
    refine am_aload_n (i := 0) (t := 17) (pc := 164) G dX10_common_164 rfl rfl rfl ?_
    refine gf_X10_1 (pc := 165) G dX10_common_165 tw_f_RX10_13 ?_
    refine am_sipush (pc := 168) G dX10_common_168 (by decide) (by decide) ?_
    refine am_iload (pc := 171) G dX10_common_171 rfl ?_
    refine am_iadd (pc := 173) G dX10_common_173 ?_
    refine am_aload_n (i := 0) (t := 17) (pc := 174) G dX10_common_174 rfl rfl rfl ?_
    refine gf_X10_1 (pc := 175) G dX10_common_175 tw_f_RX10_13 ?_
    refine am_bipush (pc := 178) G dX10_common_178 (by decide) (by decide) ?_
    refine am_iload_n (i := 1) (pc := 180) G dX10_common_180 rfl rfl ?_
    refine am_imul (pc := 181) G dX10_common_181 ?_
    refine am_iload (pc := 182) G dX10_common_182 rfl ?_
    refine am_iadd (pc := 184) G dX10_common_184 ?_
    refine am_iald (pc := 185) G 672 dX10_common_185 (by decide) h.1 ?_
    have h := h.2
    refine am_iast (pc := 186) G 672 dX10_common_186 (by decide) h.1 ?_
    have h := h.2
    refine am_aload_n (i := 0) (t := 17) (pc := 187) G dX10_common_187 rfl rfl rfl ?_
    refine gf_X10_2 (pc := 188) G dX10_common_188 tw_f_RX10_16 ?_
    refine am_sipush (pc := 191) G dX10_common_191 (by decide) (by decide) ?_
    refine am_iload (pc := 194) G dX10_common_194 rfl ?_
    refine am_iadd (pc := 196) G dX10_common_196 ?_
    refine am_aload_n (i := 0) (t := 17) (pc := 197) G dX10_common_197 rfl rfl rfl ?_
    refine gf_X10_2 (pc := 198) G dX10_common_198 tw_f_RX10_16 ?_
    refine am_bipush (pc := 201) G dX10_common_201 (by decide) (by decide) ?_
    refine am_iload_n (i := 1) (pc := 203) G dX10_common_203 rfl rfl ?_
    refine am_imul (pc := 204) G dX10_common_204 ?_
    refine am_iload (pc := 205) G dX10_common_205 rfl ?_
    refine am_iadd (pc := 207) G dX10_common_207 ?_
    have h := h _ rfl
    refine am_iald (pc := 208) G 672 dX10_common_208 (by decide) h.1 ?_
    have h := h.2
    refine am_iast (pc := 209) G 672 dX10_common_209 (by decide) h.1 ?_
    have h := h.2
    refine am_aload_n (i := 0) (t := 17) (pc := 210) G dX10_common_210 rfl rfl rfl ?_
    refine gf_X10_2 (pc := 211) G dX10_common_211 tw_f_RX10_16 ?_
    refine am_bipush (pc := 214) G dX10_common_214 (by decide) (by decide) ?_
    refine am_iload_n (i := 1) (pc := 216) G dX10_common_216 rfl rfl ?_
    refine am_imul (pc := 217) G dX10_common_217 ?_
    refine am_iload (pc := 218) G dX10_common_218 rfl ?_
    refine am_iadd (pc := 220) G dX10_common_220 ?_
    have h := h _ rfl
    refine am_iald (pc := 221) G 672 dX10_common_221 (by decide) h.1 ?_
    have h := h.2
    have h := h _ rfl
    refine am_istore (pc := 222) G dX10_common_222 (nlx hn rfl) rfl ?_
    refine am_iload (pc := 224) (ls := [(20, _), (0, _), (99, _), (0, _), (99, _), (0, _), (0, _), (0, _), (0, _), (0, _), (0, _), (0, _), (0, _), (99, _), (99, _), (99, _)]) G dX10_common_224 rfl ?_
    refine am_iconst (pc := 226) G dX10_common_226 (by decide) ?_
    refine am_iadd (pc := 227) G dX10_common_227 ?_
    refine am_istore (pc := 228) G dX10_common_228 (nlx hn rfl) rfl ?_
    refine am_iload (pc := 230) (ls := [(20, _), (0, _), (99, _), (0, _), (99, _), (0, _), (0, _), (0, _), (0, _), (0, _), (0, _), (0, _), (0, _), (0, _), (99, _), (99, _)]) G dX10_common_230 rfl ?_
    refine am_iconst (pc := 232) G dX10_common_232 (by decide) ?_
    refine am_iadd (pc := 233) G dX10_common_233 ?_
    refine am_istore (pc := 234) G dX10_common_234 (nlx hn rfl) rfl ?_
    refine am_iconst (pc := 236) (ls := [(20, _), (0, _), (99, _), (0, _), (99, _), (0, _), (0, _), (0, _), (0, _), (0, _), (0, _), (0, _), (0, _), (0, _), (0, _), (99, _)]) G dX10_common_236 (by decide) ?_
    refine am_istore (pc := 237) G dX10_common_237 (nlx hn rfl) rfl ?_
    refine am_le (ls' := [(20, _), (0, _), (99, 0), (0, _), (99, 0), (0, _), (0, _), (0, _), (0, _), (99, 0), (99, 0), (99, 0), (0, _), (0, _), (0, _), (0, _)]) ⟨Or.inr rfl, ⟨Or.inr rfl, ⟨Or.inl rfl, ⟨Or.inr rfl, ⟨Or.inl rfl, ⟨Or.inr rfl, ⟨Or.inr rfl, ⟨Or.inr rfl, ⟨Or.inr rfl, ⟨Or.inl rfl, ⟨Or.inl rfl, ⟨Or.inl rfl, ⟨Or.inr rfl, ⟨Or.inr rfl, ⟨Or.inr rfl, ⟨Or.inr rfl, trivial⟩⟩⟩⟩⟩⟩⟩⟩⟩⟩⟩⟩⟩⟩⟩⟩ ?_
    exact swp_X10_common_239 G Z hn hr _ _ _ _ _ _ _ _ _ _ _ B72 k72 h
def wp_X10_common_156 (V : VV) (x1 x3 x5 x6 x7 x8 x9 x10 : Int) (M : Mem) (Q : Int → Mem → Prop) (B72 : Int → Int → Int → Mem → Prop) : Prop :=
  wp_X10_common_157 V x1 x3 x5 x6 x7 x8 x9 x10 0 M Q B72
theorem swp_X10_common_156 {X : XX} {Q : Int → Mem → Prop} (G : GX X cX10_common "TreeHandsModel") (Z : RX X 0 Q) (hn : nLX X = 16) (hr : roomX X = rm_X10_common) (x1 x3 x5 x6 x7 x8 x9 x10 : Int) (M : Mem) (B72 : Int → Int → Int → Mem → Prop) (k72 : ∀ (z6 z7 z8 : Int) (N : Mem), B72 z6 z7 z8 N → AW X 72 [(20, 203), (0, x1), (99, 0), (0, x3), (99, 0), (0, x5), (0, z6), (0, z7), (0, z8), (99, 0), (99, 0), (99, 0), (99, 0), (99, 0), (99, 0), (99, 0)] [] N) (h : wp_X10_common_156 (vX X) x1 x3 x5 x6 x7 x8 x9 x10 M Q B72) : AW X 156 [(20, 203), (0, x1), (99, 0), (0, x3), (99, 0), (0, x5), (0, x6), (0, x7), (0, x8), (0, x9), (0, x10), (99, 0), (99, 0), (99, 0), (99, 0), (99, 0)] [] M := by
  unfold wp_X10_common_156 at h
  refine am_iconst (pc := 156) G dX10_common_156 (by decide) ?_
  refine am_le (ls' := [(20, _), (0, _), (99, 0), (0, _), (99, 0), (0, _), (0, _), (0, _), (0, _), (0, _), (0, _), (99, 0), (99, 0), (99, 0), (99, 0), (99, 0)]) ⟨Or.inr rfl, ⟨Or.inr rfl, ⟨Or.inl rfl, ⟨Or.inr rfl, ⟨Or.inl rfl, ⟨Or.inr rfl, ⟨Or.inr rfl, ⟨Or.inr rfl, ⟨Or.inr rfl, ⟨Or.inr rfl, ⟨Or.inr rfl, ⟨Or.inl rfl, ⟨Or.inl rfl, ⟨Or.inl rfl, ⟨Or.inl rfl, ⟨Or.inl rfl, trivial⟩⟩⟩⟩⟩⟩⟩⟩⟩⟩⟩⟩⟩⟩⟩⟩ ?_
  exact swp_X10_common_157 G Z hn hr _ _ _ _ _ _ _ _ _ _ B72 k72 h
def wp_X10_common_72_b (V : VV) (x1 x3 x5 x6 x7 x8 : Int) (M : Mem) (Q : Int → Mem → Prop) (B72 : Int → Int → Int → Mem → Prop) : Prop :=
  (x8 ≤ 0 →
    (x6 ≤ 8 →
      R_X10_copy V 18 0 x7 x5 M (fun _ M13 =>
      Q x6 M13)) ∧ (¬ (x6 ≤ 8) →
      Q (-5) M)) ∧ (¬ (x8 ≤ 0) →
    ((0 : Int) ≤ w32 (x8 + (-1)) ∧ w32 (x8 + (-1)) < (64 : Int)) ∧
    ∀ v14 : Int, v14 = M 224 (w32 (x8 + (-1))) →
    ((0 : Int) ≤ w32 (x8 + (-1)) ∧ w32 (x8 + (-1)) < (64 : Int)) ∧
    ∀ v15 : Int, v15 = M 225 (w32 (x8 + (-1))) →
    ((0 : Int) ≤ w32 (w32 (32 * x1) + v14) ∧ w32 (w32 (32 * x1) + v14) < (672 : Int)) ∧
    ((0 : Int) ≤ w32 (w32 (32 * x3) + v15) ∧ w32 (w32 (32 * x3) + v15) < (672 : Int)) ∧
    (M 205 (w32 (w32 (32 * x1) + v14)) = M 205 (w32 (w32 (32 * x3) + v15)) →
      ((0 : Int) ≤ w32 (w32 (32 * x1) + v14) ∧ w32 (w32 (32 * x1) + v14) < (672 : Int)) ∧
      ((0 : Int) ≤ w32 (w32 (32 * x3) + v15) ∧ w32 (w32 (32 * x3) + v15) < (672 : Int)) ∧
      (M 206 (w32 (w32 (32 * x1) + v14)) = M 206 (w32 (w32 (32 * x3) + v15)) →
        wp_X10_common_157 V x1 x3 x5 x6 x7 (w32 (x8 + (-1))) v14 v15 1 M Q B72) ∧ (¬ (M 206 (w32 (w32 (32 * x1) + v14)) = M 206 (w32 (w32 (32 * x3) + v15))) →
        wp_X10_common_156 V x1 x3 x5 x6 x7 (w32 (x8 + (-1))) v14 v15 M Q B72)) ∧ (¬ (M 205 (w32 (w32 (32 * x1) + v14)) = M 205 (w32 (w32 (32 * x3) + v15))) →
      wp_X10_common_156 V x1 x3 x5 x6 x7 (w32 (x8 + (-1))) v14 v15 M Q B72))
theorem swp_X10_common_72_b {X : XX} {Q : Int → Mem → Prop} (G : GX X cX10_common "TreeHandsModel") (Z : RX X 0 Q) (hn : nLX X = 16) (hr : roomX X = rm_X10_common) (x1 x3 x5 x6 x7 x8 : Int) (M : Mem) (B72 : Int → Int → Int → Mem → Prop) (k72 : ∀ (z6 z7 z8 : Int) (N : Mem), B72 z6 z7 z8 N → AW X 72 [(20, 203), (0, x1), (99, 0), (0, x3), (99, 0), (0, x5), (0, z6), (0, z7), (0, z8), (99, 0), (99, 0), (99, 0), (99, 0), (99, 0), (99, 0), (99, 0)] [] N) (h : wp_X10_common_72_b (vX X) x1 x3 x5 x6 x7 x8 M Q B72) : AW X 72 [(20, 203), (0, x1), (99, 0), (0, x3), (99, 0), (0, x5), (0, x6), (0, x7), (0, x8), (99, 0), (99, 0), (99, 0), (99, 0), (99, 0), (99, 0), (99, 0)] [] M := by
  unfold wp_X10_common_72_b at h
  refine am_iload (pc := 72) G dX10_common_72 rfl ?_
  refine am_if_le (pc := 74) G 434 dX10_common_74 (by decide) (fun c => ?_) (fun c => ?_)
  · have h := h.1 c
    refine am_iload (pc := 434) G dX10_common_434 rfl ?_
    refine am_bipush (pc := 436) G dX10_common_436 (by decide) (by decide) ?_
    refine am_icmp_le (pc := 438) G 444 dX10_common_438 (by decide) (fun c => ?_) (fun c => ?_)
    · have h := h.1 c
      refine am_aload_n (i := 0) (t := 17) (pc := 444) G dX10_common_444 rfl rfl rfl ?_
      refine am_bipush (pc := 445) G dX10_common_445 (by decide) (by decide) ?_
      refine am_iconst (pc := 447) G dX10_common_447 (by decide) ?_
      refine am_iload (pc := 448) G dX10_common_448 rfl ?_
      refine am_iload (pc := 450) G dX10_common_450 rfl ?_
      refine am_callV (rk := 4) (rmc := rm_X10_copy) (st := []) (pc := 452) G 10 [(0, _), (0, _), (0, _), (0, _)] rfl (by decide) rfl dX10_common_452 tw_m_RX10_149 tw_i_X10_copy tw_v_X10_copy tw_z_RX10 tw_c_X10_copy hy_X10_copy (callrm hr rfl) rfl (RunsM.mono h (fun r12 M13 h => ?_)) Z.rm
      show AW X 455 _ [] M13
      refine am_iload (pc := 455) G dX10_common_455 rfl ?_
      exact am_iret (pc := 457) G Z dX10_common_457 h
    · have h := h.2 c
      refine am_bipush (pc := 441) G dX10_common_441 (by decide) (by decide) ?_
      exact am_iret (pc := 443) G Z dX10_common_443 h
  · have h := h.2 c
    refine am_iinc (pc := 77) G dX10_common_77 rfl (nlx hn rfl) rfl ?_
    refine am_aload_n (i := 0) (t := 17) (pc := 80) (ls := [(20, _), (0, _), (99, _), (0, _), (99, _), (0, _), (0, _), (0, _), (0, _), (99, _), (99, _), (99, _), (99, _), (99, _), (99, _), (99, _)]) G dX10_common_80 rfl rfl rfl ?_
    refine gf_X10_28 (pc := 81) G dX10_common_81 tw_f_RX10_70 ?_
    refine am_iload (pc := 84) G dX10_common_84 rfl ?_
    refine am_iald (pc := 86) G 64 dX10_common_86 (by decide) h.1 ?_
    have h := h.2
    have h := h _ rfl
    refine am_istore (pc := 87) G dX10_common_87 (nlx hn rfl) rfl ?_
    refine am_aload_n (i := 0) (t := 17) (pc := 89) (ls := [(20, _), (0, _), (99, _), (0, _), (99, _), (0, _), (0, _), (0, _), (0, _), (0, _), (99, _), (99, _), (99, _), (99, _), (99, _), (99, _)]) G dX10_common_89 rfl rfl rfl ?_
    refine gf_X10_29 (pc := 90) G dX10_common_90 tw_f_RX10_73 ?_
    refine am_iload (pc := 93) G dX10_common_93 rfl ?_
    refine am_iald (pc := 95) G 64 dX10_common_95 (by decide) h.1 ?_
    have h := h.2
    have h := h _ rfl
    refine am_istore (pc := 96) G dX10_common_96 (nlx hn rfl) rfl ?_
    refine am_aload_n (i := 0) (t := 17) (pc := 98) (ls := [(20, _), (0, _), (99, _), (0, _), (99, _), (0, _), (0, _), (0, _), (0, _), (0, _), (0, _), (99, _), (99, _), (99, _), (99, _), (99, _)]) G dX10_common_98 rfl rfl rfl ?_
    refine gf_X10_1 (pc := 99) G dX10_common_99 tw_f_RX10_13 ?_
    refine am_bipush (pc := 102) G dX10_common_102 (by decide) (by decide) ?_
    refine am_iload_n (i := 1) (pc := 104) G dX10_common_104 rfl rfl ?_
    refine am_imul (pc := 105) G dX10_common_105 ?_
    refine am_iload (pc := 106) G dX10_common_106 rfl ?_
    refine am_iadd (pc := 108) G dX10_common_108 ?_
    refine am_iald (pc := 109) G 672 dX10_common_109 (by decide) h.1 ?_
    have h := h.2
    refine am_aload_n (i := 0) (t := 17) (pc := 110) G dX10_common_110 rfl rfl rfl ?_
    refine gf_X10_1 (pc := 111) G dX10_common_111 tw_f_RX10_13 ?_
    refine am_bipush (pc := 114) G dX10_common_114 (by decide) (by decide) ?_
    refine am_iload_n (i := 3) (pc := 116) G dX10_common_116 rfl rfl ?_
    refine am_imul (pc := 117) G dX10_common_117 ?_
    refine am_iload (pc := 118) G dX10_common_118 rfl ?_
    refine am_iadd (pc := 120) G dX10_common_120 ?_
    refine am_iald (pc := 121) G 672 dX10_common_121 (by decide) h.1 ?_
    have h := h.2
    refine am_icmp_ne (pc := 122) G 156 dX10_common_122 (by decide) (fun c => ?_) (fun c => ?_)
    · have h := h.2 c
      refine am_le (ls' := [(20, _), (0, _), (99, 0), (0, _), (99, 0), (0, _), (0, _), (0, _), (0, _), (0, _), (0, _), (99, 0), (99, 0), (99, 0), (99, 0), (99, 0)]) ⟨Or.inr rfl, ⟨Or.inr rfl, ⟨Or.inl rfl, ⟨Or.inr rfl, ⟨Or.inl rfl, ⟨Or.inr rfl, ⟨Or.inr rfl, ⟨Or.inr rfl, ⟨Or.inr rfl, ⟨Or.inr rfl, ⟨Or.inr rfl, ⟨Or.inl rfl, ⟨Or.inl rfl, ⟨Or.inl rfl, ⟨Or.inl rfl, ⟨Or.inl rfl, trivial⟩⟩⟩⟩⟩⟩⟩⟩⟩⟩⟩⟩⟩⟩⟩⟩ ?_
      exact swp_X10_common_156 G Z hn hr _ _ _ _ _ _ _ _ _ B72 k72 h
    · have h := h.1 c
      refine am_aload_n (i := 0) (t := 17) (pc := 125) G dX10_common_125 rfl rfl rfl ?_
      refine gf_X10_2 (pc := 126) G dX10_common_126 tw_f_RX10_16 ?_
      refine am_bipush (pc := 129) G dX10_common_129 (by decide) (by decide) ?_
      refine am_iload_n (i := 1) (pc := 131) G dX10_common_131 rfl rfl ?_
      refine am_imul (pc := 132) G dX10_common_132 ?_
      refine am_iload (pc := 133) G dX10_common_133 rfl ?_
      refine am_iadd (pc := 135) G dX10_common_135 ?_
      refine am_iald (pc := 136) G 672 dX10_common_136 (by decide) h.1 ?_
      have h := h.2
      refine am_aload_n (i := 0) (t := 17) (pc := 137) G dX10_common_137 rfl rfl rfl ?_
      refine gf_X10_2 (pc := 138) G dX10_common_138 tw_f_RX10_16 ?_
      refine am_bipush (pc := 141) G dX10_common_141 (by decide) (by decide) ?_
      refine am_iload_n (i := 3) (pc := 143) G dX10_common_143 rfl rfl ?_
      refine am_imul (pc := 144) G dX10_common_144 ?_
      refine am_iload (pc := 145) G dX10_common_145 rfl ?_
      refine am_iadd (pc := 147) G dX10_common_147 ?_
      refine am_iald (pc := 148) G 672 dX10_common_148 (by decide) h.1 ?_
      have h := h.2
      refine am_icmp_ne (pc := 149) G 156 dX10_common_149 (by decide) (fun c => ?_) (fun c => ?_)
      · have h := h.2 c
        refine am_le (ls' := [(20, _), (0, _), (99, 0), (0, _), (99, 0), (0, _), (0, _), (0, _), (0, _), (0, _), (0, _), (99, 0), (99, 0), (99, 0), (99, 0), (99, 0)]) ⟨Or.inr rfl, ⟨Or.inr rfl, ⟨Or.inl rfl, ⟨Or.inr rfl, ⟨Or.inl rfl, ⟨Or.inr rfl, ⟨Or.inr rfl, ⟨Or.inr rfl, ⟨Or.inr rfl, ⟨Or.inr rfl, ⟨Or.inr rfl, ⟨Or.inl rfl, ⟨Or.inl rfl, ⟨Or.inl rfl, ⟨Or.inl rfl, ⟨Or.inl rfl, trivial⟩⟩⟩⟩⟩⟩⟩⟩⟩⟩⟩⟩⟩⟩⟩⟩ ?_
        exact swp_X10_common_156 G Z hn hr _ _ _ _ _ _ _ _ _ B72 k72 h
      · have h := h.1 c
        refine am_iconst (pc := 152) G dX10_common_152 (by decide) ?_
        refine am_goto (pc := 153) G 157 dX10_common_153 (by decide) ?_
        refine am_le (ls' := [(20, _), (0, _), (99, 0), (0, _), (99, 0), (0, _), (0, _), (0, _), (0, _), (0, _), (0, _), (99, 0), (99, 0), (99, 0), (99, 0), (99, 0)]) ⟨Or.inr rfl, ⟨Or.inr rfl, ⟨Or.inl rfl, ⟨Or.inr rfl, ⟨Or.inl rfl, ⟨Or.inr rfl, ⟨Or.inr rfl, ⟨Or.inr rfl, ⟨Or.inr rfl, ⟨Or.inr rfl, ⟨Or.inr rfl, ⟨Or.inl rfl, ⟨Or.inl rfl, ⟨Or.inl rfl, ⟨Or.inl rfl, ⟨Or.inl rfl, trivial⟩⟩⟩⟩⟩⟩⟩⟩⟩⟩⟩⟩⟩⟩⟩⟩ ?_
        exact swp_X10_common_157 G Z hn hr _ _ _ _ _ _ _ _ _ _ B72 k72 h
def wp_X10_common_72 (V : VV) (x1 x3 x5 x6 x7 x8 : Int) (M : Mem) (Q : Int → Mem → Prop) : Prop :=
  ∃ (I : Int → Int → Int → Mem → Prop) (μ : Int → Int → Int → Mem → Nat), I x6 x7 x8 M ∧ ∀ (y6 y7 y8 : Int) (N : Mem), I y6 y7 y8 N → wp_X10_common_72_b V x1 x3 x5 y6 y7 y8 N Q (fun z6 z7 z8 N1 => I z6 z7 z8 N1 ∧ μ z6 z7 z8 N1 < μ y6 y7 y8 N)
theorem swp_X10_common_72 {X : XX} {Q : Int → Mem → Prop} (G : GX X cX10_common "TreeHandsModel") (Z : RX X 0 Q) (hn : nLX X = 16) (hr : roomX X = rm_X10_common) (x1 x3 x5 x6 x7 x8 : Int) (M : Mem) (h : wp_X10_common_72 (vX X) x1 x3 x5 x6 x7 x8 M Q) : AW X 72 [(20, 203), (0, x1), (99, 0), (0, x3), (99, 0), (0, x5), (0, x6), (0, x7), (0, x8), (99, 0), (99, 0), (99, 0), (99, 0), (99, 0), (99, 0), (99, 0)] [] M := by
  unfold wp_X10_common_72 at h
  obtain ⟨I, μ, hI, hs⟩ := h
  have key : ∀ (n : Nat) (y6 y7 y8 : Int) (N : Mem), μ y6 y7 y8 N < n → I y6 y7 y8 N → AW X 72 [(20, 203), (0, x1), (99, 0), (0, x3), (99, 0), (0, x5), (0, y6), (0, y7), (0, y8), (99, 0), (99, 0), (99, 0), (99, 0), (99, 0), (99, 0), (99, 0)] [] N := by
    intro n
    induction n with
    | zero => intro y6 y7 y8 N hlt; exact absurd hlt (Nat.not_lt_zero _)
    | succ n ih =>
      intro y6 y7 y8 N hlt hI
      exact swp_X10_common_72_b G Z hn hr x1 x3 x5 y6 y7 y8 N (fun z6 z7 z8 N1 => I z6 z7 z8 N1 ∧ μ z6 z7 z8 N1 < μ y6 y7 y8 N) (fun z6 z7 z8 N1 hz => ih z6 z7 z8 N1 (by omega) hz.1) (hs y6 y7 y8 N hI)
  exact key _ x6 x7 x8 M (Nat.lt_succ_self _) hI
def wp_X10_common (V : VV) (x1 x2 x3 x4 x5 : Int) (M : Mem) (Q : Int → Mem → Prop) : Prop :=
  R_X10_isNode V x1 x2 M (fun r1 M2 =>
  (r1 = 0 →
    Q (-1) M2) ∧ (¬ (r1 = 0) →
    R_X10_isNode V x3 x4 M2 (fun r3 M4 =>
    (r3 = 0 →
      Q (-1) M4) ∧ (¬ (r3 = 0) →
      R_X10_isTree V x5 M4 (fun r5 M6 =>
      (r5 = 0 →
        Q (-1) M6) ∧ (¬ (r5 = 0) →
        R_X10_isPlain V x1 M6 (fun r7 M8 =>
        (r7 = 0 →
          Q (-3) M8) ∧ (¬ (r7 = 0) →
          R_X10_isPlain V x3 M8 (fun r9 M10 =>
          (r9 = 0 →
            Q (-3) M10) ∧ (¬ (r9 = 0) →
            ((0 : Int) ≤ 0 ∧ 0 < (64 : Int)) ∧
            ∀ M11 : Mem, M11 = mset M10 224 0 x2 →
            ((0 : Int) ≤ 0 ∧ 0 < (64 : Int)) ∧
            wp_X10_common_72 V x1 x3 x5 0 0 1 (mset M11 225 0 x4) Q))))))))))
theorem of_X10_common {V : VV} {x1 x2 x3 x4 x5 : Int} {M : Mem} {Q : Int → Mem → Prop} (h : wp_X10_common V x1 x2 x3 x4 x5 M Q) : R_X10_common V x1 x2 x3 x4 x5 M Q := by
  refine met_in (own := "TreeHandsModel") (by decide +kernel) rfl rfl (Nat.le_of_ble_eq_true rfl) ?_
  intro X G Z hn hr hv
  subst hv
  unfold wp_X10_common at h
  show AW X 0 [(20, 203), (0, x1), (0, x2), (0, x3), (0, x4), (0, x5), (99, 0), (99, 0), (99, 0), (99, 0), (99, 0), (99, 0), (99, 0), (99, 0), (99, 0), (99, 0)] [] M
  refine am_aload_n (i := 0) (t := 17) (pc := 0) G dX10_common_0 rfl rfl rfl ?_
  refine am_iload_n (i := 1) (pc := 1) G dX10_common_1 rfl rfl ?_
  refine am_iload_n (i := 2) (pc := 2) G dX10_common_2 rfl rfl ?_
  refine am_callV (rk := 1) (rmc := rm_X10_isNode) (st := []) (pc := 3) G 10 [(0, _), (0, _)] rfl (by decide) rfl dX10_common_3 tw_m_RX10_132 tw_i_X10_isNode tw_v_X10_isNode tw_z_RX10 tw_c_X10_isNode hy_X10_isNode (callrm hr rfl) rfl (RunsM.mono h (fun r1 M2 h => ?_)) Z.rm
  show AW X 6 _ [(0, _)] M2
  refine am_if_eq (pc := 6) G 27 dX10_common_6 (by decide) (fun c => ?_) (fun c => ?_)
  · have h := h.1 c
    refine am_iconst (pc := 27) G dX10_common_27 (by decide) ?_
    exact am_iret (pc := 28) G Z dX10_common_28 h
  · have h := h.2 c
    refine am_aload_n (i := 0) (t := 17) (pc := 9) G dX10_common_9 rfl rfl rfl ?_
    refine am_iload_n (i := 3) (pc := 10) G dX10_common_10 rfl rfl ?_
    refine am_iload (pc := 11) G dX10_common_11 rfl ?_
    refine am_callV (rk := 1) (rmc := rm_X10_isNode) (st := []) (pc := 13) G 10 [(0, _), (0, _)] rfl (by decide) rfl dX10_common_13 tw_m_RX10_132 tw_i_X10_isNode tw_v_X10_isNode tw_z_RX10 tw_c_X10_isNode hy_X10_isNode (callrm hr rfl) rfl (RunsM.mono h (fun r3 M4 h => ?_)) Z.rm
    show AW X 16 _ [(0, _)] M4
    refine am_if_eq (pc := 16) G 27 dX10_common_16 (by decide) (fun c => ?_) (fun c => ?_)
    · have h := h.1 c
      refine am_iconst (pc := 27) G dX10_common_27 (by decide) ?_
      exact am_iret (pc := 28) G Z dX10_common_28 h
    · have h := h.2 c
      refine am_iload (pc := 19) G dX10_common_19 rfl ?_
      refine am_callS (rk := 1) (rmc := rm_X10_isTree) (st := []) (pc := 21) G [(0, _)] dX10_common_21 tw_m_RX10_114 tw_s_X10_isTree tw_z_RX10 tw_c_X10_isTree hy_X10_isTree (callrm hr rfl) rfl (RunsM.mono h (fun r5 M6 h => ?_)) Z.rm
      show AW X 24 _ [(0, _)] M6
      refine am_if_ne (pc := 24) G 29 dX10_common_24 (by decide) (fun c => ?_) (fun c => ?_)
      · have h := h.2 c
        refine am_aload_n (i := 0) (t := 17) (pc := 29) G dX10_common_29 rfl rfl rfl ?_
        refine am_iload_n (i := 1) (pc := 30) G dX10_common_30 rfl rfl ?_
        refine am_callV (rk := 1) (rmc := rm_X10_isPlain) (st := []) (pc := 31) G 10 [(0, _)] rfl (by decide) rfl dX10_common_31 tw_m_RX10_205 tw_i_X10_isPlain tw_v_X10_isPlain tw_z_RX10 tw_c_X10_isPlain hy_X10_isPlain (callrm hr rfl) rfl (RunsM.mono h (fun r7 M8 h => ?_)) Z.rm
        show AW X 34 _ [(0, _)] M8
        refine am_if_eq (pc := 34) G 45 dX10_common_34 (by decide) (fun c => ?_) (fun c => ?_)
        · have h := h.1 c
          refine am_bipush (pc := 45) G dX10_common_45 (by decide) (by decide) ?_
          exact am_iret (pc := 47) G Z dX10_common_47 h
        · have h := h.2 c
          refine am_aload_n (i := 0) (t := 17) (pc := 37) G dX10_common_37 rfl rfl rfl ?_
          refine am_iload_n (i := 3) (pc := 38) G dX10_common_38 rfl rfl ?_
          refine am_callV (rk := 1) (rmc := rm_X10_isPlain) (st := []) (pc := 39) G 10 [(0, _)] rfl (by decide) rfl dX10_common_39 tw_m_RX10_205 tw_i_X10_isPlain tw_v_X10_isPlain tw_z_RX10 tw_c_X10_isPlain hy_X10_isPlain (callrm hr rfl) rfl (RunsM.mono h (fun r9 M10 h => ?_)) Z.rm
          show AW X 42 _ [(0, _)] M10
          refine am_if_ne (pc := 42) G 48 dX10_common_42 (by decide) (fun c => ?_) (fun c => ?_)
          · have h := h.2 c
            refine am_iconst (pc := 48) G dX10_common_48 (by decide) ?_
            refine am_istore (pc := 49) G dX10_common_49 (nlx hn rfl) rfl ?_
            refine am_iconst (pc := 51) (ls := [(20, _), (0, _), (0, _), (0, _), (0, _), (0, _), (0, _), (99, _), (99, _), (99, _), (99, _), (99, _), (99, _), (99, _), (99, _), (99, _)]) G dX10_common_51 (by decide) ?_
            refine am_istore (pc := 52) G dX10_common_52 (nlx hn rfl) rfl ?_
            refine am_iconst (pc := 54) (ls := [(20, _), (0, _), (0, _), (0, _), (0, _), (0, _), (0, _), (0, _), (99, _), (99, _), (99, _), (99, _), (99, _), (99, _), (99, _), (99, _)]) G dX10_common_54 (by decide) ?_
            refine am_istore (pc := 55) G dX10_common_55 (nlx hn rfl) rfl ?_
            refine am_aload_n (i := 0) (t := 17) (pc := 57) (ls := [(20, _), (0, _), (0, _), (0, _), (0, _), (0, _), (0, _), (0, _), (0, _), (99, _), (99, _), (99, _), (99, _), (99, _), (99, _), (99, _)]) G dX10_common_57 rfl rfl rfl ?_
            refine gf_X10_28 (pc := 58) G dX10_common_58 tw_f_RX10_70 ?_
            refine am_iconst (pc := 61) G dX10_common_61 (by decide) ?_
            refine am_iload_n (i := 2) (pc := 62) G dX10_common_62 rfl rfl ?_
            refine am_iast (pc := 63) G 64 dX10_common_63 (by decide) h.1 ?_
            have h := h.2
            refine am_aload_n (i := 0) (t := 17) (pc := 64) G dX10_common_64 rfl rfl rfl ?_
            refine gf_X10_29 (pc := 65) G dX10_common_65 tw_f_RX10_73 ?_
            refine am_iconst (pc := 68) G dX10_common_68 (by decide) ?_
            refine am_iload (pc := 69) G dX10_common_69 rfl ?_
            have h := h _ rfl
            refine am_iast (pc := 71) G 64 dX10_common_71 (by decide) h.1 ?_
            have h := h.2
            refine am_le (ls' := [(20, _), (0, _), (99, 0), (0, _), (99, 0), (0, _), (0, _), (0, _), (0, _), (99, 0), (99, 0), (99, 0), (99, 0), (99, 0), (99, 0), (99, 0)]) ⟨Or.inr rfl, ⟨Or.inr rfl, ⟨Or.inl rfl, ⟨Or.inr rfl, ⟨Or.inl rfl, ⟨Or.inr rfl, ⟨Or.inr rfl, ⟨Or.inr rfl, ⟨Or.inr rfl, ⟨Or.inl rfl, ⟨Or.inl rfl, ⟨Or.inl rfl, ⟨Or.inl rfl, ⟨Or.inl rfl, ⟨Or.inl rfl, ⟨Or.inl rfl, trivial⟩⟩⟩⟩⟩⟩⟩⟩⟩⟩⟩⟩⟩⟩⟩⟩ ?_
            exact swp_X10_common_72 G Z hn hr _ _ _ _ _ _ _ h
          · have h := h.1 c
            refine am_bipush (pc := 45) G dX10_common_45 (by decide) (by decide) ?_
            exact am_iret (pc := 47) G Z dX10_common_47 h
      · have h := h.1 c
        refine am_iconst (pc := 27) G dX10_common_27 (by decide) ?_
        exact am_iret (pc := 28) G Z dX10_common_28 h
