/-! ===== the methods as functions, each with its proof: made by program (gen_fun.py) ===== -/
/-! ## TableColumnBalancerLaw.law -/
abbrev mM_L_law : Mi := (24, yL_law.cls, cL_law, 8, (Option.some Jvm.ClassFile.FieldType.boolean), [], false)
noncomputable def f_L_law_L2775 (xs : Nat → Int32) (xn : Nat) (k23 : Hp → Nat → Nat → Nat → Int32 → Option (Rs Int32)) (h : Hp) (a1 : Nat) (a2 : Nat) (a3 : Nat) (i4 : Int32) : Option (Rs Int32) :=
  k23 h a1 a2 a3 (i4 + iN 5)
theorem p_L_law_L2775 {l : Launch} {K : Ctx} (hl : l.stackTraces = false) {k23 : Hp → Nat → Nat → Nat → Int32 → Option (Rs Int32)} (hk23 : ∀ (h : Hp) (a1 : Nat) (a2 : Nat) (a3 : Nat) (i4 : Int32) (t : Rs Int32), k23 h a1 a2 a3 i4 = some t → X l K mM_L_law (tgI t) 23 [(0, .ref 2000000), (1, .ref a1), (2, .ref a2), (3, .ref a3), (4, .int i4)] [] h) {h : Hp} {a1 : Nat} {a2 : Nat} {a3 : Nat} {i4 : Int32} {t : Rs Int32} (e : f_L_law_L2775 (kXs K) (kLn K) k23 h a1 a2 a3 i4 = some t) : X l K mM_L_law (tgI t) 2775 [(0, .ref 2000000), (1, .ref a1), (2, .ref a2), (3, .ref a3), (4, .int i4)] [] h := by
  unfold f_L_law_L2775 at e
  refine x_iinc (pc := 2775) 4 dL_law_2775 rfl (by decide) rfl ?_
  refine x_goto (pc := 2778) (t := 23) dL_law_2778 (by decide) ?_
  exact x_sub1 (hk23 _ _ _ _ _ _ e) [1, 2, 3, 4, 0] rfl
noncomputable def f_L_law_L277 (xs : Nat → Int32) (xn : Nat) (k23 : Hp → Nat → Nat → Nat → Int32 → Option (Rs Int32)) (h : Hp) (a1 : Nat) (a2 : Nat) (a3 : Nat) (i4 : Int32) : Option (Rs Int32) :=
  f_L_law_L2775 xs xn k23 h a1 a2 a3 i4
theorem p_L_law_L277 {l : Launch} {K : Ctx} (hl : l.stackTraces = false) {k23 : Hp → Nat → Nat → Nat → Int32 → Option (Rs Int32)} (hk23 : ∀ (h : Hp) (a1 : Nat) (a2 : Nat) (a3 : Nat) (i4 : Int32) (t : Rs Int32), k23 h a1 a2 a3 i4 = some t → X l K mM_L_law (tgI t) 23 [(0, .ref 2000000), (1, .ref a1), (2, .ref a2), (3, .ref a3), (4, .int i4)] [] h) {h : Hp} {a1 : Nat} {a2 : Nat} {a3 : Nat} {i4 : Int32} {t : Rs Int32} (e : f_L_law_L277 (kXs K) (kLn K) k23 h a1 a2 a3 i4 = some t) : X l K mM_L_law (tgI t) 277 [(0, .ref 2000000), (1, .ref a1), (2, .ref a2), (3, .ref a3), (4, .int i4)] [] h := by
  unfold f_L_law_L277 at e
  refine x_goto (pc := 277) (t := 2775) dL_law_277 (by decide) ?_
  exact p_L_law_L2775 hl hk23 e
noncomputable def f_L_law_L224 (xs : Nat → Int32) (xn : Nat) (k23 : Hp → Nat → Nat → Nat → Int32 → Option (Rs Int32)) (h : Hp) (a1 : Nat) (a2 : Nat) (a3 : Nat) (i4 : Int32) : Option (Rs Int32) :=
  chk (vp_in (i4 + (iN 1)) xn) <|
  bnd (f_L_setColumns h a1 (xs (Int32.toNatClampNeg (i4 + (iN 1)))) a3) fun h2 r3 =>
  chk (vp_in (i4 + (iN 1)) xn) <|
  chk (okr h2 a2 9) <|
  bnd (f_X9_setColumns h2 a2 (xs (Int32.toNatClampNeg (i4 + (iN 1))))) fun h6 r7 =>
  chk (okr h6 a2 9) <|
  bnd (f_X9_thrown h6 a2) fun h9 r10 =>
  if r10 = r3 then (
    if r3 = 0 then (
      chk (okr h9 a3 21) <|
      chk (vp_in (iN 0) (qW h9 a3)) <|
      if (lg_cmp (qL h9 a3 (Int32.toNatClampNeg (iN 0))) (Int32.toInt64 r7)) = 0 then (
        f_L_law_L277 xs xn k23 h9 a1 a2 a3 i4
      ) else (
        some (h9, .inr (iN 0))
      )
    ) else (
      f_L_law_L277 xs xn k23 h9 a1 a2 a3 i4
    )
  ) else (
    some (h9, .inr (iN 0))
  )
theorem p_L_law_L224 {l : Launch} {K : Ctx} (hl : l.stackTraces = false) {k23 : Hp → Nat → Nat → Nat → Int32 → Option (Rs Int32)} (hk23 : ∀ (h : Hp) (a1 : Nat) (a2 : Nat) (a3 : Nat) (i4 : Int32) (t : Rs Int32), k23 h a1 a2 a3 i4 = some t → X l K mM_L_law (tgI t) 23 [(0, .ref 2000000), (1, .ref a1), (2, .ref a2), (3, .ref a3), (4, .int i4)] [] h) {h : Hp} {a1 : Nat} {a2 : Nat} {a3 : Nat} {i4 : Int32} {t : Rs Int32} (e : f_L_law_L224 (kXs K) (kLn K) k23 h a1 a2 a3 i4 = some t) : X l K mM_L_law (tgI t) 224 [(0, .ref 2000000), (1, .ref a1), (2, .ref a2), (3, .ref a3), (4, .int i4)] [] h := by
  unfold f_L_law_L224 at e
  refine x_aload_n (pc := 224) 1 dL_law_224 rfl ?_
  refine x_aload_n (pc := 225) 0 dL_law_225 rfl ?_
  refine x_iload (pc := 226) 4 dL_law_226 rfl ?_
  refine x_iconst (pc := 228) dL_law_228 ?_
  refine x_iadd (pc := 229) dL_law_229 ?_
  obtain ⟨q1, e⟩ := chk_some e
  refine x_sld (pc := 230) dL_law_230 q1 ?_
  refine x_aload_n (pc := 231) 3 dL_law_231 rfl ?_
  rcases bnd_some e with ⟨h2, r3, ec, rfl⟩ | ⟨h2, r3, ec, e⟩
  · exact y_callX_x (pc := 232) (c_L_setColumns hl ec) mf_L_setColumns tw_3_74 tw_3_73 dL_law_232 (by decide) rfl rfl (leb rfl) (xx_out0 rfl)
  refine y_callX_i (pc := 232) (c_L_setColumns hl ec) mf_L_setColumns tw_3_74 tw_3_73 dL_law_232 (by decide) rfl rfl (leb rfl) ?_
  refine x_istore (pc := 235) dL_law_235 (by decide) rfl ?_
  refine x_aload_n (pc := 237) 3 dL_law_237 rfl ?_
  refine x_aload_n (pc := 238) 1 dL_law_238 rfl ?_
  refine x_iload (pc := 239) 5 dL_law_239 rfl ?_
  refine x_iconst (pc := 241) dL_law_241 ?_
  refine x_iadd (pc := 242) dL_law_242 ?_
  obtain ⟨q4, e⟩ := chk_some e
  refine x_sld (pc := 243) dL_law_243 q4 ?_
  obtain ⟨q5, e⟩ := chk_some e
  rcases bnd_some e with ⟨h6, r7, ec, rfl⟩ | ⟨h6, r7, ec, e⟩
  · exact y_callV_x (pc := 244) (c_X9_setColumns hl ec) q5 mf_X9_setColumns tw_7_16 tw_7_17 lf_L_154 rfl rfl dL_law_244 (by decide) rfl rfl (leb rfl) (xx_out0 rfl)
  refine y_callV_i (pc := 244) (c_X9_setColumns hl ec) q5 mf_X9_setColumns tw_7_16 tw_7_17 lf_L_154 rfl rfl dL_law_244 (by decide) rfl rfl (leb rfl) ?_
  refine x_istore (pc := 247) dL_law_247 (by decide) rfl ?_
  refine x_aload_n (pc := 249) 4 dL_law_249 rfl ?_
  obtain ⟨q8, e⟩ := chk_some e
  rcases bnd_some e with ⟨h9, r10, ec, rfl⟩ | ⟨h9, r10, ec, e⟩
  · exact y_callV_x (pc := 250) (c_X9_thrown hl ec) q8 mf_X9_thrown tw_7_12 tw_7_13 lf_L_155 rfl rfl dL_law_250 (by decide) rfl rfl (leb rfl) (xx_out0 rfl)
  refine y_callV_i (pc := 250) (c_X9_thrown hl ec) q8 mf_X9_thrown tw_7_12 tw_7_13 lf_L_155 rfl rfl dL_law_250 (by decide) rfl rfl (leb rfl) ?_
  refine x_iload (pc := 253) 1 dL_law_253 rfl ?_
  rcases ite_some e with ⟨q11, e⟩ | ⟨q11, e⟩
  · refine x_icmp_eq_t (pc := 255) (t := 260) dL_law_255 (by decide) q11 ?_
    refine x_iload (pc := 260) 1 dL_law_260 rfl ?_
    rcases ite_some e with ⟨q12, e⟩ | ⟨q12, e⟩
    · refine x_if_ne_f (pc := 262) (t := 277) dL_law_262 (by decide) q12 ?_
      refine x_aload_n (pc := 265) 5 dL_law_265 rfl ?_
      refine x_iconst (pc := 266) dL_law_266 ?_
      obtain ⟨q13, e⟩ := chk_some e
      obtain ⟨q14, e⟩ := chk_some e
      refine x_lald (pc := 267) dL_law_267 q13 q14 ?_
      refine x_iload (pc := 268) 0 dL_law_268 rfl ?_
      refine x_i2l (pc := 270) dL_law_270 ?_
      refine x_lcmp (pc := 271) dL_law_271 ?_
      rcases ite_some e with ⟨q15, e⟩ | ⟨q15, e⟩
      · refine x_if_eq_t (pc := 272) (t := 277) dL_law_272 (by decide) q15 ?_
        exact x_sub1 (p_L_law_L277 hl hk23 e) [2, 3, 4, 5, 6] rfl
      · refine x_if_eq_f (pc := 272) (t := 277) dL_law_272 (by decide) q15 ?_
        refine x_iconst (pc := 275) dL_law_275 ?_
        cases Option.some.inj e
        exact x_zret (pc := 276) rfl (Or.inl rfl) dL_law_276
    · refine x_if_ne_t (pc := 262) (t := 277) dL_law_262 (by decide) q12 ?_
      exact x_sub1 (p_L_law_L277 hl hk23 e) [2, 3, 4, 5, 6] rfl
  · refine x_icmp_eq_f (pc := 255) (t := 260) dL_law_255 (by decide) q11 ?_
    refine x_iconst (pc := 258) dL_law_258 ?_
    cases Option.some.inj e
    exact x_zret (pc := 259) rfl (Or.inl rfl) dL_law_259
noncomputable def f_L_law_L345 (xs : Nat → Int32) (xn : Nat) (k23 : Hp → Nat → Nat → Nat → Int32 → Option (Rs Int32)) (h : Hp) (a1 : Nat) (a2 : Nat) (a3 : Nat) (i4 : Int32) : Option (Rs Int32) :=
  f_L_law_L2775 xs xn k23 h a1 a2 a3 i4
theorem p_L_law_L345 {l : Launch} {K : Ctx} (hl : l.stackTraces = false) {k23 : Hp → Nat → Nat → Nat → Int32 → Option (Rs Int32)} (hk23 : ∀ (h : Hp) (a1 : Nat) (a2 : Nat) (a3 : Nat) (i4 : Int32) (t : Rs Int32), k23 h a1 a2 a3 i4 = some t → X l K mM_L_law (tgI t) 23 [(0, .ref 2000000), (1, .ref a1), (2, .ref a2), (3, .ref a3), (4, .int i4)] [] h) {h : Hp} {a1 : Nat} {a2 : Nat} {a3 : Nat} {i4 : Int32} {t : Rs Int32} (e : f_L_law_L345 (kXs K) (kLn K) k23 h a1 a2 a3 i4 = some t) : X l K mM_L_law (tgI t) 345 [(0, .ref 2000000), (1, .ref a1), (2, .ref a2), (3, .ref a3), (4, .int i4)] [] h := by
  unfold f_L_law_L345 at e
  refine x_goto (pc := 345) (t := 2775) dL_law_345 (by decide) ?_
  exact p_L_law_L2775 hl hk23 e
noncomputable def f_L_law_L280 (xs : Nat → Int32) (xn : Nat) (k23 : Hp → Nat → Nat → Nat → Int32 → Option (Rs Int32)) (h : Hp) (a1 : Nat) (a2 : Nat) (a3 : Nat) (i4 : Int32) : Option (Rs Int32) :=
  chk (vp_in (i4 + (iN 1)) xn) <|
  chk (vp_in (i4 + (iN 2)) xn) <|
  bnd (f_L_setMeasure h a1 (xs (Int32.toNatClampNeg (i4 + (iN 1)))) (xs (Int32.toNatClampNeg (i4 + (iN 2)))) a3) fun h3 r4 =>
  chk (vp_in (i4 + (iN 1)) xn) <|
  chk (vp_in (i4 + (iN 2)) xn) <|
  chk (okr h3 a2 9) <|
  bnd (f_X9_setMeasure h3 a2 (xs (Int32.toNatClampNeg (i4 + (iN 1)))) (xs (Int32.toNatClampNeg (i4 + (iN 2))))) fun h8 r9 =>
  chk (okr h8 a2 9) <|
  bnd (f_X9_thrown h8 a2) fun h11 r12 =>
  if r12 = r4 then (
    if r4 = 0 then (
      chk (okr h11 a3 21) <|
      chk (vp_in (iN 0) (qW h11 a3)) <|
      if (lg_cmp (qL h11 a3 (Int32.toNatClampNeg (iN 0))) (Int32.toInt64 r9)) = 0 then (
        f_L_law_L345 xs xn k23 h11 a1 a2 a3 i4
      ) else (
        some (h11, .inr (iN 0))
      )
    ) else (
      f_L_law_L345 xs xn k23 h11 a1 a2 a3 i4
    )
  ) else (
    some (h11, .inr (iN 0))
  )
theorem p_L_law_L280 {l : Launch} {K : Ctx} (hl : l.stackTraces = false) {k23 : Hp → Nat → Nat → Nat → Int32 → Option (Rs Int32)} (hk23 : ∀ (h : Hp) (a1 : Nat) (a2 : Nat) (a3 : Nat) (i4 : Int32) (t : Rs Int32), k23 h a1 a2 a3 i4 = some t → X l K mM_L_law (tgI t) 23 [(0, .ref 2000000), (1, .ref a1), (2, .ref a2), (3, .ref a3), (4, .int i4)] [] h) {h : Hp} {a1 : Nat} {a2 : Nat} {a3 : Nat} {i4 : Int32} {t : Rs Int32} (e : f_L_law_L280 (kXs K) (kLn K) k23 h a1 a2 a3 i4 = some t) : X l K mM_L_law (tgI t) 280 [(0, .ref 2000000), (1, .ref a1), (2, .ref a2), (3, .ref a3), (4, .int i4)] [] h := by
  unfold f_L_law_L280 at e
  refine x_aload_n (pc := 280) 1 dL_law_280 rfl ?_
  refine x_aload_n (pc := 281) 0 dL_law_281 rfl ?_
  refine x_iload (pc := 282) 4 dL_law_282 rfl ?_
  refine x_iconst (pc := 284) dL_law_284 ?_
  refine x_iadd (pc := 285) dL_law_285 ?_
  obtain ⟨q1, e⟩ := chk_some e
  refine x_sld (pc := 286) dL_law_286 q1 ?_
  refine x_aload_n (pc := 287) 0 dL_law_287 rfl ?_
  refine x_iload (pc := 288) 4 dL_law_288 rfl ?_
  refine x_iconst (pc := 290) dL_law_290 ?_
  refine x_iadd (pc := 291) dL_law_291 ?_
  obtain ⟨q2, e⟩ := chk_some e
  refine x_sld (pc := 292) dL_law_292 q2 ?_
  refine x_aload_n (pc := 293) 3 dL_law_293 rfl ?_
  rcases bnd_some e with ⟨h3, r4, ec, rfl⟩ | ⟨h3, r4, ec, e⟩
  · exact y_callX_x (pc := 294) (c_L_setMeasure hl ec) mf_L_setMeasure tw_3_185 tw_3_184 dL_law_294 (by decide) rfl rfl (leb rfl) (xx_out0 rfl)
  refine y_callX_i (pc := 294) (c_L_setMeasure hl ec) mf_L_setMeasure tw_3_185 tw_3_184 dL_law_294 (by decide) rfl rfl (leb rfl) ?_
  refine x_istore (pc := 297) dL_law_297 (by decide) rfl ?_
  refine x_aload_n (pc := 299) 3 dL_law_299 rfl ?_
  refine x_aload_n (pc := 300) 1 dL_law_300 rfl ?_
  refine x_iload (pc := 301) 5 dL_law_301 rfl ?_
  refine x_iconst (pc := 303) dL_law_303 ?_
  refine x_iadd (pc := 304) dL_law_304 ?_
  obtain ⟨q5, e⟩ := chk_some e
  refine x_sld (pc := 305) dL_law_305 q5 ?_
  refine x_aload_n (pc := 306) 1 dL_law_306 rfl ?_
  refine x_iload (pc := 307) 5 dL_law_307 rfl ?_
  refine x_iconst (pc := 309) dL_law_309 ?_
  refine x_iadd (pc := 310) dL_law_310 ?_
  obtain ⟨q6, e⟩ := chk_some e
  refine x_sld (pc := 311) dL_law_311 q6 ?_
  obtain ⟨q7, e⟩ := chk_some e
  rcases bnd_some e with ⟨h8, r9, ec, rfl⟩ | ⟨h8, r9, ec, e⟩
  · exact y_callV_x (pc := 312) (c_X9_setMeasure hl ec) q7 mf_X9_setMeasure tw_7_27 tw_7_28 lf_L_161 rfl rfl dL_law_312 (by decide) rfl rfl (leb rfl) (xx_out0 rfl)
  refine y_callV_i (pc := 312) (c_X9_setMeasure hl ec) q7 mf_X9_setMeasure tw_7_27 tw_7_28 lf_L_161 rfl rfl dL_law_312 (by decide) rfl rfl (leb rfl) ?_
  refine x_istore (pc := 315) dL_law_315 (by decide) rfl ?_
  refine x_aload_n (pc := 317) 4 dL_law_317 rfl ?_
  obtain ⟨q10, e⟩ := chk_some e
  rcases bnd_some e with ⟨h11, r12, ec, rfl⟩ | ⟨h11, r12, ec, e⟩
  · exact y_callV_x (pc := 318) (c_X9_thrown hl ec) q10 mf_X9_thrown tw_7_12 tw_7_13 lf_L_155 rfl rfl dL_law_318 (by decide) rfl rfl (leb rfl) (xx_out0 rfl)
  refine y_callV_i (pc := 318) (c_X9_thrown hl ec) q10 mf_X9_thrown tw_7_12 tw_7_13 lf_L_155 rfl rfl dL_law_318 (by decide) rfl rfl (leb rfl) ?_
  refine x_iload (pc := 321) 1 dL_law_321 rfl ?_
  rcases ite_some e with ⟨q13, e⟩ | ⟨q13, e⟩
  · refine x_icmp_eq_t (pc := 323) (t := 328) dL_law_323 (by decide) q13 ?_
    refine x_iload (pc := 328) 1 dL_law_328 rfl ?_
    rcases ite_some e with ⟨q14, e⟩ | ⟨q14, e⟩
    · refine x_if_ne_f (pc := 330) (t := 345) dL_law_330 (by decide) q14 ?_
      refine x_aload_n (pc := 333) 5 dL_law_333 rfl ?_
      refine x_iconst (pc := 334) dL_law_334 ?_
      obtain ⟨q15, e⟩ := chk_some e
      obtain ⟨q16, e⟩ := chk_some e
      refine x_lald (pc := 335) dL_law_335 q15 q16 ?_
      refine x_iload (pc := 336) 0 dL_law_336 rfl ?_
      refine x_i2l (pc := 338) dL_law_338 ?_
      refine x_lcmp (pc := 339) dL_law_339 ?_
      rcases ite_some e with ⟨q17, e⟩ | ⟨q17, e⟩
      · refine x_if_eq_t (pc := 340) (t := 345) dL_law_340 (by decide) q17 ?_
        exact x_sub1 (p_L_law_L345 hl hk23 e) [2, 3, 4, 5, 6] rfl
      · refine x_if_eq_f (pc := 340) (t := 345) dL_law_340 (by decide) q17 ?_
        refine x_iconst (pc := 343) dL_law_343 ?_
        cases Option.some.inj e
        exact x_zret (pc := 344) rfl (Or.inl rfl) dL_law_344
    · refine x_if_ne_t (pc := 330) (t := 345) dL_law_330 (by decide) q14 ?_
      exact x_sub1 (p_L_law_L345 hl hk23 e) [2, 3, 4, 5, 6] rfl
  · refine x_icmp_eq_f (pc := 323) (t := 328) dL_law_323 (by decide) q13 ?_
    refine x_iconst (pc := 326) dL_law_326 ?_
    cases Option.some.inj e
    exact x_zret (pc := 327) rfl (Or.inl rfl) dL_law_327
noncomputable def f_L_law_L425 (xs : Nat → Int32) (xn : Nat) (k23 : Hp → Nat → Nat → Nat → Int32 → Option (Rs Int32)) (h : Hp) (a1 : Nat) (a2 : Nat) (a3 : Nat) (i4 : Int32) : Option (Rs Int32) :=
  f_L_law_L2775 xs xn k23 h a1 a2 a3 i4
theorem p_L_law_L425 {l : Launch} {K : Ctx} (hl : l.stackTraces = false) {k23 : Hp → Nat → Nat → Nat → Int32 → Option (Rs Int32)} (hk23 : ∀ (h : Hp) (a1 : Nat) (a2 : Nat) (a3 : Nat) (i4 : Int32) (t : Rs Int32), k23 h a1 a2 a3 i4 = some t → X l K mM_L_law (tgI t) 23 [(0, .ref 2000000), (1, .ref a1), (2, .ref a2), (3, .ref a3), (4, .int i4)] [] h) {h : Hp} {a1 : Nat} {a2 : Nat} {a3 : Nat} {i4 : Int32} {t : Rs Int32} (e : f_L_law_L425 (kXs K) (kLn K) k23 h a1 a2 a3 i4 = some t) : X l K mM_L_law (tgI t) 425 [(0, .ref 2000000), (1, .ref a1), (2, .ref a2), (3, .ref a3), (4, .int i4)] [] h := by
  unfold f_L_law_L425 at e
  refine x_goto (pc := 425) (t := 2775) dL_law_425 (by decide) ?_
  exact p_L_law_L2775 hl hk23 e
noncomputable def f_L_law_L348 (xs : Nat → Int32) (xn : Nat) (k23 : Hp → Nat → Nat → Nat → Int32 → Option (Rs Int32)) (h : Hp) (a1 : Nat) (a2 : Nat) (a3 : Nat) (i4 : Int32) : Option (Rs Int32) :=
  chk (vp_in (i4 + (iN 1)) xn) <|
  chk (vp_in (i4 + (iN 2)) xn) <|
  chk (vp_in (i4 + (iN 3)) xn) <|
  bnd (f_L_setColumn h a1 (xs (Int32.toNatClampNeg (i4 + (iN 1)))) (xs (Int32.toNatClampNeg (i4 + (iN 2)))) (xs (Int32.toNatClampNeg (i4 + (iN 3)))) a3) fun h4 r5 =>
  chk (vp_in (i4 + (iN 1)) xn) <|
  chk (vp_in (i4 + (iN 2)) xn) <|
  chk (vp_in (i4 + (iN 3)) xn) <|
  chk (okr h4 a2 9) <|
  bnd (f_X9_setColumn h4 a2 (xs (Int32.toNatClampNeg (i4 + (iN 1)))) (xs (Int32.toNatClampNeg (i4 + (iN 2)))) (xs (Int32.toNatClampNeg (i4 + (iN 3))))) fun h10 r11 =>
  chk (okr h10 a2 9) <|
  bnd (f_X9_thrown h10 a2) fun h13 r14 =>
  if r14 = r5 then (
    if r5 = 0 then (
      chk (okr h13 a3 21) <|
      chk (vp_in (iN 0) (qW h13 a3)) <|
      if (lg_cmp (qL h13 a3 (Int32.toNatClampNeg (iN 0))) (Int32.toInt64 r11)) = 0 then (
        f_L_law_L425 xs xn k23 h13 a1 a2 a3 i4
      ) else (
        some (h13, .inr (iN 0))
      )
    ) else (
      f_L_law_L425 xs xn k23 h13 a1 a2 a3 i4
    )
  ) else (
    some (h13, .inr (iN 0))
  )
theorem p_L_law_L348 {l : Launch} {K : Ctx} (hl : l.stackTraces = false) {k23 : Hp → Nat → Nat → Nat → Int32 → Option (Rs Int32)} (hk23 : ∀ (h : Hp) (a1 : Nat) (a2 : Nat) (a3 : Nat) (i4 : Int32) (t : Rs Int32), k23 h a1 a2 a3 i4 = some t → X l K mM_L_law (tgI t) 23 [(0, .ref 2000000), (1, .ref a1), (2, .ref a2), (3, .ref a3), (4, .int i4)] [] h) {h : Hp} {a1 : Nat} {a2 : Nat} {a3 : Nat} {i4 : Int32} {t : Rs Int32} (e : f_L_law_L348 (kXs K) (kLn K) k23 h a1 a2 a3 i4 = some t) : X l K mM_L_law (tgI t) 348 [(0, .ref 2000000), (1, .ref a1), (2, .ref a2), (3, .ref a3), (4, .int i4)] [] h := by
  unfold f_L_law_L348 at e
  refine x_aload_n (pc := 348) 1 dL_law_348 rfl ?_
  refine x_aload_n (pc := 349) 0 dL_law_349 rfl ?_
  refine x_iload (pc := 350) 4 dL_law_350 rfl ?_
  refine x_iconst (pc := 352) dL_law_352 ?_
  refine x_iadd (pc := 353) dL_law_353 ?_
  obtain ⟨q1, e⟩ := chk_some e
  refine x_sld (pc := 354) dL_law_354 q1 ?_
  refine x_aload_n (pc := 355) 0 dL_law_355 rfl ?_
  refine x_iload (pc := 356) 4 dL_law_356 rfl ?_
  refine x_iconst (pc := 358) dL_law_358 ?_
  refine x_iadd (pc := 359) dL_law_359 ?_
  obtain ⟨q2, e⟩ := chk_some e
  refine x_sld (pc := 360) dL_law_360 q2 ?_
  refine x_aload_n (pc := 361) 0 dL_law_361 rfl ?_
  refine x_iload (pc := 362) 4 dL_law_362 rfl ?_
  refine x_iconst (pc := 364) dL_law_364 ?_
  refine x_iadd (pc := 365) dL_law_365 ?_
  obtain ⟨q3, e⟩ := chk_some e
  refine x_sld (pc := 366) dL_law_366 q3 ?_
  refine x_aload_n (pc := 367) 3 dL_law_367 rfl ?_
  rcases bnd_some e with ⟨h4, r5, ec, rfl⟩ | ⟨h4, r5, ec, e⟩
  · exact y_callX_x (pc := 368) (c_L_setColumn hl ec) mf_L_setColumn tw_4_3 tw_4_2 dL_law_368 (by decide) rfl rfl (leb rfl) (xx_out0 rfl)
  refine y_callX_i (pc := 368) (c_L_setColumn hl ec) mf_L_setColumn tw_4_3 tw_4_2 dL_law_368 (by decide) rfl rfl (leb rfl) ?_
  refine x_istore (pc := 371) dL_law_371 (by decide) rfl ?_
  refine x_aload_n (pc := 373) 3 dL_law_373 rfl ?_
  refine x_aload_n (pc := 374) 1 dL_law_374 rfl ?_
  refine x_iload (pc := 375) 5 dL_law_375 rfl ?_
  refine x_iconst (pc := 377) dL_law_377 ?_
  refine x_iadd (pc := 378) dL_law_378 ?_
  obtain ⟨q6, e⟩ := chk_some e
  refine x_sld (pc := 379) dL_law_379 q6 ?_
  refine x_aload_n (pc := 380) 1 dL_law_380 rfl ?_
  refine x_iload (pc := 381) 5 dL_law_381 rfl ?_
  refine x_iconst (pc := 383) dL_law_383 ?_
  refine x_iadd (pc := 384) dL_law_384 ?_
  obtain ⟨q7, e⟩ := chk_some e
  refine x_sld (pc := 385) dL_law_385 q7 ?_
  refine x_aload_n (pc := 386) 1 dL_law_386 rfl ?_
  refine x_iload (pc := 387) 5 dL_law_387 rfl ?_
  refine x_iconst (pc := 389) dL_law_389 ?_
  refine x_iadd (pc := 390) dL_law_390 ?_
  obtain ⟨q8, e⟩ := chk_some e
  refine x_sld (pc := 391) dL_law_391 q8 ?_
  obtain ⟨q9, e⟩ := chk_some e
  rcases bnd_some e with ⟨h10, r11, ec, rfl⟩ | ⟨h10, r11, ec, e⟩
  · exact y_callV_x (pc := 392) (c_X9_setColumn hl ec) q9 mf_X9_setColumn tw_7_34 tw_7_35 lf_L_165 rfl rfl dL_law_392 (by decide) rfl rfl (leb rfl) (xx_out0 rfl)
  refine y_callV_i (pc := 392) (c_X9_setColumn hl ec) q9 mf_X9_setColumn tw_7_34 tw_7_35 lf_L_165 rfl rfl dL_law_392 (by decide) rfl rfl (leb rfl) ?_
  refine x_istore (pc := 395) dL_law_395 (by decide) rfl ?_
  refine x_aload_n (pc := 397) 4 dL_law_397 rfl ?_
  obtain ⟨q12, e⟩ := chk_some e
  rcases bnd_some e with ⟨h13, r14, ec, rfl⟩ | ⟨h13, r14, ec, e⟩
  · exact y_callV_x (pc := 398) (c_X9_thrown hl ec) q12 mf_X9_thrown tw_7_12 tw_7_13 lf_L_155 rfl rfl dL_law_398 (by decide) rfl rfl (leb rfl) (xx_out0 rfl)
  refine y_callV_i (pc := 398) (c_X9_thrown hl ec) q12 mf_X9_thrown tw_7_12 tw_7_13 lf_L_155 rfl rfl dL_law_398 (by decide) rfl rfl (leb rfl) ?_
  refine x_iload (pc := 401) 1 dL_law_401 rfl ?_
  rcases ite_some e with ⟨q15, e⟩ | ⟨q15, e⟩
  · refine x_icmp_eq_t (pc := 403) (t := 408) dL_law_403 (by decide) q15 ?_
    refine x_iload (pc := 408) 1 dL_law_408 rfl ?_
    rcases ite_some e with ⟨q16, e⟩ | ⟨q16, e⟩
    · refine x_if_ne_f (pc := 410) (t := 425) dL_law_410 (by decide) q16 ?_
      refine x_aload_n (pc := 413) 5 dL_law_413 rfl ?_
      refine x_iconst (pc := 414) dL_law_414 ?_
      obtain ⟨q17, e⟩ := chk_some e
      obtain ⟨q18, e⟩ := chk_some e
      refine x_lald (pc := 415) dL_law_415 q17 q18 ?_
      refine x_iload (pc := 416) 0 dL_law_416 rfl ?_
      refine x_i2l (pc := 418) dL_law_418 ?_
      refine x_lcmp (pc := 419) dL_law_419 ?_
      rcases ite_some e with ⟨q19, e⟩ | ⟨q19, e⟩
      · refine x_if_eq_t (pc := 420) (t := 425) dL_law_420 (by decide) q19 ?_
        exact x_sub1 (p_L_law_L425 hl hk23 e) [2, 3, 4, 5, 6] rfl
      · refine x_if_eq_f (pc := 420) (t := 425) dL_law_420 (by decide) q19 ?_
        refine x_iconst (pc := 423) dL_law_423 ?_
        cases Option.some.inj e
        exact x_zret (pc := 424) rfl (Or.inl rfl) dL_law_424
    · refine x_if_ne_t (pc := 410) (t := 425) dL_law_410 (by decide) q16 ?_
      exact x_sub1 (p_L_law_L425 hl hk23 e) [2, 3, 4, 5, 6] rfl
  · refine x_icmp_eq_f (pc := 403) (t := 408) dL_law_403 (by decide) q15 ?_
    refine x_iconst (pc := 406) dL_law_406 ?_
    cases Option.some.inj e
    exact x_zret (pc := 407) rfl (Or.inl rfl) dL_law_407
noncomputable def f_L_law_L469 (xs : Nat → Int32) (xn : Nat) (k23 : Hp → Nat → Nat → Nat → Int32 → Option (Rs Int32)) (h : Hp) (a1 : Nat) (a2 : Nat) (a3 : Nat) (i4 : Int32) : Option (Rs Int32) :=
  f_L_law_L2775 xs xn k23 h a1 a2 a3 i4
theorem p_L_law_L469 {l : Launch} {K : Ctx} (hl : l.stackTraces = false) {k23 : Hp → Nat → Nat → Nat → Int32 → Option (Rs Int32)} (hk23 : ∀ (h : Hp) (a1 : Nat) (a2 : Nat) (a3 : Nat) (i4 : Int32) (t : Rs Int32), k23 h a1 a2 a3 i4 = some t → X l K mM_L_law (tgI t) 23 [(0, .ref 2000000), (1, .ref a1), (2, .ref a2), (3, .ref a3), (4, .int i4)] [] h) {h : Hp} {a1 : Nat} {a2 : Nat} {a3 : Nat} {i4 : Int32} {t : Rs Int32} (e : f_L_law_L469 (kXs K) (kLn K) k23 h a1 a2 a3 i4 = some t) : X l K mM_L_law (tgI t) 469 [(0, .ref 2000000), (1, .ref a1), (2, .ref a2), (3, .ref a3), (4, .int i4)] [] h := by
  unfold f_L_law_L469 at e
  refine x_goto (pc := 469) (t := 2775) dL_law_469 (by decide) ?_
  exact p_L_law_L2775 hl hk23 e
noncomputable def f_L_law_L428 (xs : Nat → Int32) (xn : Nat) (k23 : Hp → Nat → Nat → Nat → Int32 → Option (Rs Int32)) (h : Hp) (a1 : Nat) (a2 : Nat) (a3 : Nat) (i4 : Int32) : Option (Rs Int32) :=
  bnd (f_L_addRow h a1 a3) fun h1 r2 =>
  chk (okr h1 a2 9) <|
  bnd (f_X9_addRow h1 a2) fun h4 r5 =>
  chk (okr h4 a2 9) <|
  bnd (f_X9_thrown h4 a2) fun h7 r8 =>
  if r8 = r2 then (
    if r2 = 0 then (
      chk (okr h7 a3 21) <|
      chk (vp_in (iN 0) (qW h7 a3)) <|
      if (lg_cmp (qL h7 a3 (Int32.toNatClampNeg (iN 0))) (Int32.toInt64 r5)) = 0 then (
        f_L_law_L469 xs xn k23 h7 a1 a2 a3 i4
      ) else (
        some (h7, .inr (iN 0))
      )
    ) else (
      f_L_law_L469 xs xn k23 h7 a1 a2 a3 i4
    )
  ) else (
    some (h7, .inr (iN 0))
  )
theorem p_L_law_L428 {l : Launch} {K : Ctx} (hl : l.stackTraces = false) {k23 : Hp → Nat → Nat → Nat → Int32 → Option (Rs Int32)} (hk23 : ∀ (h : Hp) (a1 : Nat) (a2 : Nat) (a3 : Nat) (i4 : Int32) (t : Rs Int32), k23 h a1 a2 a3 i4 = some t → X l K mM_L_law (tgI t) 23 [(0, .ref 2000000), (1, .ref a1), (2, .ref a2), (3, .ref a3), (4, .int i4)] [] h) {h : Hp} {a1 : Nat} {a2 : Nat} {a3 : Nat} {i4 : Int32} {t : Rs Int32} (e : f_L_law_L428 (kXs K) (kLn K) k23 h a1 a2 a3 i4 = some t) : X l K mM_L_law (tgI t) 428 [(0, .ref 2000000), (1, .ref a1), (2, .ref a2), (3, .ref a3), (4, .int i4)] [] h := by
  unfold f_L_law_L428 at e
  refine x_aload_n (pc := 428) 1 dL_law_428 rfl ?_
  refine x_aload_n (pc := 429) 3 dL_law_429 rfl ?_
  rcases bnd_some e with ⟨h1, r2, ec, rfl⟩ | ⟨h1, r2, ec, e⟩
  · exact y_callX_x (pc := 430) (c_L_addRow hl ec) mf_L_addRow tw_4_15 tw_4_14 dL_law_430 (by decide) rfl rfl (leb rfl) (xx_out0 rfl)
  refine y_callX_i (pc := 430) (c_L_addRow hl ec) mf_L_addRow tw_4_15 tw_4_14 dL_law_430 (by decide) rfl rfl (leb rfl) ?_
  refine x_istore (pc := 433) dL_law_433 (by decide) rfl ?_
  refine x_aload_n (pc := 435) 3 dL_law_435 rfl ?_
  obtain ⟨q3, e⟩ := chk_some e
  rcases bnd_some e with ⟨h4, r5, ec, rfl⟩ | ⟨h4, r5, ec, e⟩
  · exact y_callV_x (pc := 436) (c_X9_addRow hl ec) q3 mf_X9_addRow tw_7_42 tw_7_43 lf_L_169 rfl rfl dL_law_436 (by decide) rfl rfl (leb rfl) (xx_out0 rfl)
  refine y_callV_i (pc := 436) (c_X9_addRow hl ec) q3 mf_X9_addRow tw_7_42 tw_7_43 lf_L_169 rfl rfl dL_law_436 (by decide) rfl rfl (leb rfl) ?_
  refine x_istore (pc := 439) dL_law_439 (by decide) rfl ?_
  refine x_aload_n (pc := 441) 4 dL_law_441 rfl ?_
  obtain ⟨q6, e⟩ := chk_some e
  rcases bnd_some e with ⟨h7, r8, ec, rfl⟩ | ⟨h7, r8, ec, e⟩
  · exact y_callV_x (pc := 442) (c_X9_thrown hl ec) q6 mf_X9_thrown tw_7_12 tw_7_13 lf_L_155 rfl rfl dL_law_442 (by decide) rfl rfl (leb rfl) (xx_out0 rfl)
  refine y_callV_i (pc := 442) (c_X9_thrown hl ec) q6 mf_X9_thrown tw_7_12 tw_7_13 lf_L_155 rfl rfl dL_law_442 (by decide) rfl rfl (leb rfl) ?_
  refine x_iload (pc := 445) 1 dL_law_445 rfl ?_
  rcases ite_some e with ⟨q9, e⟩ | ⟨q9, e⟩
  · refine x_icmp_eq_t (pc := 447) (t := 452) dL_law_447 (by decide) q9 ?_
    refine x_iload (pc := 452) 1 dL_law_452 rfl ?_
    rcases ite_some e with ⟨q10, e⟩ | ⟨q10, e⟩
    · refine x_if_ne_f (pc := 454) (t := 469) dL_law_454 (by decide) q10 ?_
      refine x_aload_n (pc := 457) 5 dL_law_457 rfl ?_
      refine x_iconst (pc := 458) dL_law_458 ?_
      obtain ⟨q11, e⟩ := chk_some e
      obtain ⟨q12, e⟩ := chk_some e
      refine x_lald (pc := 459) dL_law_459 q11 q12 ?_
      refine x_iload (pc := 460) 0 dL_law_460 rfl ?_
      refine x_i2l (pc := 462) dL_law_462 ?_
      refine x_lcmp (pc := 463) dL_law_463 ?_
      rcases ite_some e with ⟨q13, e⟩ | ⟨q13, e⟩
      · refine x_if_eq_t (pc := 464) (t := 469) dL_law_464 (by decide) q13 ?_
        exact x_sub1 (p_L_law_L469 hl hk23 e) [2, 3, 4, 5, 6] rfl
      · refine x_if_eq_f (pc := 464) (t := 469) dL_law_464 (by decide) q13 ?_
        refine x_iconst (pc := 467) dL_law_467 ?_
        cases Option.some.inj e
        exact x_zret (pc := 468) rfl (Or.inl rfl) dL_law_468
    · refine x_if_ne_t (pc := 454) (t := 469) dL_law_454 (by decide) q10 ?_
      exact x_sub1 (p_L_law_L469 hl hk23 e) [2, 3, 4, 5, 6] rfl
  · refine x_icmp_eq_f (pc := 447) (t := 452) dL_law_447 (by decide) q9 ?_
    refine x_iconst (pc := 450) dL_law_450 ?_
    cases Option.some.inj e
    exact x_zret (pc := 451) rfl (Or.inl rfl) dL_law_451
noncomputable def f_L_law_L561 (xs : Nat → Int32) (xn : Nat) (k23 : Hp → Nat → Nat → Nat → Int32 → Option (Rs Int32)) (h : Hp) (a1 : Nat) (a2 : Nat) (a3 : Nat) (i4 : Int32) : Option (Rs Int32) :=
  f_L_law_L2775 xs xn k23 h a1 a2 a3 i4
theorem p_L_law_L561 {l : Launch} {K : Ctx} (hl : l.stackTraces = false) {k23 : Hp → Nat → Nat → Nat → Int32 → Option (Rs Int32)} (hk23 : ∀ (h : Hp) (a1 : Nat) (a2 : Nat) (a3 : Nat) (i4 : Int32) (t : Rs Int32), k23 h a1 a2 a3 i4 = some t → X l K mM_L_law (tgI t) 23 [(0, .ref 2000000), (1, .ref a1), (2, .ref a2), (3, .ref a3), (4, .int i4)] [] h) {h : Hp} {a1 : Nat} {a2 : Nat} {a3 : Nat} {i4 : Int32} {t : Rs Int32} (e : f_L_law_L561 (kXs K) (kLn K) k23 h a1 a2 a3 i4 = some t) : X l K mM_L_law (tgI t) 561 [(0, .ref 2000000), (1, .ref a1), (2, .ref a2), (3, .ref a3), (4, .int i4)] [] h := by
  unfold f_L_law_L561 at e
  refine x_goto (pc := 561) (t := 2775) dL_law_561 (by decide) ?_
  exact p_L_law_L2775 hl hk23 e
noncomputable def f_L_law_L472 (xs : Nat → Int32) (xn : Nat) (k23 : Hp → Nat → Nat → Nat → Int32 → Option (Rs Int32)) (h : Hp) (a1 : Nat) (a2 : Nat) (a3 : Nat) (i4 : Int32) : Option (Rs Int32) :=
  chk (vp_in (i4 + (iN 1)) xn) <|
  chk (vp_in (i4 + (iN 2)) xn) <|
  chk (vp_in (i4 + (iN 3)) xn) <|
  chk (vp_in (i4 + (iN 4)) xn) <|
  bnd (f_L_addCell h a1 (xs (Int32.toNatClampNeg (i4 + (iN 1)))) (xs (Int32.toNatClampNeg (i4 + (iN 2)))) (xs (Int32.toNatClampNeg (i4 + (iN 3)))) (xs (Int32.toNatClampNeg (i4 + (iN 4)))) a3) fun h5 r6 =>
  chk (vp_in (i4 + (iN 1)) xn) <|
  chk (vp_in (i4 + (iN 2)) xn) <|
  chk (vp_in (i4 + (iN 3)) xn) <|
  chk (vp_in (i4 + (iN 4)) xn) <|
  chk (okr h5 a2 9) <|
  bnd (f_X9_addCell h5 a2 (xs (Int32.toNatClampNeg (i4 + (iN 1)))) (xs (Int32.toNatClampNeg (i4 + (iN 2)))) (xs (Int32.toNatClampNeg (i4 + (iN 3)))) (xs (Int32.toNatClampNeg (i4 + (iN 4))))) fun h12 r13 =>
  chk (okr h12 a2 9) <|
  bnd (f_X9_thrown h12 a2) fun h15 r16 =>
  if r16 = r6 then (
    if r6 = 0 then (
      chk (okr h15 a3 21) <|
      chk (vp_in (iN 0) (qW h15 a3)) <|
      if (lg_cmp (qL h15 a3 (Int32.toNatClampNeg (iN 0))) (Int32.toInt64 r13)) = 0 then (
        f_L_law_L561 xs xn k23 h15 a1 a2 a3 i4
      ) else (
        some (h15, .inr (iN 0))
      )
    ) else (
      f_L_law_L561 xs xn k23 h15 a1 a2 a3 i4
    )
  ) else (
    some (h15, .inr (iN 0))
  )
theorem p_L_law_L472 {l : Launch} {K : Ctx} (hl : l.stackTraces = false) {k23 : Hp → Nat → Nat → Nat → Int32 → Option (Rs Int32)} (hk23 : ∀ (h : Hp) (a1 : Nat) (a2 : Nat) (a3 : Nat) (i4 : Int32) (t : Rs Int32), k23 h a1 a2 a3 i4 = some t → X l K mM_L_law (tgI t) 23 [(0, .ref 2000000), (1, .ref a1), (2, .ref a2), (3, .ref a3), (4, .int i4)] [] h) {h : Hp} {a1 : Nat} {a2 : Nat} {a3 : Nat} {i4 : Int32} {t : Rs Int32} (e : f_L_law_L472 (kXs K) (kLn K) k23 h a1 a2 a3 i4 = some t) : X l K mM_L_law (tgI t) 472 [(0, .ref 2000000), (1, .ref a1), (2, .ref a2), (3, .ref a3), (4, .int i4)] [] h := by
  unfold f_L_law_L472 at e
  refine x_aload_n (pc := 472) 1 dL_law_472 rfl ?_
  refine x_aload_n (pc := 473) 0 dL_law_473 rfl ?_
  refine x_iload (pc := 474) 4 dL_law_474 rfl ?_
  refine x_iconst (pc := 476) dL_law_476 ?_
  refine x_iadd (pc := 477) dL_law_477 ?_
  obtain ⟨q1, e⟩ := chk_some e
  refine x_sld (pc := 478) dL_law_478 q1 ?_
  refine x_aload_n (pc := 479) 0 dL_law_479 rfl ?_
  refine x_iload (pc := 480) 4 dL_law_480 rfl ?_
  refine x_iconst (pc := 482) dL_law_482 ?_
  refine x_iadd (pc := 483) dL_law_483 ?_
  obtain ⟨q2, e⟩ := chk_some e
  refine x_sld (pc := 484) dL_law_484 q2 ?_
  refine x_aload_n (pc := 485) 0 dL_law_485 rfl ?_
  refine x_iload (pc := 486) 4 dL_law_486 rfl ?_
  refine x_iconst (pc := 488) dL_law_488 ?_
  refine x_iadd (pc := 489) dL_law_489 ?_
  obtain ⟨q3, e⟩ := chk_some e
  refine x_sld (pc := 490) dL_law_490 q3 ?_
  refine x_aload_n (pc := 491) 0 dL_law_491 rfl ?_
  refine x_iload (pc := 492) 4 dL_law_492 rfl ?_
  refine x_iconst (pc := 494) dL_law_494 ?_
  refine x_iadd (pc := 495) dL_law_495 ?_
  obtain ⟨q4, e⟩ := chk_some e
  refine x_sld (pc := 496) dL_law_496 q4 ?_
  refine x_aload_n (pc := 497) 3 dL_law_497 rfl ?_
  rcases bnd_some e with ⟨h5, r6, ec, rfl⟩ | ⟨h5, r6, ec, e⟩
  · exact y_callX_x (pc := 498) (c_L_addCell hl ec) mf_L_addCell tw_4_22 tw_4_21 dL_law_498 (by decide) rfl rfl (leb rfl) (xx_out0 rfl)
  refine y_callX_i (pc := 498) (c_L_addCell hl ec) mf_L_addCell tw_4_22 tw_4_21 dL_law_498 (by decide) rfl rfl (leb rfl) ?_
  refine x_istore (pc := 501) dL_law_501 (by decide) rfl ?_
  refine x_aload_n (pc := 503) 3 dL_law_503 rfl ?_
  refine x_aload_n (pc := 504) 1 dL_law_504 rfl ?_
  refine x_iload (pc := 505) 5 dL_law_505 rfl ?_
  refine x_iconst (pc := 507) dL_law_507 ?_
  refine x_iadd (pc := 508) dL_law_508 ?_
  obtain ⟨q7, e⟩ := chk_some e
  refine x_sld (pc := 509) dL_law_509 q7 ?_
  refine x_aload_n (pc := 510) 1 dL_law_510 rfl ?_
  refine x_iload (pc := 511) 5 dL_law_511 rfl ?_
  refine x_iconst (pc := 513) dL_law_513 ?_
  refine x_iadd (pc := 514) dL_law_514 ?_
  obtain ⟨q8, e⟩ := chk_some e
  refine x_sld (pc := 515) dL_law_515 q8 ?_
  refine x_aload_n (pc := 516) 1 dL_law_516 rfl ?_
  refine x_iload (pc := 517) 5 dL_law_517 rfl ?_
  refine x_iconst (pc := 519) dL_law_519 ?_
  refine x_iadd (pc := 520) dL_law_520 ?_
  obtain ⟨q9, e⟩ := chk_some e
  refine x_sld (pc := 521) dL_law_521 q9 ?_
  refine x_aload_n (pc := 522) 1 dL_law_522 rfl ?_
  refine x_iload (pc := 523) 5 dL_law_523 rfl ?_
  refine x_iconst (pc := 525) dL_law_525 ?_
  refine x_iadd (pc := 526) dL_law_526 ?_
  obtain ⟨q10, e⟩ := chk_some e
  refine x_sld (pc := 527) dL_law_527 q10 ?_
  obtain ⟨q11, e⟩ := chk_some e
  rcases bnd_some e with ⟨h12, r13, ec, rfl⟩ | ⟨h12, r13, ec, e⟩
  · exact y_callV_x (pc := 528) (c_X9_addCell hl ec) q11 mf_X9_addCell tw_7_46 tw_7_47 lf_L_173 rfl rfl dL_law_528 (by decide) rfl rfl (leb rfl) (xx_out0 rfl)
  refine y_callV_i (pc := 528) (c_X9_addCell hl ec) q11 mf_X9_addCell tw_7_46 tw_7_47 lf_L_173 rfl rfl dL_law_528 (by decide) rfl rfl (leb rfl) ?_
  refine x_istore (pc := 531) dL_law_531 (by decide) rfl ?_
  refine x_aload_n (pc := 533) 4 dL_law_533 rfl ?_
  obtain ⟨q14, e⟩ := chk_some e
  rcases bnd_some e with ⟨h15, r16, ec, rfl⟩ | ⟨h15, r16, ec, e⟩
  · exact y_callV_x (pc := 534) (c_X9_thrown hl ec) q14 mf_X9_thrown tw_7_12 tw_7_13 lf_L_155 rfl rfl dL_law_534 (by decide) rfl rfl (leb rfl) (xx_out0 rfl)
  refine y_callV_i (pc := 534) (c_X9_thrown hl ec) q14 mf_X9_thrown tw_7_12 tw_7_13 lf_L_155 rfl rfl dL_law_534 (by decide) rfl rfl (leb rfl) ?_
  refine x_iload (pc := 537) 1 dL_law_537 rfl ?_
  rcases ite_some e with ⟨q17, e⟩ | ⟨q17, e⟩
  · refine x_icmp_eq_t (pc := 539) (t := 544) dL_law_539 (by decide) q17 ?_
    refine x_iload (pc := 544) 1 dL_law_544 rfl ?_
    rcases ite_some e with ⟨q18, e⟩ | ⟨q18, e⟩
    · refine x_if_ne_f (pc := 546) (t := 561) dL_law_546 (by decide) q18 ?_
      refine x_aload_n (pc := 549) 5 dL_law_549 rfl ?_
      refine x_iconst (pc := 550) dL_law_550 ?_
      obtain ⟨q19, e⟩ := chk_some e
      obtain ⟨q20, e⟩ := chk_some e
      refine x_lald (pc := 551) dL_law_551 q19 q20 ?_
      refine x_iload (pc := 552) 0 dL_law_552 rfl ?_
      refine x_i2l (pc := 554) dL_law_554 ?_
      refine x_lcmp (pc := 555) dL_law_555 ?_
      rcases ite_some e with ⟨q21, e⟩ | ⟨q21, e⟩
      · refine x_if_eq_t (pc := 556) (t := 561) dL_law_556 (by decide) q21 ?_
        exact x_sub1 (p_L_law_L561 hl hk23 e) [2, 3, 4, 5, 6] rfl
      · refine x_if_eq_f (pc := 556) (t := 561) dL_law_556 (by decide) q21 ?_
        refine x_iconst (pc := 559) dL_law_559 ?_
        cases Option.some.inj e
        exact x_zret (pc := 560) rfl (Or.inl rfl) dL_law_560
    · refine x_if_ne_t (pc := 546) (t := 561) dL_law_546 (by decide) q18 ?_
      exact x_sub1 (p_L_law_L561 hl hk23 e) [2, 3, 4, 5, 6] rfl
  · refine x_icmp_eq_f (pc := 539) (t := 544) dL_law_539 (by decide) q17 ?_
    refine x_iconst (pc := 542) dL_law_542 ?_
    cases Option.some.inj e
    exact x_zret (pc := 543) rfl (Or.inl rfl) dL_law_543
noncomputable def f_L_law_L617 (xs : Nat → Int32) (xn : Nat) (k23 : Hp → Nat → Nat → Nat → Int32 → Option (Rs Int32)) (h : Hp) (a1 : Nat) (a2 : Nat) (a3 : Nat) (i4 : Int32) : Option (Rs Int32) :=
  f_L_law_L2775 xs xn k23 h a1 a2 a3 i4
theorem p_L_law_L617 {l : Launch} {K : Ctx} (hl : l.stackTraces = false) {k23 : Hp → Nat → Nat → Nat → Int32 → Option (Rs Int32)} (hk23 : ∀ (h : Hp) (a1 : Nat) (a2 : Nat) (a3 : Nat) (i4 : Int32) (t : Rs Int32), k23 h a1 a2 a3 i4 = some t → X l K mM_L_law (tgI t) 23 [(0, .ref 2000000), (1, .ref a1), (2, .ref a2), (3, .ref a3), (4, .int i4)] [] h) {h : Hp} {a1 : Nat} {a2 : Nat} {a3 : Nat} {i4 : Int32} {t : Rs Int32} (e : f_L_law_L617 (kXs K) (kLn K) k23 h a1 a2 a3 i4 = some t) : X l K mM_L_law (tgI t) 617 [(0, .ref 2000000), (1, .ref a1), (2, .ref a2), (3, .ref a3), (4, .int i4)] [] h := by
  unfold f_L_law_L617 at e
  refine x_goto (pc := 617) (t := 2775) dL_law_617 (by decide) ?_
  exact p_L_law_L2775 hl hk23 e
noncomputable def f_L_law_L564 (xs : Nat → Int32) (xn : Nat) (k23 : Hp → Nat → Nat → Nat → Int32 → Option (Rs Int32)) (h : Hp) (a1 : Nat) (a2 : Nat) (a3 : Nat) (i4 : Int32) : Option (Rs Int32) :=
  chk (vp_in (i4 + (iN 1)) xn) <|
  bnd (f_L_removeCell h a1 (xs (Int32.toNatClampNeg (i4 + (iN 1)))) a3) fun h2 r3 =>
  chk (vp_in (i4 + (iN 1)) xn) <|
  chk (okr h2 a2 9) <|
  bnd (f_X9_removeCell h2 a2 (xs (Int32.toNatClampNeg (i4 + (iN 1))))) fun h6 r7 =>
  chk (okr h6 a2 9) <|
  bnd (f_X9_thrown h6 a2) fun h9 r10 =>
  if r10 = r3 then (
    if r3 = 0 then (
      chk (okr h9 a3 21) <|
      chk (vp_in (iN 0) (qW h9 a3)) <|
      if (lg_cmp (qL h9 a3 (Int32.toNatClampNeg (iN 0))) (Int32.toInt64 r7)) = 0 then (
        f_L_law_L617 xs xn k23 h9 a1 a2 a3 i4
      ) else (
        some (h9, .inr (iN 0))
      )
    ) else (
      f_L_law_L617 xs xn k23 h9 a1 a2 a3 i4
    )
  ) else (
    some (h9, .inr (iN 0))
  )
theorem p_L_law_L564 {l : Launch} {K : Ctx} (hl : l.stackTraces = false) {k23 : Hp → Nat → Nat → Nat → Int32 → Option (Rs Int32)} (hk23 : ∀ (h : Hp) (a1 : Nat) (a2 : Nat) (a3 : Nat) (i4 : Int32) (t : Rs Int32), k23 h a1 a2 a3 i4 = some t → X l K mM_L_law (tgI t) 23 [(0, .ref 2000000), (1, .ref a1), (2, .ref a2), (3, .ref a3), (4, .int i4)] [] h) {h : Hp} {a1 : Nat} {a2 : Nat} {a3 : Nat} {i4 : Int32} {t : Rs Int32} (e : f_L_law_L564 (kXs K) (kLn K) k23 h a1 a2 a3 i4 = some t) : X l K mM_L_law (tgI t) 564 [(0, .ref 2000000), (1, .ref a1), (2, .ref a2), (3, .ref a3), (4, .int i4)] [] h := by
  unfold f_L_law_L564 at e
  refine x_aload_n (pc := 564) 1 dL_law_564 rfl ?_
  refine x_aload_n (pc := 565) 0 dL_law_565 rfl ?_
  refine x_iload (pc := 566) 4 dL_law_566 rfl ?_
  refine x_iconst (pc := 568) dL_law_568 ?_
  refine x_iadd (pc := 569) dL_law_569 ?_
  obtain ⟨q1, e⟩ := chk_some e
  refine x_sld (pc := 570) dL_law_570 q1 ?_
  refine x_aload_n (pc := 571) 3 dL_law_571 rfl ?_
  rcases bnd_some e with ⟨h2, r3, ec, rfl⟩ | ⟨h2, r3, ec, e⟩
  · exact y_callX_x (pc := 572) (c_L_removeCell hl ec) mf_L_removeCell tw_4_59 tw_4_58 dL_law_572 (by decide) rfl rfl (leb rfl) (xx_out0 rfl)
  refine y_callX_i (pc := 572) (c_L_removeCell hl ec) mf_L_removeCell tw_4_59 tw_4_58 dL_law_572 (by decide) rfl rfl (leb rfl) ?_
  refine x_istore (pc := 575) dL_law_575 (by decide) rfl ?_
  refine x_aload_n (pc := 577) 3 dL_law_577 rfl ?_
  refine x_aload_n (pc := 578) 1 dL_law_578 rfl ?_
  refine x_iload (pc := 579) 5 dL_law_579 rfl ?_
  refine x_iconst (pc := 581) dL_law_581 ?_
  refine x_iadd (pc := 582) dL_law_582 ?_
  obtain ⟨q4, e⟩ := chk_some e
  refine x_sld (pc := 583) dL_law_583 q4 ?_
  obtain ⟨q5, e⟩ := chk_some e
  rcases bnd_some e with ⟨h6, r7, ec, rfl⟩ | ⟨h6, r7, ec, e⟩
  · exact y_callV_x (pc := 584) (c_X9_removeCell hl ec) q5 mf_X9_removeCell tw_7_70 tw_7_71 lf_L_176 rfl rfl dL_law_584 (by decide) rfl rfl (leb rfl) (xx_out0 rfl)
  refine y_callV_i (pc := 584) (c_X9_removeCell hl ec) q5 mf_X9_removeCell tw_7_70 tw_7_71 lf_L_176 rfl rfl dL_law_584 (by decide) rfl rfl (leb rfl) ?_
  refine x_istore (pc := 587) dL_law_587 (by decide) rfl ?_
  refine x_aload_n (pc := 589) 4 dL_law_589 rfl ?_
  obtain ⟨q8, e⟩ := chk_some e
  rcases bnd_some e with ⟨h9, r10, ec, rfl⟩ | ⟨h9, r10, ec, e⟩
  · exact y_callV_x (pc := 590) (c_X9_thrown hl ec) q8 mf_X9_thrown tw_7_12 tw_7_13 lf_L_155 rfl rfl dL_law_590 (by decide) rfl rfl (leb rfl) (xx_out0 rfl)
  refine y_callV_i (pc := 590) (c_X9_thrown hl ec) q8 mf_X9_thrown tw_7_12 tw_7_13 lf_L_155 rfl rfl dL_law_590 (by decide) rfl rfl (leb rfl) ?_
  refine x_iload (pc := 593) 1 dL_law_593 rfl ?_
  rcases ite_some e with ⟨q11, e⟩ | ⟨q11, e⟩
  · refine x_icmp_eq_t (pc := 595) (t := 600) dL_law_595 (by decide) q11 ?_
    refine x_iload (pc := 600) 1 dL_law_600 rfl ?_
    rcases ite_some e with ⟨q12, e⟩ | ⟨q12, e⟩
    · refine x_if_ne_f (pc := 602) (t := 617) dL_law_602 (by decide) q12 ?_
      refine x_aload_n (pc := 605) 5 dL_law_605 rfl ?_
      refine x_iconst (pc := 606) dL_law_606 ?_
      obtain ⟨q13, e⟩ := chk_some e
      obtain ⟨q14, e⟩ := chk_some e
      refine x_lald (pc := 607) dL_law_607 q13 q14 ?_
      refine x_iload (pc := 608) 0 dL_law_608 rfl ?_
      refine x_i2l (pc := 610) dL_law_610 ?_
      refine x_lcmp (pc := 611) dL_law_611 ?_
      rcases ite_some e with ⟨q15, e⟩ | ⟨q15, e⟩
      · refine x_if_eq_t (pc := 612) (t := 617) dL_law_612 (by decide) q15 ?_
        exact x_sub1 (p_L_law_L617 hl hk23 e) [2, 3, 4, 5, 6] rfl
      · refine x_if_eq_f (pc := 612) (t := 617) dL_law_612 (by decide) q15 ?_
        refine x_iconst (pc := 615) dL_law_615 ?_
        cases Option.some.inj e
        exact x_zret (pc := 616) rfl (Or.inl rfl) dL_law_616
    · refine x_if_ne_t (pc := 602) (t := 617) dL_law_602 (by decide) q12 ?_
      exact x_sub1 (p_L_law_L617 hl hk23 e) [2, 3, 4, 5, 6] rfl
  · refine x_icmp_eq_f (pc := 595) (t := 600) dL_law_595 (by decide) q11 ?_
    refine x_iconst (pc := 598) dL_law_598 ?_
    cases Option.some.inj e
    exact x_zret (pc := 599) rfl (Or.inl rfl) dL_law_599
noncomputable def f_L_law_L697 (xs : Nat → Int32) (xn : Nat) (k23 : Hp → Nat → Nat → Nat → Int32 → Option (Rs Int32)) (h : Hp) (a1 : Nat) (a2 : Nat) (a3 : Nat) (i4 : Int32) : Option (Rs Int32) :=
  f_L_law_L2775 xs xn k23 h a1 a2 a3 i4
theorem p_L_law_L697 {l : Launch} {K : Ctx} (hl : l.stackTraces = false) {k23 : Hp → Nat → Nat → Nat → Int32 → Option (Rs Int32)} (hk23 : ∀ (h : Hp) (a1 : Nat) (a2 : Nat) (a3 : Nat) (i4 : Int32) (t : Rs Int32), k23 h a1 a2 a3 i4 = some t → X l K mM_L_law (tgI t) 23 [(0, .ref 2000000), (1, .ref a1), (2, .ref a2), (3, .ref a3), (4, .int i4)] [] h) {h : Hp} {a1 : Nat} {a2 : Nat} {a3 : Nat} {i4 : Int32} {t : Rs Int32} (e : f_L_law_L697 (kXs K) (kLn K) k23 h a1 a2 a3 i4 = some t) : X l K mM_L_law (tgI t) 697 [(0, .ref 2000000), (1, .ref a1), (2, .ref a2), (3, .ref a3), (4, .int i4)] [] h := by
  unfold f_L_law_L697 at e
  refine x_goto (pc := 697) (t := 2775) dL_law_697 (by decide) ?_
  exact p_L_law_L2775 hl hk23 e
noncomputable def f_L_law_L620 (xs : Nat → Int32) (xn : Nat) (k23 : Hp → Nat → Nat → Nat → Int32 → Option (Rs Int32)) (h : Hp) (a1 : Nat) (a2 : Nat) (a3 : Nat) (i4 : Int32) : Option (Rs Int32) :=
  chk (vp_in (i4 + (iN 1)) xn) <|
  chk (vp_in (i4 + (iN 2)) xn) <|
  chk (vp_in (i4 + (iN 3)) xn) <|
  bnd (f_L_addWord h a1 (xs (Int32.toNatClampNeg (i4 + (iN 1)))) (xs (Int32.toNatClampNeg (i4 + (iN 2)))) (xs (Int32.toNatClampNeg (i4 + (iN 3)))) a3) fun h4 r5 =>
  chk (vp_in (i4 + (iN 1)) xn) <|
  chk (vp_in (i4 + (iN 2)) xn) <|
  chk (vp_in (i4 + (iN 3)) xn) <|
  chk (okr h4 a2 9) <|
  bnd (f_X9_addWord h4 a2 (xs (Int32.toNatClampNeg (i4 + (iN 1)))) (xs (Int32.toNatClampNeg (i4 + (iN 2)))) (xs (Int32.toNatClampNeg (i4 + (iN 3))))) fun h10 r11 =>
  chk (okr h10 a2 9) <|
  bnd (f_X9_thrown h10 a2) fun h13 r14 =>
  if r14 = r5 then (
    if r5 = 0 then (
      chk (okr h13 a3 21) <|
      chk (vp_in (iN 0) (qW h13 a3)) <|
      if (lg_cmp (qL h13 a3 (Int32.toNatClampNeg (iN 0))) (Int32.toInt64 r11)) = 0 then (
        f_L_law_L697 xs xn k23 h13 a1 a2 a3 i4
      ) else (
        some (h13, .inr (iN 0))
      )
    ) else (
      f_L_law_L697 xs xn k23 h13 a1 a2 a3 i4
    )
  ) else (
    some (h13, .inr (iN 0))
  )
theorem p_L_law_L620 {l : Launch} {K : Ctx} (hl : l.stackTraces = false) {k23 : Hp → Nat → Nat → Nat → Int32 → Option (Rs Int32)} (hk23 : ∀ (h : Hp) (a1 : Nat) (a2 : Nat) (a3 : Nat) (i4 : Int32) (t : Rs Int32), k23 h a1 a2 a3 i4 = some t → X l K mM_L_law (tgI t) 23 [(0, .ref 2000000), (1, .ref a1), (2, .ref a2), (3, .ref a3), (4, .int i4)] [] h) {h : Hp} {a1 : Nat} {a2 : Nat} {a3 : Nat} {i4 : Int32} {t : Rs Int32} (e : f_L_law_L620 (kXs K) (kLn K) k23 h a1 a2 a3 i4 = some t) : X l K mM_L_law (tgI t) 620 [(0, .ref 2000000), (1, .ref a1), (2, .ref a2), (3, .ref a3), (4, .int i4)] [] h := by
  unfold f_L_law_L620 at e
  refine x_aload_n (pc := 620) 1 dL_law_620 rfl ?_
  refine x_aload_n (pc := 621) 0 dL_law_621 rfl ?_
  refine x_iload (pc := 622) 4 dL_law_622 rfl ?_
  refine x_iconst (pc := 624) dL_law_624 ?_
  refine x_iadd (pc := 625) dL_law_625 ?_
  obtain ⟨q1, e⟩ := chk_some e
  refine x_sld (pc := 626) dL_law_626 q1 ?_
  refine x_aload_n (pc := 627) 0 dL_law_627 rfl ?_
  refine x_iload (pc := 628) 4 dL_law_628 rfl ?_
  refine x_iconst (pc := 630) dL_law_630 ?_
  refine x_iadd (pc := 631) dL_law_631 ?_
  obtain ⟨q2, e⟩ := chk_some e
  refine x_sld (pc := 632) dL_law_632 q2 ?_
  refine x_aload_n (pc := 633) 0 dL_law_633 rfl ?_
  refine x_iload (pc := 634) 4 dL_law_634 rfl ?_
  refine x_iconst (pc := 636) dL_law_636 ?_
  refine x_iadd (pc := 637) dL_law_637 ?_
  obtain ⟨q3, e⟩ := chk_some e
  refine x_sld (pc := 638) dL_law_638 q3 ?_
  refine x_aload_n (pc := 639) 3 dL_law_639 rfl ?_
  rcases bnd_some e with ⟨h4, r5, ec, rfl⟩ | ⟨h4, r5, ec, e⟩
  · exact y_callX_x (pc := 640) (c_L_addWord hl ec) mf_L_addWord tw_4_74 tw_4_73 dL_law_640 (by decide) rfl rfl (leb rfl) (xx_out0 rfl)
  refine y_callX_i (pc := 640) (c_L_addWord hl ec) mf_L_addWord tw_4_74 tw_4_73 dL_law_640 (by decide) rfl rfl (leb rfl) ?_
  refine x_istore (pc := 643) dL_law_643 (by decide) rfl ?_
  refine x_aload_n (pc := 645) 3 dL_law_645 rfl ?_
  refine x_aload_n (pc := 646) 1 dL_law_646 rfl ?_
  refine x_iload (pc := 647) 5 dL_law_647 rfl ?_
  refine x_iconst (pc := 649) dL_law_649 ?_
  refine x_iadd (pc := 650) dL_law_650 ?_
  obtain ⟨q6, e⟩ := chk_some e
  refine x_sld (pc := 651) dL_law_651 q6 ?_
  refine x_aload_n (pc := 652) 1 dL_law_652 rfl ?_
  refine x_iload (pc := 653) 5 dL_law_653 rfl ?_
  refine x_iconst (pc := 655) dL_law_655 ?_
  refine x_iadd (pc := 656) dL_law_656 ?_
  obtain ⟨q7, e⟩ := chk_some e
  refine x_sld (pc := 657) dL_law_657 q7 ?_
  refine x_aload_n (pc := 658) 1 dL_law_658 rfl ?_
  refine x_iload (pc := 659) 5 dL_law_659 rfl ?_
  refine x_iconst (pc := 661) dL_law_661 ?_
  refine x_iadd (pc := 662) dL_law_662 ?_
  obtain ⟨q8, e⟩ := chk_some e
  refine x_sld (pc := 663) dL_law_663 q8 ?_
  obtain ⟨q9, e⟩ := chk_some e
  rcases bnd_some e with ⟨h10, r11, ec, rfl⟩ | ⟨h10, r11, ec, e⟩
  · exact y_callV_x (pc := 664) (c_X9_addWord hl ec) q9 mf_X9_addWord tw_7_82 tw_7_83 lf_L_179 rfl rfl dL_law_664 (by decide) rfl rfl (leb rfl) (xx_out0 rfl)
  refine y_callV_i (pc := 664) (c_X9_addWord hl ec) q9 mf_X9_addWord tw_7_82 tw_7_83 lf_L_179 rfl rfl dL_law_664 (by decide) rfl rfl (leb rfl) ?_
  refine x_istore (pc := 667) dL_law_667 (by decide) rfl ?_
  refine x_aload_n (pc := 669) 4 dL_law_669 rfl ?_
  obtain ⟨q12, e⟩ := chk_some e
  rcases bnd_some e with ⟨h13, r14, ec, rfl⟩ | ⟨h13, r14, ec, e⟩
  · exact y_callV_x (pc := 670) (c_X9_thrown hl ec) q12 mf_X9_thrown tw_7_12 tw_7_13 lf_L_155 rfl rfl dL_law_670 (by decide) rfl rfl (leb rfl) (xx_out0 rfl)
  refine y_callV_i (pc := 670) (c_X9_thrown hl ec) q12 mf_X9_thrown tw_7_12 tw_7_13 lf_L_155 rfl rfl dL_law_670 (by decide) rfl rfl (leb rfl) ?_
  refine x_iload (pc := 673) 1 dL_law_673 rfl ?_
  rcases ite_some e with ⟨q15, e⟩ | ⟨q15, e⟩
  · refine x_icmp_eq_t (pc := 675) (t := 680) dL_law_675 (by decide) q15 ?_
    refine x_iload (pc := 680) 1 dL_law_680 rfl ?_
    rcases ite_some e with ⟨q16, e⟩ | ⟨q16, e⟩
    · refine x_if_ne_f (pc := 682) (t := 697) dL_law_682 (by decide) q16 ?_
      refine x_aload_n (pc := 685) 5 dL_law_685 rfl ?_
      refine x_iconst (pc := 686) dL_law_686 ?_
      obtain ⟨q17, e⟩ := chk_some e
      obtain ⟨q18, e⟩ := chk_some e
      refine x_lald (pc := 687) dL_law_687 q17 q18 ?_
      refine x_iload (pc := 688) 0 dL_law_688 rfl ?_
      refine x_i2l (pc := 690) dL_law_690 ?_
      refine x_lcmp (pc := 691) dL_law_691 ?_
      rcases ite_some e with ⟨q19, e⟩ | ⟨q19, e⟩
      · refine x_if_eq_t (pc := 692) (t := 697) dL_law_692 (by decide) q19 ?_
        exact x_sub1 (p_L_law_L697 hl hk23 e) [2, 3, 4, 5, 6] rfl
      · refine x_if_eq_f (pc := 692) (t := 697) dL_law_692 (by decide) q19 ?_
        refine x_iconst (pc := 695) dL_law_695 ?_
        cases Option.some.inj e
        exact x_zret (pc := 696) rfl (Or.inl rfl) dL_law_696
    · refine x_if_ne_t (pc := 682) (t := 697) dL_law_682 (by decide) q16 ?_
      exact x_sub1 (p_L_law_L697 hl hk23 e) [2, 3, 4, 5, 6] rfl
  · refine x_icmp_eq_f (pc := 675) (t := 680) dL_law_675 (by decide) q15 ?_
    refine x_iconst (pc := 678) dL_law_678 ?_
    cases Option.some.inj e
    exact x_zret (pc := 679) rfl (Or.inl rfl) dL_law_679
noncomputable def f_L_law_L753 (xs : Nat → Int32) (xn : Nat) (k23 : Hp → Nat → Nat → Nat → Int32 → Option (Rs Int32)) (h : Hp) (a1 : Nat) (a2 : Nat) (a3 : Nat) (i4 : Int32) : Option (Rs Int32) :=
  f_L_law_L2775 xs xn k23 h a1 a2 a3 i4
theorem p_L_law_L753 {l : Launch} {K : Ctx} (hl : l.stackTraces = false) {k23 : Hp → Nat → Nat → Nat → Int32 → Option (Rs Int32)} (hk23 : ∀ (h : Hp) (a1 : Nat) (a2 : Nat) (a3 : Nat) (i4 : Int32) (t : Rs Int32), k23 h a1 a2 a3 i4 = some t → X l K mM_L_law (tgI t) 23 [(0, .ref 2000000), (1, .ref a1), (2, .ref a2), (3, .ref a3), (4, .int i4)] [] h) {h : Hp} {a1 : Nat} {a2 : Nat} {a3 : Nat} {i4 : Int32} {t : Rs Int32} (e : f_L_law_L753 (kXs K) (kLn K) k23 h a1 a2 a3 i4 = some t) : X l K mM_L_law (tgI t) 753 [(0, .ref 2000000), (1, .ref a1), (2, .ref a2), (3, .ref a3), (4, .int i4)] [] h := by
  unfold f_L_law_L753 at e
  refine x_goto (pc := 753) (t := 2775) dL_law_753 (by decide) ?_
  exact p_L_law_L2775 hl hk23 e
noncomputable def f_L_law_L700 (xs : Nat → Int32) (xn : Nat) (k23 : Hp → Nat → Nat → Nat → Int32 → Option (Rs Int32)) (h : Hp) (a1 : Nat) (a2 : Nat) (a3 : Nat) (i4 : Int32) : Option (Rs Int32) :=
  chk (vp_in (i4 + (iN 1)) xn) <|
  bnd (f_L_clearWords h a1 (xs (Int32.toNatClampNeg (i4 + (iN 1)))) a3) fun h2 r3 =>
  chk (vp_in (i4 + (iN 1)) xn) <|
  chk (okr h2 a2 9) <|
  bnd (f_X9_clearWords h2 a2 (xs (Int32.toNatClampNeg (i4 + (iN 1))))) fun h6 r7 =>
  chk (okr h6 a2 9) <|
  bnd (f_X9_thrown h6 a2) fun h9 r10 =>
  if r10 = r3 then (
    if r3 = 0 then (
      chk (okr h9 a3 21) <|
      chk (vp_in (iN 0) (qW h9 a3)) <|
      if (lg_cmp (qL h9 a3 (Int32.toNatClampNeg (iN 0))) (Int32.toInt64 r7)) = 0 then (
        f_L_law_L753 xs xn k23 h9 a1 a2 a3 i4
      ) else (
        some (h9, .inr (iN 0))
      )
    ) else (
      f_L_law_L753 xs xn k23 h9 a1 a2 a3 i4
    )
  ) else (
    some (h9, .inr (iN 0))
  )
theorem p_L_law_L700 {l : Launch} {K : Ctx} (hl : l.stackTraces = false) {k23 : Hp → Nat → Nat → Nat → Int32 → Option (Rs Int32)} (hk23 : ∀ (h : Hp) (a1 : Nat) (a2 : Nat) (a3 : Nat) (i4 : Int32) (t : Rs Int32), k23 h a1 a2 a3 i4 = some t → X l K mM_L_law (tgI t) 23 [(0, .ref 2000000), (1, .ref a1), (2, .ref a2), (3, .ref a3), (4, .int i4)] [] h) {h : Hp} {a1 : Nat} {a2 : Nat} {a3 : Nat} {i4 : Int32} {t : Rs Int32} (e : f_L_law_L700 (kXs K) (kLn K) k23 h a1 a2 a3 i4 = some t) : X l K mM_L_law (tgI t) 700 [(0, .ref 2000000), (1, .ref a1), (2, .ref a2), (3, .ref a3), (4, .int i4)] [] h := by
  unfold f_L_law_L700 at e
  refine x_aload_n (pc := 700) 1 dL_law_700 rfl ?_
  refine x_aload_n (pc := 701) 0 dL_law_701 rfl ?_
  refine x_iload (pc := 702) 4 dL_law_702 rfl ?_
  refine x_iconst (pc := 704) dL_law_704 ?_
  refine x_iadd (pc := 705) dL_law_705 ?_
  obtain ⟨q1, e⟩ := chk_some e
  refine x_sld (pc := 706) dL_law_706 q1 ?_
  refine x_aload_n (pc := 707) 3 dL_law_707 rfl ?_
  rcases bnd_some e with ⟨h2, r3, ec, rfl⟩ | ⟨h2, r3, ec, e⟩
  · exact y_callX_x (pc := 708) (c_L_clearWords hl ec) mf_L_clearWords tw_4_109 tw_4_108 dL_law_708 (by decide) rfl rfl (leb rfl) (xx_out0 rfl)
  refine y_callX_i (pc := 708) (c_L_clearWords hl ec) mf_L_clearWords tw_4_109 tw_4_108 dL_law_708 (by decide) rfl rfl (leb rfl) ?_
  refine x_istore (pc := 711) dL_law_711 (by decide) rfl ?_
  refine x_aload_n (pc := 713) 3 dL_law_713 rfl ?_
  refine x_aload_n (pc := 714) 1 dL_law_714 rfl ?_
  refine x_iload (pc := 715) 5 dL_law_715 rfl ?_
  refine x_iconst (pc := 717) dL_law_717 ?_
  refine x_iadd (pc := 718) dL_law_718 ?_
  obtain ⟨q4, e⟩ := chk_some e
  refine x_sld (pc := 719) dL_law_719 q4 ?_
  obtain ⟨q5, e⟩ := chk_some e
  rcases bnd_some e with ⟨h6, r7, ec, rfl⟩ | ⟨h6, r7, ec, e⟩
  · exact y_callV_x (pc := 720) (c_X9_clearWords hl ec) q5 mf_X9_clearWords tw_7_94 tw_7_95 lf_L_182 rfl rfl dL_law_720 (by decide) rfl rfl (leb rfl) (xx_out0 rfl)
  refine y_callV_i (pc := 720) (c_X9_clearWords hl ec) q5 mf_X9_clearWords tw_7_94 tw_7_95 lf_L_182 rfl rfl dL_law_720 (by decide) rfl rfl (leb rfl) ?_
  refine x_istore (pc := 723) dL_law_723 (by decide) rfl ?_
  refine x_aload_n (pc := 725) 4 dL_law_725 rfl ?_
  obtain ⟨q8, e⟩ := chk_some e
  rcases bnd_some e with ⟨h9, r10, ec, rfl⟩ | ⟨h9, r10, ec, e⟩
  · exact y_callV_x (pc := 726) (c_X9_thrown hl ec) q8 mf_X9_thrown tw_7_12 tw_7_13 lf_L_155 rfl rfl dL_law_726 (by decide) rfl rfl (leb rfl) (xx_out0 rfl)
  refine y_callV_i (pc := 726) (c_X9_thrown hl ec) q8 mf_X9_thrown tw_7_12 tw_7_13 lf_L_155 rfl rfl dL_law_726 (by decide) rfl rfl (leb rfl) ?_
  refine x_iload (pc := 729) 1 dL_law_729 rfl ?_
  rcases ite_some e with ⟨q11, e⟩ | ⟨q11, e⟩
  · refine x_icmp_eq_t (pc := 731) (t := 736) dL_law_731 (by decide) q11 ?_
    refine x_iload (pc := 736) 1 dL_law_736 rfl ?_
    rcases ite_some e with ⟨q12, e⟩ | ⟨q12, e⟩
    · refine x_if_ne_f (pc := 738) (t := 753) dL_law_738 (by decide) q12 ?_
      refine x_aload_n (pc := 741) 5 dL_law_741 rfl ?_
      refine x_iconst (pc := 742) dL_law_742 ?_
      obtain ⟨q13, e⟩ := chk_some e
      obtain ⟨q14, e⟩ := chk_some e
      refine x_lald (pc := 743) dL_law_743 q13 q14 ?_
      refine x_iload (pc := 744) 0 dL_law_744 rfl ?_
      refine x_i2l (pc := 746) dL_law_746 ?_
      refine x_lcmp (pc := 747) dL_law_747 ?_
      rcases ite_some e with ⟨q15, e⟩ | ⟨q15, e⟩
      · refine x_if_eq_t (pc := 748) (t := 753) dL_law_748 (by decide) q15 ?_
        exact x_sub1 (p_L_law_L753 hl hk23 e) [2, 3, 4, 5, 6] rfl
      · refine x_if_eq_f (pc := 748) (t := 753) dL_law_748 (by decide) q15 ?_
        refine x_iconst (pc := 751) dL_law_751 ?_
        cases Option.some.inj e
        exact x_zret (pc := 752) rfl (Or.inl rfl) dL_law_752
    · refine x_if_ne_t (pc := 738) (t := 753) dL_law_738 (by decide) q12 ?_
      exact x_sub1 (p_L_law_L753 hl hk23 e) [2, 3, 4, 5, 6] rfl
  · refine x_icmp_eq_f (pc := 731) (t := 736) dL_law_731 (by decide) q11 ?_
    refine x_iconst (pc := 734) dL_law_734 ?_
    cases Option.some.inj e
    exact x_zret (pc := 735) rfl (Or.inl rfl) dL_law_735
noncomputable def f_L_law_L833 (xs : Nat → Int32) (xn : Nat) (k23 : Hp → Nat → Nat → Nat → Int32 → Option (Rs Int32)) (h : Hp) (a1 : Nat) (a2 : Nat) (a3 : Nat) (i4 : Int32) : Option (Rs Int32) :=
  f_L_law_L2775 xs xn k23 h a1 a2 a3 i4
theorem p_L_law_L833 {l : Launch} {K : Ctx} (hl : l.stackTraces = false) {k23 : Hp → Nat → Nat → Nat → Int32 → Option (Rs Int32)} (hk23 : ∀ (h : Hp) (a1 : Nat) (a2 : Nat) (a3 : Nat) (i4 : Int32) (t : Rs Int32), k23 h a1 a2 a3 i4 = some t → X l K mM_L_law (tgI t) 23 [(0, .ref 2000000), (1, .ref a1), (2, .ref a2), (3, .ref a3), (4, .int i4)] [] h) {h : Hp} {a1 : Nat} {a2 : Nat} {a3 : Nat} {i4 : Int32} {t : Rs Int32} (e : f_L_law_L833 (kXs K) (kLn K) k23 h a1 a2 a3 i4 = some t) : X l K mM_L_law (tgI t) 833 [(0, .ref 2000000), (1, .ref a1), (2, .ref a2), (3, .ref a3), (4, .int i4)] [] h := by
  unfold f_L_law_L833 at e
  refine x_goto (pc := 833) (t := 2775) dL_law_833 (by decide) ?_
  exact p_L_law_L2775 hl hk23 e
noncomputable def f_L_law_L756 (xs : Nat → Int32) (xn : Nat) (k23 : Hp → Nat → Nat → Nat → Int32 → Option (Rs Int32)) (h : Hp) (a1 : Nat) (a2 : Nat) (a3 : Nat) (i4 : Int32) : Option (Rs Int32) :=
  chk (vp_in (i4 + (iN 1)) xn) <|
  chk (vp_in (i4 + (iN 2)) xn) <|
  chk (vp_in (i4 + (iN 3)) xn) <|
  bnd (f_L_setSize h a1 (xs (Int32.toNatClampNeg (i4 + (iN 1)))) (xs (Int32.toNatClampNeg (i4 + (iN 2)))) (xs (Int32.toNatClampNeg (i4 + (iN 3)))) a3) fun h4 r5 =>
  chk (vp_in (i4 + (iN 1)) xn) <|
  chk (vp_in (i4 + (iN 2)) xn) <|
  chk (vp_in (i4 + (iN 3)) xn) <|
  chk (okr h4 a2 9) <|
  bnd (f_X9_setSize h4 a2 (xs (Int32.toNatClampNeg (i4 + (iN 1)))) (xs (Int32.toNatClampNeg (i4 + (iN 2)))) (xs (Int32.toNatClampNeg (i4 + (iN 3))))) fun h10 r11 =>
  chk (okr h10 a2 9) <|
  bnd (f_X9_thrown h10 a2) fun h13 r14 =>
  if r14 = r5 then (
    if r5 = 0 then (
      chk (okr h13 a3 21) <|
      chk (vp_in (iN 0) (qW h13 a3)) <|
      if (lg_cmp (qL h13 a3 (Int32.toNatClampNeg (iN 0))) (Int32.toInt64 r11)) = 0 then (
        f_L_law_L833 xs xn k23 h13 a1 a2 a3 i4
      ) else (
        some (h13, .inr (iN 0))
      )
    ) else (
      f_L_law_L833 xs xn k23 h13 a1 a2 a3 i4
    )
  ) else (
    some (h13, .inr (iN 0))
  )
theorem p_L_law_L756 {l : Launch} {K : Ctx} (hl : l.stackTraces = false) {k23 : Hp → Nat → Nat → Nat → Int32 → Option (Rs Int32)} (hk23 : ∀ (h : Hp) (a1 : Nat) (a2 : Nat) (a3 : Nat) (i4 : Int32) (t : Rs Int32), k23 h a1 a2 a3 i4 = some t → X l K mM_L_law (tgI t) 23 [(0, .ref 2000000), (1, .ref a1), (2, .ref a2), (3, .ref a3), (4, .int i4)] [] h) {h : Hp} {a1 : Nat} {a2 : Nat} {a3 : Nat} {i4 : Int32} {t : Rs Int32} (e : f_L_law_L756 (kXs K) (kLn K) k23 h a1 a2 a3 i4 = some t) : X l K mM_L_law (tgI t) 756 [(0, .ref 2000000), (1, .ref a1), (2, .ref a2), (3, .ref a3), (4, .int i4)] [] h := by
  unfold f_L_law_L756 at e
  refine x_aload_n (pc := 756) 1 dL_law_756 rfl ?_
  refine x_aload_n (pc := 757) 0 dL_law_757 rfl ?_
  refine x_iload (pc := 758) 4 dL_law_758 rfl ?_
  refine x_iconst (pc := 760) dL_law_760 ?_
  refine x_iadd (pc := 761) dL_law_761 ?_
  obtain ⟨q1, e⟩ := chk_some e
  refine x_sld (pc := 762) dL_law_762 q1 ?_
  refine x_aload_n (pc := 763) 0 dL_law_763 rfl ?_
  refine x_iload (pc := 764) 4 dL_law_764 rfl ?_
  refine x_iconst (pc := 766) dL_law_766 ?_
  refine x_iadd (pc := 767) dL_law_767 ?_
  obtain ⟨q2, e⟩ := chk_some e
  refine x_sld (pc := 768) dL_law_768 q2 ?_
  refine x_aload_n (pc := 769) 0 dL_law_769 rfl ?_
  refine x_iload (pc := 770) 4 dL_law_770 rfl ?_
  refine x_iconst (pc := 772) dL_law_772 ?_
  refine x_iadd (pc := 773) dL_law_773 ?_
  obtain ⟨q3, e⟩ := chk_some e
  refine x_sld (pc := 774) dL_law_774 q3 ?_
  refine x_aload_n (pc := 775) 3 dL_law_775 rfl ?_
  rcases bnd_some e with ⟨h4, r5, ec, rfl⟩ | ⟨h4, r5, ec, e⟩
  · exact y_callX_x (pc := 776) (c_L_setSize hl ec) mf_L_setSize tw_4_116 tw_4_115 dL_law_776 (by decide) rfl rfl (leb rfl) (xx_out0 rfl)
  refine y_callX_i (pc := 776) (c_L_setSize hl ec) mf_L_setSize tw_4_116 tw_4_115 dL_law_776 (by decide) rfl rfl (leb rfl) ?_
  refine x_istore (pc := 779) dL_law_779 (by decide) rfl ?_
  refine x_aload_n (pc := 781) 3 dL_law_781 rfl ?_
  refine x_aload_n (pc := 782) 1 dL_law_782 rfl ?_
  refine x_iload (pc := 783) 5 dL_law_783 rfl ?_
  refine x_iconst (pc := 785) dL_law_785 ?_
  refine x_iadd (pc := 786) dL_law_786 ?_
  obtain ⟨q6, e⟩ := chk_some e
  refine x_sld (pc := 787) dL_law_787 q6 ?_
  refine x_aload_n (pc := 788) 1 dL_law_788 rfl ?_
  refine x_iload (pc := 789) 5 dL_law_789 rfl ?_
  refine x_iconst (pc := 791) dL_law_791 ?_
  refine x_iadd (pc := 792) dL_law_792 ?_
  obtain ⟨q7, e⟩ := chk_some e
  refine x_sld (pc := 793) dL_law_793 q7 ?_
  refine x_aload_n (pc := 794) 1 dL_law_794 rfl ?_
  refine x_iload (pc := 795) 5 dL_law_795 rfl ?_
  refine x_iconst (pc := 797) dL_law_797 ?_
  refine x_iadd (pc := 798) dL_law_798 ?_
  obtain ⟨q8, e⟩ := chk_some e
  refine x_sld (pc := 799) dL_law_799 q8 ?_
  obtain ⟨q9, e⟩ := chk_some e
  rcases bnd_some e with ⟨h10, r11, ec, rfl⟩ | ⟨h10, r11, ec, e⟩
  · exact y_callV_x (pc := 800) (c_X9_setSize hl ec) q9 mf_X9_setSize tw_7_98 tw_7_99 lf_L_185 rfl rfl dL_law_800 (by decide) rfl rfl (leb rfl) (xx_out0 rfl)
  refine y_callV_i (pc := 800) (c_X9_setSize hl ec) q9 mf_X9_setSize tw_7_98 tw_7_99 lf_L_185 rfl rfl dL_law_800 (by decide) rfl rfl (leb rfl) ?_
  refine x_istore (pc := 803) dL_law_803 (by decide) rfl ?_
  refine x_aload_n (pc := 805) 4 dL_law_805 rfl ?_
  obtain ⟨q12, e⟩ := chk_some e
  rcases bnd_some e with ⟨h13, r14, ec, rfl⟩ | ⟨h13, r14, ec, e⟩
  · exact y_callV_x (pc := 806) (c_X9_thrown hl ec) q12 mf_X9_thrown tw_7_12 tw_7_13 lf_L_155 rfl rfl dL_law_806 (by decide) rfl rfl (leb rfl) (xx_out0 rfl)
  refine y_callV_i (pc := 806) (c_X9_thrown hl ec) q12 mf_X9_thrown tw_7_12 tw_7_13 lf_L_155 rfl rfl dL_law_806 (by decide) rfl rfl (leb rfl) ?_
  refine x_iload (pc := 809) 1 dL_law_809 rfl ?_
  rcases ite_some e with ⟨q15, e⟩ | ⟨q15, e⟩
  · refine x_icmp_eq_t (pc := 811) (t := 816) dL_law_811 (by decide) q15 ?_
    refine x_iload (pc := 816) 1 dL_law_816 rfl ?_
    rcases ite_some e with ⟨q16, e⟩ | ⟨q16, e⟩
    · refine x_if_ne_f (pc := 818) (t := 833) dL_law_818 (by decide) q16 ?_
      refine x_aload_n (pc := 821) 5 dL_law_821 rfl ?_
      refine x_iconst (pc := 822) dL_law_822 ?_
      obtain ⟨q17, e⟩ := chk_some e
      obtain ⟨q18, e⟩ := chk_some e
      refine x_lald (pc := 823) dL_law_823 q17 q18 ?_
      refine x_iload (pc := 824) 0 dL_law_824 rfl ?_
      refine x_i2l (pc := 826) dL_law_826 ?_
      refine x_lcmp (pc := 827) dL_law_827 ?_
      rcases ite_some e with ⟨q19, e⟩ | ⟨q19, e⟩
      · refine x_if_eq_t (pc := 828) (t := 833) dL_law_828 (by decide) q19 ?_
        exact x_sub1 (p_L_law_L833 hl hk23 e) [2, 3, 4, 5, 6] rfl
      · refine x_if_eq_f (pc := 828) (t := 833) dL_law_828 (by decide) q19 ?_
        refine x_iconst (pc := 831) dL_law_831 ?_
        cases Option.some.inj e
        exact x_zret (pc := 832) rfl (Or.inl rfl) dL_law_832
    · refine x_if_ne_t (pc := 818) (t := 833) dL_law_818 (by decide) q16 ?_
      exact x_sub1 (p_L_law_L833 hl hk23 e) [2, 3, 4, 5, 6] rfl
  · refine x_icmp_eq_f (pc := 811) (t := 816) dL_law_811 (by decide) q15 ?_
    refine x_iconst (pc := 814) dL_law_814 ?_
    cases Option.some.inj e
    exact x_zret (pc := 815) rfl (Or.inl rfl) dL_law_815
noncomputable def f_L_law_L901 (xs : Nat → Int32) (xn : Nat) (k23 : Hp → Nat → Nat → Nat → Int32 → Option (Rs Int32)) (h : Hp) (a1 : Nat) (a2 : Nat) (a3 : Nat) (i4 : Int32) : Option (Rs Int32) :=
  f_L_law_L2775 xs xn k23 h a1 a2 a3 i4
theorem p_L_law_L901 {l : Launch} {K : Ctx} (hl : l.stackTraces = false) {k23 : Hp → Nat → Nat → Nat → Int32 → Option (Rs Int32)} (hk23 : ∀ (h : Hp) (a1 : Nat) (a2 : Nat) (a3 : Nat) (i4 : Int32) (t : Rs Int32), k23 h a1 a2 a3 i4 = some t → X l K mM_L_law (tgI t) 23 [(0, .ref 2000000), (1, .ref a1), (2, .ref a2), (3, .ref a3), (4, .int i4)] [] h) {h : Hp} {a1 : Nat} {a2 : Nat} {a3 : Nat} {i4 : Int32} {t : Rs Int32} (e : f_L_law_L901 (kXs K) (kLn K) k23 h a1 a2 a3 i4 = some t) : X l K mM_L_law (tgI t) 901 [(0, .ref 2000000), (1, .ref a1), (2, .ref a2), (3, .ref a3), (4, .int i4)] [] h := by
  unfold f_L_law_L901 at e
  refine x_goto (pc := 901) (t := 2775) dL_law_901 (by decide) ?_
  exact p_L_law_L2775 hl hk23 e
noncomputable def f_L_law_L836 (xs : Nat → Int32) (xn : Nat) (k23 : Hp → Nat → Nat → Nat → Int32 → Option (Rs Int32)) (h : Hp) (a1 : Nat) (a2 : Nat) (a3 : Nat) (i4 : Int32) : Option (Rs Int32) :=
  chk (vp_in (i4 + (iN 1)) xn) <|
  chk (vp_in (i4 + (iN 2)) xn) <|
  bnd (f_L_setKind h a1 (xs (Int32.toNatClampNeg (i4 + (iN 1)))) (xs (Int32.toNatClampNeg (i4 + (iN 2)))) a3) fun h3 r4 =>
  chk (vp_in (i4 + (iN 1)) xn) <|
  chk (vp_in (i4 + (iN 2)) xn) <|
  chk (okr h3 a2 9) <|
  bnd (f_X9_setKind h3 a2 (xs (Int32.toNatClampNeg (i4 + (iN 1)))) (xs (Int32.toNatClampNeg (i4 + (iN 2))))) fun h8 r9 =>
  chk (okr h8 a2 9) <|
  bnd (f_X9_thrown h8 a2) fun h11 r12 =>
  if r12 = r4 then (
    if r4 = 0 then (
      chk (okr h11 a3 21) <|
      chk (vp_in (iN 0) (qW h11 a3)) <|
      if (lg_cmp (qL h11 a3 (Int32.toNatClampNeg (iN 0))) (Int32.toInt64 r9)) = 0 then (
        f_L_law_L901 xs xn k23 h11 a1 a2 a3 i4
      ) else (
        some (h11, .inr (iN 0))
      )
    ) else (
      f_L_law_L901 xs xn k23 h11 a1 a2 a3 i4
    )
  ) else (
    some (h11, .inr (iN 0))
  )
theorem p_L_law_L836 {l : Launch} {K : Ctx} (hl : l.stackTraces = false) {k23 : Hp → Nat → Nat → Nat → Int32 → Option (Rs Int32)} (hk23 : ∀ (h : Hp) (a1 : Nat) (a2 : Nat) (a3 : Nat) (i4 : Int32) (t : Rs Int32), k23 h a1 a2 a3 i4 = some t → X l K mM_L_law (tgI t) 23 [(0, .ref 2000000), (1, .ref a1), (2, .ref a2), (3, .ref a3), (4, .int i4)] [] h) {h : Hp} {a1 : Nat} {a2 : Nat} {a3 : Nat} {i4 : Int32} {t : Rs Int32} (e : f_L_law_L836 (kXs K) (kLn K) k23 h a1 a2 a3 i4 = some t) : X l K mM_L_law (tgI t) 836 [(0, .ref 2000000), (1, .ref a1), (2, .ref a2), (3, .ref a3), (4, .int i4)] [] h := by
  unfold f_L_law_L836 at e
  refine x_aload_n (pc := 836) 1 dL_law_836 rfl ?_
  refine x_aload_n (pc := 837) 0 dL_law_837 rfl ?_
  refine x_iload (pc := 838) 4 dL_law_838 rfl ?_
  refine x_iconst (pc := 840) dL_law_840 ?_
  refine x_iadd (pc := 841) dL_law_841 ?_
  obtain ⟨q1, e⟩ := chk_some e
  refine x_sld (pc := 842) dL_law_842 q1 ?_
  refine x_aload_n (pc := 843) 0 dL_law_843 rfl ?_
  refine x_iload (pc := 844) 4 dL_law_844 rfl ?_
  refine x_iconst (pc := 846) dL_law_846 ?_
  refine x_iadd (pc := 847) dL_law_847 ?_
  obtain ⟨q2, e⟩ := chk_some e
  refine x_sld (pc := 848) dL_law_848 q2 ?_
  refine x_aload_n (pc := 849) 3 dL_law_849 rfl ?_
  rcases bnd_some e with ⟨h3, r4, ec, rfl⟩ | ⟨h3, r4, ec, e⟩
  · exact y_callX_x (pc := 850) (c_L_setKind hl ec) mf_L_setKind tw_4_127 tw_4_126 dL_law_850 (by decide) rfl rfl (leb rfl) (xx_out0 rfl)
  refine y_callX_i (pc := 850) (c_L_setKind hl ec) mf_L_setKind tw_4_127 tw_4_126 dL_law_850 (by decide) rfl rfl (leb rfl) ?_
  refine x_istore (pc := 853) dL_law_853 (by decide) rfl ?_
  refine x_aload_n (pc := 855) 3 dL_law_855 rfl ?_
  refine x_aload_n (pc := 856) 1 dL_law_856 rfl ?_
  refine x_iload (pc := 857) 5 dL_law_857 rfl ?_
  refine x_iconst (pc := 859) dL_law_859 ?_
  refine x_iadd (pc := 860) dL_law_860 ?_
  obtain ⟨q5, e⟩ := chk_some e
  refine x_sld (pc := 861) dL_law_861 q5 ?_
  refine x_aload_n (pc := 862) 1 dL_law_862 rfl ?_
  refine x_iload (pc := 863) 5 dL_law_863 rfl ?_
  refine x_iconst (pc := 865) dL_law_865 ?_
  refine x_iadd (pc := 866) dL_law_866 ?_
  obtain ⟨q6, e⟩ := chk_some e
  refine x_sld (pc := 867) dL_law_867 q6 ?_
  obtain ⟨q7, e⟩ := chk_some e
  rcases bnd_some e with ⟨h8, r9, ec, rfl⟩ | ⟨h8, r9, ec, e⟩
  · exact y_callV_x (pc := 868) (c_X9_setKind hl ec) q7 mf_X9_setKind tw_7_102 tw_7_103 lf_L_188 rfl rfl dL_law_868 (by decide) rfl rfl (leb rfl) (xx_out0 rfl)
  refine y_callV_i (pc := 868) (c_X9_setKind hl ec) q7 mf_X9_setKind tw_7_102 tw_7_103 lf_L_188 rfl rfl dL_law_868 (by decide) rfl rfl (leb rfl) ?_
  refine x_istore (pc := 871) dL_law_871 (by decide) rfl ?_
  refine x_aload_n (pc := 873) 4 dL_law_873 rfl ?_
  obtain ⟨q10, e⟩ := chk_some e
  rcases bnd_some e with ⟨h11, r12, ec, rfl⟩ | ⟨h11, r12, ec, e⟩
  · exact y_callV_x (pc := 874) (c_X9_thrown hl ec) q10 mf_X9_thrown tw_7_12 tw_7_13 lf_L_155 rfl rfl dL_law_874 (by decide) rfl rfl (leb rfl) (xx_out0 rfl)
  refine y_callV_i (pc := 874) (c_X9_thrown hl ec) q10 mf_X9_thrown tw_7_12 tw_7_13 lf_L_155 rfl rfl dL_law_874 (by decide) rfl rfl (leb rfl) ?_
  refine x_iload (pc := 877) 1 dL_law_877 rfl ?_
  rcases ite_some e with ⟨q13, e⟩ | ⟨q13, e⟩
  · refine x_icmp_eq_t (pc := 879) (t := 884) dL_law_879 (by decide) q13 ?_
    refine x_iload (pc := 884) 1 dL_law_884 rfl ?_
    rcases ite_some e with ⟨q14, e⟩ | ⟨q14, e⟩
    · refine x_if_ne_f (pc := 886) (t := 901) dL_law_886 (by decide) q14 ?_
      refine x_aload_n (pc := 889) 5 dL_law_889 rfl ?_
      refine x_iconst (pc := 890) dL_law_890 ?_
      obtain ⟨q15, e⟩ := chk_some e
      obtain ⟨q16, e⟩ := chk_some e
      refine x_lald (pc := 891) dL_law_891 q15 q16 ?_
      refine x_iload (pc := 892) 0 dL_law_892 rfl ?_
      refine x_i2l (pc := 894) dL_law_894 ?_
      refine x_lcmp (pc := 895) dL_law_895 ?_
      rcases ite_some e with ⟨q17, e⟩ | ⟨q17, e⟩
      · refine x_if_eq_t (pc := 896) (t := 901) dL_law_896 (by decide) q17 ?_
        exact x_sub1 (p_L_law_L901 hl hk23 e) [2, 3, 4, 5, 6] rfl
      · refine x_if_eq_f (pc := 896) (t := 901) dL_law_896 (by decide) q17 ?_
        refine x_iconst (pc := 899) dL_law_899 ?_
        cases Option.some.inj e
        exact x_zret (pc := 900) rfl (Or.inl rfl) dL_law_900
    · refine x_if_ne_t (pc := 886) (t := 901) dL_law_886 (by decide) q14 ?_
      exact x_sub1 (p_L_law_L901 hl hk23 e) [2, 3, 4, 5, 6] rfl
  · refine x_icmp_eq_f (pc := 879) (t := 884) dL_law_879 (by decide) q13 ?_
    refine x_iconst (pc := 882) dL_law_882 ?_
    cases Option.some.inj e
    exact x_zret (pc := 883) rfl (Or.inl rfl) dL_law_883
noncomputable def f_L_law_L957 (xs : Nat → Int32) (xn : Nat) (k23 : Hp → Nat → Nat → Nat → Int32 → Option (Rs Int32)) (h : Hp) (a1 : Nat) (a2 : Nat) (a3 : Nat) (i4 : Int32) : Option (Rs Int32) :=
  f_L_law_L2775 xs xn k23 h a1 a2 a3 i4
theorem p_L_law_L957 {l : Launch} {K : Ctx} (hl : l.stackTraces = false) {k23 : Hp → Nat → Nat → Nat → Int32 → Option (Rs Int32)} (hk23 : ∀ (h : Hp) (a1 : Nat) (a2 : Nat) (a3 : Nat) (i4 : Int32) (t : Rs Int32), k23 h a1 a2 a3 i4 = some t → X l K mM_L_law (tgI t) 23 [(0, .ref 2000000), (1, .ref a1), (2, .ref a2), (3, .ref a3), (4, .int i4)] [] h) {h : Hp} {a1 : Nat} {a2 : Nat} {a3 : Nat} {i4 : Int32} {t : Rs Int32} (e : f_L_law_L957 (kXs K) (kLn K) k23 h a1 a2 a3 i4 = some t) : X l K mM_L_law (tgI t) 957 [(0, .ref 2000000), (1, .ref a1), (2, .ref a2), (3, .ref a3), (4, .int i4)] [] h := by
  unfold f_L_law_L957 at e
  refine x_goto (pc := 957) (t := 2775) dL_law_957 (by decide) ?_
  exact p_L_law_L2775 hl hk23 e
noncomputable def f_L_law_L904 (xs : Nat → Int32) (xn : Nat) (k23 : Hp → Nat → Nat → Nat → Int32 → Option (Rs Int32)) (h : Hp) (a1 : Nat) (a2 : Nat) (a3 : Nat) (i4 : Int32) : Option (Rs Int32) :=
  chk (vp_in (i4 + (iN 1)) xn) <|
  bnd (f_L_append h a1 (xs (Int32.toNatClampNeg (i4 + (iN 1)))) a3) fun h2 r3 =>
  chk (vp_in (i4 + (iN 1)) xn) <|
  chk (okr h2 a2 9) <|
  bnd (f_X9_append h2 a2 (xs (Int32.toNatClampNeg (i4 + (iN 1))))) fun h6 r7 =>
  chk (okr h6 a2 9) <|
  bnd (f_X9_thrown h6 a2) fun h9 r10 =>
  if r10 = r3 then (
    if r3 = 0 then (
      chk (okr h9 a3 21) <|
      chk (vp_in (iN 0) (qW h9 a3)) <|
      if (lg_cmp (qL h9 a3 (Int32.toNatClampNeg (iN 0))) (Int32.toInt64 r7)) = 0 then (
        f_L_law_L957 xs xn k23 h9 a1 a2 a3 i4
      ) else (
        some (h9, .inr (iN 0))
      )
    ) else (
      f_L_law_L957 xs xn k23 h9 a1 a2 a3 i4
    )
  ) else (
    some (h9, .inr (iN 0))
  )
theorem p_L_law_L904 {l : Launch} {K : Ctx} (hl : l.stackTraces = false) {k23 : Hp → Nat → Nat → Nat → Int32 → Option (Rs Int32)} (hk23 : ∀ (h : Hp) (a1 : Nat) (a2 : Nat) (a3 : Nat) (i4 : Int32) (t : Rs Int32), k23 h a1 a2 a3 i4 = some t → X l K mM_L_law (tgI t) 23 [(0, .ref 2000000), (1, .ref a1), (2, .ref a2), (3, .ref a3), (4, .int i4)] [] h) {h : Hp} {a1 : Nat} {a2 : Nat} {a3 : Nat} {i4 : Int32} {t : Rs Int32} (e : f_L_law_L904 (kXs K) (kLn K) k23 h a1 a2 a3 i4 = some t) : X l K mM_L_law (tgI t) 904 [(0, .ref 2000000), (1, .ref a1), (2, .ref a2), (3, .ref a3), (4, .int i4)] [] h := by
  unfold f_L_law_L904 at e
  refine x_aload_n (pc := 904) 1 dL_law_904 rfl ?_
  refine x_aload_n (pc := 905) 0 dL_law_905 rfl ?_
  refine x_iload (pc := 906) 4 dL_law_906 rfl ?_
  refine x_iconst (pc := 908) dL_law_908 ?_
  refine x_iadd (pc := 909) dL_law_909 ?_
  obtain ⟨q1, e⟩ := chk_some e
  refine x_sld (pc := 910) dL_law_910 q1 ?_
  refine x_aload_n (pc := 911) 3 dL_law_911 rfl ?_
  rcases bnd_some e with ⟨h2, r3, ec, rfl⟩ | ⟨h2, r3, ec, e⟩
  · exact y_callX_x (pc := 912) (c_L_append hl ec) mf_L_append tw_4_141 tw_4_140 dL_law_912 (by decide) rfl rfl (leb rfl) (xx_out0 rfl)
  refine y_callX_i (pc := 912) (c_L_append hl ec) mf_L_append tw_4_141 tw_4_140 dL_law_912 (by decide) rfl rfl (leb rfl) ?_
  refine x_istore (pc := 915) dL_law_915 (by decide) rfl ?_
  refine x_aload_n (pc := 917) 3 dL_law_917 rfl ?_
  refine x_aload_n (pc := 918) 1 dL_law_918 rfl ?_
  refine x_iload (pc := 919) 5 dL_law_919 rfl ?_
  refine x_iconst (pc := 921) dL_law_921 ?_
  refine x_iadd (pc := 922) dL_law_922 ?_
  obtain ⟨q4, e⟩ := chk_some e
  refine x_sld (pc := 923) dL_law_923 q4 ?_
  obtain ⟨q5, e⟩ := chk_some e
  rcases bnd_some e with ⟨h6, r7, ec, rfl⟩ | ⟨h6, r7, ec, e⟩
  · exact y_callV_x (pc := 924) (c_X9_append hl ec) q5 mf_X9_append tw_7_106 tw_7_107 lf_L_191 rfl rfl dL_law_924 (by decide) rfl rfl (leb rfl) (xx_out0 rfl)
  refine y_callV_i (pc := 924) (c_X9_append hl ec) q5 mf_X9_append tw_7_106 tw_7_107 lf_L_191 rfl rfl dL_law_924 (by decide) rfl rfl (leb rfl) ?_
  refine x_istore (pc := 927) dL_law_927 (by decide) rfl ?_
  refine x_aload_n (pc := 929) 4 dL_law_929 rfl ?_
  obtain ⟨q8, e⟩ := chk_some e
  rcases bnd_some e with ⟨h9, r10, ec, rfl⟩ | ⟨h9, r10, ec, e⟩
  · exact y_callV_x (pc := 930) (c_X9_thrown hl ec) q8 mf_X9_thrown tw_7_12 tw_7_13 lf_L_155 rfl rfl dL_law_930 (by decide) rfl rfl (leb rfl) (xx_out0 rfl)
  refine y_callV_i (pc := 930) (c_X9_thrown hl ec) q8 mf_X9_thrown tw_7_12 tw_7_13 lf_L_155 rfl rfl dL_law_930 (by decide) rfl rfl (leb rfl) ?_
  refine x_iload (pc := 933) 1 dL_law_933 rfl ?_
  rcases ite_some e with ⟨q11, e⟩ | ⟨q11, e⟩
  · refine x_icmp_eq_t (pc := 935) (t := 940) dL_law_935 (by decide) q11 ?_
    refine x_iload (pc := 940) 1 dL_law_940 rfl ?_
    rcases ite_some e with ⟨q12, e⟩ | ⟨q12, e⟩
    · refine x_if_ne_f (pc := 942) (t := 957) dL_law_942 (by decide) q12 ?_
      refine x_aload_n (pc := 945) 5 dL_law_945 rfl ?_
      refine x_iconst (pc := 946) dL_law_946 ?_
      obtain ⟨q13, e⟩ := chk_some e
      obtain ⟨q14, e⟩ := chk_some e
      refine x_lald (pc := 947) dL_law_947 q13 q14 ?_
      refine x_iload (pc := 948) 0 dL_law_948 rfl ?_
      refine x_i2l (pc := 950) dL_law_950 ?_
      refine x_lcmp (pc := 951) dL_law_951 ?_
      rcases ite_some e with ⟨q15, e⟩ | ⟨q15, e⟩
      · refine x_if_eq_t (pc := 952) (t := 957) dL_law_952 (by decide) q15 ?_
        exact x_sub1 (p_L_law_L957 hl hk23 e) [2, 3, 4, 5, 6] rfl
      · refine x_if_eq_f (pc := 952) (t := 957) dL_law_952 (by decide) q15 ?_
        refine x_iconst (pc := 955) dL_law_955 ?_
        cases Option.some.inj e
        exact x_zret (pc := 956) rfl (Or.inl rfl) dL_law_956
    · refine x_if_ne_t (pc := 942) (t := 957) dL_law_942 (by decide) q12 ?_
      exact x_sub1 (p_L_law_L957 hl hk23 e) [2, 3, 4, 5, 6] rfl
  · refine x_icmp_eq_f (pc := 935) (t := 940) dL_law_935 (by decide) q11 ?_
    refine x_iconst (pc := 938) dL_law_938 ?_
    cases Option.some.inj e
    exact x_zret (pc := 939) rfl (Or.inl rfl) dL_law_939
noncomputable def f_L_law_L1001 (xs : Nat → Int32) (xn : Nat) (k23 : Hp → Nat → Nat → Nat → Int32 → Option (Rs Int32)) (h : Hp) (a1 : Nat) (a2 : Nat) (a3 : Nat) (i4 : Int32) : Option (Rs Int32) :=
  f_L_law_L2775 xs xn k23 h a1 a2 a3 i4
theorem p_L_law_L1001 {l : Launch} {K : Ctx} (hl : l.stackTraces = false) {k23 : Hp → Nat → Nat → Nat → Int32 → Option (Rs Int32)} (hk23 : ∀ (h : Hp) (a1 : Nat) (a2 : Nat) (a3 : Nat) (i4 : Int32) (t : Rs Int32), k23 h a1 a2 a3 i4 = some t → X l K mM_L_law (tgI t) 23 [(0, .ref 2000000), (1, .ref a1), (2, .ref a2), (3, .ref a3), (4, .int i4)] [] h) {h : Hp} {a1 : Nat} {a2 : Nat} {a3 : Nat} {i4 : Int32} {t : Rs Int32} (e : f_L_law_L1001 (kXs K) (kLn K) k23 h a1 a2 a3 i4 = some t) : X l K mM_L_law (tgI t) 1001 [(0, .ref 2000000), (1, .ref a1), (2, .ref a2), (3, .ref a3), (4, .int i4)] [] h := by
  unfold f_L_law_L1001 at e
  refine x_goto (pc := 1001) (t := 2775) dL_law_1001 (by decide) ?_
  exact p_L_law_L2775 hl hk23 e
noncomputable def f_L_law_L960 (xs : Nat → Int32) (xn : Nat) (k23 : Hp → Nat → Nat → Nat → Int32 → Option (Rs Int32)) (h : Hp) (a1 : Nat) (a2 : Nat) (a3 : Nat) (i4 : Int32) : Option (Rs Int32) :=
  bnd (f_L_execute h a1 a3) fun h1 r2 =>
  chk (okr h1 a2 9) <|
  bnd (f_X9_execute h1 a2) fun h4 r5 =>
  chk (okr h4 a2 9) <|
  bnd (f_X9_thrown h4 a2) fun h7 r8 =>
  if r8 = r2 then (
    if r2 = 0 then (
      chk (okr h7 a3 21) <|
      chk (vp_in (iN 0) (qW h7 a3)) <|
      if (lg_cmp (qL h7 a3 (Int32.toNatClampNeg (iN 0))) (Int32.toInt64 r5)) = 0 then (
        f_L_law_L1001 xs xn k23 h7 a1 a2 a3 i4
      ) else (
        some (h7, .inr (iN 0))
      )
    ) else (
      f_L_law_L1001 xs xn k23 h7 a1 a2 a3 i4
    )
  ) else (
    some (h7, .inr (iN 0))
  )
theorem p_L_law_L960 {l : Launch} {K : Ctx} (hl : l.stackTraces = false) {k23 : Hp → Nat → Nat → Nat → Int32 → Option (Rs Int32)} (hk23 : ∀ (h : Hp) (a1 : Nat) (a2 : Nat) (a3 : Nat) (i4 : Int32) (t : Rs Int32), k23 h a1 a2 a3 i4 = some t → X l K mM_L_law (tgI t) 23 [(0, .ref 2000000), (1, .ref a1), (2, .ref a2), (3, .ref a3), (4, .int i4)] [] h) {h : Hp} {a1 : Nat} {a2 : Nat} {a3 : Nat} {i4 : Int32} {t : Rs Int32} (e : f_L_law_L960 (kXs K) (kLn K) k23 h a1 a2 a3 i4 = some t) : X l K mM_L_law (tgI t) 960 [(0, .ref 2000000), (1, .ref a1), (2, .ref a2), (3, .ref a3), (4, .int i4)] [] h := by
  unfold f_L_law_L960 at e
  refine x_aload_n (pc := 960) 1 dL_law_960 rfl ?_
  refine x_aload_n (pc := 961) 3 dL_law_961 rfl ?_
  rcases bnd_some e with ⟨h1, r2, ec, rfl⟩ | ⟨h1, r2, ec, e⟩
  · exact y_callX_x (pc := 962) (c_L_execute hl ec) mf_L_execute tw_4_152 tw_4_151 dL_law_962 (by decide) rfl rfl (leb rfl) (xx_out0 rfl)
  refine y_callX_i (pc := 962) (c_L_execute hl ec) mf_L_execute tw_4_152 tw_4_151 dL_law_962 (by decide) rfl rfl (leb rfl) ?_
  refine x_istore (pc := 965) dL_law_965 (by decide) rfl ?_
  refine x_aload_n (pc := 967) 3 dL_law_967 rfl ?_
  obtain ⟨q3, e⟩ := chk_some e
  rcases bnd_some e with ⟨h4, r5, ec, rfl⟩ | ⟨h4, r5, ec, e⟩
  · exact y_callV_x (pc := 968) (c_X9_execute hl ec) q3 mf_X9_execute tw_7_114 tw_7_115 lf_L_194 rfl rfl dL_law_968 (by decide) rfl rfl (leb rfl) (xx_out0 rfl)
  refine y_callV_i (pc := 968) (c_X9_execute hl ec) q3 mf_X9_execute tw_7_114 tw_7_115 lf_L_194 rfl rfl dL_law_968 (by decide) rfl rfl (leb rfl) ?_
  refine x_istore (pc := 971) dL_law_971 (by decide) rfl ?_
  refine x_aload_n (pc := 973) 4 dL_law_973 rfl ?_
  obtain ⟨q6, e⟩ := chk_some e
  rcases bnd_some e with ⟨h7, r8, ec, rfl⟩ | ⟨h7, r8, ec, e⟩
  · exact y_callV_x (pc := 974) (c_X9_thrown hl ec) q6 mf_X9_thrown tw_7_12 tw_7_13 lf_L_155 rfl rfl dL_law_974 (by decide) rfl rfl (leb rfl) (xx_out0 rfl)
  refine y_callV_i (pc := 974) (c_X9_thrown hl ec) q6 mf_X9_thrown tw_7_12 tw_7_13 lf_L_155 rfl rfl dL_law_974 (by decide) rfl rfl (leb rfl) ?_
  refine x_iload (pc := 977) 1 dL_law_977 rfl ?_
  rcases ite_some e with ⟨q9, e⟩ | ⟨q9, e⟩
  · refine x_icmp_eq_t (pc := 979) (t := 984) dL_law_979 (by decide) q9 ?_
    refine x_iload (pc := 984) 1 dL_law_984 rfl ?_
    rcases ite_some e with ⟨q10, e⟩ | ⟨q10, e⟩
    · refine x_if_ne_f (pc := 986) (t := 1001) dL_law_986 (by decide) q10 ?_
      refine x_aload_n (pc := 989) 5 dL_law_989 rfl ?_
      refine x_iconst (pc := 990) dL_law_990 ?_
      obtain ⟨q11, e⟩ := chk_some e
      obtain ⟨q12, e⟩ := chk_some e
      refine x_lald (pc := 991) dL_law_991 q11 q12 ?_
      refine x_iload (pc := 992) 0 dL_law_992 rfl ?_
      refine x_i2l (pc := 994) dL_law_994 ?_
      refine x_lcmp (pc := 995) dL_law_995 ?_
      rcases ite_some e with ⟨q13, e⟩ | ⟨q13, e⟩
      · refine x_if_eq_t (pc := 996) (t := 1001) dL_law_996 (by decide) q13 ?_
        exact x_sub1 (p_L_law_L1001 hl hk23 e) [2, 3, 4, 5, 6] rfl
      · refine x_if_eq_f (pc := 996) (t := 1001) dL_law_996 (by decide) q13 ?_
        refine x_iconst (pc := 999) dL_law_999 ?_
        cases Option.some.inj e
        exact x_zret (pc := 1000) rfl (Or.inl rfl) dL_law_1000
    · refine x_if_ne_t (pc := 986) (t := 1001) dL_law_986 (by decide) q10 ?_
      exact x_sub1 (p_L_law_L1001 hl hk23 e) [2, 3, 4, 5, 6] rfl
  · refine x_icmp_eq_f (pc := 979) (t := 984) dL_law_979 (by decide) q9 ?_
    refine x_iconst (pc := 982) dL_law_982 ?_
    cases Option.some.inj e
    exact x_zret (pc := 983) rfl (Or.inl rfl) dL_law_983
noncomputable def f_L_law_L1004 (xs : Nat → Int32) (xn : Nat) (k23 : Hp → Nat → Nat → Nat → Int32 → Option (Rs Int32)) (h : Hp) (a1 : Nat) (a2 : Nat) (a3 : Nat) (i4 : Int32) : Option (Rs Int32) :=
  chk (okr h a1 8) <|
  bnd (f_X8_errorPosition h a1) fun h2 r3 =>
  chk (okr h2 a2 9) <|
  bnd (f_X9_errorPosition h2 a2) fun h5 r6 =>
  if r3 = r6 then (
    f_L_law_L2775 xs xn k23 h5 a1 a2 a3 i4
  ) else (
    some (h5, .inr (iN 0))
  )
theorem p_L_law_L1004 {l : Launch} {K : Ctx} (hl : l.stackTraces = false) {k23 : Hp → Nat → Nat → Nat → Int32 → Option (Rs Int32)} (hk23 : ∀ (h : Hp) (a1 : Nat) (a2 : Nat) (a3 : Nat) (i4 : Int32) (t : Rs Int32), k23 h a1 a2 a3 i4 = some t → X l K mM_L_law (tgI t) 23 [(0, .ref 2000000), (1, .ref a1), (2, .ref a2), (3, .ref a3), (4, .int i4)] [] h) {h : Hp} {a1 : Nat} {a2 : Nat} {a3 : Nat} {i4 : Int32} {t : Rs Int32} (e : f_L_law_L1004 (kXs K) (kLn K) k23 h a1 a2 a3 i4 = some t) : X l K mM_L_law (tgI t) 1004 [(0, .ref 2000000), (1, .ref a1), (2, .ref a2), (3, .ref a3), (4, .int i4)] [] h := by
  unfold f_L_law_L1004 at e
  refine x_aload_n (pc := 1004) 1 dL_law_1004 rfl ?_
  obtain ⟨q1, e⟩ := chk_some e
  rcases bnd_some e with ⟨h2, r3, ec, rfl⟩ | ⟨h2, r3, ec, e⟩
  · exact y_callV_x (pc := 1005) (c_X8_errorPosition hl ec) q1 mf_X8_errorPosition tw_2_232 tw_2_233 lf_L_195 rfl rfl dL_law_1005 (by decide) rfl rfl (leb rfl) (xx_out0 rfl)
  refine y_callV_i (pc := 1005) (c_X8_errorPosition hl ec) q1 mf_X8_errorPosition tw_2_232 tw_2_233 lf_L_195 rfl rfl dL_law_1005 (by decide) rfl rfl (leb rfl) ?_
  refine x_aload_n (pc := 1008) 2 dL_law_1008 rfl ?_
  obtain ⟨q4, e⟩ := chk_some e
  rcases bnd_some e with ⟨h5, r6, ec, rfl⟩ | ⟨h5, r6, ec, e⟩
  · exact y_callV_x (pc := 1009) (c_X9_errorPosition hl ec) q4 mf_X9_errorPosition tw_7_110 tw_7_111 lf_L_198 rfl rfl dL_law_1009 (by decide) rfl rfl (leb rfl) (xx_out0 rfl)
  refine y_callV_i (pc := 1009) (c_X9_errorPosition hl ec) q4 mf_X9_errorPosition tw_7_110 tw_7_111 lf_L_198 rfl rfl dL_law_1009 (by decide) rfl rfl (leb rfl) ?_
  rcases ite_some e with ⟨q7, e⟩ | ⟨q7, e⟩
  · refine x_icmp_eq_t (pc := 1012) (t := 2775) dL_law_1012 (by decide) q7 ?_
    exact p_L_law_L2775 hl hk23 e
  · refine x_icmp_eq_f (pc := 1012) (t := 2775) dL_law_1012 (by decide) q7 ?_
    refine x_iconst (pc := 1015) dL_law_1015 ?_
    cases Option.some.inj e
    exact x_zret (pc := 1016) rfl (Or.inl rfl) dL_law_1016
noncomputable def f_L_law_L1070 (xs : Nat → Int32) (xn : Nat) (k23 : Hp → Nat → Nat → Nat → Int32 → Option (Rs Int32)) (h : Hp) (a1 : Nat) (a2 : Nat) (a3 : Nat) (i4 : Int32) : Option (Rs Int32) :=
  f_L_law_L2775 xs xn k23 h a1 a2 a3 i4
theorem p_L_law_L1070 {l : Launch} {K : Ctx} (hl : l.stackTraces = false) {k23 : Hp → Nat → Nat → Nat → Int32 → Option (Rs Int32)} (hk23 : ∀ (h : Hp) (a1 : Nat) (a2 : Nat) (a3 : Nat) (i4 : Int32) (t : Rs Int32), k23 h a1 a2 a3 i4 = some t → X l K mM_L_law (tgI t) 23 [(0, .ref 2000000), (1, .ref a1), (2, .ref a2), (3, .ref a3), (4, .int i4)] [] h) {h : Hp} {a1 : Nat} {a2 : Nat} {a3 : Nat} {i4 : Int32} {t : Rs Int32} (e : f_L_law_L1070 (kXs K) (kLn K) k23 h a1 a2 a3 i4 = some t) : X l K mM_L_law (tgI t) 1070 [(0, .ref 2000000), (1, .ref a1), (2, .ref a2), (3, .ref a3), (4, .int i4)] [] h := by
  unfold f_L_law_L1070 at e
  refine x_goto (pc := 1070) (t := 2775) dL_law_1070 (by decide) ?_
  exact p_L_law_L2775 hl hk23 e
noncomputable def f_L_law_L1017 (xs : Nat → Int32) (xn : Nat) (k23 : Hp → Nat → Nat → Nat → Int32 → Option (Rs Int32)) (h : Hp) (a1 : Nat) (a2 : Nat) (a3 : Nat) (i4 : Int32) : Option (Rs Int32) :=
  chk (vp_in (i4 + (iN 1)) xn) <|
  bnd (f_L_count h a1 (xs (Int32.toNatClampNeg (i4 + (iN 1)))) a3) fun h2 r3 =>
  chk (vp_in (i4 + (iN 1)) xn) <|
  chk (okr h2 a2 9) <|
  bnd (f_X9_count h2 a2 (xs (Int32.toNatClampNeg (i4 + (iN 1))))) fun h6 r7 =>
  chk (okr h6 a2 9) <|
  bnd (f_X9_thrown h6 a2) fun h9 r10 =>
  if r10 = r3 then (
    if r3 = 0 then (
      chk (okr h9 a3 21) <|
      chk (vp_in (iN 0) (qW h9 a3)) <|
      if (lg_cmp (qL h9 a3 (Int32.toNatClampNeg (iN 0))) (Int32.toInt64 r7)) = 0 then (
        f_L_law_L1070 xs xn k23 h9 a1 a2 a3 i4
      ) else (
        some (h9, .inr (iN 0))
      )
    ) else (
      f_L_law_L1070 xs xn k23 h9 a1 a2 a3 i4
    )
  ) else (
    some (h9, .inr (iN 0))
  )
theorem p_L_law_L1017 {l : Launch} {K : Ctx} (hl : l.stackTraces = false) {k23 : Hp → Nat → Nat → Nat → Int32 → Option (Rs Int32)} (hk23 : ∀ (h : Hp) (a1 : Nat) (a2 : Nat) (a3 : Nat) (i4 : Int32) (t : Rs Int32), k23 h a1 a2 a3 i4 = some t → X l K mM_L_law (tgI t) 23 [(0, .ref 2000000), (1, .ref a1), (2, .ref a2), (3, .ref a3), (4, .int i4)] [] h) {h : Hp} {a1 : Nat} {a2 : Nat} {a3 : Nat} {i4 : Int32} {t : Rs Int32} (e : f_L_law_L1017 (kXs K) (kLn K) k23 h a1 a2 a3 i4 = some t) : X l K mM_L_law (tgI t) 1017 [(0, .ref 2000000), (1, .ref a1), (2, .ref a2), (3, .ref a3), (4, .int i4)] [] h := by
  unfold f_L_law_L1017 at e
  refine x_aload_n (pc := 1017) 1 dL_law_1017 rfl ?_
  refine x_aload_n (pc := 1018) 0 dL_law_1018 rfl ?_
  refine x_iload (pc := 1019) 4 dL_law_1019 rfl ?_
  refine x_iconst (pc := 1021) dL_law_1021 ?_
  refine x_iadd (pc := 1022) dL_law_1022 ?_
  obtain ⟨q1, e⟩ := chk_some e
  refine x_sld (pc := 1023) dL_law_1023 q1 ?_
  refine x_aload_n (pc := 1024) 3 dL_law_1024 rfl ?_
  rcases bnd_some e with ⟨h2, r3, ec, rfl⟩ | ⟨h2, r3, ec, e⟩
  · exact y_callX_x (pc := 1025) (c_L_count hl ec) mf_L_count tw_5_78 tw_5_77 dL_law_1025 (by decide) rfl rfl (leb rfl) (xx_out0 rfl)
  refine y_callX_i (pc := 1025) (c_L_count hl ec) mf_L_count tw_5_78 tw_5_77 dL_law_1025 (by decide) rfl rfl (leb rfl) ?_
  refine x_istore (pc := 1028) dL_law_1028 (by decide) rfl ?_
  refine x_aload_n (pc := 1030) 3 dL_law_1030 rfl ?_
  refine x_aload_n (pc := 1031) 1 dL_law_1031 rfl ?_
  refine x_iload (pc := 1032) 5 dL_law_1032 rfl ?_
  refine x_iconst (pc := 1034) dL_law_1034 ?_
  refine x_iadd (pc := 1035) dL_law_1035 ?_
  obtain ⟨q4, e⟩ := chk_some e
  refine x_sld (pc := 1036) dL_law_1036 q4 ?_
  obtain ⟨q5, e⟩ := chk_some e
  rcases bnd_some e with ⟨h6, r7, ec, rfl⟩ | ⟨h6, r7, ec, e⟩
  · exact y_callV_x (pc := 1037) (c_X9_count hl ec) q5 mf_X9_count tw_7_226 tw_7_227 lf_L_201 rfl rfl dL_law_1037 (by decide) rfl rfl (leb rfl) (xx_out0 rfl)
  refine y_callV_i (pc := 1037) (c_X9_count hl ec) q5 mf_X9_count tw_7_226 tw_7_227 lf_L_201 rfl rfl dL_law_1037 (by decide) rfl rfl (leb rfl) ?_
  refine x_istore (pc := 1040) dL_law_1040 (by decide) rfl ?_
  refine x_aload_n (pc := 1042) 4 dL_law_1042 rfl ?_
  obtain ⟨q8, e⟩ := chk_some e
  rcases bnd_some e with ⟨h9, r10, ec, rfl⟩ | ⟨h9, r10, ec, e⟩
  · exact y_callV_x (pc := 1043) (c_X9_thrown hl ec) q8 mf_X9_thrown tw_7_12 tw_7_13 lf_L_155 rfl rfl dL_law_1043 (by decide) rfl rfl (leb rfl) (xx_out0 rfl)
  refine y_callV_i (pc := 1043) (c_X9_thrown hl ec) q8 mf_X9_thrown tw_7_12 tw_7_13 lf_L_155 rfl rfl dL_law_1043 (by decide) rfl rfl (leb rfl) ?_
  refine x_iload (pc := 1046) 1 dL_law_1046 rfl ?_
  rcases ite_some e with ⟨q11, e⟩ | ⟨q11, e⟩
  · refine x_icmp_eq_t (pc := 1048) (t := 1053) dL_law_1048 (by decide) q11 ?_
    refine x_iload (pc := 1053) 1 dL_law_1053 rfl ?_
    rcases ite_some e with ⟨q12, e⟩ | ⟨q12, e⟩
    · refine x_if_ne_f (pc := 1055) (t := 1070) dL_law_1055 (by decide) q12 ?_
      refine x_aload_n (pc := 1058) 5 dL_law_1058 rfl ?_
      refine x_iconst (pc := 1059) dL_law_1059 ?_
      obtain ⟨q13, e⟩ := chk_some e
      obtain ⟨q14, e⟩ := chk_some e
      refine x_lald (pc := 1060) dL_law_1060 q13 q14 ?_
      refine x_iload (pc := 1061) 0 dL_law_1061 rfl ?_
      refine x_i2l (pc := 1063) dL_law_1063 ?_
      refine x_lcmp (pc := 1064) dL_law_1064 ?_
      rcases ite_some e with ⟨q15, e⟩ | ⟨q15, e⟩
      · refine x_if_eq_t (pc := 1065) (t := 1070) dL_law_1065 (by decide) q15 ?_
        exact x_sub1 (p_L_law_L1070 hl hk23 e) [2, 3, 4, 5, 6] rfl
      · refine x_if_eq_f (pc := 1065) (t := 1070) dL_law_1065 (by decide) q15 ?_
        refine x_iconst (pc := 1068) dL_law_1068 ?_
        cases Option.some.inj e
        exact x_zret (pc := 1069) rfl (Or.inl rfl) dL_law_1069
    · refine x_if_ne_t (pc := 1055) (t := 1070) dL_law_1055 (by decide) q12 ?_
      exact x_sub1 (p_L_law_L1070 hl hk23 e) [2, 3, 4, 5, 6] rfl
  · refine x_icmp_eq_f (pc := 1048) (t := 1053) dL_law_1048 (by decide) q11 ?_
    refine x_iconst (pc := 1051) dL_law_1051 ?_
    cases Option.some.inj e
    exact x_zret (pc := 1052) rfl (Or.inl rfl) dL_law_1052
noncomputable def f_L_law_L1138 (xs : Nat → Int32) (xn : Nat) (k23 : Hp → Nat → Nat → Nat → Int32 → Option (Rs Int32)) (h : Hp) (a1 : Nat) (a2 : Nat) (a3 : Nat) (i4 : Int32) : Option (Rs Int32) :=
  f_L_law_L2775 xs xn k23 h a1 a2 a3 i4
theorem p_L_law_L1138 {l : Launch} {K : Ctx} (hl : l.stackTraces = false) {k23 : Hp → Nat → Nat → Nat → Int32 → Option (Rs Int32)} (hk23 : ∀ (h : Hp) (a1 : Nat) (a2 : Nat) (a3 : Nat) (i4 : Int32) (t : Rs Int32), k23 h a1 a2 a3 i4 = some t → X l K mM_L_law (tgI t) 23 [(0, .ref 2000000), (1, .ref a1), (2, .ref a2), (3, .ref a3), (4, .int i4)] [] h) {h : Hp} {a1 : Nat} {a2 : Nat} {a3 : Nat} {i4 : Int32} {t : Rs Int32} (e : f_L_law_L1138 (kXs K) (kLn K) k23 h a1 a2 a3 i4 = some t) : X l K mM_L_law (tgI t) 1138 [(0, .ref 2000000), (1, .ref a1), (2, .ref a2), (3, .ref a3), (4, .int i4)] [] h := by
  unfold f_L_law_L1138 at e
  refine x_goto (pc := 1138) (t := 2775) dL_law_1138 (by decide) ?_
  exact p_L_law_L2775 hl hk23 e
noncomputable def f_L_law_L1073 (xs : Nat → Int32) (xn : Nat) (k23 : Hp → Nat → Nat → Nat → Int32 → Option (Rs Int32)) (h : Hp) (a1 : Nat) (a2 : Nat) (a3 : Nat) (i4 : Int32) : Option (Rs Int32) :=
  chk (vp_in (i4 + (iN 1)) xn) <|
  chk (vp_in (i4 + (iN 2)) xn) <|
  bnd (f_L_property h a1 (xs (Int32.toNatClampNeg (i4 + (iN 1)))) (xs (Int32.toNatClampNeg (i4 + (iN 2)))) a3) fun h3 r4 =>
  chk (vp_in (i4 + (iN 1)) xn) <|
  chk (vp_in (i4 + (iN 2)) xn) <|
  chk (okr h3 a2 9) <|
  bnd (f_X9_property h3 a2 (xs (Int32.toNatClampNeg (i4 + (iN 1)))) (xs (Int32.toNatClampNeg (i4 + (iN 2))))) fun h8 r9 =>
  chk (okr h8 a2 9) <|
  bnd (f_X9_thrown h8 a2) fun h11 r12 =>
  if r12 = r4 then (
    if r4 = 0 then (
      chk (okr h11 a3 21) <|
      chk (vp_in (iN 0) (qW h11 a3)) <|
      if (lg_cmp (qL h11 a3 (Int32.toNatClampNeg (iN 0))) (Int32.toInt64 r9)) = 0 then (
        f_L_law_L1138 xs xn k23 h11 a1 a2 a3 i4
      ) else (
        some (h11, .inr (iN 0))
      )
    ) else (
      f_L_law_L1138 xs xn k23 h11 a1 a2 a3 i4
    )
  ) else (
    some (h11, .inr (iN 0))
  )
theorem p_L_law_L1073 {l : Launch} {K : Ctx} (hl : l.stackTraces = false) {k23 : Hp → Nat → Nat → Nat → Int32 → Option (Rs Int32)} (hk23 : ∀ (h : Hp) (a1 : Nat) (a2 : Nat) (a3 : Nat) (i4 : Int32) (t : Rs Int32), k23 h a1 a2 a3 i4 = some t → X l K mM_L_law (tgI t) 23 [(0, .ref 2000000), (1, .ref a1), (2, .ref a2), (3, .ref a3), (4, .int i4)] [] h) {h : Hp} {a1 : Nat} {a2 : Nat} {a3 : Nat} {i4 : Int32} {t : Rs Int32} (e : f_L_law_L1073 (kXs K) (kLn K) k23 h a1 a2 a3 i4 = some t) : X l K mM_L_law (tgI t) 1073 [(0, .ref 2000000), (1, .ref a1), (2, .ref a2), (3, .ref a3), (4, .int i4)] [] h := by
  unfold f_L_law_L1073 at e
  refine x_aload_n (pc := 1073) 1 dL_law_1073 rfl ?_
  refine x_aload_n (pc := 1074) 0 dL_law_1074 rfl ?_
  refine x_iload (pc := 1075) 4 dL_law_1075 rfl ?_
  refine x_iconst (pc := 1077) dL_law_1077 ?_
  refine x_iadd (pc := 1078) dL_law_1078 ?_
  obtain ⟨q1, e⟩ := chk_some e
  refine x_sld (pc := 1079) dL_law_1079 q1 ?_
  refine x_aload_n (pc := 1080) 0 dL_law_1080 rfl ?_
  refine x_iload (pc := 1081) 4 dL_law_1081 rfl ?_
  refine x_iconst (pc := 1083) dL_law_1083 ?_
  refine x_iadd (pc := 1084) dL_law_1084 ?_
  obtain ⟨q2, e⟩ := chk_some e
  refine x_sld (pc := 1085) dL_law_1085 q2 ?_
  refine x_aload_n (pc := 1086) 3 dL_law_1086 rfl ?_
  rcases bnd_some e with ⟨h3, r4, ec, rfl⟩ | ⟨h3, r4, ec, e⟩
  · exact y_callX_x (pc := 1087) (c_L_property hl ec) mf_L_property tw_5_85 tw_5_84 dL_law_1087 (by decide) rfl rfl (leb rfl) (xx_out0 rfl)
  refine y_callX_i (pc := 1087) (c_L_property hl ec) mf_L_property tw_5_85 tw_5_84 dL_law_1087 (by decide) rfl rfl (leb rfl) ?_
  refine x_istore (pc := 1090) dL_law_1090 (by decide) rfl ?_
  refine x_aload_n (pc := 1092) 3 dL_law_1092 rfl ?_
  refine x_aload_n (pc := 1093) 1 dL_law_1093 rfl ?_
  refine x_iload (pc := 1094) 5 dL_law_1094 rfl ?_
  refine x_iconst (pc := 1096) dL_law_1096 ?_
  refine x_iadd (pc := 1097) dL_law_1097 ?_
  obtain ⟨q5, e⟩ := chk_some e
  refine x_sld (pc := 1098) dL_law_1098 q5 ?_
  refine x_aload_n (pc := 1099) 1 dL_law_1099 rfl ?_
  refine x_iload (pc := 1100) 5 dL_law_1100 rfl ?_
  refine x_iconst (pc := 1102) dL_law_1102 ?_
  refine x_iadd (pc := 1103) dL_law_1103 ?_
  obtain ⟨q6, e⟩ := chk_some e
  refine x_sld (pc := 1104) dL_law_1104 q6 ?_
  obtain ⟨q7, e⟩ := chk_some e
  rcases bnd_some e with ⟨h8, r9, ec, rfl⟩ | ⟨h8, r9, ec, e⟩
  · exact y_callV_x (pc := 1105) (c_X9_property hl ec) q7 mf_X9_property tw_7_230 tw_7_231 lf_L_204 rfl rfl dL_law_1105 (by decide) rfl rfl (leb rfl) (xx_out0 rfl)
  refine y_callV_i (pc := 1105) (c_X9_property hl ec) q7 mf_X9_property tw_7_230 tw_7_231 lf_L_204 rfl rfl dL_law_1105 (by decide) rfl rfl (leb rfl) ?_
  refine x_istore (pc := 1108) dL_law_1108 (by decide) rfl ?_
  refine x_aload_n (pc := 1110) 4 dL_law_1110 rfl ?_
  obtain ⟨q10, e⟩ := chk_some e
  rcases bnd_some e with ⟨h11, r12, ec, rfl⟩ | ⟨h11, r12, ec, e⟩
  · exact y_callV_x (pc := 1111) (c_X9_thrown hl ec) q10 mf_X9_thrown tw_7_12 tw_7_13 lf_L_155 rfl rfl dL_law_1111 (by decide) rfl rfl (leb rfl) (xx_out0 rfl)
  refine y_callV_i (pc := 1111) (c_X9_thrown hl ec) q10 mf_X9_thrown tw_7_12 tw_7_13 lf_L_155 rfl rfl dL_law_1111 (by decide) rfl rfl (leb rfl) ?_
  refine x_iload (pc := 1114) 1 dL_law_1114 rfl ?_
  rcases ite_some e with ⟨q13, e⟩ | ⟨q13, e⟩
  · refine x_icmp_eq_t (pc := 1116) (t := 1121) dL_law_1116 (by decide) q13 ?_
    refine x_iload (pc := 1121) 1 dL_law_1121 rfl ?_
    rcases ite_some e with ⟨q14, e⟩ | ⟨q14, e⟩
    · refine x_if_ne_f (pc := 1123) (t := 1138) dL_law_1123 (by decide) q14 ?_
      refine x_aload_n (pc := 1126) 5 dL_law_1126 rfl ?_
      refine x_iconst (pc := 1127) dL_law_1127 ?_
      obtain ⟨q15, e⟩ := chk_some e
      obtain ⟨q16, e⟩ := chk_some e
      refine x_lald (pc := 1128) dL_law_1128 q15 q16 ?_
      refine x_iload (pc := 1129) 0 dL_law_1129 rfl ?_
      refine x_i2l (pc := 1131) dL_law_1131 ?_
      refine x_lcmp (pc := 1132) dL_law_1132 ?_
      rcases ite_some e with ⟨q17, e⟩ | ⟨q17, e⟩
      · refine x_if_eq_t (pc := 1133) (t := 1138) dL_law_1133 (by decide) q17 ?_
        exact x_sub1 (p_L_law_L1138 hl hk23 e) [2, 3, 4, 5, 6] rfl
      · refine x_if_eq_f (pc := 1133) (t := 1138) dL_law_1133 (by decide) q17 ?_
        refine x_iconst (pc := 1136) dL_law_1136 ?_
        cases Option.some.inj e
        exact x_zret (pc := 1137) rfl (Or.inl rfl) dL_law_1137
    · refine x_if_ne_t (pc := 1123) (t := 1138) dL_law_1123 (by decide) q14 ?_
      exact x_sub1 (p_L_law_L1138 hl hk23 e) [2, 3, 4, 5, 6] rfl
  · refine x_icmp_eq_f (pc := 1116) (t := 1121) dL_law_1116 (by decide) q13 ?_
    refine x_iconst (pc := 1119) dL_law_1119 ?_
    cases Option.some.inj e
    exact x_zret (pc := 1120) rfl (Or.inl rfl) dL_law_1120
noncomputable def f_L_law_L1206 (xs : Nat → Int32) (xn : Nat) (k23 : Hp → Nat → Nat → Nat → Int32 → Option (Rs Int32)) (h : Hp) (a1 : Nat) (a2 : Nat) (a3 : Nat) (i4 : Int32) : Option (Rs Int32) :=
  f_L_law_L2775 xs xn k23 h a1 a2 a3 i4
theorem p_L_law_L1206 {l : Launch} {K : Ctx} (hl : l.stackTraces = false) {k23 : Hp → Nat → Nat → Nat → Int32 → Option (Rs Int32)} (hk23 : ∀ (h : Hp) (a1 : Nat) (a2 : Nat) (a3 : Nat) (i4 : Int32) (t : Rs Int32), k23 h a1 a2 a3 i4 = some t → X l K mM_L_law (tgI t) 23 [(0, .ref 2000000), (1, .ref a1), (2, .ref a2), (3, .ref a3), (4, .int i4)] [] h) {h : Hp} {a1 : Nat} {a2 : Nat} {a3 : Nat} {i4 : Int32} {t : Rs Int32} (e : f_L_law_L1206 (kXs K) (kLn K) k23 h a1 a2 a3 i4 = some t) : X l K mM_L_law (tgI t) 1206 [(0, .ref 2000000), (1, .ref a1), (2, .ref a2), (3, .ref a3), (4, .int i4)] [] h := by
  unfold f_L_law_L1206 at e
  refine x_goto (pc := 1206) (t := 2775) dL_law_1206 (by decide) ?_
  exact p_L_law_L2775 hl hk23 e
noncomputable def f_L_law_L1141 (xs : Nat → Int32) (xn : Nat) (k23 : Hp → Nat → Nat → Nat → Int32 → Option (Rs Int32)) (h : Hp) (a1 : Nat) (a2 : Nat) (a3 : Nat) (i4 : Int32) : Option (Rs Int32) :=
  chk (vp_in (i4 + (iN 1)) xn) <|
  chk (vp_in (i4 + (iN 2)) xn) <|
  bnd (f_L_cellAt h a1 (xs (Int32.toNatClampNeg (i4 + (iN 1)))) (xs (Int32.toNatClampNeg (i4 + (iN 2)))) a3) fun h3 r4 =>
  chk (vp_in (i4 + (iN 1)) xn) <|
  chk (vp_in (i4 + (iN 2)) xn) <|
  chk (okr h3 a2 9) <|
  bnd (f_X9_cellAt h3 a2 (xs (Int32.toNatClampNeg (i4 + (iN 1)))) (xs (Int32.toNatClampNeg (i4 + (iN 2))))) fun h8 r9 =>
  chk (okr h8 a2 9) <|
  bnd (f_X9_thrown h8 a2) fun h11 r12 =>
  if r12 = r4 then (
    if r4 = 0 then (
      chk (okr h11 a3 21) <|
      chk (vp_in (iN 0) (qW h11 a3)) <|
      if (lg_cmp (qL h11 a3 (Int32.toNatClampNeg (iN 0))) (Int32.toInt64 r9)) = 0 then (
        f_L_law_L1206 xs xn k23 h11 a1 a2 a3 i4
      ) else (
        some (h11, .inr (iN 0))
      )
    ) else (
      f_L_law_L1206 xs xn k23 h11 a1 a2 a3 i4
    )
  ) else (
    some (h11, .inr (iN 0))
  )
theorem p_L_law_L1141 {l : Launch} {K : Ctx} (hl : l.stackTraces = false) {k23 : Hp → Nat → Nat → Nat → Int32 → Option (Rs Int32)} (hk23 : ∀ (h : Hp) (a1 : Nat) (a2 : Nat) (a3 : Nat) (i4 : Int32) (t : Rs Int32), k23 h a1 a2 a3 i4 = some t → X l K mM_L_law (tgI t) 23 [(0, .ref 2000000), (1, .ref a1), (2, .ref a2), (3, .ref a3), (4, .int i4)] [] h) {h : Hp} {a1 : Nat} {a2 : Nat} {a3 : Nat} {i4 : Int32} {t : Rs Int32} (e : f_L_law_L1141 (kXs K) (kLn K) k23 h a1 a2 a3 i4 = some t) : X l K mM_L_law (tgI t) 1141 [(0, .ref 2000000), (1, .ref a1), (2, .ref a2), (3, .ref a3), (4, .int i4)] [] h := by
  unfold f_L_law_L1141 at e
  refine x_aload_n (pc := 1141) 1 dL_law_1141 rfl ?_
  refine x_aload_n (pc := 1142) 0 dL_law_1142 rfl ?_
  refine x_iload (pc := 1143) 4 dL_law_1143 rfl ?_
  refine x_iconst (pc := 1145) dL_law_1145 ?_
  refine x_iadd (pc := 1146) dL_law_1146 ?_
  obtain ⟨q1, e⟩ := chk_some e
  refine x_sld (pc := 1147) dL_law_1147 q1 ?_
  refine x_aload_n (pc := 1148) 0 dL_law_1148 rfl ?_
  refine x_iload (pc := 1149) 4 dL_law_1149 rfl ?_
  refine x_iconst (pc := 1151) dL_law_1151 ?_
  refine x_iadd (pc := 1152) dL_law_1152 ?_
  obtain ⟨q2, e⟩ := chk_some e
  refine x_sld (pc := 1153) dL_law_1153 q2 ?_
  refine x_aload_n (pc := 1154) 3 dL_law_1154 rfl ?_
  rcases bnd_some e with ⟨h3, r4, ec, rfl⟩ | ⟨h3, r4, ec, e⟩
  · exact y_callX_x (pc := 1155) (c_L_cellAt hl ec) mf_L_cellAt tw_5_94 tw_5_93 dL_law_1155 (by decide) rfl rfl (leb rfl) (xx_out0 rfl)
  refine y_callX_i (pc := 1155) (c_L_cellAt hl ec) mf_L_cellAt tw_5_94 tw_5_93 dL_law_1155 (by decide) rfl rfl (leb rfl) ?_
  refine x_istore (pc := 1158) dL_law_1158 (by decide) rfl ?_
  refine x_aload_n (pc := 1160) 3 dL_law_1160 rfl ?_
  refine x_aload_n (pc := 1161) 1 dL_law_1161 rfl ?_
  refine x_iload (pc := 1162) 5 dL_law_1162 rfl ?_
  refine x_iconst (pc := 1164) dL_law_1164 ?_
  refine x_iadd (pc := 1165) dL_law_1165 ?_
  obtain ⟨q5, e⟩ := chk_some e
  refine x_sld (pc := 1166) dL_law_1166 q5 ?_
  refine x_aload_n (pc := 1167) 1 dL_law_1167 rfl ?_
  refine x_iload (pc := 1168) 5 dL_law_1168 rfl ?_
  refine x_iconst (pc := 1170) dL_law_1170 ?_
  refine x_iadd (pc := 1171) dL_law_1171 ?_
  obtain ⟨q6, e⟩ := chk_some e
  refine x_sld (pc := 1172) dL_law_1172 q6 ?_
  obtain ⟨q7, e⟩ := chk_some e
  rcases bnd_some e with ⟨h8, r9, ec, rfl⟩ | ⟨h8, r9, ec, e⟩
  · exact y_callV_x (pc := 1173) (c_X9_cellAt hl ec) q7 mf_X9_cellAt tw_8_25 tw_8_26 lf_L_207 rfl rfl dL_law_1173 (by decide) rfl rfl (leb rfl) (xx_out0 rfl)
  refine y_callV_i (pc := 1173) (c_X9_cellAt hl ec) q7 mf_X9_cellAt tw_8_25 tw_8_26 lf_L_207 rfl rfl dL_law_1173 (by decide) rfl rfl (leb rfl) ?_
  refine x_istore (pc := 1176) dL_law_1176 (by decide) rfl ?_
  refine x_aload_n (pc := 1178) 4 dL_law_1178 rfl ?_
  obtain ⟨q10, e⟩ := chk_some e
  rcases bnd_some e with ⟨h11, r12, ec, rfl⟩ | ⟨h11, r12, ec, e⟩
  · exact y_callV_x (pc := 1179) (c_X9_thrown hl ec) q10 mf_X9_thrown tw_7_12 tw_7_13 lf_L_155 rfl rfl dL_law_1179 (by decide) rfl rfl (leb rfl) (xx_out0 rfl)
  refine y_callV_i (pc := 1179) (c_X9_thrown hl ec) q10 mf_X9_thrown tw_7_12 tw_7_13 lf_L_155 rfl rfl dL_law_1179 (by decide) rfl rfl (leb rfl) ?_
  refine x_iload (pc := 1182) 1 dL_law_1182 rfl ?_
  rcases ite_some e with ⟨q13, e⟩ | ⟨q13, e⟩
  · refine x_icmp_eq_t (pc := 1184) (t := 1189) dL_law_1184 (by decide) q13 ?_
    refine x_iload (pc := 1189) 1 dL_law_1189 rfl ?_
    rcases ite_some e with ⟨q14, e⟩ | ⟨q14, e⟩
    · refine x_if_ne_f (pc := 1191) (t := 1206) dL_law_1191 (by decide) q14 ?_
      refine x_aload_n (pc := 1194) 5 dL_law_1194 rfl ?_
      refine x_iconst (pc := 1195) dL_law_1195 ?_
      obtain ⟨q15, e⟩ := chk_some e
      obtain ⟨q16, e⟩ := chk_some e
      refine x_lald (pc := 1196) dL_law_1196 q15 q16 ?_
      refine x_iload (pc := 1197) 0 dL_law_1197 rfl ?_
      refine x_i2l (pc := 1199) dL_law_1199 ?_
      refine x_lcmp (pc := 1200) dL_law_1200 ?_
      rcases ite_some e with ⟨q17, e⟩ | ⟨q17, e⟩
      · refine x_if_eq_t (pc := 1201) (t := 1206) dL_law_1201 (by decide) q17 ?_
        exact x_sub1 (p_L_law_L1206 hl hk23 e) [2, 3, 4, 5, 6] rfl
      · refine x_if_eq_f (pc := 1201) (t := 1206) dL_law_1201 (by decide) q17 ?_
        refine x_iconst (pc := 1204) dL_law_1204 ?_
        cases Option.some.inj e
        exact x_zret (pc := 1205) rfl (Or.inl rfl) dL_law_1205
    · refine x_if_ne_t (pc := 1191) (t := 1206) dL_law_1191 (by decide) q14 ?_
      exact x_sub1 (p_L_law_L1206 hl hk23 e) [2, 3, 4, 5, 6] rfl
  · refine x_icmp_eq_f (pc := 1184) (t := 1189) dL_law_1184 (by decide) q13 ?_
    refine x_iconst (pc := 1187) dL_law_1187 ?_
    cases Option.some.inj e
    exact x_zret (pc := 1188) rfl (Or.inl rfl) dL_law_1188
noncomputable def f_L_law_L1274 (xs : Nat → Int32) (xn : Nat) (k23 : Hp → Nat → Nat → Nat → Int32 → Option (Rs Int32)) (h : Hp) (a1 : Nat) (a2 : Nat) (a3 : Nat) (i4 : Int32) : Option (Rs Int32) :=
  f_L_law_L2775 xs xn k23 h a1 a2 a3 i4
theorem p_L_law_L1274 {l : Launch} {K : Ctx} (hl : l.stackTraces = false) {k23 : Hp → Nat → Nat → Nat → Int32 → Option (Rs Int32)} (hk23 : ∀ (h : Hp) (a1 : Nat) (a2 : Nat) (a3 : Nat) (i4 : Int32) (t : Rs Int32), k23 h a1 a2 a3 i4 = some t → X l K mM_L_law (tgI t) 23 [(0, .ref 2000000), (1, .ref a1), (2, .ref a2), (3, .ref a3), (4, .int i4)] [] h) {h : Hp} {a1 : Nat} {a2 : Nat} {a3 : Nat} {i4 : Int32} {t : Rs Int32} (e : f_L_law_L1274 (kXs K) (kLn K) k23 h a1 a2 a3 i4 = some t) : X l K mM_L_law (tgI t) 1274 [(0, .ref 2000000), (1, .ref a1), (2, .ref a2), (3, .ref a3), (4, .int i4)] [] h := by
  unfold f_L_law_L1274 at e
  refine x_goto (pc := 1274) (t := 2775) dL_law_1274 (by decide) ?_
  exact p_L_law_L2775 hl hk23 e
noncomputable def f_L_law_L1209 (xs : Nat → Int32) (xn : Nat) (k23 : Hp → Nat → Nat → Nat → Int32 → Option (Rs Int32)) (h : Hp) (a1 : Nat) (a2 : Nat) (a3 : Nat) (i4 : Int32) : Option (Rs Int32) :=
  chk (vp_in (i4 + (iN 1)) xn) <|
  chk (vp_in (i4 + (iN 2)) xn) <|
  bnd (f_L_lineCount h a1 (xs (Int32.toNatClampNeg (i4 + (iN 1)))) (xs (Int32.toNatClampNeg (i4 + (iN 2)))) a3) fun h3 r4 =>
  chk (vp_in (i4 + (iN 1)) xn) <|
  chk (vp_in (i4 + (iN 2)) xn) <|
  chk (okr h3 a2 9) <|
  bnd (f_X9_lineCount h3 a2 (xs (Int32.toNatClampNeg (i4 + (iN 1)))) (xs (Int32.toNatClampNeg (i4 + (iN 2))))) fun h8 r9 =>
  chk (okr h8 a2 9) <|
  bnd (f_X9_thrown h8 a2) fun h11 r12 =>
  if r12 = r4 then (
    if r4 = 0 then (
      chk (okr h11 a3 21) <|
      chk (vp_in (iN 0) (qW h11 a3)) <|
      if (lg_cmp (qL h11 a3 (Int32.toNatClampNeg (iN 0))) (Int32.toInt64 r9)) = 0 then (
        f_L_law_L1274 xs xn k23 h11 a1 a2 a3 i4
      ) else (
        some (h11, .inr (iN 0))
      )
    ) else (
      f_L_law_L1274 xs xn k23 h11 a1 a2 a3 i4
    )
  ) else (
    some (h11, .inr (iN 0))
  )
theorem p_L_law_L1209 {l : Launch} {K : Ctx} (hl : l.stackTraces = false) {k23 : Hp → Nat → Nat → Nat → Int32 → Option (Rs Int32)} (hk23 : ∀ (h : Hp) (a1 : Nat) (a2 : Nat) (a3 : Nat) (i4 : Int32) (t : Rs Int32), k23 h a1 a2 a3 i4 = some t → X l K mM_L_law (tgI t) 23 [(0, .ref 2000000), (1, .ref a1), (2, .ref a2), (3, .ref a3), (4, .int i4)] [] h) {h : Hp} {a1 : Nat} {a2 : Nat} {a3 : Nat} {i4 : Int32} {t : Rs Int32} (e : f_L_law_L1209 (kXs K) (kLn K) k23 h a1 a2 a3 i4 = some t) : X l K mM_L_law (tgI t) 1209 [(0, .ref 2000000), (1, .ref a1), (2, .ref a2), (3, .ref a3), (4, .int i4)] [] h := by
  unfold f_L_law_L1209 at e
  refine x_aload_n (pc := 1209) 1 dL_law_1209 rfl ?_
  refine x_aload_n (pc := 1210) 0 dL_law_1210 rfl ?_
  refine x_iload (pc := 1211) 4 dL_law_1211 rfl ?_
  refine x_iconst (pc := 1213) dL_law_1213 ?_
  refine x_iadd (pc := 1214) dL_law_1214 ?_
  obtain ⟨q1, e⟩ := chk_some e
  refine x_sld (pc := 1215) dL_law_1215 q1 ?_
  refine x_aload_n (pc := 1216) 0 dL_law_1216 rfl ?_
  refine x_iload (pc := 1217) 4 dL_law_1217 rfl ?_
  refine x_iconst (pc := 1219) dL_law_1219 ?_
  refine x_iadd (pc := 1220) dL_law_1220 ?_
  obtain ⟨q2, e⟩ := chk_some e
  refine x_sld (pc := 1221) dL_law_1221 q2 ?_
  refine x_aload_n (pc := 1222) 3 dL_law_1222 rfl ?_
  rcases bnd_some e with ⟨h3, r4, ec, rfl⟩ | ⟨h3, r4, ec, e⟩
  · exact y_callX_x (pc := 1223) (c_L_lineCount hl ec) mf_L_lineCount tw_5_105 tw_5_104 dL_law_1223 (by decide) rfl rfl (leb rfl) (xx_out0 rfl)
  refine y_callX_i (pc := 1223) (c_L_lineCount hl ec) mf_L_lineCount tw_5_105 tw_5_104 dL_law_1223 (by decide) rfl rfl (leb rfl) ?_
  refine x_istore (pc := 1226) dL_law_1226 (by decide) rfl ?_
  refine x_aload_n (pc := 1228) 3 dL_law_1228 rfl ?_
  refine x_aload_n (pc := 1229) 1 dL_law_1229 rfl ?_
  refine x_iload (pc := 1230) 5 dL_law_1230 rfl ?_
  refine x_iconst (pc := 1232) dL_law_1232 ?_
  refine x_iadd (pc := 1233) dL_law_1233 ?_
  obtain ⟨q5, e⟩ := chk_some e
  refine x_sld (pc := 1234) dL_law_1234 q5 ?_
  refine x_aload_n (pc := 1235) 1 dL_law_1235 rfl ?_
  refine x_iload (pc := 1236) 5 dL_law_1236 rfl ?_
  refine x_iconst (pc := 1238) dL_law_1238 ?_
  refine x_iadd (pc := 1239) dL_law_1239 ?_
  obtain ⟨q6, e⟩ := chk_some e
  refine x_sld (pc := 1240) dL_law_1240 q6 ?_
  obtain ⟨q7, e⟩ := chk_some e
  rcases bnd_some e with ⟨h8, r9, ec, rfl⟩ | ⟨h8, r9, ec, e⟩
  · exact y_callV_x (pc := 1241) (c_X9_lineCount hl ec) q7 mf_X9_lineCount tw_8_29 tw_8_30 lf_L_210 rfl rfl dL_law_1241 (by decide) rfl rfl (leb rfl) (xx_out0 rfl)
  refine y_callV_i (pc := 1241) (c_X9_lineCount hl ec) q7 mf_X9_lineCount tw_8_29 tw_8_30 lf_L_210 rfl rfl dL_law_1241 (by decide) rfl rfl (leb rfl) ?_
  refine x_istore (pc := 1244) dL_law_1244 (by decide) rfl ?_
  refine x_aload_n (pc := 1246) 4 dL_law_1246 rfl ?_
  obtain ⟨q10, e⟩ := chk_some e
  rcases bnd_some e with ⟨h11, r12, ec, rfl⟩ | ⟨h11, r12, ec, e⟩
  · exact y_callV_x (pc := 1247) (c_X9_thrown hl ec) q10 mf_X9_thrown tw_7_12 tw_7_13 lf_L_155 rfl rfl dL_law_1247 (by decide) rfl rfl (leb rfl) (xx_out0 rfl)
  refine y_callV_i (pc := 1247) (c_X9_thrown hl ec) q10 mf_X9_thrown tw_7_12 tw_7_13 lf_L_155 rfl rfl dL_law_1247 (by decide) rfl rfl (leb rfl) ?_
  refine x_iload (pc := 1250) 1 dL_law_1250 rfl ?_
  rcases ite_some e with ⟨q13, e⟩ | ⟨q13, e⟩
  · refine x_icmp_eq_t (pc := 1252) (t := 1257) dL_law_1252 (by decide) q13 ?_
    refine x_iload (pc := 1257) 1 dL_law_1257 rfl ?_
    rcases ite_some e with ⟨q14, e⟩ | ⟨q14, e⟩
    · refine x_if_ne_f (pc := 1259) (t := 1274) dL_law_1259 (by decide) q14 ?_
      refine x_aload_n (pc := 1262) 5 dL_law_1262 rfl ?_
      refine x_iconst (pc := 1263) dL_law_1263 ?_
      obtain ⟨q15, e⟩ := chk_some e
      obtain ⟨q16, e⟩ := chk_some e
      refine x_lald (pc := 1264) dL_law_1264 q15 q16 ?_
      refine x_iload (pc := 1265) 0 dL_law_1265 rfl ?_
      refine x_i2l (pc := 1267) dL_law_1267 ?_
      refine x_lcmp (pc := 1268) dL_law_1268 ?_
      rcases ite_some e with ⟨q17, e⟩ | ⟨q17, e⟩
      · refine x_if_eq_t (pc := 1269) (t := 1274) dL_law_1269 (by decide) q17 ?_
        exact x_sub1 (p_L_law_L1274 hl hk23 e) [2, 3, 4, 5, 6] rfl
      · refine x_if_eq_f (pc := 1269) (t := 1274) dL_law_1269 (by decide) q17 ?_
        refine x_iconst (pc := 1272) dL_law_1272 ?_
        cases Option.some.inj e
        exact x_zret (pc := 1273) rfl (Or.inl rfl) dL_law_1273
    · refine x_if_ne_t (pc := 1259) (t := 1274) dL_law_1259 (by decide) q14 ?_
      exact x_sub1 (p_L_law_L1274 hl hk23 e) [2, 3, 4, 5, 6] rfl
  · refine x_icmp_eq_f (pc := 1252) (t := 1257) dL_law_1252 (by decide) q13 ?_
    refine x_iconst (pc := 1255) dL_law_1255 ?_
    cases Option.some.inj e
    exact x_zret (pc := 1256) rfl (Or.inl rfl) dL_law_1256
noncomputable def f_L_law_L1354 (xs : Nat → Int32) (xn : Nat) (k23 : Hp → Nat → Nat → Nat → Int32 → Option (Rs Int32)) (h : Hp) (a1 : Nat) (a2 : Nat) (a3 : Nat) (i4 : Int32) : Option (Rs Int32) :=
  f_L_law_L2775 xs xn k23 h a1 a2 a3 i4
theorem p_L_law_L1354 {l : Launch} {K : Ctx} (hl : l.stackTraces = false) {k23 : Hp → Nat → Nat → Nat → Int32 → Option (Rs Int32)} (hk23 : ∀ (h : Hp) (a1 : Nat) (a2 : Nat) (a3 : Nat) (i4 : Int32) (t : Rs Int32), k23 h a1 a2 a3 i4 = some t → X l K mM_L_law (tgI t) 23 [(0, .ref 2000000), (1, .ref a1), (2, .ref a2), (3, .ref a3), (4, .int i4)] [] h) {h : Hp} {a1 : Nat} {a2 : Nat} {a3 : Nat} {i4 : Int32} {t : Rs Int32} (e : f_L_law_L1354 (kXs K) (kLn K) k23 h a1 a2 a3 i4 = some t) : X l K mM_L_law (tgI t) 1354 [(0, .ref 2000000), (1, .ref a1), (2, .ref a2), (3, .ref a3), (4, .int i4)] [] h := by
  unfold f_L_law_L1354 at e
  refine x_goto (pc := 1354) (t := 2775) dL_law_1354 (by decide) ?_
  exact p_L_law_L2775 hl hk23 e
noncomputable def f_L_law_L1277 (xs : Nat → Int32) (xn : Nat) (k23 : Hp → Nat → Nat → Nat → Int32 → Option (Rs Int32)) (h : Hp) (a1 : Nat) (a2 : Nat) (a3 : Nat) (i4 : Int32) : Option (Rs Int32) :=
  chk (vp_in (i4 + (iN 1)) xn) <|
  chk (vp_in (i4 + (iN 2)) xn) <|
  chk (vp_in (i4 + (iN 3)) xn) <|
  bnd (f_L_lineLength h a1 (xs (Int32.toNatClampNeg (i4 + (iN 1)))) (xs (Int32.toNatClampNeg (i4 + (iN 2)))) (xs (Int32.toNatClampNeg (i4 + (iN 3)))) a3) fun h4 r5 =>
  chk (vp_in (i4 + (iN 1)) xn) <|
  chk (vp_in (i4 + (iN 2)) xn) <|
  chk (vp_in (i4 + (iN 3)) xn) <|
  chk (okr h4 a2 9) <|
  bnd (f_X9_lineLength h4 a2 (xs (Int32.toNatClampNeg (i4 + (iN 1)))) (xs (Int32.toNatClampNeg (i4 + (iN 2)))) (xs (Int32.toNatClampNeg (i4 + (iN 3))))) fun h10 r11 =>
  chk (okr h10 a2 9) <|
  bnd (f_X9_thrown h10 a2) fun h13 r14 =>
  if r14 = r5 then (
    if r5 = 0 then (
      chk (okr h13 a3 21) <|
      chk (vp_in (iN 0) (qW h13 a3)) <|
      if (lg_cmp (qL h13 a3 (Int32.toNatClampNeg (iN 0))) (Int32.toInt64 r11)) = 0 then (
        f_L_law_L1354 xs xn k23 h13 a1 a2 a3 i4
      ) else (
        some (h13, .inr (iN 0))
      )
    ) else (
      f_L_law_L1354 xs xn k23 h13 a1 a2 a3 i4
    )
  ) else (
    some (h13, .inr (iN 0))
  )
theorem p_L_law_L1277 {l : Launch} {K : Ctx} (hl : l.stackTraces = false) {k23 : Hp → Nat → Nat → Nat → Int32 → Option (Rs Int32)} (hk23 : ∀ (h : Hp) (a1 : Nat) (a2 : Nat) (a3 : Nat) (i4 : Int32) (t : Rs Int32), k23 h a1 a2 a3 i4 = some t → X l K mM_L_law (tgI t) 23 [(0, .ref 2000000), (1, .ref a1), (2, .ref a2), (3, .ref a3), (4, .int i4)] [] h) {h : Hp} {a1 : Nat} {a2 : Nat} {a3 : Nat} {i4 : Int32} {t : Rs Int32} (e : f_L_law_L1277 (kXs K) (kLn K) k23 h a1 a2 a3 i4 = some t) : X l K mM_L_law (tgI t) 1277 [(0, .ref 2000000), (1, .ref a1), (2, .ref a2), (3, .ref a3), (4, .int i4)] [] h := by
  unfold f_L_law_L1277 at e
  refine x_aload_n (pc := 1277) 1 dL_law_1277 rfl ?_
  refine x_aload_n (pc := 1278) 0 dL_law_1278 rfl ?_
  refine x_iload (pc := 1279) 4 dL_law_1279 rfl ?_
  refine x_iconst (pc := 1281) dL_law_1281 ?_
  refine x_iadd (pc := 1282) dL_law_1282 ?_
  obtain ⟨q1, e⟩ := chk_some e
  refine x_sld (pc := 1283) dL_law_1283 q1 ?_
  refine x_aload_n (pc := 1284) 0 dL_law_1284 rfl ?_
  refine x_iload (pc := 1285) 4 dL_law_1285 rfl ?_
  refine x_iconst (pc := 1287) dL_law_1287 ?_
  refine x_iadd (pc := 1288) dL_law_1288 ?_
  obtain ⟨q2, e⟩ := chk_some e
  refine x_sld (pc := 1289) dL_law_1289 q2 ?_
  refine x_aload_n (pc := 1290) 0 dL_law_1290 rfl ?_
  refine x_iload (pc := 1291) 4 dL_law_1291 rfl ?_
  refine x_iconst (pc := 1293) dL_law_1293 ?_
  refine x_iadd (pc := 1294) dL_law_1294 ?_
  obtain ⟨q3, e⟩ := chk_some e
  refine x_sld (pc := 1295) dL_law_1295 q3 ?_
  refine x_aload_n (pc := 1296) 3 dL_law_1296 rfl ?_
  rcases bnd_some e with ⟨h4, r5, ec, rfl⟩ | ⟨h4, r5, ec, e⟩
  · exact y_callX_x (pc := 1297) (c_L_lineLength hl ec) mf_L_lineLength tw_5_114 tw_5_113 dL_law_1297 (by decide) rfl rfl (leb rfl) (xx_out0 rfl)
  refine y_callX_i (pc := 1297) (c_L_lineLength hl ec) mf_L_lineLength tw_5_114 tw_5_113 dL_law_1297 (by decide) rfl rfl (leb rfl) ?_
  refine x_istore (pc := 1300) dL_law_1300 (by decide) rfl ?_
  refine x_aload_n (pc := 1302) 3 dL_law_1302 rfl ?_
  refine x_aload_n (pc := 1303) 1 dL_law_1303 rfl ?_
  refine x_iload (pc := 1304) 5 dL_law_1304 rfl ?_
  refine x_iconst (pc := 1306) dL_law_1306 ?_
  refine x_iadd (pc := 1307) dL_law_1307 ?_
  obtain ⟨q6, e⟩ := chk_some e
  refine x_sld (pc := 1308) dL_law_1308 q6 ?_
  refine x_aload_n (pc := 1309) 1 dL_law_1309 rfl ?_
  refine x_iload (pc := 1310) 5 dL_law_1310 rfl ?_
  refine x_iconst (pc := 1312) dL_law_1312 ?_
  refine x_iadd (pc := 1313) dL_law_1313 ?_
  obtain ⟨q7, e⟩ := chk_some e
  refine x_sld (pc := 1314) dL_law_1314 q7 ?_
  refine x_aload_n (pc := 1315) 1 dL_law_1315 rfl ?_
  refine x_iload (pc := 1316) 5 dL_law_1316 rfl ?_
  refine x_iconst (pc := 1318) dL_law_1318 ?_
  refine x_iadd (pc := 1319) dL_law_1319 ?_
  obtain ⟨q8, e⟩ := chk_some e
  refine x_sld (pc := 1320) dL_law_1320 q8 ?_
  obtain ⟨q9, e⟩ := chk_some e
  rcases bnd_some e with ⟨h10, r11, ec, rfl⟩ | ⟨h10, r11, ec, e⟩
  · exact y_callV_x (pc := 1321) (c_X9_lineLength hl ec) q9 mf_X9_lineLength tw_8_37 tw_8_38 lf_L_213 rfl rfl dL_law_1321 (by decide) rfl rfl (leb rfl) (xx_out0 rfl)
  refine y_callV_i (pc := 1321) (c_X9_lineLength hl ec) q9 mf_X9_lineLength tw_8_37 tw_8_38 lf_L_213 rfl rfl dL_law_1321 (by decide) rfl rfl (leb rfl) ?_
  refine x_istore (pc := 1324) dL_law_1324 (by decide) rfl ?_
  refine x_aload_n (pc := 1326) 4 dL_law_1326 rfl ?_
  obtain ⟨q12, e⟩ := chk_some e
  rcases bnd_some e with ⟨h13, r14, ec, rfl⟩ | ⟨h13, r14, ec, e⟩
  · exact y_callV_x (pc := 1327) (c_X9_thrown hl ec) q12 mf_X9_thrown tw_7_12 tw_7_13 lf_L_155 rfl rfl dL_law_1327 (by decide) rfl rfl (leb rfl) (xx_out0 rfl)
  refine y_callV_i (pc := 1327) (c_X9_thrown hl ec) q12 mf_X9_thrown tw_7_12 tw_7_13 lf_L_155 rfl rfl dL_law_1327 (by decide) rfl rfl (leb rfl) ?_
  refine x_iload (pc := 1330) 1 dL_law_1330 rfl ?_
  rcases ite_some e with ⟨q15, e⟩ | ⟨q15, e⟩
  · refine x_icmp_eq_t (pc := 1332) (t := 1337) dL_law_1332 (by decide) q15 ?_
    refine x_iload (pc := 1337) 1 dL_law_1337 rfl ?_
    rcases ite_some e with ⟨q16, e⟩ | ⟨q16, e⟩
    · refine x_if_ne_f (pc := 1339) (t := 1354) dL_law_1339 (by decide) q16 ?_
      refine x_aload_n (pc := 1342) 5 dL_law_1342 rfl ?_
      refine x_iconst (pc := 1343) dL_law_1343 ?_
      obtain ⟨q17, e⟩ := chk_some e
      obtain ⟨q18, e⟩ := chk_some e
      refine x_lald (pc := 1344) dL_law_1344 q17 q18 ?_
      refine x_iload (pc := 1345) 0 dL_law_1345 rfl ?_
      refine x_i2l (pc := 1347) dL_law_1347 ?_
      refine x_lcmp (pc := 1348) dL_law_1348 ?_
      rcases ite_some e with ⟨q19, e⟩ | ⟨q19, e⟩
      · refine x_if_eq_t (pc := 1349) (t := 1354) dL_law_1349 (by decide) q19 ?_
        exact x_sub1 (p_L_law_L1354 hl hk23 e) [2, 3, 4, 5, 6] rfl
      · refine x_if_eq_f (pc := 1349) (t := 1354) dL_law_1349 (by decide) q19 ?_
        refine x_iconst (pc := 1352) dL_law_1352 ?_
        cases Option.some.inj e
        exact x_zret (pc := 1353) rfl (Or.inl rfl) dL_law_1353
    · refine x_if_ne_t (pc := 1339) (t := 1354) dL_law_1339 (by decide) q16 ?_
      exact x_sub1 (p_L_law_L1354 hl hk23 e) [2, 3, 4, 5, 6] rfl
  · refine x_icmp_eq_f (pc := 1332) (t := 1337) dL_law_1332 (by decide) q15 ?_
    refine x_iconst (pc := 1335) dL_law_1335 ?_
    cases Option.some.inj e
    exact x_zret (pc := 1336) rfl (Or.inl rfl) dL_law_1336
noncomputable def f_L_law_L1422 (xs : Nat → Int32) (xn : Nat) (k23 : Hp → Nat → Nat → Nat → Int32 → Option (Rs Int32)) (h : Hp) (a1 : Nat) (a2 : Nat) (a3 : Nat) (i4 : Int32) : Option (Rs Int32) :=
  f_L_law_L2775 xs xn k23 h a1 a2 a3 i4
theorem p_L_law_L1422 {l : Launch} {K : Ctx} (hl : l.stackTraces = false) {k23 : Hp → Nat → Nat → Nat → Int32 → Option (Rs Int32)} (hk23 : ∀ (h : Hp) (a1 : Nat) (a2 : Nat) (a3 : Nat) (i4 : Int32) (t : Rs Int32), k23 h a1 a2 a3 i4 = some t → X l K mM_L_law (tgI t) 23 [(0, .ref 2000000), (1, .ref a1), (2, .ref a2), (3, .ref a3), (4, .int i4)] [] h) {h : Hp} {a1 : Nat} {a2 : Nat} {a3 : Nat} {i4 : Int32} {t : Rs Int32} (e : f_L_law_L1422 (kXs K) (kLn K) k23 h a1 a2 a3 i4 = some t) : X l K mM_L_law (tgI t) 1422 [(0, .ref 2000000), (1, .ref a1), (2, .ref a2), (3, .ref a3), (4, .int i4)] [] h := by
  unfold f_L_law_L1422 at e
  refine x_goto (pc := 1422) (t := 2775) dL_law_1422 (by decide) ?_
  exact p_L_law_L2775 hl hk23 e
noncomputable def f_L_law_L1357 (xs : Nat → Int32) (xn : Nat) (k23 : Hp → Nat → Nat → Nat → Int32 → Option (Rs Int32)) (h : Hp) (a1 : Nat) (a2 : Nat) (a3 : Nat) (i4 : Int32) : Option (Rs Int32) :=
  chk (vp_in (i4 + (iN 1)) xn) <|
  chk (vp_in (i4 + (iN 2)) xn) <|
  bnd (f_L_cellHeight h a1 (xs (Int32.toNatClampNeg (i4 + (iN 1)))) (xs (Int32.toNatClampNeg (i4 + (iN 2)))) a3) fun h3 r4 =>
  chk (vp_in (i4 + (iN 1)) xn) <|
  chk (vp_in (i4 + (iN 2)) xn) <|
  chk (okr h3 a2 9) <|
  bnd (f_X9_cellHeight h3 a2 (xs (Int32.toNatClampNeg (i4 + (iN 1)))) (xs (Int32.toNatClampNeg (i4 + (iN 2))))) fun h8 r9 =>
  chk (okr h8 a2 9) <|
  bnd (f_X9_thrown h8 a2) fun h11 r12 =>
  if r12 = r4 then (
    if r4 = 0 then (
      chk (okr h11 a3 21) <|
      chk (vp_in (iN 0) (qW h11 a3)) <|
      if (lg_cmp (qL h11 a3 (Int32.toNatClampNeg (iN 0))) (Int32.toInt64 r9)) = 0 then (
        f_L_law_L1422 xs xn k23 h11 a1 a2 a3 i4
      ) else (
        some (h11, .inr (iN 0))
      )
    ) else (
      f_L_law_L1422 xs xn k23 h11 a1 a2 a3 i4
    )
  ) else (
    some (h11, .inr (iN 0))
  )
theorem p_L_law_L1357 {l : Launch} {K : Ctx} (hl : l.stackTraces = false) {k23 : Hp → Nat → Nat → Nat → Int32 → Option (Rs Int32)} (hk23 : ∀ (h : Hp) (a1 : Nat) (a2 : Nat) (a3 : Nat) (i4 : Int32) (t : Rs Int32), k23 h a1 a2 a3 i4 = some t → X l K mM_L_law (tgI t) 23 [(0, .ref 2000000), (1, .ref a1), (2, .ref a2), (3, .ref a3), (4, .int i4)] [] h) {h : Hp} {a1 : Nat} {a2 : Nat} {a3 : Nat} {i4 : Int32} {t : Rs Int32} (e : f_L_law_L1357 (kXs K) (kLn K) k23 h a1 a2 a3 i4 = some t) : X l K mM_L_law (tgI t) 1357 [(0, .ref 2000000), (1, .ref a1), (2, .ref a2), (3, .ref a3), (4, .int i4)] [] h := by
  unfold f_L_law_L1357 at e
  refine x_aload_n (pc := 1357) 1 dL_law_1357 rfl ?_
  refine x_aload_n (pc := 1358) 0 dL_law_1358 rfl ?_
  refine x_iload (pc := 1359) 4 dL_law_1359 rfl ?_
  refine x_iconst (pc := 1361) dL_law_1361 ?_
  refine x_iadd (pc := 1362) dL_law_1362 ?_
  obtain ⟨q1, e⟩ := chk_some e
  refine x_sld (pc := 1363) dL_law_1363 q1 ?_
  refine x_aload_n (pc := 1364) 0 dL_law_1364 rfl ?_
  refine x_iload (pc := 1365) 4 dL_law_1365 rfl ?_
  refine x_iconst (pc := 1367) dL_law_1367 ?_
  refine x_iadd (pc := 1368) dL_law_1368 ?_
  obtain ⟨q2, e⟩ := chk_some e
  refine x_sld (pc := 1369) dL_law_1369 q2 ?_
  refine x_aload_n (pc := 1370) 3 dL_law_1370 rfl ?_
  rcases bnd_some e with ⟨h3, r4, ec, rfl⟩ | ⟨h3, r4, ec, e⟩
  · exact y_callX_x (pc := 1371) (c_L_cellHeight hl ec) mf_L_cellHeight tw_5_140 tw_5_139 dL_law_1371 (by decide) rfl rfl (leb rfl) (xx_out0 rfl)
  refine y_callX_i (pc := 1371) (c_L_cellHeight hl ec) mf_L_cellHeight tw_5_140 tw_5_139 dL_law_1371 (by decide) rfl rfl (leb rfl) ?_
  refine x_istore (pc := 1374) dL_law_1374 (by decide) rfl ?_
  refine x_aload_n (pc := 1376) 3 dL_law_1376 rfl ?_
  refine x_aload_n (pc := 1377) 1 dL_law_1377 rfl ?_
  refine x_iload (pc := 1378) 5 dL_law_1378 rfl ?_
  refine x_iconst (pc := 1380) dL_law_1380 ?_
  refine x_iadd (pc := 1381) dL_law_1381 ?_
  obtain ⟨q5, e⟩ := chk_some e
  refine x_sld (pc := 1382) dL_law_1382 q5 ?_
  refine x_aload_n (pc := 1383) 1 dL_law_1383 rfl ?_
  refine x_iload (pc := 1384) 5 dL_law_1384 rfl ?_
  refine x_iconst (pc := 1386) dL_law_1386 ?_
  refine x_iadd (pc := 1387) dL_law_1387 ?_
  obtain ⟨q6, e⟩ := chk_some e
  refine x_sld (pc := 1388) dL_law_1388 q6 ?_
  obtain ⟨q7, e⟩ := chk_some e
  rcases bnd_some e with ⟨h8, r9, ec, rfl⟩ | ⟨h8, r9, ec, e⟩
  · exact y_callV_x (pc := 1389) (c_X9_cellHeight hl ec) q7 mf_X9_cellHeight tw_8_41 tw_8_42 lf_L_216 rfl rfl dL_law_1389 (by decide) rfl rfl (leb rfl) (xx_out0 rfl)
  refine y_callV_i (pc := 1389) (c_X9_cellHeight hl ec) q7 mf_X9_cellHeight tw_8_41 tw_8_42 lf_L_216 rfl rfl dL_law_1389 (by decide) rfl rfl (leb rfl) ?_
  refine x_istore (pc := 1392) dL_law_1392 (by decide) rfl ?_
  refine x_aload_n (pc := 1394) 4 dL_law_1394 rfl ?_
  obtain ⟨q10, e⟩ := chk_some e
  rcases bnd_some e with ⟨h11, r12, ec, rfl⟩ | ⟨h11, r12, ec, e⟩
  · exact y_callV_x (pc := 1395) (c_X9_thrown hl ec) q10 mf_X9_thrown tw_7_12 tw_7_13 lf_L_155 rfl rfl dL_law_1395 (by decide) rfl rfl (leb rfl) (xx_out0 rfl)
  refine y_callV_i (pc := 1395) (c_X9_thrown hl ec) q10 mf_X9_thrown tw_7_12 tw_7_13 lf_L_155 rfl rfl dL_law_1395 (by decide) rfl rfl (leb rfl) ?_
  refine x_iload (pc := 1398) 1 dL_law_1398 rfl ?_
  rcases ite_some e with ⟨q13, e⟩ | ⟨q13, e⟩
  · refine x_icmp_eq_t (pc := 1400) (t := 1405) dL_law_1400 (by decide) q13 ?_
    refine x_iload (pc := 1405) 1 dL_law_1405 rfl ?_
    rcases ite_some e with ⟨q14, e⟩ | ⟨q14, e⟩
    · refine x_if_ne_f (pc := 1407) (t := 1422) dL_law_1407 (by decide) q14 ?_
      refine x_aload_n (pc := 1410) 5 dL_law_1410 rfl ?_
      refine x_iconst (pc := 1411) dL_law_1411 ?_
      obtain ⟨q15, e⟩ := chk_some e
      obtain ⟨q16, e⟩ := chk_some e
      refine x_lald (pc := 1412) dL_law_1412 q15 q16 ?_
      refine x_iload (pc := 1413) 0 dL_law_1413 rfl ?_
      refine x_i2l (pc := 1415) dL_law_1415 ?_
      refine x_lcmp (pc := 1416) dL_law_1416 ?_
      rcases ite_some e with ⟨q17, e⟩ | ⟨q17, e⟩
      · refine x_if_eq_t (pc := 1417) (t := 1422) dL_law_1417 (by decide) q17 ?_
        exact x_sub1 (p_L_law_L1422 hl hk23 e) [2, 3, 4, 5, 6] rfl
      · refine x_if_eq_f (pc := 1417) (t := 1422) dL_law_1417 (by decide) q17 ?_
        refine x_iconst (pc := 1420) dL_law_1420 ?_
        cases Option.some.inj e
        exact x_zret (pc := 1421) rfl (Or.inl rfl) dL_law_1421
    · refine x_if_ne_t (pc := 1407) (t := 1422) dL_law_1407 (by decide) q14 ?_
      exact x_sub1 (p_L_law_L1422 hl hk23 e) [2, 3, 4, 5, 6] rfl
  · refine x_icmp_eq_f (pc := 1400) (t := 1405) dL_law_1400 (by decide) q13 ?_
    refine x_iconst (pc := 1403) dL_law_1403 ?_
    cases Option.some.inj e
    exact x_zret (pc := 1404) rfl (Or.inl rfl) dL_law_1404
noncomputable def f_L_law_L1490 (xs : Nat → Int32) (xn : Nat) (k23 : Hp → Nat → Nat → Nat → Int32 → Option (Rs Int32)) (h : Hp) (a1 : Nat) (a2 : Nat) (a3 : Nat) (i4 : Int32) : Option (Rs Int32) :=
  f_L_law_L2775 xs xn k23 h a1 a2 a3 i4
theorem p_L_law_L1490 {l : Launch} {K : Ctx} (hl : l.stackTraces = false) {k23 : Hp → Nat → Nat → Nat → Int32 → Option (Rs Int32)} (hk23 : ∀ (h : Hp) (a1 : Nat) (a2 : Nat) (a3 : Nat) (i4 : Int32) (t : Rs Int32), k23 h a1 a2 a3 i4 = some t → X l K mM_L_law (tgI t) 23 [(0, .ref 2000000), (1, .ref a1), (2, .ref a2), (3, .ref a3), (4, .int i4)] [] h) {h : Hp} {a1 : Nat} {a2 : Nat} {a3 : Nat} {i4 : Int32} {t : Rs Int32} (e : f_L_law_L1490 (kXs K) (kLn K) k23 h a1 a2 a3 i4 = some t) : X l K mM_L_law (tgI t) 1490 [(0, .ref 2000000), (1, .ref a1), (2, .ref a2), (3, .ref a3), (4, .int i4)] [] h := by
  unfold f_L_law_L1490 at e
  refine x_goto (pc := 1490) (t := 2775) dL_law_1490 (by decide) ?_
  exact p_L_law_L2775 hl hk23 e
noncomputable def f_L_law_L1425 (xs : Nat → Int32) (xn : Nat) (k23 : Hp → Nat → Nat → Nat → Int32 → Option (Rs Int32)) (h : Hp) (a1 : Nat) (a2 : Nat) (a3 : Nat) (i4 : Int32) : Option (Rs Int32) :=
  chk (vp_in (i4 + (iN 1)) xn) <|
  chk (vp_in (i4 + (iN 2)) xn) <|
  bnd (f_L_nextStep h a1 (xs (Int32.toNatClampNeg (i4 + (iN 1)))) (xs (Int32.toNatClampNeg (i4 + (iN 2)))) a3) fun h3 r4 =>
  chk (vp_in (i4 + (iN 1)) xn) <|
  chk (vp_in (i4 + (iN 2)) xn) <|
  chk (okr h3 a2 9) <|
  bnd (f_X9_nextStep h3 a2 (xs (Int32.toNatClampNeg (i4 + (iN 1)))) (xs (Int32.toNatClampNeg (i4 + (iN 2))))) fun h8 r9 =>
  chk (okr h8 a2 9) <|
  bnd (f_X9_thrown h8 a2) fun h11 r12 =>
  if r12 = r4 then (
    if r4 = 0 then (
      chk (okr h11 a3 21) <|
      chk (vp_in (iN 0) (qW h11 a3)) <|
      if (lg_cmp (qL h11 a3 (Int32.toNatClampNeg (iN 0))) (Int32.toInt64 r9)) = 0 then (
        f_L_law_L1490 xs xn k23 h11 a1 a2 a3 i4
      ) else (
        some (h11, .inr (iN 0))
      )
    ) else (
      f_L_law_L1490 xs xn k23 h11 a1 a2 a3 i4
    )
  ) else (
    some (h11, .inr (iN 0))
  )
theorem p_L_law_L1425 {l : Launch} {K : Ctx} (hl : l.stackTraces = false) {k23 : Hp → Nat → Nat → Nat → Int32 → Option (Rs Int32)} (hk23 : ∀ (h : Hp) (a1 : Nat) (a2 : Nat) (a3 : Nat) (i4 : Int32) (t : Rs Int32), k23 h a1 a2 a3 i4 = some t → X l K mM_L_law (tgI t) 23 [(0, .ref 2000000), (1, .ref a1), (2, .ref a2), (3, .ref a3), (4, .int i4)] [] h) {h : Hp} {a1 : Nat} {a2 : Nat} {a3 : Nat} {i4 : Int32} {t : Rs Int32} (e : f_L_law_L1425 (kXs K) (kLn K) k23 h a1 a2 a3 i4 = some t) : X l K mM_L_law (tgI t) 1425 [(0, .ref 2000000), (1, .ref a1), (2, .ref a2), (3, .ref a3), (4, .int i4)] [] h := by
  unfold f_L_law_L1425 at e
  refine x_aload_n (pc := 1425) 1 dL_law_1425 rfl ?_
  refine x_aload_n (pc := 1426) 0 dL_law_1426 rfl ?_
  refine x_iload (pc := 1427) 4 dL_law_1427 rfl ?_
  refine x_iconst (pc := 1429) dL_law_1429 ?_
  refine x_iadd (pc := 1430) dL_law_1430 ?_
  obtain ⟨q1, e⟩ := chk_some e
  refine x_sld (pc := 1431) dL_law_1431 q1 ?_
  refine x_aload_n (pc := 1432) 0 dL_law_1432 rfl ?_
  refine x_iload (pc := 1433) 4 dL_law_1433 rfl ?_
  refine x_iconst (pc := 1435) dL_law_1435 ?_
  refine x_iadd (pc := 1436) dL_law_1436 ?_
  obtain ⟨q2, e⟩ := chk_some e
  refine x_sld (pc := 1437) dL_law_1437 q2 ?_
  refine x_aload_n (pc := 1438) 3 dL_law_1438 rfl ?_
  rcases bnd_some e with ⟨h3, r4, ec, rfl⟩ | ⟨h3, r4, ec, e⟩
  · exact y_callX_x (pc := 1439) (c_L_nextStep hl ec) mf_L_nextStep tw_5_148 tw_5_147 dL_law_1439 (by decide) rfl rfl (leb rfl) (xx_out0 rfl)
  refine y_callX_i (pc := 1439) (c_L_nextStep hl ec) mf_L_nextStep tw_5_148 tw_5_147 dL_law_1439 (by decide) rfl rfl (leb rfl) ?_
  refine x_istore (pc := 1442) dL_law_1442 (by decide) rfl ?_
  refine x_aload_n (pc := 1444) 3 dL_law_1444 rfl ?_
  refine x_aload_n (pc := 1445) 1 dL_law_1445 rfl ?_
  refine x_iload (pc := 1446) 5 dL_law_1446 rfl ?_
  refine x_iconst (pc := 1448) dL_law_1448 ?_
  refine x_iadd (pc := 1449) dL_law_1449 ?_
  obtain ⟨q5, e⟩ := chk_some e
  refine x_sld (pc := 1450) dL_law_1450 q5 ?_
  refine x_aload_n (pc := 1451) 1 dL_law_1451 rfl ?_
  refine x_iload (pc := 1452) 5 dL_law_1452 rfl ?_
  refine x_iconst (pc := 1454) dL_law_1454 ?_
  refine x_iadd (pc := 1455) dL_law_1455 ?_
  obtain ⟨q6, e⟩ := chk_some e
  refine x_sld (pc := 1456) dL_law_1456 q6 ?_
  obtain ⟨q7, e⟩ := chk_some e
  rcases bnd_some e with ⟨h8, r9, ec, rfl⟩ | ⟨h8, r9, ec, e⟩
  · exact y_callV_x (pc := 1457) (c_X9_nextStep hl ec) q7 mf_X9_nextStep tw_8_53 tw_8_54 lf_L_219 rfl rfl dL_law_1457 (by decide) rfl rfl (leb rfl) (xx_out0 rfl)
  refine y_callV_i (pc := 1457) (c_X9_nextStep hl ec) q7 mf_X9_nextStep tw_8_53 tw_8_54 lf_L_219 rfl rfl dL_law_1457 (by decide) rfl rfl (leb rfl) ?_
  refine x_istore (pc := 1460) dL_law_1460 (by decide) rfl ?_
  refine x_aload_n (pc := 1462) 4 dL_law_1462 rfl ?_
  obtain ⟨q10, e⟩ := chk_some e
  rcases bnd_some e with ⟨h11, r12, ec, rfl⟩ | ⟨h11, r12, ec, e⟩
  · exact y_callV_x (pc := 1463) (c_X9_thrown hl ec) q10 mf_X9_thrown tw_7_12 tw_7_13 lf_L_155 rfl rfl dL_law_1463 (by decide) rfl rfl (leb rfl) (xx_out0 rfl)
  refine y_callV_i (pc := 1463) (c_X9_thrown hl ec) q10 mf_X9_thrown tw_7_12 tw_7_13 lf_L_155 rfl rfl dL_law_1463 (by decide) rfl rfl (leb rfl) ?_
  refine x_iload (pc := 1466) 1 dL_law_1466 rfl ?_
  rcases ite_some e with ⟨q13, e⟩ | ⟨q13, e⟩
  · refine x_icmp_eq_t (pc := 1468) (t := 1473) dL_law_1468 (by decide) q13 ?_
    refine x_iload (pc := 1473) 1 dL_law_1473 rfl ?_
    rcases ite_some e with ⟨q14, e⟩ | ⟨q14, e⟩
    · refine x_if_ne_f (pc := 1475) (t := 1490) dL_law_1475 (by decide) q14 ?_
      refine x_aload_n (pc := 1478) 5 dL_law_1478 rfl ?_
      refine x_iconst (pc := 1479) dL_law_1479 ?_
      obtain ⟨q15, e⟩ := chk_some e
      obtain ⟨q16, e⟩ := chk_some e
      refine x_lald (pc := 1480) dL_law_1480 q15 q16 ?_
      refine x_iload (pc := 1481) 0 dL_law_1481 rfl ?_
      refine x_i2l (pc := 1483) dL_law_1483 ?_
      refine x_lcmp (pc := 1484) dL_law_1484 ?_
      rcases ite_some e with ⟨q17, e⟩ | ⟨q17, e⟩
      · refine x_if_eq_t (pc := 1485) (t := 1490) dL_law_1485 (by decide) q17 ?_
        exact x_sub1 (p_L_law_L1490 hl hk23 e) [2, 3, 4, 5, 6] rfl
      · refine x_if_eq_f (pc := 1485) (t := 1490) dL_law_1485 (by decide) q17 ?_
        refine x_iconst (pc := 1488) dL_law_1488 ?_
        cases Option.some.inj e
        exact x_zret (pc := 1489) rfl (Or.inl rfl) dL_law_1489
    · refine x_if_ne_t (pc := 1475) (t := 1490) dL_law_1475 (by decide) q14 ?_
      exact x_sub1 (p_L_law_L1490 hl hk23 e) [2, 3, 4, 5, 6] rfl
  · refine x_icmp_eq_f (pc := 1468) (t := 1473) dL_law_1468 (by decide) q13 ?_
    refine x_iconst (pc := 1471) dL_law_1471 ?_
    cases Option.some.inj e
    exact x_zret (pc := 1472) rfl (Or.inl rfl) dL_law_1472
noncomputable def f_L_law_L1558 (xs : Nat → Int32) (xn : Nat) (k23 : Hp → Nat → Nat → Nat → Int32 → Option (Rs Int32)) (h : Hp) (a1 : Nat) (a2 : Nat) (a3 : Nat) (i4 : Int32) : Option (Rs Int32) :=
  f_L_law_L2775 xs xn k23 h a1 a2 a3 i4
theorem p_L_law_L1558 {l : Launch} {K : Ctx} (hl : l.stackTraces = false) {k23 : Hp → Nat → Nat → Nat → Int32 → Option (Rs Int32)} (hk23 : ∀ (h : Hp) (a1 : Nat) (a2 : Nat) (a3 : Nat) (i4 : Int32) (t : Rs Int32), k23 h a1 a2 a3 i4 = some t → X l K mM_L_law (tgI t) 23 [(0, .ref 2000000), (1, .ref a1), (2, .ref a2), (3, .ref a3), (4, .int i4)] [] h) {h : Hp} {a1 : Nat} {a2 : Nat} {a3 : Nat} {i4 : Int32} {t : Rs Int32} (e : f_L_law_L1558 (kXs K) (kLn K) k23 h a1 a2 a3 i4 = some t) : X l K mM_L_law (tgI t) 1558 [(0, .ref 2000000), (1, .ref a1), (2, .ref a2), (3, .ref a3), (4, .int i4)] [] h := by
  unfold f_L_law_L1558 at e
  refine x_goto (pc := 1558) (t := 2775) dL_law_1558 (by decide) ?_
  exact p_L_law_L2775 hl hk23 e
noncomputable def f_L_law_L1493 (xs : Nat → Int32) (xn : Nat) (k23 : Hp → Nat → Nat → Nat → Int32 → Option (Rs Int32)) (h : Hp) (a1 : Nat) (a2 : Nat) (a3 : Nat) (i4 : Int32) : Option (Rs Int32) :=
  chk (vp_in (i4 + (iN 1)) xn) <|
  chk (vp_in (i4 + (iN 2)) xn) <|
  bnd (f_L_columnWidth h a1 (xs (Int32.toNatClampNeg (i4 + (iN 1)))) (xs (Int32.toNatClampNeg (i4 + (iN 2)))) a3) fun h3 r4 =>
  chk (vp_in (i4 + (iN 1)) xn) <|
  chk (vp_in (i4 + (iN 2)) xn) <|
  chk (okr h3 a2 9) <|
  bnd (f_X9_columnWidth h3 a2 (xs (Int32.toNatClampNeg (i4 + (iN 1)))) (xs (Int32.toNatClampNeg (i4 + (iN 2))))) fun h8 r9 =>
  chk (okr h8 a2 9) <|
  bnd (f_X9_thrown h8 a2) fun h11 r12 =>
  if r12 = r4 then (
    if r4 = 0 then (
      chk (okr h11 a3 21) <|
      chk (vp_in (iN 0) (qW h11 a3)) <|
      if (lg_cmp (qL h11 a3 (Int32.toNatClampNeg (iN 0))) (Int32.toInt64 r9)) = 0 then (
        f_L_law_L1558 xs xn k23 h11 a1 a2 a3 i4
      ) else (
        some (h11, .inr (iN 0))
      )
    ) else (
      f_L_law_L1558 xs xn k23 h11 a1 a2 a3 i4
    )
  ) else (
    some (h11, .inr (iN 0))
  )
theorem p_L_law_L1493 {l : Launch} {K : Ctx} (hl : l.stackTraces = false) {k23 : Hp → Nat → Nat → Nat → Int32 → Option (Rs Int32)} (hk23 : ∀ (h : Hp) (a1 : Nat) (a2 : Nat) (a3 : Nat) (i4 : Int32) (t : Rs Int32), k23 h a1 a2 a3 i4 = some t → X l K mM_L_law (tgI t) 23 [(0, .ref 2000000), (1, .ref a1), (2, .ref a2), (3, .ref a3), (4, .int i4)] [] h) {h : Hp} {a1 : Nat} {a2 : Nat} {a3 : Nat} {i4 : Int32} {t : Rs Int32} (e : f_L_law_L1493 (kXs K) (kLn K) k23 h a1 a2 a3 i4 = some t) : X l K mM_L_law (tgI t) 1493 [(0, .ref 2000000), (1, .ref a1), (2, .ref a2), (3, .ref a3), (4, .int i4)] [] h := by
  unfold f_L_law_L1493 at e
  refine x_aload_n (pc := 1493) 1 dL_law_1493 rfl ?_
  refine x_aload_n (pc := 1494) 0 dL_law_1494 rfl ?_
  refine x_iload (pc := 1495) 4 dL_law_1495 rfl ?_
  refine x_iconst (pc := 1497) dL_law_1497 ?_
  refine x_iadd (pc := 1498) dL_law_1498 ?_
  obtain ⟨q1, e⟩ := chk_some e
  refine x_sld (pc := 1499) dL_law_1499 q1 ?_
  refine x_aload_n (pc := 1500) 0 dL_law_1500 rfl ?_
  refine x_iload (pc := 1501) 4 dL_law_1501 rfl ?_
  refine x_iconst (pc := 1503) dL_law_1503 ?_
  refine x_iadd (pc := 1504) dL_law_1504 ?_
  obtain ⟨q2, e⟩ := chk_some e
  refine x_sld (pc := 1505) dL_law_1505 q2 ?_
  refine x_aload_n (pc := 1506) 3 dL_law_1506 rfl ?_
  rcases bnd_some e with ⟨h3, r4, ec, rfl⟩ | ⟨h3, r4, ec, e⟩
  · exact y_callX_x (pc := 1507) (c_L_columnWidth hl ec) mf_L_columnWidth tw_5_155 tw_5_154 dL_law_1507 (by decide) rfl rfl (leb rfl) (xx_out0 rfl)
  refine y_callX_i (pc := 1507) (c_L_columnWidth hl ec) mf_L_columnWidth tw_5_155 tw_5_154 dL_law_1507 (by decide) rfl rfl (leb rfl) ?_
  refine x_istore (pc := 1510) dL_law_1510 (by decide) rfl ?_
  refine x_aload_n (pc := 1512) 3 dL_law_1512 rfl ?_
  refine x_aload_n (pc := 1513) 1 dL_law_1513 rfl ?_
  refine x_iload (pc := 1514) 5 dL_law_1514 rfl ?_
  refine x_iconst (pc := 1516) dL_law_1516 ?_
  refine x_iadd (pc := 1517) dL_law_1517 ?_
  obtain ⟨q5, e⟩ := chk_some e
  refine x_sld (pc := 1518) dL_law_1518 q5 ?_
  refine x_aload_n (pc := 1519) 1 dL_law_1519 rfl ?_
  refine x_iload (pc := 1520) 5 dL_law_1520 rfl ?_
  refine x_iconst (pc := 1522) dL_law_1522 ?_
  refine x_iadd (pc := 1523) dL_law_1523 ?_
  obtain ⟨q6, e⟩ := chk_some e
  refine x_sld (pc := 1524) dL_law_1524 q6 ?_
  obtain ⟨q7, e⟩ := chk_some e
  rcases bnd_some e with ⟨h8, r9, ec, rfl⟩ | ⟨h8, r9, ec, e⟩
  · exact y_callV_x (pc := 1525) (c_X9_columnWidth hl ec) q7 mf_X9_columnWidth tw_8_57 tw_8_58 lf_L_222 rfl rfl dL_law_1525 (by decide) rfl rfl (leb rfl) (xx_out0 rfl)
  refine y_callV_i (pc := 1525) (c_X9_columnWidth hl ec) q7 mf_X9_columnWidth tw_8_57 tw_8_58 lf_L_222 rfl rfl dL_law_1525 (by decide) rfl rfl (leb rfl) ?_
  refine x_istore (pc := 1528) dL_law_1528 (by decide) rfl ?_
  refine x_aload_n (pc := 1530) 4 dL_law_1530 rfl ?_
  obtain ⟨q10, e⟩ := chk_some e
  rcases bnd_some e with ⟨h11, r12, ec, rfl⟩ | ⟨h11, r12, ec, e⟩
  · exact y_callV_x (pc := 1531) (c_X9_thrown hl ec) q10 mf_X9_thrown tw_7_12 tw_7_13 lf_L_155 rfl rfl dL_law_1531 (by decide) rfl rfl (leb rfl) (xx_out0 rfl)
  refine y_callV_i (pc := 1531) (c_X9_thrown hl ec) q10 mf_X9_thrown tw_7_12 tw_7_13 lf_L_155 rfl rfl dL_law_1531 (by decide) rfl rfl (leb rfl) ?_
  refine x_iload (pc := 1534) 1 dL_law_1534 rfl ?_
  rcases ite_some e with ⟨q13, e⟩ | ⟨q13, e⟩
  · refine x_icmp_eq_t (pc := 1536) (t := 1541) dL_law_1536 (by decide) q13 ?_
    refine x_iload (pc := 1541) 1 dL_law_1541 rfl ?_
    rcases ite_some e with ⟨q14, e⟩ | ⟨q14, e⟩
    · refine x_if_ne_f (pc := 1543) (t := 1558) dL_law_1543 (by decide) q14 ?_
      refine x_aload_n (pc := 1546) 5 dL_law_1546 rfl ?_
      refine x_iconst (pc := 1547) dL_law_1547 ?_
      obtain ⟨q15, e⟩ := chk_some e
      obtain ⟨q16, e⟩ := chk_some e
      refine x_lald (pc := 1548) dL_law_1548 q15 q16 ?_
      refine x_iload (pc := 1549) 0 dL_law_1549 rfl ?_
      refine x_i2l (pc := 1551) dL_law_1551 ?_
      refine x_lcmp (pc := 1552) dL_law_1552 ?_
      rcases ite_some e with ⟨q17, e⟩ | ⟨q17, e⟩
      · refine x_if_eq_t (pc := 1553) (t := 1558) dL_law_1553 (by decide) q17 ?_
        exact x_sub1 (p_L_law_L1558 hl hk23 e) [2, 3, 4, 5, 6] rfl
      · refine x_if_eq_f (pc := 1553) (t := 1558) dL_law_1553 (by decide) q17 ?_
        refine x_iconst (pc := 1556) dL_law_1556 ?_
        cases Option.some.inj e
        exact x_zret (pc := 1557) rfl (Or.inl rfl) dL_law_1557
    · refine x_if_ne_t (pc := 1543) (t := 1558) dL_law_1543 (by decide) q14 ?_
      exact x_sub1 (p_L_law_L1558 hl hk23 e) [2, 3, 4, 5, 6] rfl
  · refine x_icmp_eq_f (pc := 1536) (t := 1541) dL_law_1536 (by decide) q13 ?_
    refine x_iconst (pc := 1539) dL_law_1539 ?_
    cases Option.some.inj e
    exact x_zret (pc := 1540) rfl (Or.inl rfl) dL_law_1540
noncomputable def f_L_law_L1561 (xs : Nat → Int32) (xn : Nat) (k23 : Hp → Nat → Nat → Nat → Int32 → Option (Rs Int32)) (h : Hp) (a1 : Nat) (a2 : Nat) (a3 : Nat) (i4 : Int32) : Option (Rs Int32) :=
  chk (okr h a1 8) <|
  bnd (f_X8_conflicts h a1) fun h2 r3 =>
  chk (okr h2 a2 9) <|
  bnd (f_X9_conflicts h2 a2) fun h5 r6 =>
  if r3 = r6 then (
    f_L_law_L2775 xs xn k23 h5 a1 a2 a3 i4
  ) else (
    some (h5, .inr (iN 0))
  )
theorem p_L_law_L1561 {l : Launch} {K : Ctx} (hl : l.stackTraces = false) {k23 : Hp → Nat → Nat → Nat → Int32 → Option (Rs Int32)} (hk23 : ∀ (h : Hp) (a1 : Nat) (a2 : Nat) (a3 : Nat) (i4 : Int32) (t : Rs Int32), k23 h a1 a2 a3 i4 = some t → X l K mM_L_law (tgI t) 23 [(0, .ref 2000000), (1, .ref a1), (2, .ref a2), (3, .ref a3), (4, .int i4)] [] h) {h : Hp} {a1 : Nat} {a2 : Nat} {a3 : Nat} {i4 : Int32} {t : Rs Int32} (e : f_L_law_L1561 (kXs K) (kLn K) k23 h a1 a2 a3 i4 = some t) : X l K mM_L_law (tgI t) 1561 [(0, .ref 2000000), (1, .ref a1), (2, .ref a2), (3, .ref a3), (4, .int i4)] [] h := by
  unfold f_L_law_L1561 at e
  refine x_aload_n (pc := 1561) 1 dL_law_1561 rfl ?_
  obtain ⟨q1, e⟩ := chk_some e
  rcases bnd_some e with ⟨h2, r3, ec, rfl⟩ | ⟨h2, r3, ec, e⟩
  · exact y_callV_x (pc := 1562) (c_X8_conflicts hl ec) q1 mf_X8_conflicts tw_2_236 tw_2_237 lf_L_223 rfl rfl dL_law_1562 (by decide) rfl rfl (leb rfl) (xx_out0 rfl)
  refine y_callV_i (pc := 1562) (c_X8_conflicts hl ec) q1 mf_X8_conflicts tw_2_236 tw_2_237 lf_L_223 rfl rfl dL_law_1562 (by decide) rfl rfl (leb rfl) ?_
  refine x_aload_n (pc := 1565) 2 dL_law_1565 rfl ?_
  obtain ⟨q4, e⟩ := chk_some e
  rcases bnd_some e with ⟨h5, r6, ec, rfl⟩ | ⟨h5, r6, ec, e⟩
  · exact y_callV_x (pc := 1566) (c_X9_conflicts hl ec) q4 mf_X9_conflicts tw_8_89 tw_8_90 lf_L_226 rfl rfl dL_law_1566 (by decide) rfl rfl (leb rfl) (xx_out0 rfl)
  refine y_callV_i (pc := 1566) (c_X9_conflicts hl ec) q4 mf_X9_conflicts tw_8_89 tw_8_90 lf_L_226 rfl rfl dL_law_1566 (by decide) rfl rfl (leb rfl) ?_
  rcases ite_some e with ⟨q7, e⟩ | ⟨q7, e⟩
  · refine x_icmp_eq_t (pc := 1569) (t := 2775) dL_law_1569 (by decide) q7 ?_
    exact p_L_law_L2775 hl hk23 e
  · refine x_icmp_eq_f (pc := 1569) (t := 2775) dL_law_1569 (by decide) q7 ?_
    refine x_iconst (pc := 1572) dL_law_1572 ?_
    cases Option.some.inj e
    exact x_zret (pc := 1573) rfl (Or.inl rfl) dL_law_1573
noncomputable def f_L_law_L1639 (xs : Nat → Int32) (xn : Nat) (k23 : Hp → Nat → Nat → Nat → Int32 → Option (Rs Int32)) (h : Hp) (a1 : Nat) (a2 : Nat) (a3 : Nat) (i4 : Int32) : Option (Rs Int32) :=
  f_L_law_L2775 xs xn k23 h a1 a2 a3 i4
theorem p_L_law_L1639 {l : Launch} {K : Ctx} (hl : l.stackTraces = false) {k23 : Hp → Nat → Nat → Nat → Int32 → Option (Rs Int32)} (hk23 : ∀ (h : Hp) (a1 : Nat) (a2 : Nat) (a3 : Nat) (i4 : Int32) (t : Rs Int32), k23 h a1 a2 a3 i4 = some t → X l K mM_L_law (tgI t) 23 [(0, .ref 2000000), (1, .ref a1), (2, .ref a2), (3, .ref a3), (4, .int i4)] [] h) {h : Hp} {a1 : Nat} {a2 : Nat} {a3 : Nat} {i4 : Int32} {t : Rs Int32} (e : f_L_law_L1639 (kXs K) (kLn K) k23 h a1 a2 a3 i4 = some t) : X l K mM_L_law (tgI t) 1639 [(0, .ref 2000000), (1, .ref a1), (2, .ref a2), (3, .ref a3), (4, .int i4)] [] h := by
  unfold f_L_law_L1639 at e
  refine x_goto (pc := 1639) (t := 2775) dL_law_1639 (by decide) ?_
  exact p_L_law_L2775 hl hk23 e
noncomputable def f_L_law_L1574 (xs : Nat → Int32) (xn : Nat) (k23 : Hp → Nat → Nat → Nat → Int32 → Option (Rs Int32)) (h : Hp) (a1 : Nat) (a2 : Nat) (a3 : Nat) (i4 : Int32) : Option (Rs Int32) :=
  chk (vp_in (i4 + (iN 1)) xn) <|
  chk (vp_in (i4 + (iN 2)) xn) <|
  bnd (f_L_guess h a1 (xs (Int32.toNatClampNeg (i4 + (iN 1)))) (xs (Int32.toNatClampNeg (i4 + (iN 2)))) a3) fun h3 r4 =>
  chk (vp_in (i4 + (iN 1)) xn) <|
  chk (vp_in (i4 + (iN 2)) xn) <|
  chk (okr h3 a2 9) <|
  bnd (f_X9_guess h3 a2 (xs (Int32.toNatClampNeg (i4 + (iN 1)))) (xs (Int32.toNatClampNeg (i4 + (iN 2))))) fun h8 r9 =>
  chk (okr h8 a2 9) <|
  bnd (f_X9_thrown h8 a2) fun h11 r12 =>
  if r12 = r4 then (
    if r4 = 0 then (
      chk (okr h11 a3 21) <|
      chk (vp_in (iN 0) (qW h11 a3)) <|
      if (lg_cmp (qL h11 a3 (Int32.toNatClampNeg (iN 0))) (Int32.toInt64 r9)) = 0 then (
        f_L_law_L1639 xs xn k23 h11 a1 a2 a3 i4
      ) else (
        some (h11, .inr (iN 0))
      )
    ) else (
      f_L_law_L1639 xs xn k23 h11 a1 a2 a3 i4
    )
  ) else (
    some (h11, .inr (iN 0))
  )
theorem p_L_law_L1574 {l : Launch} {K : Ctx} (hl : l.stackTraces = false) {k23 : Hp → Nat → Nat → Nat → Int32 → Option (Rs Int32)} (hk23 : ∀ (h : Hp) (a1 : Nat) (a2 : Nat) (a3 : Nat) (i4 : Int32) (t : Rs Int32), k23 h a1 a2 a3 i4 = some t → X l K mM_L_law (tgI t) 23 [(0, .ref 2000000), (1, .ref a1), (2, .ref a2), (3, .ref a3), (4, .int i4)] [] h) {h : Hp} {a1 : Nat} {a2 : Nat} {a3 : Nat} {i4 : Int32} {t : Rs Int32} (e : f_L_law_L1574 (kXs K) (kLn K) k23 h a1 a2 a3 i4 = some t) : X l K mM_L_law (tgI t) 1574 [(0, .ref 2000000), (1, .ref a1), (2, .ref a2), (3, .ref a3), (4, .int i4)] [] h := by
  unfold f_L_law_L1574 at e
  refine x_aload_n (pc := 1574) 1 dL_law_1574 rfl ?_
  refine x_aload_n (pc := 1575) 0 dL_law_1575 rfl ?_
  refine x_iload (pc := 1576) 4 dL_law_1576 rfl ?_
  refine x_iconst (pc := 1578) dL_law_1578 ?_
  refine x_iadd (pc := 1579) dL_law_1579 ?_
  obtain ⟨q1, e⟩ := chk_some e
  refine x_sld (pc := 1580) dL_law_1580 q1 ?_
  refine x_aload_n (pc := 1581) 0 dL_law_1581 rfl ?_
  refine x_iload (pc := 1582) 4 dL_law_1582 rfl ?_
  refine x_iconst (pc := 1584) dL_law_1584 ?_
  refine x_iadd (pc := 1585) dL_law_1585 ?_
  obtain ⟨q2, e⟩ := chk_some e
  refine x_sld (pc := 1586) dL_law_1586 q2 ?_
  refine x_aload_n (pc := 1587) 3 dL_law_1587 rfl ?_
  rcases bnd_some e with ⟨h3, r4, ec, rfl⟩ | ⟨h3, r4, ec, e⟩
  · exact y_callX_x (pc := 1588) (c_L_guess hl ec) mf_L_guess tw_5_162 tw_5_161 dL_law_1588 (by decide) rfl rfl (leb rfl) (xx_out0 rfl)
  refine y_callX_i (pc := 1588) (c_L_guess hl ec) mf_L_guess tw_5_162 tw_5_161 dL_law_1588 (by decide) rfl rfl (leb rfl) ?_
  refine x_istore (pc := 1591) dL_law_1591 (by decide) rfl ?_
  refine x_aload_n (pc := 1593) 3 dL_law_1593 rfl ?_
  refine x_aload_n (pc := 1594) 1 dL_law_1594 rfl ?_
  refine x_iload (pc := 1595) 5 dL_law_1595 rfl ?_
  refine x_iconst (pc := 1597) dL_law_1597 ?_
  refine x_iadd (pc := 1598) dL_law_1598 ?_
  obtain ⟨q5, e⟩ := chk_some e
  refine x_sld (pc := 1599) dL_law_1599 q5 ?_
  refine x_aload_n (pc := 1600) 1 dL_law_1600 rfl ?_
  refine x_iload (pc := 1601) 5 dL_law_1601 rfl ?_
  refine x_iconst (pc := 1603) dL_law_1603 ?_
  refine x_iadd (pc := 1604) dL_law_1604 ?_
  obtain ⟨q6, e⟩ := chk_some e
  refine x_sld (pc := 1605) dL_law_1605 q6 ?_
  obtain ⟨q7, e⟩ := chk_some e
  rcases bnd_some e with ⟨h8, r9, ec, rfl⟩ | ⟨h8, r9, ec, e⟩
  · exact y_callV_x (pc := 1606) (c_X9_guess hl ec) q7 mf_X9_guess tw_8_93 tw_8_94 lf_L_229 rfl rfl dL_law_1606 (by decide) rfl rfl (leb rfl) (xx_out0 rfl)
  refine y_callV_i (pc := 1606) (c_X9_guess hl ec) q7 mf_X9_guess tw_8_93 tw_8_94 lf_L_229 rfl rfl dL_law_1606 (by decide) rfl rfl (leb rfl) ?_
  refine x_istore (pc := 1609) dL_law_1609 (by decide) rfl ?_
  refine x_aload_n (pc := 1611) 4 dL_law_1611 rfl ?_
  obtain ⟨q10, e⟩ := chk_some e
  rcases bnd_some e with ⟨h11, r12, ec, rfl⟩ | ⟨h11, r12, ec, e⟩
  · exact y_callV_x (pc := 1612) (c_X9_thrown hl ec) q10 mf_X9_thrown tw_7_12 tw_7_13 lf_L_155 rfl rfl dL_law_1612 (by decide) rfl rfl (leb rfl) (xx_out0 rfl)
  refine y_callV_i (pc := 1612) (c_X9_thrown hl ec) q10 mf_X9_thrown tw_7_12 tw_7_13 lf_L_155 rfl rfl dL_law_1612 (by decide) rfl rfl (leb rfl) ?_
  refine x_iload (pc := 1615) 1 dL_law_1615 rfl ?_
  rcases ite_some e with ⟨q13, e⟩ | ⟨q13, e⟩
  · refine x_icmp_eq_t (pc := 1617) (t := 1622) dL_law_1617 (by decide) q13 ?_
    refine x_iload (pc := 1622) 1 dL_law_1622 rfl ?_
    rcases ite_some e with ⟨q14, e⟩ | ⟨q14, e⟩
    · refine x_if_ne_f (pc := 1624) (t := 1639) dL_law_1624 (by decide) q14 ?_
      refine x_aload_n (pc := 1627) 5 dL_law_1627 rfl ?_
      refine x_iconst (pc := 1628) dL_law_1628 ?_
      obtain ⟨q15, e⟩ := chk_some e
      obtain ⟨q16, e⟩ := chk_some e
      refine x_lald (pc := 1629) dL_law_1629 q15 q16 ?_
      refine x_iload (pc := 1630) 0 dL_law_1630 rfl ?_
      refine x_i2l (pc := 1632) dL_law_1632 ?_
      refine x_lcmp (pc := 1633) dL_law_1633 ?_
      rcases ite_some e with ⟨q17, e⟩ | ⟨q17, e⟩
      · refine x_if_eq_t (pc := 1634) (t := 1639) dL_law_1634 (by decide) q17 ?_
        exact x_sub1 (p_L_law_L1639 hl hk23 e) [2, 3, 4, 5, 6] rfl
      · refine x_if_eq_f (pc := 1634) (t := 1639) dL_law_1634 (by decide) q17 ?_
        refine x_iconst (pc := 1637) dL_law_1637 ?_
        cases Option.some.inj e
        exact x_zret (pc := 1638) rfl (Or.inl rfl) dL_law_1638
    · refine x_if_ne_t (pc := 1624) (t := 1639) dL_law_1624 (by decide) q14 ?_
      exact x_sub1 (p_L_law_L1639 hl hk23 e) [2, 3, 4, 5, 6] rfl
  · refine x_icmp_eq_f (pc := 1617) (t := 1622) dL_law_1617 (by decide) q13 ?_
    refine x_iconst (pc := 1620) dL_law_1620 ?_
    cases Option.some.inj e
    exact x_zret (pc := 1621) rfl (Or.inl rfl) dL_law_1621
noncomputable def f_L_law_L1695 (xs : Nat → Int32) (xn : Nat) (k23 : Hp → Nat → Nat → Nat → Int32 → Option (Rs Int32)) (h : Hp) (a1 : Nat) (a2 : Nat) (a3 : Nat) (i4 : Int32) : Option (Rs Int32) :=
  f_L_law_L2775 xs xn k23 h a1 a2 a3 i4
theorem p_L_law_L1695 {l : Launch} {K : Ctx} (hl : l.stackTraces = false) {k23 : Hp → Nat → Nat → Nat → Int32 → Option (Rs Int32)} (hk23 : ∀ (h : Hp) (a1 : Nat) (a2 : Nat) (a3 : Nat) (i4 : Int32) (t : Rs Int32), k23 h a1 a2 a3 i4 = some t → X l K mM_L_law (tgI t) 23 [(0, .ref 2000000), (1, .ref a1), (2, .ref a2), (3, .ref a3), (4, .int i4)] [] h) {h : Hp} {a1 : Nat} {a2 : Nat} {a3 : Nat} {i4 : Int32} {t : Rs Int32} (e : f_L_law_L1695 (kXs K) (kLn K) k23 h a1 a2 a3 i4 = some t) : X l K mM_L_law (tgI t) 1695 [(0, .ref 2000000), (1, .ref a1), (2, .ref a2), (3, .ref a3), (4, .int i4)] [] h := by
  unfold f_L_law_L1695 at e
  refine x_goto (pc := 1695) (t := 2775) dL_law_1695 (by decide) ?_
  exact p_L_law_L2775 hl hk23 e
noncomputable def f_L_law_L1642 (xs : Nat → Int32) (xn : Nat) (k23 : Hp → Nat → Nat → Nat → Int32 → Option (Rs Int32)) (h : Hp) (a1 : Nat) (a2 : Nat) (a3 : Nat) (i4 : Int32) : Option (Rs Int32) :=
  chk (vp_in (i4 + (iN 1)) xn) <|
  bnd (f_L_autoWidth h a1 (xs (Int32.toNatClampNeg (i4 + (iN 1)))) a3) fun h2 r3 =>
  chk (vp_in (i4 + (iN 1)) xn) <|
  chk (okr h2 a2 9) <|
  bnd (f_X9_autoWidth h2 a2 (xs (Int32.toNatClampNeg (i4 + (iN 1))))) fun h6 r7 =>
  chk (okr h6 a2 9) <|
  bnd (f_X9_thrown h6 a2) fun h9 r10 =>
  if r10 = r3 then (
    if r3 = 0 then (
      chk (okr h9 a3 21) <|
      chk (vp_in (iN 0) (qW h9 a3)) <|
      if (lg_cmp (qL h9 a3 (Int32.toNatClampNeg (iN 0))) (Int32.toInt64 r7)) = 0 then (
        f_L_law_L1695 xs xn k23 h9 a1 a2 a3 i4
      ) else (
        some (h9, .inr (iN 0))
      )
    ) else (
      f_L_law_L1695 xs xn k23 h9 a1 a2 a3 i4
    )
  ) else (
    some (h9, .inr (iN 0))
  )
theorem p_L_law_L1642 {l : Launch} {K : Ctx} (hl : l.stackTraces = false) {k23 : Hp → Nat → Nat → Nat → Int32 → Option (Rs Int32)} (hk23 : ∀ (h : Hp) (a1 : Nat) (a2 : Nat) (a3 : Nat) (i4 : Int32) (t : Rs Int32), k23 h a1 a2 a3 i4 = some t → X l K mM_L_law (tgI t) 23 [(0, .ref 2000000), (1, .ref a1), (2, .ref a2), (3, .ref a3), (4, .int i4)] [] h) {h : Hp} {a1 : Nat} {a2 : Nat} {a3 : Nat} {i4 : Int32} {t : Rs Int32} (e : f_L_law_L1642 (kXs K) (kLn K) k23 h a1 a2 a3 i4 = some t) : X l K mM_L_law (tgI t) 1642 [(0, .ref 2000000), (1, .ref a1), (2, .ref a2), (3, .ref a3), (4, .int i4)] [] h := by
  unfold f_L_law_L1642 at e
  refine x_aload_n (pc := 1642) 1 dL_law_1642 rfl ?_
  refine x_aload_n (pc := 1643) 0 dL_law_1643 rfl ?_
  refine x_iload (pc := 1644) 4 dL_law_1644 rfl ?_
  refine x_iconst (pc := 1646) dL_law_1646 ?_
  refine x_iadd (pc := 1647) dL_law_1647 ?_
  obtain ⟨q1, e⟩ := chk_some e
  refine x_sld (pc := 1648) dL_law_1648 q1 ?_
  refine x_aload_n (pc := 1649) 3 dL_law_1649 rfl ?_
  rcases bnd_some e with ⟨h2, r3, ec, rfl⟩ | ⟨h2, r3, ec, e⟩
  · exact y_callX_x (pc := 1650) (c_L_autoWidth hl ec) mf_L_autoWidth tw_5_169 tw_5_168 dL_law_1650 (by decide) rfl rfl (leb rfl) (xx_out0 rfl)
  refine y_callX_i (pc := 1650) (c_L_autoWidth hl ec) mf_L_autoWidth tw_5_169 tw_5_168 dL_law_1650 (by decide) rfl rfl (leb rfl) ?_
  refine x_istore (pc := 1653) dL_law_1653 (by decide) rfl ?_
  refine x_aload_n (pc := 1655) 3 dL_law_1655 rfl ?_
  refine x_aload_n (pc := 1656) 1 dL_law_1656 rfl ?_
  refine x_iload (pc := 1657) 5 dL_law_1657 rfl ?_
  refine x_iconst (pc := 1659) dL_law_1659 ?_
  refine x_iadd (pc := 1660) dL_law_1660 ?_
  obtain ⟨q4, e⟩ := chk_some e
  refine x_sld (pc := 1661) dL_law_1661 q4 ?_
  obtain ⟨q5, e⟩ := chk_some e
  rcases bnd_some e with ⟨h6, r7, ec, rfl⟩ | ⟨h6, r7, ec, e⟩
  · exact y_callV_x (pc := 1662) (c_X9_autoWidth hl ec) q5 mf_X9_autoWidth tw_8_113 tw_8_114 lf_L_232 rfl rfl dL_law_1662 (by decide) rfl rfl (leb rfl) (xx_out0 rfl)
  refine y_callV_i (pc := 1662) (c_X9_autoWidth hl ec) q5 mf_X9_autoWidth tw_8_113 tw_8_114 lf_L_232 rfl rfl dL_law_1662 (by decide) rfl rfl (leb rfl) ?_
  refine x_istore (pc := 1665) dL_law_1665 (by decide) rfl ?_
  refine x_aload_n (pc := 1667) 4 dL_law_1667 rfl ?_
  obtain ⟨q8, e⟩ := chk_some e
  rcases bnd_some e with ⟨h9, r10, ec, rfl⟩ | ⟨h9, r10, ec, e⟩
  · exact y_callV_x (pc := 1668) (c_X9_thrown hl ec) q8 mf_X9_thrown tw_7_12 tw_7_13 lf_L_155 rfl rfl dL_law_1668 (by decide) rfl rfl (leb rfl) (xx_out0 rfl)
  refine y_callV_i (pc := 1668) (c_X9_thrown hl ec) q8 mf_X9_thrown tw_7_12 tw_7_13 lf_L_155 rfl rfl dL_law_1668 (by decide) rfl rfl (leb rfl) ?_
  refine x_iload (pc := 1671) 1 dL_law_1671 rfl ?_
  rcases ite_some e with ⟨q11, e⟩ | ⟨q11, e⟩
  · refine x_icmp_eq_t (pc := 1673) (t := 1678) dL_law_1673 (by decide) q11 ?_
    refine x_iload (pc := 1678) 1 dL_law_1678 rfl ?_
    rcases ite_some e with ⟨q12, e⟩ | ⟨q12, e⟩
    · refine x_if_ne_f (pc := 1680) (t := 1695) dL_law_1680 (by decide) q12 ?_
      refine x_aload_n (pc := 1683) 5 dL_law_1683 rfl ?_
      refine x_iconst (pc := 1684) dL_law_1684 ?_
      obtain ⟨q13, e⟩ := chk_some e
      obtain ⟨q14, e⟩ := chk_some e
      refine x_lald (pc := 1685) dL_law_1685 q13 q14 ?_
      refine x_iload (pc := 1686) 0 dL_law_1686 rfl ?_
      refine x_i2l (pc := 1688) dL_law_1688 ?_
      refine x_lcmp (pc := 1689) dL_law_1689 ?_
      rcases ite_some e with ⟨q15, e⟩ | ⟨q15, e⟩
      · refine x_if_eq_t (pc := 1690) (t := 1695) dL_law_1690 (by decide) q15 ?_
        exact x_sub1 (p_L_law_L1695 hl hk23 e) [2, 3, 4, 5, 6] rfl
      · refine x_if_eq_f (pc := 1690) (t := 1695) dL_law_1690 (by decide) q15 ?_
        refine x_iconst (pc := 1693) dL_law_1693 ?_
        cases Option.some.inj e
        exact x_zret (pc := 1694) rfl (Or.inl rfl) dL_law_1694
    · refine x_if_ne_t (pc := 1680) (t := 1695) dL_law_1680 (by decide) q12 ?_
      exact x_sub1 (p_L_law_L1695 hl hk23 e) [2, 3, 4, 5, 6] rfl
  · refine x_icmp_eq_f (pc := 1673) (t := 1678) dL_law_1673 (by decide) q11 ?_
    refine x_iconst (pc := 1676) dL_law_1676 ?_
    cases Option.some.inj e
    exact x_zret (pc := 1677) rfl (Or.inl rfl) dL_law_1677
noncomputable def f_L_law_L1739 (xs : Nat → Int32) (xn : Nat) (k23 : Hp → Nat → Nat → Nat → Int32 → Option (Rs Int32)) (h : Hp) (a1 : Nat) (a2 : Nat) (a3 : Nat) (i4 : Int32) : Option (Rs Int32) :=
  f_L_law_L2775 xs xn k23 h a1 a2 a3 i4
theorem p_L_law_L1739 {l : Launch} {K : Ctx} (hl : l.stackTraces = false) {k23 : Hp → Nat → Nat → Nat → Int32 → Option (Rs Int32)} (hk23 : ∀ (h : Hp) (a1 : Nat) (a2 : Nat) (a3 : Nat) (i4 : Int32) (t : Rs Int32), k23 h a1 a2 a3 i4 = some t → X l K mM_L_law (tgI t) 23 [(0, .ref 2000000), (1, .ref a1), (2, .ref a2), (3, .ref a3), (4, .int i4)] [] h) {h : Hp} {a1 : Nat} {a2 : Nat} {a3 : Nat} {i4 : Int32} {t : Rs Int32} (e : f_L_law_L1739 (kXs K) (kLn K) k23 h a1 a2 a3 i4 = some t) : X l K mM_L_law (tgI t) 1739 [(0, .ref 2000000), (1, .ref a1), (2, .ref a2), (3, .ref a3), (4, .int i4)] [] h := by
  unfold f_L_law_L1739 at e
  refine x_goto (pc := 1739) (t := 2775) dL_law_1739 (by decide) ?_
  exact p_L_law_L2775 hl hk23 e
noncomputable def f_L_law_L1698 (xs : Nat → Int32) (xn : Nat) (k23 : Hp → Nat → Nat → Nat → Int32 → Option (Rs Int32)) (h : Hp) (a1 : Nat) (a2 : Nat) (a3 : Nat) (i4 : Int32) : Option (Rs Int32) :=
  bnd (f_L_autoHeight h a1 a3) fun h1 r2 =>
  chk (okr h1 a2 9) <|
  bnd (f_X9_autoHeight h1 a2) fun h4 r5 =>
  chk (okr h4 a2 9) <|
  bnd (f_X9_thrown h4 a2) fun h7 r8 =>
  if r8 = r2 then (
    if r2 = 0 then (
      chk (okr h7 a3 21) <|
      chk (vp_in (iN 0) (qW h7 a3)) <|
      if (lg_cmp (qL h7 a3 (Int32.toNatClampNeg (iN 0))) (Int32.toInt64 r5)) = 0 then (
        f_L_law_L1739 xs xn k23 h7 a1 a2 a3 i4
      ) else (
        some (h7, .inr (iN 0))
      )
    ) else (
      f_L_law_L1739 xs xn k23 h7 a1 a2 a3 i4
    )
  ) else (
    some (h7, .inr (iN 0))
  )
theorem p_L_law_L1698 {l : Launch} {K : Ctx} (hl : l.stackTraces = false) {k23 : Hp → Nat → Nat → Nat → Int32 → Option (Rs Int32)} (hk23 : ∀ (h : Hp) (a1 : Nat) (a2 : Nat) (a3 : Nat) (i4 : Int32) (t : Rs Int32), k23 h a1 a2 a3 i4 = some t → X l K mM_L_law (tgI t) 23 [(0, .ref 2000000), (1, .ref a1), (2, .ref a2), (3, .ref a3), (4, .int i4)] [] h) {h : Hp} {a1 : Nat} {a2 : Nat} {a3 : Nat} {i4 : Int32} {t : Rs Int32} (e : f_L_law_L1698 (kXs K) (kLn K) k23 h a1 a2 a3 i4 = some t) : X l K mM_L_law (tgI t) 1698 [(0, .ref 2000000), (1, .ref a1), (2, .ref a2), (3, .ref a3), (4, .int i4)] [] h := by
  unfold f_L_law_L1698 at e
  refine x_aload_n (pc := 1698) 1 dL_law_1698 rfl ?_
  refine x_aload_n (pc := 1699) 3 dL_law_1699 rfl ?_
  rcases bnd_some e with ⟨h1, r2, ec, rfl⟩ | ⟨h1, r2, ec, e⟩
  · exact y_callX_x (pc := 1700) (c_L_autoHeight hl ec) mf_L_autoHeight tw_5_180 tw_5_179 dL_law_1700 (by decide) rfl rfl (leb rfl) (xx_out0 rfl)
  refine y_callX_i (pc := 1700) (c_L_autoHeight hl ec) mf_L_autoHeight tw_5_180 tw_5_179 dL_law_1700 (by decide) rfl rfl (leb rfl) ?_
  refine x_istore (pc := 1703) dL_law_1703 (by decide) rfl ?_
  refine x_aload_n (pc := 1705) 3 dL_law_1705 rfl ?_
  obtain ⟨q3, e⟩ := chk_some e
  rcases bnd_some e with ⟨h4, r5, ec, rfl⟩ | ⟨h4, r5, ec, e⟩
  · exact y_callV_x (pc := 1706) (c_X9_autoHeight hl ec) q3 mf_X9_autoHeight tw_8_125 tw_8_126 lf_L_235 rfl rfl dL_law_1706 (by decide) rfl rfl (leb rfl) (xx_out0 rfl)
  refine y_callV_i (pc := 1706) (c_X9_autoHeight hl ec) q3 mf_X9_autoHeight tw_8_125 tw_8_126 lf_L_235 rfl rfl dL_law_1706 (by decide) rfl rfl (leb rfl) ?_
  refine x_istore (pc := 1709) dL_law_1709 (by decide) rfl ?_
  refine x_aload_n (pc := 1711) 4 dL_law_1711 rfl ?_
  obtain ⟨q6, e⟩ := chk_some e
  rcases bnd_some e with ⟨h7, r8, ec, rfl⟩ | ⟨h7, r8, ec, e⟩
  · exact y_callV_x (pc := 1712) (c_X9_thrown hl ec) q6 mf_X9_thrown tw_7_12 tw_7_13 lf_L_155 rfl rfl dL_law_1712 (by decide) rfl rfl (leb rfl) (xx_out0 rfl)
  refine y_callV_i (pc := 1712) (c_X9_thrown hl ec) q6 mf_X9_thrown tw_7_12 tw_7_13 lf_L_155 rfl rfl dL_law_1712 (by decide) rfl rfl (leb rfl) ?_
  refine x_iload (pc := 1715) 1 dL_law_1715 rfl ?_
  rcases ite_some e with ⟨q9, e⟩ | ⟨q9, e⟩
  · refine x_icmp_eq_t (pc := 1717) (t := 1722) dL_law_1717 (by decide) q9 ?_
    refine x_iload (pc := 1722) 1 dL_law_1722 rfl ?_
    rcases ite_some e with ⟨q10, e⟩ | ⟨q10, e⟩
    · refine x_if_ne_f (pc := 1724) (t := 1739) dL_law_1724 (by decide) q10 ?_
      refine x_aload_n (pc := 1727) 5 dL_law_1727 rfl ?_
      refine x_iconst (pc := 1728) dL_law_1728 ?_
      obtain ⟨q11, e⟩ := chk_some e
      obtain ⟨q12, e⟩ := chk_some e
      refine x_lald (pc := 1729) dL_law_1729 q11 q12 ?_
      refine x_iload (pc := 1730) 0 dL_law_1730 rfl ?_
      refine x_i2l (pc := 1732) dL_law_1732 ?_
      refine x_lcmp (pc := 1733) dL_law_1733 ?_
      rcases ite_some e with ⟨q13, e⟩ | ⟨q13, e⟩
      · refine x_if_eq_t (pc := 1734) (t := 1739) dL_law_1734 (by decide) q13 ?_
        exact x_sub1 (p_L_law_L1739 hl hk23 e) [2, 3, 4, 5, 6] rfl
      · refine x_if_eq_f (pc := 1734) (t := 1739) dL_law_1734 (by decide) q13 ?_
        refine x_iconst (pc := 1737) dL_law_1737 ?_
        cases Option.some.inj e
        exact x_zret (pc := 1738) rfl (Or.inl rfl) dL_law_1738
    · refine x_if_ne_t (pc := 1724) (t := 1739) dL_law_1724 (by decide) q10 ?_
      exact x_sub1 (p_L_law_L1739 hl hk23 e) [2, 3, 4, 5, 6] rfl
  · refine x_icmp_eq_f (pc := 1717) (t := 1722) dL_law_1717 (by decide) q9 ?_
    refine x_iconst (pc := 1720) dL_law_1720 ?_
    cases Option.some.inj e
    exact x_zret (pc := 1721) rfl (Or.inl rfl) dL_law_1721
noncomputable def f_L_law_L1795 (xs : Nat → Int32) (xn : Nat) (k23 : Hp → Nat → Nat → Nat → Int32 → Option (Rs Int32)) (h : Hp) (a1 : Nat) (a2 : Nat) (a3 : Nat) (i4 : Int32) : Option (Rs Int32) :=
  f_L_law_L2775 xs xn k23 h a1 a2 a3 i4
theorem p_L_law_L1795 {l : Launch} {K : Ctx} (hl : l.stackTraces = false) {k23 : Hp → Nat → Nat → Nat → Int32 → Option (Rs Int32)} (hk23 : ∀ (h : Hp) (a1 : Nat) (a2 : Nat) (a3 : Nat) (i4 : Int32) (t : Rs Int32), k23 h a1 a2 a3 i4 = some t → X l K mM_L_law (tgI t) 23 [(0, .ref 2000000), (1, .ref a1), (2, .ref a2), (3, .ref a3), (4, .int i4)] [] h) {h : Hp} {a1 : Nat} {a2 : Nat} {a3 : Nat} {i4 : Int32} {t : Rs Int32} (e : f_L_law_L1795 (kXs K) (kLn K) k23 h a1 a2 a3 i4 = some t) : X l K mM_L_law (tgI t) 1795 [(0, .ref 2000000), (1, .ref a1), (2, .ref a2), (3, .ref a3), (4, .int i4)] [] h := by
  unfold f_L_law_L1795 at e
  refine x_goto (pc := 1795) (t := 2775) dL_law_1795 (by decide) ?_
  exact p_L_law_L2775 hl hk23 e
noncomputable def f_L_law_L1742 (xs : Nat → Int32) (xn : Nat) (k23 : Hp → Nat → Nat → Nat → Int32 → Option (Rs Int32)) (h : Hp) (a1 : Nat) (a2 : Nat) (a3 : Nat) (i4 : Int32) : Option (Rs Int32) :=
  chk (vp_in (i4 + (iN 1)) xn) <|
  bnd (f_L_bestWidth h a1 (xs (Int32.toNatClampNeg (i4 + (iN 1)))) a3) fun h2 r3 =>
  chk (vp_in (i4 + (iN 1)) xn) <|
  chk (okr h2 a2 9) <|
  bnd (f_X9_bestWidth h2 a2 (xs (Int32.toNatClampNeg (i4 + (iN 1))))) fun h6 r7 =>
  chk (okr h6 a2 9) <|
  bnd (f_X9_thrown h6 a2) fun h9 r10 =>
  if r10 = r3 then (
    if r3 = 0 then (
      chk (okr h9 a3 21) <|
      chk (vp_in (iN 0) (qW h9 a3)) <|
      if (lg_cmp (qL h9 a3 (Int32.toNatClampNeg (iN 0))) (Int32.toInt64 r7)) = 0 then (
        f_L_law_L1795 xs xn k23 h9 a1 a2 a3 i4
      ) else (
        some (h9, .inr (iN 0))
      )
    ) else (
      f_L_law_L1795 xs xn k23 h9 a1 a2 a3 i4
    )
  ) else (
    some (h9, .inr (iN 0))
  )
theorem p_L_law_L1742 {l : Launch} {K : Ctx} (hl : l.stackTraces = false) {k23 : Hp → Nat → Nat → Nat → Int32 → Option (Rs Int32)} (hk23 : ∀ (h : Hp) (a1 : Nat) (a2 : Nat) (a3 : Nat) (i4 : Int32) (t : Rs Int32), k23 h a1 a2 a3 i4 = some t → X l K mM_L_law (tgI t) 23 [(0, .ref 2000000), (1, .ref a1), (2, .ref a2), (3, .ref a3), (4, .int i4)] [] h) {h : Hp} {a1 : Nat} {a2 : Nat} {a3 : Nat} {i4 : Int32} {t : Rs Int32} (e : f_L_law_L1742 (kXs K) (kLn K) k23 h a1 a2 a3 i4 = some t) : X l K mM_L_law (tgI t) 1742 [(0, .ref 2000000), (1, .ref a1), (2, .ref a2), (3, .ref a3), (4, .int i4)] [] h := by
  unfold f_L_law_L1742 at e
  refine x_aload_n (pc := 1742) 1 dL_law_1742 rfl ?_
  refine x_aload_n (pc := 1743) 0 dL_law_1743 rfl ?_
  refine x_iload (pc := 1744) 4 dL_law_1744 rfl ?_
  refine x_iconst (pc := 1746) dL_law_1746 ?_
  refine x_iadd (pc := 1747) dL_law_1747 ?_
  obtain ⟨q1, e⟩ := chk_some e
  refine x_sld (pc := 1748) dL_law_1748 q1 ?_
  refine x_aload_n (pc := 1749) 3 dL_law_1749 rfl ?_
  rcases bnd_some e with ⟨h2, r3, ec, rfl⟩ | ⟨h2, r3, ec, e⟩
  · exact y_callX_x (pc := 1750) (c_L_bestWidth hl ec) mf_L_bestWidth tw_5_202 tw_5_201 dL_law_1750 (by decide) rfl rfl (leb rfl) (xx_out0 rfl)
  refine y_callX_i (pc := 1750) (c_L_bestWidth hl ec) mf_L_bestWidth tw_5_202 tw_5_201 dL_law_1750 (by decide) rfl rfl (leb rfl) ?_
  refine x_istore (pc := 1753) dL_law_1753 (by decide) rfl ?_
  refine x_aload_n (pc := 1755) 3 dL_law_1755 rfl ?_
  refine x_aload_n (pc := 1756) 1 dL_law_1756 rfl ?_
  refine x_iload (pc := 1757) 5 dL_law_1757 rfl ?_
  refine x_iconst (pc := 1759) dL_law_1759 ?_
  refine x_iadd (pc := 1760) dL_law_1760 ?_
  obtain ⟨q4, e⟩ := chk_some e
  refine x_sld (pc := 1761) dL_law_1761 q4 ?_
  obtain ⟨q5, e⟩ := chk_some e
  rcases bnd_some e with ⟨h6, r7, ec, rfl⟩ | ⟨h6, r7, ec, e⟩
  · exact y_callV_x (pc := 1762) (c_X9_bestWidth hl ec) q5 mf_X9_bestWidth tw_8_141 tw_8_142 lf_L_238 rfl rfl dL_law_1762 (by decide) rfl rfl (leb rfl) (xx_out0 rfl)
  refine y_callV_i (pc := 1762) (c_X9_bestWidth hl ec) q5 mf_X9_bestWidth tw_8_141 tw_8_142 lf_L_238 rfl rfl dL_law_1762 (by decide) rfl rfl (leb rfl) ?_
  refine x_istore (pc := 1765) dL_law_1765 (by decide) rfl ?_
  refine x_aload_n (pc := 1767) 4 dL_law_1767 rfl ?_
  obtain ⟨q8, e⟩ := chk_some e
  rcases bnd_some e with ⟨h9, r10, ec, rfl⟩ | ⟨h9, r10, ec, e⟩
  · exact y_callV_x (pc := 1768) (c_X9_thrown hl ec) q8 mf_X9_thrown tw_7_12 tw_7_13 lf_L_155 rfl rfl dL_law_1768 (by decide) rfl rfl (leb rfl) (xx_out0 rfl)
  refine y_callV_i (pc := 1768) (c_X9_thrown hl ec) q8 mf_X9_thrown tw_7_12 tw_7_13 lf_L_155 rfl rfl dL_law_1768 (by decide) rfl rfl (leb rfl) ?_
  refine x_iload (pc := 1771) 1 dL_law_1771 rfl ?_
  rcases ite_some e with ⟨q11, e⟩ | ⟨q11, e⟩
  · refine x_icmp_eq_t (pc := 1773) (t := 1778) dL_law_1773 (by decide) q11 ?_
    refine x_iload (pc := 1778) 1 dL_law_1778 rfl ?_
    rcases ite_some e with ⟨q12, e⟩ | ⟨q12, e⟩
    · refine x_if_ne_f (pc := 1780) (t := 1795) dL_law_1780 (by decide) q12 ?_
      refine x_aload_n (pc := 1783) 5 dL_law_1783 rfl ?_
      refine x_iconst (pc := 1784) dL_law_1784 ?_
      obtain ⟨q13, e⟩ := chk_some e
      obtain ⟨q14, e⟩ := chk_some e
      refine x_lald (pc := 1785) dL_law_1785 q13 q14 ?_
      refine x_iload (pc := 1786) 0 dL_law_1786 rfl ?_
      refine x_i2l (pc := 1788) dL_law_1788 ?_
      refine x_lcmp (pc := 1789) dL_law_1789 ?_
      rcases ite_some e with ⟨q15, e⟩ | ⟨q15, e⟩
      · refine x_if_eq_t (pc := 1790) (t := 1795) dL_law_1790 (by decide) q15 ?_
        exact x_sub1 (p_L_law_L1795 hl hk23 e) [2, 3, 4, 5, 6] rfl
      · refine x_if_eq_f (pc := 1790) (t := 1795) dL_law_1790 (by decide) q15 ?_
        refine x_iconst (pc := 1793) dL_law_1793 ?_
        cases Option.some.inj e
        exact x_zret (pc := 1794) rfl (Or.inl rfl) dL_law_1794
    · refine x_if_ne_t (pc := 1780) (t := 1795) dL_law_1780 (by decide) q12 ?_
      exact x_sub1 (p_L_law_L1795 hl hk23 e) [2, 3, 4, 5, 6] rfl
  · refine x_icmp_eq_f (pc := 1773) (t := 1778) dL_law_1773 (by decide) q11 ?_
    refine x_iconst (pc := 1776) dL_law_1776 ?_
    cases Option.some.inj e
    exact x_zret (pc := 1777) rfl (Or.inl rfl) dL_law_1777
noncomputable def f_L_law_L1839 (xs : Nat → Int32) (xn : Nat) (k23 : Hp → Nat → Nat → Nat → Int32 → Option (Rs Int32)) (h : Hp) (a1 : Nat) (a2 : Nat) (a3 : Nat) (i4 : Int32) : Option (Rs Int32) :=
  f_L_law_L2775 xs xn k23 h a1 a2 a3 i4
theorem p_L_law_L1839 {l : Launch} {K : Ctx} (hl : l.stackTraces = false) {k23 : Hp → Nat → Nat → Nat → Int32 → Option (Rs Int32)} (hk23 : ∀ (h : Hp) (a1 : Nat) (a2 : Nat) (a3 : Nat) (i4 : Int32) (t : Rs Int32), k23 h a1 a2 a3 i4 = some t → X l K mM_L_law (tgI t) 23 [(0, .ref 2000000), (1, .ref a1), (2, .ref a2), (3, .ref a3), (4, .int i4)] [] h) {h : Hp} {a1 : Nat} {a2 : Nat} {a3 : Nat} {i4 : Int32} {t : Rs Int32} (e : f_L_law_L1839 (kXs K) (kLn K) k23 h a1 a2 a3 i4 = some t) : X l K mM_L_law (tgI t) 1839 [(0, .ref 2000000), (1, .ref a1), (2, .ref a2), (3, .ref a3), (4, .int i4)] [] h := by
  unfold f_L_law_L1839 at e
  refine x_goto (pc := 1839) (t := 2775) dL_law_1839 (by decide) ?_
  exact p_L_law_L2775 hl hk23 e
noncomputable def f_L_law_L1798 (xs : Nat → Int32) (xn : Nat) (k23 : Hp → Nat → Nat → Nat → Int32 → Option (Rs Int32)) (h : Hp) (a1 : Nat) (a2 : Nat) (a3 : Nat) (i4 : Int32) : Option (Rs Int32) :=
  bnd (f_L_bestHeight h a1 a3) fun h1 r2 =>
  chk (okr h1 a2 9) <|
  bnd (f_X9_bestHeight h1 a2) fun h4 r5 =>
  chk (okr h4 a2 9) <|
  bnd (f_X9_thrown h4 a2) fun h7 r8 =>
  if r8 = r2 then (
    if r2 = 0 then (
      chk (okr h7 a3 21) <|
      chk (vp_in (iN 0) (qW h7 a3)) <|
      if (lg_cmp (qL h7 a3 (Int32.toNatClampNeg (iN 0))) (Int32.toInt64 r5)) = 0 then (
        f_L_law_L1839 xs xn k23 h7 a1 a2 a3 i4
      ) else (
        some (h7, .inr (iN 0))
      )
    ) else (
      f_L_law_L1839 xs xn k23 h7 a1 a2 a3 i4
    )
  ) else (
    some (h7, .inr (iN 0))
  )
theorem p_L_law_L1798 {l : Launch} {K : Ctx} (hl : l.stackTraces = false) {k23 : Hp → Nat → Nat → Nat → Int32 → Option (Rs Int32)} (hk23 : ∀ (h : Hp) (a1 : Nat) (a2 : Nat) (a3 : Nat) (i4 : Int32) (t : Rs Int32), k23 h a1 a2 a3 i4 = some t → X l K mM_L_law (tgI t) 23 [(0, .ref 2000000), (1, .ref a1), (2, .ref a2), (3, .ref a3), (4, .int i4)] [] h) {h : Hp} {a1 : Nat} {a2 : Nat} {a3 : Nat} {i4 : Int32} {t : Rs Int32} (e : f_L_law_L1798 (kXs K) (kLn K) k23 h a1 a2 a3 i4 = some t) : X l K mM_L_law (tgI t) 1798 [(0, .ref 2000000), (1, .ref a1), (2, .ref a2), (3, .ref a3), (4, .int i4)] [] h := by
  unfold f_L_law_L1798 at e
  refine x_aload_n (pc := 1798) 1 dL_law_1798 rfl ?_
  refine x_aload_n (pc := 1799) 3 dL_law_1799 rfl ?_
  rcases bnd_some e with ⟨h1, r2, ec, rfl⟩ | ⟨h1, r2, ec, e⟩
  · exact y_callX_x (pc := 1800) (c_L_bestHeight hl ec) mf_L_bestHeight tw_5_217 tw_5_216 dL_law_1800 (by decide) rfl rfl (leb rfl) (xx_out0 rfl)
  refine y_callX_i (pc := 1800) (c_L_bestHeight hl ec) mf_L_bestHeight tw_5_217 tw_5_216 dL_law_1800 (by decide) rfl rfl (leb rfl) ?_
  refine x_istore (pc := 1803) dL_law_1803 (by decide) rfl ?_
  refine x_aload_n (pc := 1805) 3 dL_law_1805 rfl ?_
  obtain ⟨q3, e⟩ := chk_some e
  rcases bnd_some e with ⟨h4, r5, ec, rfl⟩ | ⟨h4, r5, ec, e⟩
  · exact y_callV_x (pc := 1806) (c_X9_bestHeight hl ec) q3 mf_X9_bestHeight tw_8_165 tw_8_166 lf_L_241 rfl rfl dL_law_1806 (by decide) rfl rfl (leb rfl) (xx_out0 rfl)
  refine y_callV_i (pc := 1806) (c_X9_bestHeight hl ec) q3 mf_X9_bestHeight tw_8_165 tw_8_166 lf_L_241 rfl rfl dL_law_1806 (by decide) rfl rfl (leb rfl) ?_
  refine x_istore (pc := 1809) dL_law_1809 (by decide) rfl ?_
  refine x_aload_n (pc := 1811) 4 dL_law_1811 rfl ?_
  obtain ⟨q6, e⟩ := chk_some e
  rcases bnd_some e with ⟨h7, r8, ec, rfl⟩ | ⟨h7, r8, ec, e⟩
  · exact y_callV_x (pc := 1812) (c_X9_thrown hl ec) q6 mf_X9_thrown tw_7_12 tw_7_13 lf_L_155 rfl rfl dL_law_1812 (by decide) rfl rfl (leb rfl) (xx_out0 rfl)
  refine y_callV_i (pc := 1812) (c_X9_thrown hl ec) q6 mf_X9_thrown tw_7_12 tw_7_13 lf_L_155 rfl rfl dL_law_1812 (by decide) rfl rfl (leb rfl) ?_
  refine x_iload (pc := 1815) 1 dL_law_1815 rfl ?_
  rcases ite_some e with ⟨q9, e⟩ | ⟨q9, e⟩
  · refine x_icmp_eq_t (pc := 1817) (t := 1822) dL_law_1817 (by decide) q9 ?_
    refine x_iload (pc := 1822) 1 dL_law_1822 rfl ?_
    rcases ite_some e with ⟨q10, e⟩ | ⟨q10, e⟩
    · refine x_if_ne_f (pc := 1824) (t := 1839) dL_law_1824 (by decide) q10 ?_
      refine x_aload_n (pc := 1827) 5 dL_law_1827 rfl ?_
      refine x_iconst (pc := 1828) dL_law_1828 ?_
      obtain ⟨q11, e⟩ := chk_some e
      obtain ⟨q12, e⟩ := chk_some e
      refine x_lald (pc := 1829) dL_law_1829 q11 q12 ?_
      refine x_iload (pc := 1830) 0 dL_law_1830 rfl ?_
      refine x_i2l (pc := 1832) dL_law_1832 ?_
      refine x_lcmp (pc := 1833) dL_law_1833 ?_
      rcases ite_some e with ⟨q13, e⟩ | ⟨q13, e⟩
      · refine x_if_eq_t (pc := 1834) (t := 1839) dL_law_1834 (by decide) q13 ?_
        exact x_sub1 (p_L_law_L1839 hl hk23 e) [2, 3, 4, 5, 6] rfl
      · refine x_if_eq_f (pc := 1834) (t := 1839) dL_law_1834 (by decide) q13 ?_
        refine x_iconst (pc := 1837) dL_law_1837 ?_
        cases Option.some.inj e
        exact x_zret (pc := 1838) rfl (Or.inl rfl) dL_law_1838
    · refine x_if_ne_t (pc := 1824) (t := 1839) dL_law_1824 (by decide) q10 ?_
      exact x_sub1 (p_L_law_L1839 hl hk23 e) [2, 3, 4, 5, 6] rfl
  · refine x_icmp_eq_f (pc := 1817) (t := 1822) dL_law_1817 (by decide) q9 ?_
    refine x_iconst (pc := 1820) dL_law_1820 ?_
    cases Option.some.inj e
    exact x_zret (pc := 1821) rfl (Or.inl rfl) dL_law_1821
noncomputable def f_L_law_L1923 (xs : Nat → Int32) (xn : Nat) (k23 : Hp → Nat → Nat → Nat → Int32 → Option (Rs Int32)) (h : Hp) (a1 : Nat) (a2 : Nat) (a3 : Nat) (i4 : Int32) : Option (Rs Int32) :=
  f_L_law_L2775 xs xn k23 h a1 a2 a3 i4
theorem p_L_law_L1923 {l : Launch} {K : Ctx} (hl : l.stackTraces = false) {k23 : Hp → Nat → Nat → Nat → Int32 → Option (Rs Int32)} (hk23 : ∀ (h : Hp) (a1 : Nat) (a2 : Nat) (a3 : Nat) (i4 : Int32) (t : Rs Int32), k23 h a1 a2 a3 i4 = some t → X l K mM_L_law (tgI t) 23 [(0, .ref 2000000), (1, .ref a1), (2, .ref a2), (3, .ref a3), (4, .int i4)] [] h) {h : Hp} {a1 : Nat} {a2 : Nat} {a3 : Nat} {i4 : Int32} {t : Rs Int32} (e : f_L_law_L1923 (kXs K) (kLn K) k23 h a1 a2 a3 i4 = some t) : X l K mM_L_law (tgI t) 1923 [(0, .ref 2000000), (1, .ref a1), (2, .ref a2), (3, .ref a3), (4, .int i4)] [] h := by
  unfold f_L_law_L1923 at e
  refine x_goto (pc := 1923) (t := 2775) dL_law_1923 (by decide) ?_
  exact p_L_law_L2775 hl hk23 e
noncomputable def f_L_law_L1890 (xs : Nat → Int32) (xn : Nat) (k23 : Hp → Nat → Nat → Nat → Int32 → Option (Rs Int32)) (h : Hp) (a1 : Nat) (a2 : Nat) (a3 : Nat) (i4 : Int32) (i5 : Int32) (s0 : Int32) (s1 : Int32) (s2 : Nat) : Option (Rs Int32) :=
  chk (okr h s2 9) <|
  bnd (f_X9_rowHeight h s2 s1 s0) fun h2 r3 =>
  chk (okr h2 a2 9) <|
  bnd (f_X9_thrown h2 a2) fun h5 r6 =>
  if r6 = i5 then (
    if i5 = 0 then (
      chk (okr h5 a3 21) <|
      chk (vp_in (iN 0) (qW h5 a3)) <|
      if (lg_cmp (qL h5 a3 (Int32.toNatClampNeg (iN 0))) (Int32.toInt64 r3)) = 0 then (
        f_L_law_L1923 xs xn k23 h5 a1 a2 a3 i4
      ) else (
        some (h5, .inr (iN 0))
      )
    ) else (
      f_L_law_L1923 xs xn k23 h5 a1 a2 a3 i4
    )
  ) else (
    some (h5, .inr (iN 0))
  )
theorem p_L_law_L1890 {l : Launch} {K : Ctx} (hl : l.stackTraces = false) {k23 : Hp → Nat → Nat → Nat → Int32 → Option (Rs Int32)} (hk23 : ∀ (h : Hp) (a1 : Nat) (a2 : Nat) (a3 : Nat) (i4 : Int32) (t : Rs Int32), k23 h a1 a2 a3 i4 = some t → X l K mM_L_law (tgI t) 23 [(0, .ref 2000000), (1, .ref a1), (2, .ref a2), (3, .ref a3), (4, .int i4)] [] h) {h : Hp} {a1 : Nat} {a2 : Nat} {a3 : Nat} {i4 : Int32} {i5 : Int32} {s0 : Int32} {s1 : Int32} {s2 : Nat} {t : Rs Int32} (e : f_L_law_L1890 (kXs K) (kLn K) k23 h a1 a2 a3 i4 i5 s0 s1 s2 = some t) : X l K mM_L_law (tgI t) 1890 [(0, .ref 2000000), (1, .ref a1), (2, .ref a2), (3, .ref a3), (4, .int i4), (5, .int i5)] [.int s0, .int s1, .ref s2] h := by
  unfold f_L_law_L1890 at e
  obtain ⟨q1, e⟩ := chk_some e
  rcases bnd_some e with ⟨h2, r3, ec, rfl⟩ | ⟨h2, r3, ec, e⟩
  · exact y_callV_x (pc := 1890) (c_X9_rowHeight hl ec) q1 mf_X9_rowHeight tw_8_169 tw_8_170 lf_L_245 rfl rfl dL_law_1890 (by decide) rfl rfl (leb rfl) (xx_out0 rfl)
  refine y_callV_i (pc := 1890) (c_X9_rowHeight hl ec) q1 mf_X9_rowHeight tw_8_169 tw_8_170 lf_L_245 rfl rfl dL_law_1890 (by decide) rfl rfl (leb rfl) ?_
  refine x_istore (pc := 1893) dL_law_1893 (by decide) rfl ?_
  refine x_aload_n (pc := 1895) 3 dL_law_1895 rfl ?_
  obtain ⟨q4, e⟩ := chk_some e
  rcases bnd_some e with ⟨h5, r6, ec, rfl⟩ | ⟨h5, r6, ec, e⟩
  · exact y_callV_x (pc := 1896) (c_X9_thrown hl ec) q4 mf_X9_thrown tw_7_12 tw_7_13 lf_L_155 rfl rfl dL_law_1896 (by decide) rfl rfl (leb rfl) (xx_out0 rfl)
  refine y_callV_i (pc := 1896) (c_X9_thrown hl ec) q4 mf_X9_thrown tw_7_12 tw_7_13 lf_L_155 rfl rfl dL_law_1896 (by decide) rfl rfl (leb rfl) ?_
  refine x_iload (pc := 1899) 6 dL_law_1899 rfl ?_
  rcases ite_some e with ⟨q7, e⟩ | ⟨q7, e⟩
  · refine x_icmp_eq_t (pc := 1901) (t := 1906) dL_law_1901 (by decide) q7 ?_
    refine x_iload (pc := 1906) 6 dL_law_1906 rfl ?_
    rcases ite_some e with ⟨q8, e⟩ | ⟨q8, e⟩
    · refine x_if_ne_f (pc := 1908) (t := 1923) dL_law_1908 (by decide) q8 ?_
      refine x_aload_n (pc := 1911) 4 dL_law_1911 rfl ?_
      refine x_iconst (pc := 1912) dL_law_1912 ?_
      obtain ⟨q9, e⟩ := chk_some e
      obtain ⟨q10, e⟩ := chk_some e
      refine x_lald (pc := 1913) dL_law_1913 q9 q10 ?_
      refine x_iload (pc := 1914) 0 dL_law_1914 rfl ?_
      refine x_i2l (pc := 1916) dL_law_1916 ?_
      refine x_lcmp (pc := 1917) dL_law_1917 ?_
      rcases ite_some e with ⟨q11, e⟩ | ⟨q11, e⟩
      · refine x_if_eq_t (pc := 1918) (t := 1923) dL_law_1918 (by decide) q11 ?_
        exact x_sub1 (p_L_law_L1923 hl hk23 e) [1, 2, 3, 4, 5] rfl
      · refine x_if_eq_f (pc := 1918) (t := 1923) dL_law_1918 (by decide) q11 ?_
        refine x_iconst (pc := 1921) dL_law_1921 ?_
        cases Option.some.inj e
        exact x_zret (pc := 1922) rfl (Or.inl rfl) dL_law_1922
    · refine x_if_ne_t (pc := 1908) (t := 1923) dL_law_1908 (by decide) q8 ?_
      exact x_sub1 (p_L_law_L1923 hl hk23 e) [1, 2, 3, 4, 5] rfl
  · refine x_icmp_eq_f (pc := 1901) (t := 1906) dL_law_1901 (by decide) q7 ?_
    refine x_iconst (pc := 1904) dL_law_1904 ?_
    cases Option.some.inj e
    exact x_zret (pc := 1905) rfl (Or.inl rfl) dL_law_1905
noncomputable def f_L_law_L1863 (xs : Nat → Int32) (xn : Nat) (k23 : Hp → Nat → Nat → Nat → Int32 → Option (Rs Int32)) (h : Hp) (a1 : Nat) (a2 : Nat) (a3 : Nat) (i4 : Int32) (s0 : Int32) (s1 : Int32) (s2 : Nat) : Option (Rs Int32) :=
  bnd (f_L_rowHeight h s2 s1 s0 a3) fun h1 r2 =>
  chk (vp_in (i4 + (iN 1)) xn) <|
  chk (vp_in (i4 + (iN 2)) xn) <|
  if (xs (Int32.toNatClampNeg (i4 + (iN 2)))) = 0 then (
    f_L_law_L1890 xs xn k23 h1 a1 a2 a3 i4 r2 (iN 0) (xs (Int32.toNatClampNeg (i4 + (iN 1)))) a2
  ) else (
    f_L_law_L1890 xs xn k23 h1 a1 a2 a3 i4 r2 (iN 1) (xs (Int32.toNatClampNeg (i4 + (iN 1)))) a2
  )
theorem p_L_law_L1863 {l : Launch} {K : Ctx} (hl : l.stackTraces = false) {k23 : Hp → Nat → Nat → Nat → Int32 → Option (Rs Int32)} (hk23 : ∀ (h : Hp) (a1 : Nat) (a2 : Nat) (a3 : Nat) (i4 : Int32) (t : Rs Int32), k23 h a1 a2 a3 i4 = some t → X l K mM_L_law (tgI t) 23 [(0, .ref 2000000), (1, .ref a1), (2, .ref a2), (3, .ref a3), (4, .int i4)] [] h) {h : Hp} {a1 : Nat} {a2 : Nat} {a3 : Nat} {i4 : Int32} {s0 : Int32} {s1 : Int32} {s2 : Nat} {t : Rs Int32} (e : f_L_law_L1863 (kXs K) (kLn K) k23 h a1 a2 a3 i4 s0 s1 s2 = some t) : X l K mM_L_law (tgI t) 1863 [(0, .ref 2000000), (1, .ref a1), (2, .ref a2), (3, .ref a3), (4, .int i4)] [.int s0, .int s1, .ref s2] h := by
  unfold f_L_law_L1863 at e
  refine x_aload_n (pc := 1863) 3 dL_law_1863 rfl ?_
  rcases bnd_some e with ⟨h1, r2, ec, rfl⟩ | ⟨h1, r2, ec, e⟩
  · exact y_callX_x (pc := 1864) (c_L_rowHeight hl ec) mf_L_rowHeight tw_5_224 tw_5_223 dL_law_1864 (by decide) rfl rfl (leb rfl) (xx_out0 rfl)
  refine y_callX_i (pc := 1864) (c_L_rowHeight hl ec) mf_L_rowHeight tw_5_224 tw_5_223 dL_law_1864 (by decide) rfl rfl (leb rfl) ?_
  refine x_istore (pc := 1867) dL_law_1867 (by decide) rfl ?_
  refine x_aload_n (pc := 1869) 3 dL_law_1869 rfl ?_
  refine x_aload_n (pc := 1870) 1 dL_law_1870 rfl ?_
  refine x_iload (pc := 1871) 5 dL_law_1871 rfl ?_
  refine x_iconst (pc := 1873) dL_law_1873 ?_
  refine x_iadd (pc := 1874) dL_law_1874 ?_
  obtain ⟨q3, e⟩ := chk_some e
  refine x_sld (pc := 1875) dL_law_1875 q3 ?_
  refine x_aload_n (pc := 1876) 1 dL_law_1876 rfl ?_
  refine x_iload (pc := 1877) 5 dL_law_1877 rfl ?_
  refine x_iconst (pc := 1879) dL_law_1879 ?_
  refine x_iadd (pc := 1880) dL_law_1880 ?_
  obtain ⟨q4, e⟩ := chk_some e
  refine x_sld (pc := 1881) dL_law_1881 q4 ?_
  rcases ite_some e with ⟨q5, e⟩ | ⟨q5, e⟩
  · refine x_if_eq_t (pc := 1882) (t := 1889) dL_law_1882 (by decide) q5 ?_
    refine x_iconst (pc := 1889) dL_law_1889 ?_
    exact x_sub1 (p_L_law_L1890 hl hk23 e) [1, 2, 3, 4, 5, 0] rfl
  · refine x_if_eq_f (pc := 1882) (t := 1889) dL_law_1882 (by decide) q5 ?_
    refine x_iconst (pc := 1885) dL_law_1885 ?_
    refine x_goto (pc := 1886) (t := 1890) dL_law_1886 (by decide) ?_
    exact x_sub1 (p_L_law_L1890 hl hk23 e) [1, 2, 3, 4, 5, 0] rfl
noncomputable def f_L_law_L1842 (xs : Nat → Int32) (xn : Nat) (k23 : Hp → Nat → Nat → Nat → Int32 → Option (Rs Int32)) (h : Hp) (a1 : Nat) (a2 : Nat) (a3 : Nat) (i4 : Int32) : Option (Rs Int32) :=
  chk (vp_in (i4 + (iN 1)) xn) <|
  chk (vp_in (i4 + (iN 2)) xn) <|
  if (xs (Int32.toNatClampNeg (i4 + (iN 2)))) = 0 then (
    f_L_law_L1863 xs xn k23 h a1 a2 a3 i4 (iN 0) (xs (Int32.toNatClampNeg (i4 + (iN 1)))) a1
  ) else (
    f_L_law_L1863 xs xn k23 h a1 a2 a3 i4 (iN 1) (xs (Int32.toNatClampNeg (i4 + (iN 1)))) a1
  )
theorem p_L_law_L1842 {l : Launch} {K : Ctx} (hl : l.stackTraces = false) {k23 : Hp → Nat → Nat → Nat → Int32 → Option (Rs Int32)} (hk23 : ∀ (h : Hp) (a1 : Nat) (a2 : Nat) (a3 : Nat) (i4 : Int32) (t : Rs Int32), k23 h a1 a2 a3 i4 = some t → X l K mM_L_law (tgI t) 23 [(0, .ref 2000000), (1, .ref a1), (2, .ref a2), (3, .ref a3), (4, .int i4)] [] h) {h : Hp} {a1 : Nat} {a2 : Nat} {a3 : Nat} {i4 : Int32} {t : Rs Int32} (e : f_L_law_L1842 (kXs K) (kLn K) k23 h a1 a2 a3 i4 = some t) : X l K mM_L_law (tgI t) 1842 [(0, .ref 2000000), (1, .ref a1), (2, .ref a2), (3, .ref a3), (4, .int i4)] [] h := by
  unfold f_L_law_L1842 at e
  refine x_aload_n (pc := 1842) 1 dL_law_1842 rfl ?_
  refine x_aload_n (pc := 1843) 0 dL_law_1843 rfl ?_
  refine x_iload (pc := 1844) 4 dL_law_1844 rfl ?_
  refine x_iconst (pc := 1846) dL_law_1846 ?_
  refine x_iadd (pc := 1847) dL_law_1847 ?_
  obtain ⟨q1, e⟩ := chk_some e
  refine x_sld (pc := 1848) dL_law_1848 q1 ?_
  refine x_aload_n (pc := 1849) 0 dL_law_1849 rfl ?_
  refine x_iload (pc := 1850) 4 dL_law_1850 rfl ?_
  refine x_iconst (pc := 1852) dL_law_1852 ?_
  refine x_iadd (pc := 1853) dL_law_1853 ?_
  obtain ⟨q2, e⟩ := chk_some e
  refine x_sld (pc := 1854) dL_law_1854 q2 ?_
  rcases ite_some e with ⟨q3, e⟩ | ⟨q3, e⟩
  · refine x_if_eq_t (pc := 1855) (t := 1862) dL_law_1855 (by decide) q3 ?_
    refine x_iconst (pc := 1862) dL_law_1862 ?_
    exact p_L_law_L1863 hl hk23 e
  · refine x_if_eq_f (pc := 1855) (t := 1862) dL_law_1855 (by decide) q3 ?_
    refine x_iconst (pc := 1858) dL_law_1858 ?_
    refine x_goto (pc := 1859) (t := 1863) dL_law_1859 (by decide) ?_
    exact p_L_law_L1863 hl hk23 e
noncomputable def f_L_law_L1979 (xs : Nat → Int32) (xn : Nat) (k23 : Hp → Nat → Nat → Nat → Int32 → Option (Rs Int32)) (h : Hp) (a1 : Nat) (a2 : Nat) (a3 : Nat) (i4 : Int32) : Option (Rs Int32) :=
  f_L_law_L2775 xs xn k23 h a1 a2 a3 i4
theorem p_L_law_L1979 {l : Launch} {K : Ctx} (hl : l.stackTraces = false) {k23 : Hp → Nat → Nat → Nat → Int32 → Option (Rs Int32)} (hk23 : ∀ (h : Hp) (a1 : Nat) (a2 : Nat) (a3 : Nat) (i4 : Int32) (t : Rs Int32), k23 h a1 a2 a3 i4 = some t → X l K mM_L_law (tgI t) 23 [(0, .ref 2000000), (1, .ref a1), (2, .ref a2), (3, .ref a3), (4, .int i4)] [] h) {h : Hp} {a1 : Nat} {a2 : Nat} {a3 : Nat} {i4 : Int32} {t : Rs Int32} (e : f_L_law_L1979 (kXs K) (kLn K) k23 h a1 a2 a3 i4 = some t) : X l K mM_L_law (tgI t) 1979 [(0, .ref 2000000), (1, .ref a1), (2, .ref a2), (3, .ref a3), (4, .int i4)] [] h := by
  unfold f_L_law_L1979 at e
  refine x_goto (pc := 1979) (t := 2775) dL_law_1979 (by decide) ?_
  exact p_L_law_L2775 hl hk23 e
noncomputable def f_L_law_L1926 (xs : Nat → Int32) (xn : Nat) (k23 : Hp → Nat → Nat → Nat → Int32 → Option (Rs Int32)) (h : Hp) (a1 : Nat) (a2 : Nat) (a3 : Nat) (i4 : Int32) : Option (Rs Int32) :=
  chk (vp_in (i4 + (iN 1)) xn) <|
  bnd (f_L_tallest h a1 (xs (Int32.toNatClampNeg (i4 + (iN 1)))) a3) fun h2 r3 =>
  chk (vp_in (i4 + (iN 1)) xn) <|
  chk (okr h2 a2 9) <|
  bnd (f_X9_tallest h2 a2 (xs (Int32.toNatClampNeg (i4 + (iN 1))))) fun h6 r7 =>
  chk (okr h6 a2 9) <|
  bnd (f_X9_thrown h6 a2) fun h9 r10 =>
  if r10 = r3 then (
    if r3 = 0 then (
      chk (okr h9 a3 21) <|
      chk (vp_in (iN 0) (qW h9 a3)) <|
      if (lg_cmp (qL h9 a3 (Int32.toNatClampNeg (iN 0))) (Int32.toInt64 r7)) = 0 then (
        f_L_law_L1979 xs xn k23 h9 a1 a2 a3 i4
      ) else (
        some (h9, .inr (iN 0))
      )
    ) else (
      f_L_law_L1979 xs xn k23 h9 a1 a2 a3 i4
    )
  ) else (
    some (h9, .inr (iN 0))
  )
theorem p_L_law_L1926 {l : Launch} {K : Ctx} (hl : l.stackTraces = false) {k23 : Hp → Nat → Nat → Nat → Int32 → Option (Rs Int32)} (hk23 : ∀ (h : Hp) (a1 : Nat) (a2 : Nat) (a3 : Nat) (i4 : Int32) (t : Rs Int32), k23 h a1 a2 a3 i4 = some t → X l K mM_L_law (tgI t) 23 [(0, .ref 2000000), (1, .ref a1), (2, .ref a2), (3, .ref a3), (4, .int i4)] [] h) {h : Hp} {a1 : Nat} {a2 : Nat} {a3 : Nat} {i4 : Int32} {t : Rs Int32} (e : f_L_law_L1926 (kXs K) (kLn K) k23 h a1 a2 a3 i4 = some t) : X l K mM_L_law (tgI t) 1926 [(0, .ref 2000000), (1, .ref a1), (2, .ref a2), (3, .ref a3), (4, .int i4)] [] h := by
  unfold f_L_law_L1926 at e
  refine x_aload_n (pc := 1926) 1 dL_law_1926 rfl ?_
  refine x_aload_n (pc := 1927) 0 dL_law_1927 rfl ?_
  refine x_iload (pc := 1928) 4 dL_law_1928 rfl ?_
  refine x_iconst (pc := 1930) dL_law_1930 ?_
  refine x_iadd (pc := 1931) dL_law_1931 ?_
  obtain ⟨q1, e⟩ := chk_some e
  refine x_sld (pc := 1932) dL_law_1932 q1 ?_
  refine x_aload_n (pc := 1933) 3 dL_law_1933 rfl ?_
  rcases bnd_some e with ⟨h2, r3, ec, rfl⟩ | ⟨h2, r3, ec, e⟩
  · exact y_callX_x (pc := 1934) (c_L_tallest hl ec) mf_L_tallest tw_5_232 tw_5_231 dL_law_1934 (by decide) rfl rfl (leb rfl) (xx_out0 rfl)
  refine y_callX_i (pc := 1934) (c_L_tallest hl ec) mf_L_tallest tw_5_232 tw_5_231 dL_law_1934 (by decide) rfl rfl (leb rfl) ?_
  refine x_istore (pc := 1937) dL_law_1937 (by decide) rfl ?_
  refine x_aload_n (pc := 1939) 3 dL_law_1939 rfl ?_
  refine x_aload_n (pc := 1940) 1 dL_law_1940 rfl ?_
  refine x_iload (pc := 1941) 5 dL_law_1941 rfl ?_
  refine x_iconst (pc := 1943) dL_law_1943 ?_
  refine x_iadd (pc := 1944) dL_law_1944 ?_
  obtain ⟨q4, e⟩ := chk_some e
  refine x_sld (pc := 1945) dL_law_1945 q4 ?_
  obtain ⟨q5, e⟩ := chk_some e
  rcases bnd_some e with ⟨h6, r7, ec, rfl⟩ | ⟨h6, r7, ec, e⟩
  · exact y_callV_x (pc := 1946) (c_X9_tallest hl ec) q5 mf_X9_tallest tw_8_173 tw_8_174 lf_L_248 rfl rfl dL_law_1946 (by decide) rfl rfl (leb rfl) (xx_out0 rfl)
  refine y_callV_i (pc := 1946) (c_X9_tallest hl ec) q5 mf_X9_tallest tw_8_173 tw_8_174 lf_L_248 rfl rfl dL_law_1946 (by decide) rfl rfl (leb rfl) ?_
  refine x_istore (pc := 1949) dL_law_1949 (by decide) rfl ?_
  refine x_aload_n (pc := 1951) 4 dL_law_1951 rfl ?_
  obtain ⟨q8, e⟩ := chk_some e
  rcases bnd_some e with ⟨h9, r10, ec, rfl⟩ | ⟨h9, r10, ec, e⟩
  · exact y_callV_x (pc := 1952) (c_X9_thrown hl ec) q8 mf_X9_thrown tw_7_12 tw_7_13 lf_L_155 rfl rfl dL_law_1952 (by decide) rfl rfl (leb rfl) (xx_out0 rfl)
  refine y_callV_i (pc := 1952) (c_X9_thrown hl ec) q8 mf_X9_thrown tw_7_12 tw_7_13 lf_L_155 rfl rfl dL_law_1952 (by decide) rfl rfl (leb rfl) ?_
  refine x_iload (pc := 1955) 1 dL_law_1955 rfl ?_
  rcases ite_some e with ⟨q11, e⟩ | ⟨q11, e⟩
  · refine x_icmp_eq_t (pc := 1957) (t := 1962) dL_law_1957 (by decide) q11 ?_
    refine x_iload (pc := 1962) 1 dL_law_1962 rfl ?_
    rcases ite_some e with ⟨q12, e⟩ | ⟨q12, e⟩
    · refine x_if_ne_f (pc := 1964) (t := 1979) dL_law_1964 (by decide) q12 ?_
      refine x_aload_n (pc := 1967) 5 dL_law_1967 rfl ?_
      refine x_iconst (pc := 1968) dL_law_1968 ?_
      obtain ⟨q13, e⟩ := chk_some e
      obtain ⟨q14, e⟩ := chk_some e
      refine x_lald (pc := 1969) dL_law_1969 q13 q14 ?_
      refine x_iload (pc := 1970) 0 dL_law_1970 rfl ?_
      refine x_i2l (pc := 1972) dL_law_1972 ?_
      refine x_lcmp (pc := 1973) dL_law_1973 ?_
      rcases ite_some e with ⟨q15, e⟩ | ⟨q15, e⟩
      · refine x_if_eq_t (pc := 1974) (t := 1979) dL_law_1974 (by decide) q15 ?_
        exact x_sub1 (p_L_law_L1979 hl hk23 e) [2, 3, 4, 5, 6] rfl
      · refine x_if_eq_f (pc := 1974) (t := 1979) dL_law_1974 (by decide) q15 ?_
        refine x_iconst (pc := 1977) dL_law_1977 ?_
        cases Option.some.inj e
        exact x_zret (pc := 1978) rfl (Or.inl rfl) dL_law_1978
    · refine x_if_ne_t (pc := 1964) (t := 1979) dL_law_1964 (by decide) q12 ?_
      exact x_sub1 (p_L_law_L1979 hl hk23 e) [2, 3, 4, 5, 6] rfl
  · refine x_icmp_eq_f (pc := 1957) (t := 1962) dL_law_1957 (by decide) q11 ?_
    refine x_iconst (pc := 1960) dL_law_1960 ?_
    cases Option.some.inj e
    exact x_zret (pc := 1961) rfl (Or.inl rfl) dL_law_1961
noncomputable def f_L_law_L2071 (xs : Nat → Int32) (xn : Nat) (k23 : Hp → Nat → Nat → Nat → Int32 → Option (Rs Int32)) (h : Hp) (a1 : Nat) (a2 : Nat) (a3 : Nat) (i4 : Int32) : Option (Rs Int32) :=
  f_L_law_L2775 xs xn k23 h a1 a2 a3 i4
theorem p_L_law_L2071 {l : Launch} {K : Ctx} (hl : l.stackTraces = false) {k23 : Hp → Nat → Nat → Nat → Int32 → Option (Rs Int32)} (hk23 : ∀ (h : Hp) (a1 : Nat) (a2 : Nat) (a3 : Nat) (i4 : Int32) (t : Rs Int32), k23 h a1 a2 a3 i4 = some t → X l K mM_L_law (tgI t) 23 [(0, .ref 2000000), (1, .ref a1), (2, .ref a2), (3, .ref a3), (4, .int i4)] [] h) {h : Hp} {a1 : Nat} {a2 : Nat} {a3 : Nat} {i4 : Int32} {t : Rs Int32} (e : f_L_law_L2071 (kXs K) (kLn K) k23 h a1 a2 a3 i4 = some t) : X l K mM_L_law (tgI t) 2071 [(0, .ref 2000000), (1, .ref a1), (2, .ref a2), (3, .ref a3), (4, .int i4)] [] h := by
  unfold f_L_law_L2071 at e
  refine x_goto (pc := 2071) (t := 2775) dL_law_2071 (by decide) ?_
  exact p_L_law_L2775 hl hk23 e
noncomputable def f_L_law_L1982 (xs : Nat → Int32) (xn : Nat) (k23 : Hp → Nat → Nat → Nat → Int32 → Option (Rs Int32)) (h : Hp) (a1 : Nat) (a2 : Nat) (a3 : Nat) (i4 : Int32) : Option (Rs Int32) :=
  chk (vp_in (i4 + (iN 1)) xn) <|
  chk (vp_in (i4 + (iN 2)) xn) <|
  chk (vp_in (i4 + (iN 3)) xn) <|
  chk (vp_in (i4 + (iN 4)) xn) <|
  bnd (f_L_heightFor h a1 (xs (Int32.toNatClampNeg (i4 + (iN 1)))) (xs (Int32.toNatClampNeg (i4 + (iN 2)))) (xs (Int32.toNatClampNeg (i4 + (iN 3)))) (xs (Int32.toNatClampNeg (i4 + (iN 4)))) a3) fun h5 r6 =>
  chk (vp_in (i4 + (iN 1)) xn) <|
  chk (vp_in (i4 + (iN 2)) xn) <|
  chk (vp_in (i4 + (iN 3)) xn) <|
  chk (vp_in (i4 + (iN 4)) xn) <|
  chk (okr h5 a2 9) <|
  bnd (f_X9_heightFor h5 a2 (xs (Int32.toNatClampNeg (i4 + (iN 1)))) (xs (Int32.toNatClampNeg (i4 + (iN 2)))) (xs (Int32.toNatClampNeg (i4 + (iN 3)))) (xs (Int32.toNatClampNeg (i4 + (iN 4))))) fun h12 r13 =>
  chk (okr h12 a2 9) <|
  bnd (f_X9_thrown h12 a2) fun h15 r16 =>
  if r16 = r6 then (
    if r6 = 0 then (
      chk (okr h15 a3 21) <|
      chk (vp_in (iN 0) (qW h15 a3)) <|
      if (lg_cmp (qL h15 a3 (Int32.toNatClampNeg (iN 0))) (Int32.toInt64 r13)) = 0 then (
        f_L_law_L2071 xs xn k23 h15 a1 a2 a3 i4
      ) else (
        some (h15, .inr (iN 0))
      )
    ) else (
      f_L_law_L2071 xs xn k23 h15 a1 a2 a3 i4
    )
  ) else (
    some (h15, .inr (iN 0))
  )
theorem p_L_law_L1982 {l : Launch} {K : Ctx} (hl : l.stackTraces = false) {k23 : Hp → Nat → Nat → Nat → Int32 → Option (Rs Int32)} (hk23 : ∀ (h : Hp) (a1 : Nat) (a2 : Nat) (a3 : Nat) (i4 : Int32) (t : Rs Int32), k23 h a1 a2 a3 i4 = some t → X l K mM_L_law (tgI t) 23 [(0, .ref 2000000), (1, .ref a1), (2, .ref a2), (3, .ref a3), (4, .int i4)] [] h) {h : Hp} {a1 : Nat} {a2 : Nat} {a3 : Nat} {i4 : Int32} {t : Rs Int32} (e : f_L_law_L1982 (kXs K) (kLn K) k23 h a1 a2 a3 i4 = some t) : X l K mM_L_law (tgI t) 1982 [(0, .ref 2000000), (1, .ref a1), (2, .ref a2), (3, .ref a3), (4, .int i4)] [] h := by
  unfold f_L_law_L1982 at e
  refine x_aload_n (pc := 1982) 1 dL_law_1982 rfl ?_
  refine x_aload_n (pc := 1983) 0 dL_law_1983 rfl ?_
  refine x_iload (pc := 1984) 4 dL_law_1984 rfl ?_
  refine x_iconst (pc := 1986) dL_law_1986 ?_
  refine x_iadd (pc := 1987) dL_law_1987 ?_
  obtain ⟨q1, e⟩ := chk_some e
  refine x_sld (pc := 1988) dL_law_1988 q1 ?_
  refine x_aload_n (pc := 1989) 0 dL_law_1989 rfl ?_
  refine x_iload (pc := 1990) 4 dL_law_1990 rfl ?_
  refine x_iconst (pc := 1992) dL_law_1992 ?_
  refine x_iadd (pc := 1993) dL_law_1993 ?_
  obtain ⟨q2, e⟩ := chk_some e
  refine x_sld (pc := 1994) dL_law_1994 q2 ?_
  refine x_aload_n (pc := 1995) 0 dL_law_1995 rfl ?_
  refine x_iload (pc := 1996) 4 dL_law_1996 rfl ?_
  refine x_iconst (pc := 1998) dL_law_1998 ?_
  refine x_iadd (pc := 1999) dL_law_1999 ?_
  obtain ⟨q3, e⟩ := chk_some e
  refine x_sld (pc := 2000) dL_law_2000 q3 ?_
  refine x_aload_n (pc := 2001) 0 dL_law_2001 rfl ?_
  refine x_iload (pc := 2002) 4 dL_law_2002 rfl ?_
  refine x_iconst (pc := 2004) dL_law_2004 ?_
  refine x_iadd (pc := 2005) dL_law_2005 ?_
  obtain ⟨q4, e⟩ := chk_some e
  refine x_sld (pc := 2006) dL_law_2006 q4 ?_
  refine x_aload_n (pc := 2007) 3 dL_law_2007 rfl ?_
  rcases bnd_some e with ⟨h5, r6, ec, rfl⟩ | ⟨h5, r6, ec, e⟩
  · exact y_callX_x (pc := 2008) (c_L_heightFor hl ec) mf_L_heightFor tw_6_0 tw_5_239 dL_law_2008 (by decide) rfl rfl (leb rfl) (xx_out0 rfl)
  refine y_callX_i (pc := 2008) (c_L_heightFor hl ec) mf_L_heightFor tw_6_0 tw_5_239 dL_law_2008 (by decide) rfl rfl (leb rfl) ?_
  refine x_istore (pc := 2011) dL_law_2011 (by decide) rfl ?_
  refine x_aload_n (pc := 2013) 3 dL_law_2013 rfl ?_
  refine x_aload_n (pc := 2014) 1 dL_law_2014 rfl ?_
  refine x_iload (pc := 2015) 5 dL_law_2015 rfl ?_
  refine x_iconst (pc := 2017) dL_law_2017 ?_
  refine x_iadd (pc := 2018) dL_law_2018 ?_
  obtain ⟨q7, e⟩ := chk_some e
  refine x_sld (pc := 2019) dL_law_2019 q7 ?_
  refine x_aload_n (pc := 2020) 1 dL_law_2020 rfl ?_
  refine x_iload (pc := 2021) 5 dL_law_2021 rfl ?_
  refine x_iconst (pc := 2023) dL_law_2023 ?_
  refine x_iadd (pc := 2024) dL_law_2024 ?_
  obtain ⟨q8, e⟩ := chk_some e
  refine x_sld (pc := 2025) dL_law_2025 q8 ?_
  refine x_aload_n (pc := 2026) 1 dL_law_2026 rfl ?_
  refine x_iload (pc := 2027) 5 dL_law_2027 rfl ?_
  refine x_iconst (pc := 2029) dL_law_2029 ?_
  refine x_iadd (pc := 2030) dL_law_2030 ?_
  obtain ⟨q9, e⟩ := chk_some e
  refine x_sld (pc := 2031) dL_law_2031 q9 ?_
  refine x_aload_n (pc := 2032) 1 dL_law_2032 rfl ?_
  refine x_iload (pc := 2033) 5 dL_law_2033 rfl ?_
  refine x_iconst (pc := 2035) dL_law_2035 ?_
  refine x_iadd (pc := 2036) dL_law_2036 ?_
  obtain ⟨q10, e⟩ := chk_some e
  refine x_sld (pc := 2037) dL_law_2037 q10 ?_
  obtain ⟨q11, e⟩ := chk_some e
  rcases bnd_some e with ⟨h12, r13, ec, rfl⟩ | ⟨h12, r13, ec, e⟩
  · exact y_callV_x (pc := 2038) (c_X9_heightFor hl ec) q11 mf_X9_heightFor tw_8_177 tw_8_178 lf_L_251 rfl rfl dL_law_2038 (by decide) rfl rfl (leb rfl) (xx_out0 rfl)
  refine y_callV_i (pc := 2038) (c_X9_heightFor hl ec) q11 mf_X9_heightFor tw_8_177 tw_8_178 lf_L_251 rfl rfl dL_law_2038 (by decide) rfl rfl (leb rfl) ?_
  refine x_istore (pc := 2041) dL_law_2041 (by decide) rfl ?_
  refine x_aload_n (pc := 2043) 4 dL_law_2043 rfl ?_
  obtain ⟨q14, e⟩ := chk_some e
  rcases bnd_some e with ⟨h15, r16, ec, rfl⟩ | ⟨h15, r16, ec, e⟩
  · exact y_callV_x (pc := 2044) (c_X9_thrown hl ec) q14 mf_X9_thrown tw_7_12 tw_7_13 lf_L_155 rfl rfl dL_law_2044 (by decide) rfl rfl (leb rfl) (xx_out0 rfl)
  refine y_callV_i (pc := 2044) (c_X9_thrown hl ec) q14 mf_X9_thrown tw_7_12 tw_7_13 lf_L_155 rfl rfl dL_law_2044 (by decide) rfl rfl (leb rfl) ?_
  refine x_iload (pc := 2047) 1 dL_law_2047 rfl ?_
  rcases ite_some e with ⟨q17, e⟩ | ⟨q17, e⟩
  · refine x_icmp_eq_t (pc := 2049) (t := 2054) dL_law_2049 (by decide) q17 ?_
    refine x_iload (pc := 2054) 1 dL_law_2054 rfl ?_
    rcases ite_some e with ⟨q18, e⟩ | ⟨q18, e⟩
    · refine x_if_ne_f (pc := 2056) (t := 2071) dL_law_2056 (by decide) q18 ?_
      refine x_aload_n (pc := 2059) 5 dL_law_2059 rfl ?_
      refine x_iconst (pc := 2060) dL_law_2060 ?_
      obtain ⟨q19, e⟩ := chk_some e
      obtain ⟨q20, e⟩ := chk_some e
      refine x_lald (pc := 2061) dL_law_2061 q19 q20 ?_
      refine x_iload (pc := 2062) 0 dL_law_2062 rfl ?_
      refine x_i2l (pc := 2064) dL_law_2064 ?_
      refine x_lcmp (pc := 2065) dL_law_2065 ?_
      rcases ite_some e with ⟨q21, e⟩ | ⟨q21, e⟩
      · refine x_if_eq_t (pc := 2066) (t := 2071) dL_law_2066 (by decide) q21 ?_
        exact x_sub1 (p_L_law_L2071 hl hk23 e) [2, 3, 4, 5, 6] rfl
      · refine x_if_eq_f (pc := 2066) (t := 2071) dL_law_2066 (by decide) q21 ?_
        refine x_iconst (pc := 2069) dL_law_2069 ?_
        cases Option.some.inj e
        exact x_zret (pc := 2070) rfl (Or.inl rfl) dL_law_2070
    · refine x_if_ne_t (pc := 2056) (t := 2071) dL_law_2056 (by decide) q18 ?_
      exact x_sub1 (p_L_law_L2071 hl hk23 e) [2, 3, 4, 5, 6] rfl
  · refine x_icmp_eq_f (pc := 2049) (t := 2054) dL_law_2049 (by decide) q17 ?_
    refine x_iconst (pc := 2052) dL_law_2052 ?_
    cases Option.some.inj e
    exact x_zret (pc := 2053) rfl (Or.inl rfl) dL_law_2053
noncomputable def f_L_law_L2127 (xs : Nat → Int32) (xn : Nat) (k23 : Hp → Nat → Nat → Nat → Int32 → Option (Rs Int32)) (h : Hp) (a1 : Nat) (a2 : Nat) (a3 : Nat) (i4 : Int32) : Option (Rs Int32) :=
  f_L_law_L2775 xs xn k23 h a1 a2 a3 i4
theorem p_L_law_L2127 {l : Launch} {K : Ctx} (hl : l.stackTraces = false) {k23 : Hp → Nat → Nat → Nat → Int32 → Option (Rs Int32)} (hk23 : ∀ (h : Hp) (a1 : Nat) (a2 : Nat) (a3 : Nat) (i4 : Int32) (t : Rs Int32), k23 h a1 a2 a3 i4 = some t → X l K mM_L_law (tgI t) 23 [(0, .ref 2000000), (1, .ref a1), (2, .ref a2), (3, .ref a3), (4, .int i4)] [] h) {h : Hp} {a1 : Nat} {a2 : Nat} {a3 : Nat} {i4 : Int32} {t : Rs Int32} (e : f_L_law_L2127 (kXs K) (kLn K) k23 h a1 a2 a3 i4 = some t) : X l K mM_L_law (tgI t) 2127 [(0, .ref 2000000), (1, .ref a1), (2, .ref a2), (3, .ref a3), (4, .int i4)] [] h := by
  unfold f_L_law_L2127 at e
  refine x_goto (pc := 2127) (t := 2775) dL_law_2127 (by decide) ?_
  exact p_L_law_L2775 hl hk23 e
noncomputable def f_L_law_L2074 (xs : Nat → Int32) (xn : Nat) (k23 : Hp → Nat → Nat → Nat → Int32 → Option (Rs Int32)) (h : Hp) (a1 : Nat) (a2 : Nat) (a3 : Nat) (i4 : Int32) : Option (Rs Int32) :=
  chk (vp_in (i4 + (iN 1)) xn) <|
  bnd (f_L_heightAt h a1 (xs (Int32.toNatClampNeg (i4 + (iN 1)))) a3) fun h2 r3 =>
  chk (vp_in (i4 + (iN 1)) xn) <|
  chk (okr h2 a2 9) <|
  bnd (f_X9_heightAt h2 a2 (xs (Int32.toNatClampNeg (i4 + (iN 1))))) fun h6 r7 =>
  chk (okr h6 a2 9) <|
  bnd (f_X9_thrown h6 a2) fun h9 r10 =>
  if r10 = r3 then (
    if r3 = 0 then (
      chk (okr h9 a3 21) <|
      chk (vp_in (iN 0) (qW h9 a3)) <|
      if (lg_cmp (qL h9 a3 (Int32.toNatClampNeg (iN 0))) (Int32.toInt64 r7)) = 0 then (
        f_L_law_L2127 xs xn k23 h9 a1 a2 a3 i4
      ) else (
        some (h9, .inr (iN 0))
      )
    ) else (
      f_L_law_L2127 xs xn k23 h9 a1 a2 a3 i4
    )
  ) else (
    some (h9, .inr (iN 0))
  )
theorem p_L_law_L2074 {l : Launch} {K : Ctx} (hl : l.stackTraces = false) {k23 : Hp → Nat → Nat → Nat → Int32 → Option (Rs Int32)} (hk23 : ∀ (h : Hp) (a1 : Nat) (a2 : Nat) (a3 : Nat) (i4 : Int32) (t : Rs Int32), k23 h a1 a2 a3 i4 = some t → X l K mM_L_law (tgI t) 23 [(0, .ref 2000000), (1, .ref a1), (2, .ref a2), (3, .ref a3), (4, .int i4)] [] h) {h : Hp} {a1 : Nat} {a2 : Nat} {a3 : Nat} {i4 : Int32} {t : Rs Int32} (e : f_L_law_L2074 (kXs K) (kLn K) k23 h a1 a2 a3 i4 = some t) : X l K mM_L_law (tgI t) 2074 [(0, .ref 2000000), (1, .ref a1), (2, .ref a2), (3, .ref a3), (4, .int i4)] [] h := by
  unfold f_L_law_L2074 at e
  refine x_aload_n (pc := 2074) 1 dL_law_2074 rfl ?_
  refine x_aload_n (pc := 2075) 0 dL_law_2075 rfl ?_
  refine x_iload (pc := 2076) 4 dL_law_2076 rfl ?_
  refine x_iconst (pc := 2078) dL_law_2078 ?_
  refine x_iadd (pc := 2079) dL_law_2079 ?_
  obtain ⟨q1, e⟩ := chk_some e
  refine x_sld (pc := 2080) dL_law_2080 q1 ?_
  refine x_aload_n (pc := 2081) 3 dL_law_2081 rfl ?_
  rcases bnd_some e with ⟨h2, r3, ec, rfl⟩ | ⟨h2, r3, ec, e⟩
  · exact y_callX_x (pc := 2082) (c_L_heightAt hl ec) mf_L_heightAt tw_6_7 tw_6_6 dL_law_2082 (by decide) rfl rfl (leb rfl) (xx_out0 rfl)
  refine y_callX_i (pc := 2082) (c_L_heightAt hl ec) mf_L_heightAt tw_6_7 tw_6_6 dL_law_2082 (by decide) rfl rfl (leb rfl) ?_
  refine x_istore (pc := 2085) dL_law_2085 (by decide) rfl ?_
  refine x_aload_n (pc := 2087) 3 dL_law_2087 rfl ?_
  refine x_aload_n (pc := 2088) 1 dL_law_2088 rfl ?_
  refine x_iload (pc := 2089) 5 dL_law_2089 rfl ?_
  refine x_iconst (pc := 2091) dL_law_2091 ?_
  refine x_iadd (pc := 2092) dL_law_2092 ?_
  obtain ⟨q4, e⟩ := chk_some e
  refine x_sld (pc := 2093) dL_law_2093 q4 ?_
  obtain ⟨q5, e⟩ := chk_some e
  rcases bnd_some e with ⟨h6, r7, ec, rfl⟩ | ⟨h6, r7, ec, e⟩
  · exact y_callV_x (pc := 2094) (c_X9_heightAt hl ec) q5 mf_X9_heightAt tw_8_181 tw_8_182 lf_L_254 rfl rfl dL_law_2094 (by decide) rfl rfl (leb rfl) (xx_out0 rfl)
  refine y_callV_i (pc := 2094) (c_X9_heightAt hl ec) q5 mf_X9_heightAt tw_8_181 tw_8_182 lf_L_254 rfl rfl dL_law_2094 (by decide) rfl rfl (leb rfl) ?_
  refine x_istore (pc := 2097) dL_law_2097 (by decide) rfl ?_
  refine x_aload_n (pc := 2099) 4 dL_law_2099 rfl ?_
  obtain ⟨q8, e⟩ := chk_some e
  rcases bnd_some e with ⟨h9, r10, ec, rfl⟩ | ⟨h9, r10, ec, e⟩
  · exact y_callV_x (pc := 2100) (c_X9_thrown hl ec) q8 mf_X9_thrown tw_7_12 tw_7_13 lf_L_155 rfl rfl dL_law_2100 (by decide) rfl rfl (leb rfl) (xx_out0 rfl)
  refine y_callV_i (pc := 2100) (c_X9_thrown hl ec) q8 mf_X9_thrown tw_7_12 tw_7_13 lf_L_155 rfl rfl dL_law_2100 (by decide) rfl rfl (leb rfl) ?_
  refine x_iload (pc := 2103) 1 dL_law_2103 rfl ?_
  rcases ite_some e with ⟨q11, e⟩ | ⟨q11, e⟩
  · refine x_icmp_eq_t (pc := 2105) (t := 2110) dL_law_2105 (by decide) q11 ?_
    refine x_iload (pc := 2110) 1 dL_law_2110 rfl ?_
    rcases ite_some e with ⟨q12, e⟩ | ⟨q12, e⟩
    · refine x_if_ne_f (pc := 2112) (t := 2127) dL_law_2112 (by decide) q12 ?_
      refine x_aload_n (pc := 2115) 5 dL_law_2115 rfl ?_
      refine x_iconst (pc := 2116) dL_law_2116 ?_
      obtain ⟨q13, e⟩ := chk_some e
      obtain ⟨q14, e⟩ := chk_some e
      refine x_lald (pc := 2117) dL_law_2117 q13 q14 ?_
      refine x_iload (pc := 2118) 0 dL_law_2118 rfl ?_
      refine x_i2l (pc := 2120) dL_law_2120 ?_
      refine x_lcmp (pc := 2121) dL_law_2121 ?_
      rcases ite_some e with ⟨q15, e⟩ | ⟨q15, e⟩
      · refine x_if_eq_t (pc := 2122) (t := 2127) dL_law_2122 (by decide) q15 ?_
        exact x_sub1 (p_L_law_L2127 hl hk23 e) [2, 3, 4, 5, 6] rfl
      · refine x_if_eq_f (pc := 2122) (t := 2127) dL_law_2122 (by decide) q15 ?_
        refine x_iconst (pc := 2125) dL_law_2125 ?_
        cases Option.some.inj e
        exact x_zret (pc := 2126) rfl (Or.inl rfl) dL_law_2126
    · refine x_if_ne_t (pc := 2112) (t := 2127) dL_law_2112 (by decide) q12 ?_
      exact x_sub1 (p_L_law_L2127 hl hk23 e) [2, 3, 4, 5, 6] rfl
  · refine x_icmp_eq_f (pc := 2105) (t := 2110) dL_law_2105 (by decide) q11 ?_
    refine x_iconst (pc := 2108) dL_law_2108 ?_
    cases Option.some.inj e
    exact x_zret (pc := 2109) rfl (Or.inl rfl) dL_law_2109
noncomputable def f_L_law_L2183 (xs : Nat → Int32) (xn : Nat) (k23 : Hp → Nat → Nat → Nat → Int32 → Option (Rs Int32)) (h : Hp) (a1 : Nat) (a2 : Nat) (a3 : Nat) (i4 : Int32) : Option (Rs Int32) :=
  f_L_law_L2775 xs xn k23 h a1 a2 a3 i4
theorem p_L_law_L2183 {l : Launch} {K : Ctx} (hl : l.stackTraces = false) {k23 : Hp → Nat → Nat → Nat → Int32 → Option (Rs Int32)} (hk23 : ∀ (h : Hp) (a1 : Nat) (a2 : Nat) (a3 : Nat) (i4 : Int32) (t : Rs Int32), k23 h a1 a2 a3 i4 = some t → X l K mM_L_law (tgI t) 23 [(0, .ref 2000000), (1, .ref a1), (2, .ref a2), (3, .ref a3), (4, .int i4)] [] h) {h : Hp} {a1 : Nat} {a2 : Nat} {a3 : Nat} {i4 : Int32} {t : Rs Int32} (e : f_L_law_L2183 (kXs K) (kLn K) k23 h a1 a2 a3 i4 = some t) : X l K mM_L_law (tgI t) 2183 [(0, .ref 2000000), (1, .ref a1), (2, .ref a2), (3, .ref a3), (4, .int i4)] [] h := by
  unfold f_L_law_L2183 at e
  refine x_goto (pc := 2183) (t := 2775) dL_law_2183 (by decide) ?_
  exact p_L_law_L2775 hl hk23 e
noncomputable def f_L_law_L2130 (xs : Nat → Int32) (xn : Nat) (k23 : Hp → Nat → Nat → Nat → Int32 → Option (Rs Int32)) (h : Hp) (a1 : Nat) (a2 : Nat) (a3 : Nat) (i4 : Int32) : Option (Rs Int32) :=
  chk (vp_in (i4 + (iN 1)) xn) <|
  bnd (f_L_narrowest h a1 (xs (Int32.toNatClampNeg (i4 + (iN 1)))) a3) fun h2 r3 =>
  chk (vp_in (i4 + (iN 1)) xn) <|
  chk (okr h2 a2 9) <|
  bnd (f_X9_narrowest h2 a2 (xs (Int32.toNatClampNeg (i4 + (iN 1))))) fun h6 r7 =>
  chk (okr h6 a2 9) <|
  bnd (f_X9_thrown h6 a2) fun h9 r10 =>
  if r10 = r3 then (
    if r3 = 0 then (
      chk (okr h9 a3 21) <|
      chk (vp_in (iN 0) (qW h9 a3)) <|
      if (lg_cmp (qL h9 a3 (Int32.toNatClampNeg (iN 0))) (Int32.toInt64 r7)) = 0 then (
        f_L_law_L2183 xs xn k23 h9 a1 a2 a3 i4
      ) else (
        some (h9, .inr (iN 0))
      )
    ) else (
      f_L_law_L2183 xs xn k23 h9 a1 a2 a3 i4
    )
  ) else (
    some (h9, .inr (iN 0))
  )
theorem p_L_law_L2130 {l : Launch} {K : Ctx} (hl : l.stackTraces = false) {k23 : Hp → Nat → Nat → Nat → Int32 → Option (Rs Int32)} (hk23 : ∀ (h : Hp) (a1 : Nat) (a2 : Nat) (a3 : Nat) (i4 : Int32) (t : Rs Int32), k23 h a1 a2 a3 i4 = some t → X l K mM_L_law (tgI t) 23 [(0, .ref 2000000), (1, .ref a1), (2, .ref a2), (3, .ref a3), (4, .int i4)] [] h) {h : Hp} {a1 : Nat} {a2 : Nat} {a3 : Nat} {i4 : Int32} {t : Rs Int32} (e : f_L_law_L2130 (kXs K) (kLn K) k23 h a1 a2 a3 i4 = some t) : X l K mM_L_law (tgI t) 2130 [(0, .ref 2000000), (1, .ref a1), (2, .ref a2), (3, .ref a3), (4, .int i4)] [] h := by
  unfold f_L_law_L2130 at e
  refine x_aload_n (pc := 2130) 1 dL_law_2130 rfl ?_
  refine x_aload_n (pc := 2131) 0 dL_law_2131 rfl ?_
  refine x_iload (pc := 2132) 4 dL_law_2132 rfl ?_
  refine x_iconst (pc := 2134) dL_law_2134 ?_
  refine x_iadd (pc := 2135) dL_law_2135 ?_
  obtain ⟨q1, e⟩ := chk_some e
  refine x_sld (pc := 2136) dL_law_2136 q1 ?_
  refine x_aload_n (pc := 2137) 3 dL_law_2137 rfl ?_
  rcases bnd_some e with ⟨h2, r3, ec, rfl⟩ | ⟨h2, r3, ec, e⟩
  · exact y_callX_x (pc := 2138) (c_L_narrowest hl ec) mf_L_narrowest tw_6_14 tw_6_13 dL_law_2138 (by decide) rfl rfl (leb rfl) (xx_out0 rfl)
  refine y_callX_i (pc := 2138) (c_L_narrowest hl ec) mf_L_narrowest tw_6_14 tw_6_13 dL_law_2138 (by decide) rfl rfl (leb rfl) ?_
  refine x_istore (pc := 2141) dL_law_2141 (by decide) rfl ?_
  refine x_aload_n (pc := 2143) 3 dL_law_2143 rfl ?_
  refine x_aload_n (pc := 2144) 1 dL_law_2144 rfl ?_
  refine x_iload (pc := 2145) 5 dL_law_2145 rfl ?_
  refine x_iconst (pc := 2147) dL_law_2147 ?_
  refine x_iadd (pc := 2148) dL_law_2148 ?_
  obtain ⟨q4, e⟩ := chk_some e
  refine x_sld (pc := 2149) dL_law_2149 q4 ?_
  obtain ⟨q5, e⟩ := chk_some e
  rcases bnd_some e with ⟨h6, r7, ec, rfl⟩ | ⟨h6, r7, ec, e⟩
  · exact y_callV_x (pc := 2150) (c_X9_narrowest hl ec) q5 mf_X9_narrowest tw_8_189 tw_8_190 lf_L_257 rfl rfl dL_law_2150 (by decide) rfl rfl (leb rfl) (xx_out0 rfl)
  refine y_callV_i (pc := 2150) (c_X9_narrowest hl ec) q5 mf_X9_narrowest tw_8_189 tw_8_190 lf_L_257 rfl rfl dL_law_2150 (by decide) rfl rfl (leb rfl) ?_
  refine x_istore (pc := 2153) dL_law_2153 (by decide) rfl ?_
  refine x_aload_n (pc := 2155) 4 dL_law_2155 rfl ?_
  obtain ⟨q8, e⟩ := chk_some e
  rcases bnd_some e with ⟨h9, r10, ec, rfl⟩ | ⟨h9, r10, ec, e⟩
  · exact y_callV_x (pc := 2156) (c_X9_thrown hl ec) q8 mf_X9_thrown tw_7_12 tw_7_13 lf_L_155 rfl rfl dL_law_2156 (by decide) rfl rfl (leb rfl) (xx_out0 rfl)
  refine y_callV_i (pc := 2156) (c_X9_thrown hl ec) q8 mf_X9_thrown tw_7_12 tw_7_13 lf_L_155 rfl rfl dL_law_2156 (by decide) rfl rfl (leb rfl) ?_
  refine x_iload (pc := 2159) 1 dL_law_2159 rfl ?_
  rcases ite_some e with ⟨q11, e⟩ | ⟨q11, e⟩
  · refine x_icmp_eq_t (pc := 2161) (t := 2166) dL_law_2161 (by decide) q11 ?_
    refine x_iload (pc := 2166) 1 dL_law_2166 rfl ?_
    rcases ite_some e with ⟨q12, e⟩ | ⟨q12, e⟩
    · refine x_if_ne_f (pc := 2168) (t := 2183) dL_law_2168 (by decide) q12 ?_
      refine x_aload_n (pc := 2171) 5 dL_law_2171 rfl ?_
      refine x_iconst (pc := 2172) dL_law_2172 ?_
      obtain ⟨q13, e⟩ := chk_some e
      obtain ⟨q14, e⟩ := chk_some e
      refine x_lald (pc := 2173) dL_law_2173 q13 q14 ?_
      refine x_iload (pc := 2174) 0 dL_law_2174 rfl ?_
      refine x_i2l (pc := 2176) dL_law_2176 ?_
      refine x_lcmp (pc := 2177) dL_law_2177 ?_
      rcases ite_some e with ⟨q15, e⟩ | ⟨q15, e⟩
      · refine x_if_eq_t (pc := 2178) (t := 2183) dL_law_2178 (by decide) q15 ?_
        exact x_sub1 (p_L_law_L2183 hl hk23 e) [2, 3, 4, 5, 6] rfl
      · refine x_if_eq_f (pc := 2178) (t := 2183) dL_law_2178 (by decide) q15 ?_
        refine x_iconst (pc := 2181) dL_law_2181 ?_
        cases Option.some.inj e
        exact x_zret (pc := 2182) rfl (Or.inl rfl) dL_law_2182
    · refine x_if_ne_t (pc := 2168) (t := 2183) dL_law_2168 (by decide) q12 ?_
      exact x_sub1 (p_L_law_L2183 hl hk23 e) [2, 3, 4, 5, 6] rfl
  · refine x_icmp_eq_f (pc := 2161) (t := 2166) dL_law_2161 (by decide) q11 ?_
    refine x_iconst (pc := 2164) dL_law_2164 ?_
    cases Option.some.inj e
    exact x_zret (pc := 2165) rfl (Or.inl rfl) dL_law_2165
noncomputable def f_L_law_L2186 (xs : Nat → Int32) (xn : Nat) (k23 : Hp → Nat → Nat → Nat → Int32 → Option (Rs Int32)) (h : Hp) (a1 : Nat) (a2 : Nat) (a3 : Nat) (i4 : Int32) : Option (Rs Int32) :=
  chk (okr h a1 8) <|
  bnd (f_X8_improvements h a1) fun h2 r3 =>
  chk (okr h2 a2 9) <|
  bnd (f_X9_improvements h2 a2) fun h5 r6 =>
  if r3 = r6 then (
    f_L_law_L2775 xs xn k23 h5 a1 a2 a3 i4
  ) else (
    some (h5, .inr (iN 0))
  )
theorem p_L_law_L2186 {l : Launch} {K : Ctx} (hl : l.stackTraces = false) {k23 : Hp → Nat → Nat → Nat → Int32 → Option (Rs Int32)} (hk23 : ∀ (h : Hp) (a1 : Nat) (a2 : Nat) (a3 : Nat) (i4 : Int32) (t : Rs Int32), k23 h a1 a2 a3 i4 = some t → X l K mM_L_law (tgI t) 23 [(0, .ref 2000000), (1, .ref a1), (2, .ref a2), (3, .ref a3), (4, .int i4)] [] h) {h : Hp} {a1 : Nat} {a2 : Nat} {a3 : Nat} {i4 : Int32} {t : Rs Int32} (e : f_L_law_L2186 (kXs K) (kLn K) k23 h a1 a2 a3 i4 = some t) : X l K mM_L_law (tgI t) 2186 [(0, .ref 2000000), (1, .ref a1), (2, .ref a2), (3, .ref a3), (4, .int i4)] [] h := by
  unfold f_L_law_L2186 at e
  refine x_aload_n (pc := 2186) 1 dL_law_2186 rfl ?_
  obtain ⟨q1, e⟩ := chk_some e
  rcases bnd_some e with ⟨h2, r3, ec, rfl⟩ | ⟨h2, r3, ec, e⟩
  · exact y_callV_x (pc := 2187) (c_X8_improvements hl ec) q1 mf_X8_improvements tw_3_0 tw_3_1 lf_L_258 rfl rfl dL_law_2187 (by decide) rfl rfl (leb rfl) (xx_out0 rfl)
  refine y_callV_i (pc := 2187) (c_X8_improvements hl ec) q1 mf_X8_improvements tw_3_0 tw_3_1 lf_L_258 rfl rfl dL_law_2187 (by decide) rfl rfl (leb rfl) ?_
  refine x_aload_n (pc := 2190) 2 dL_law_2190 rfl ?_
  obtain ⟨q4, e⟩ := chk_some e
  rcases bnd_some e with ⟨h5, r6, ec, rfl⟩ | ⟨h5, r6, ec, e⟩
  · exact y_callV_x (pc := 2191) (c_X9_improvements hl ec) q4 mf_X9_improvements tw_8_193 tw_8_194 lf_L_261 rfl rfl dL_law_2191 (by decide) rfl rfl (leb rfl) (xx_out0 rfl)
  refine y_callV_i (pc := 2191) (c_X9_improvements hl ec) q4 mf_X9_improvements tw_8_193 tw_8_194 lf_L_261 rfl rfl dL_law_2191 (by decide) rfl rfl (leb rfl) ?_
  rcases ite_some e with ⟨q7, e⟩ | ⟨q7, e⟩
  · refine x_icmp_eq_t (pc := 2194) (t := 2775) dL_law_2194 (by decide) q7 ?_
    exact p_L_law_L2775 hl hk23 e
  · refine x_icmp_eq_f (pc := 2194) (t := 2775) dL_law_2194 (by decide) q7 ?_
    refine x_iconst (pc := 2197) dL_law_2197 ?_
    cases Option.some.inj e
    exact x_zret (pc := 2198) rfl (Or.inl rfl) dL_law_2198
noncomputable def f_L_law_L2252 (xs : Nat → Int32) (xn : Nat) (k23 : Hp → Nat → Nat → Nat → Int32 → Option (Rs Int32)) (h : Hp) (a1 : Nat) (a2 : Nat) (a3 : Nat) (i4 : Int32) : Option (Rs Int32) :=
  f_L_law_L2775 xs xn k23 h a1 a2 a3 i4
theorem p_L_law_L2252 {l : Launch} {K : Ctx} (hl : l.stackTraces = false) {k23 : Hp → Nat → Nat → Nat → Int32 → Option (Rs Int32)} (hk23 : ∀ (h : Hp) (a1 : Nat) (a2 : Nat) (a3 : Nat) (i4 : Int32) (t : Rs Int32), k23 h a1 a2 a3 i4 = some t → X l K mM_L_law (tgI t) 23 [(0, .ref 2000000), (1, .ref a1), (2, .ref a2), (3, .ref a3), (4, .int i4)] [] h) {h : Hp} {a1 : Nat} {a2 : Nat} {a3 : Nat} {i4 : Int32} {t : Rs Int32} (e : f_L_law_L2252 (kXs K) (kLn K) k23 h a1 a2 a3 i4 = some t) : X l K mM_L_law (tgI t) 2252 [(0, .ref 2000000), (1, .ref a1), (2, .ref a2), (3, .ref a3), (4, .int i4)] [] h := by
  unfold f_L_law_L2252 at e
  refine x_goto (pc := 2252) (t := 2775) dL_law_2252 (by decide) ?_
  exact p_L_law_L2775 hl hk23 e
noncomputable def f_L_law_L2199 (xs : Nat → Int32) (xn : Nat) (k23 : Hp → Nat → Nat → Nat → Int32 → Option (Rs Int32)) (h : Hp) (a1 : Nat) (a2 : Nat) (a3 : Nat) (i4 : Int32) : Option (Rs Int32) :=
  chk (vp_in (i4 + (iN 1)) xn) <|
  bnd (f_L_improvement h a1 (xs (Int32.toNatClampNeg (i4 + (iN 1)))) a3) fun h2 r3 =>
  chk (vp_in (i4 + (iN 1)) xn) <|
  chk (okr h2 a2 9) <|
  bnd (f_X9_improvement h2 a2 (xs (Int32.toNatClampNeg (i4 + (iN 1))))) fun h6 r7 =>
  chk (okr h6 a2 9) <|
  bnd (f_X9_thrown h6 a2) fun h9 r10 =>
  if r10 = r3 then (
    if r3 = 0 then (
      chk (okr h9 a3 21) <|
      chk (vp_in (iN 0) (qW h9 a3)) <|
      if (lg_cmp (qL h9 a3 (Int32.toNatClampNeg (iN 0))) (Int32.toInt64 r7)) = 0 then (
        f_L_law_L2252 xs xn k23 h9 a1 a2 a3 i4
      ) else (
        some (h9, .inr (iN 0))
      )
    ) else (
      f_L_law_L2252 xs xn k23 h9 a1 a2 a3 i4
    )
  ) else (
    some (h9, .inr (iN 0))
  )
theorem p_L_law_L2199 {l : Launch} {K : Ctx} (hl : l.stackTraces = false) {k23 : Hp → Nat → Nat → Nat → Int32 → Option (Rs Int32)} (hk23 : ∀ (h : Hp) (a1 : Nat) (a2 : Nat) (a3 : Nat) (i4 : Int32) (t : Rs Int32), k23 h a1 a2 a3 i4 = some t → X l K mM_L_law (tgI t) 23 [(0, .ref 2000000), (1, .ref a1), (2, .ref a2), (3, .ref a3), (4, .int i4)] [] h) {h : Hp} {a1 : Nat} {a2 : Nat} {a3 : Nat} {i4 : Int32} {t : Rs Int32} (e : f_L_law_L2199 (kXs K) (kLn K) k23 h a1 a2 a3 i4 = some t) : X l K mM_L_law (tgI t) 2199 [(0, .ref 2000000), (1, .ref a1), (2, .ref a2), (3, .ref a3), (4, .int i4)] [] h := by
  unfold f_L_law_L2199 at e
  refine x_aload_n (pc := 2199) 1 dL_law_2199 rfl ?_
  refine x_aload_n (pc := 2200) 0 dL_law_2200 rfl ?_
  refine x_iload (pc := 2201) 4 dL_law_2201 rfl ?_
  refine x_iconst (pc := 2203) dL_law_2203 ?_
  refine x_iadd (pc := 2204) dL_law_2204 ?_
  obtain ⟨q1, e⟩ := chk_some e
  refine x_sld (pc := 2205) dL_law_2205 q1 ?_
  refine x_aload_n (pc := 2206) 3 dL_law_2206 rfl ?_
  rcases bnd_some e with ⟨h2, r3, ec, rfl⟩ | ⟨h2, r3, ec, e⟩
  · exact y_callX_x (pc := 2207) (c_L_improvement hl ec) mf_L_improvement tw_6_21 tw_6_20 dL_law_2207 (by decide) rfl rfl (leb rfl) (xx_out0 rfl)
  refine y_callX_i (pc := 2207) (c_L_improvement hl ec) mf_L_improvement tw_6_21 tw_6_20 dL_law_2207 (by decide) rfl rfl (leb rfl) ?_
  refine x_istore (pc := 2210) dL_law_2210 (by decide) rfl ?_
  refine x_aload_n (pc := 2212) 3 dL_law_2212 rfl ?_
  refine x_aload_n (pc := 2213) 1 dL_law_2213 rfl ?_
  refine x_iload (pc := 2214) 5 dL_law_2214 rfl ?_
  refine x_iconst (pc := 2216) dL_law_2216 ?_
  refine x_iadd (pc := 2217) dL_law_2217 ?_
  obtain ⟨q4, e⟩ := chk_some e
  refine x_sld (pc := 2218) dL_law_2218 q4 ?_
  obtain ⟨q5, e⟩ := chk_some e
  rcases bnd_some e with ⟨h6, r7, ec, rfl⟩ | ⟨h6, r7, ec, e⟩
  · exact y_callV_x (pc := 2219) (c_X9_improvement hl ec) q5 mf_X9_improvement tw_8_201 tw_8_202 lf_L_264 rfl rfl dL_law_2219 (by decide) rfl rfl (leb rfl) (xx_out0 rfl)
  refine y_callV_i (pc := 2219) (c_X9_improvement hl ec) q5 mf_X9_improvement tw_8_201 tw_8_202 lf_L_264 rfl rfl dL_law_2219 (by decide) rfl rfl (leb rfl) ?_
  refine x_istore (pc := 2222) dL_law_2222 (by decide) rfl ?_
  refine x_aload_n (pc := 2224) 4 dL_law_2224 rfl ?_
  obtain ⟨q8, e⟩ := chk_some e
  rcases bnd_some e with ⟨h9, r10, ec, rfl⟩ | ⟨h9, r10, ec, e⟩
  · exact y_callV_x (pc := 2225) (c_X9_thrown hl ec) q8 mf_X9_thrown tw_7_12 tw_7_13 lf_L_155 rfl rfl dL_law_2225 (by decide) rfl rfl (leb rfl) (xx_out0 rfl)
  refine y_callV_i (pc := 2225) (c_X9_thrown hl ec) q8 mf_X9_thrown tw_7_12 tw_7_13 lf_L_155 rfl rfl dL_law_2225 (by decide) rfl rfl (leb rfl) ?_
  refine x_iload (pc := 2228) 1 dL_law_2228 rfl ?_
  rcases ite_some e with ⟨q11, e⟩ | ⟨q11, e⟩
  · refine x_icmp_eq_t (pc := 2230) (t := 2235) dL_law_2230 (by decide) q11 ?_
    refine x_iload (pc := 2235) 1 dL_law_2235 rfl ?_
    rcases ite_some e with ⟨q12, e⟩ | ⟨q12, e⟩
    · refine x_if_ne_f (pc := 2237) (t := 2252) dL_law_2237 (by decide) q12 ?_
      refine x_aload_n (pc := 2240) 5 dL_law_2240 rfl ?_
      refine x_iconst (pc := 2241) dL_law_2241 ?_
      obtain ⟨q13, e⟩ := chk_some e
      obtain ⟨q14, e⟩ := chk_some e
      refine x_lald (pc := 2242) dL_law_2242 q13 q14 ?_
      refine x_iload (pc := 2243) 0 dL_law_2243 rfl ?_
      refine x_i2l (pc := 2245) dL_law_2245 ?_
      refine x_lcmp (pc := 2246) dL_law_2246 ?_
      rcases ite_some e with ⟨q15, e⟩ | ⟨q15, e⟩
      · refine x_if_eq_t (pc := 2247) (t := 2252) dL_law_2247 (by decide) q15 ?_
        exact x_sub1 (p_L_law_L2252 hl hk23 e) [2, 3, 4, 5, 6] rfl
      · refine x_if_eq_f (pc := 2247) (t := 2252) dL_law_2247 (by decide) q15 ?_
        refine x_iconst (pc := 2250) dL_law_2250 ?_
        cases Option.some.inj e
        exact x_zret (pc := 2251) rfl (Or.inl rfl) dL_law_2251
    · refine x_if_ne_t (pc := 2237) (t := 2252) dL_law_2237 (by decide) q12 ?_
      exact x_sub1 (p_L_law_L2252 hl hk23 e) [2, 3, 4, 5, 6] rfl
  · refine x_icmp_eq_f (pc := 2230) (t := 2235) dL_law_2230 (by decide) q11 ?_
    refine x_iconst (pc := 2233) dL_law_2233 ?_
    cases Option.some.inj e
    exact x_zret (pc := 2234) rfl (Or.inl rfl) dL_law_2234
noncomputable def f_L_law_L2296 (xs : Nat → Int32) (xn : Nat) (k23 : Hp → Nat → Nat → Nat → Int32 → Option (Rs Int32)) (h : Hp) (a1 : Nat) (a2 : Nat) (a3 : Nat) (i4 : Int32) : Option (Rs Int32) :=
  f_L_law_L2775 xs xn k23 h a1 a2 a3 i4
theorem p_L_law_L2296 {l : Launch} {K : Ctx} (hl : l.stackTraces = false) {k23 : Hp → Nat → Nat → Nat → Int32 → Option (Rs Int32)} (hk23 : ∀ (h : Hp) (a1 : Nat) (a2 : Nat) (a3 : Nat) (i4 : Int32) (t : Rs Int32), k23 h a1 a2 a3 i4 = some t → X l K mM_L_law (tgI t) 23 [(0, .ref 2000000), (1, .ref a1), (2, .ref a2), (3, .ref a3), (4, .int i4)] [] h) {h : Hp} {a1 : Nat} {a2 : Nat} {a3 : Nat} {i4 : Int32} {t : Rs Int32} (e : f_L_law_L2296 (kXs K) (kLn K) k23 h a1 a2 a3 i4 = some t) : X l K mM_L_law (tgI t) 2296 [(0, .ref 2000000), (1, .ref a1), (2, .ref a2), (3, .ref a3), (4, .int i4)] [] h := by
  unfold f_L_law_L2296 at e
  refine x_goto (pc := 2296) (t := 2775) dL_law_2296 (by decide) ?_
  exact p_L_law_L2775 hl hk23 e
noncomputable def f_L_law_L2255 (xs : Nat → Int32) (xn : Nat) (k23 : Hp → Nat → Nat → Nat → Int32 → Option (Rs Int32)) (h : Hp) (a1 : Nat) (a2 : Nat) (a3 : Nat) (i4 : Int32) : Option (Rs Int32) :=
  bnd (f_L_critical h a1 a3) fun h1 r2 =>
  chk (okr h1 a2 9) <|
  bnd (f_X9_critical h1 a2) fun h4 r5 =>
  chk (okr h4 a2 9) <|
  bnd (f_X9_thrown h4 a2) fun h7 r8 =>
  if r8 = r2 then (
    if r2 = 0 then (
      chk (okr h7 a3 21) <|
      chk (vp_in (iN 0) (qW h7 a3)) <|
      if (lg_cmp (qL h7 a3 (Int32.toNatClampNeg (iN 0))) (Int32.toInt64 r5)) = 0 then (
        f_L_law_L2296 xs xn k23 h7 a1 a2 a3 i4
      ) else (
        some (h7, .inr (iN 0))
      )
    ) else (
      f_L_law_L2296 xs xn k23 h7 a1 a2 a3 i4
    )
  ) else (
    some (h7, .inr (iN 0))
  )
theorem p_L_law_L2255 {l : Launch} {K : Ctx} (hl : l.stackTraces = false) {k23 : Hp → Nat → Nat → Nat → Int32 → Option (Rs Int32)} (hk23 : ∀ (h : Hp) (a1 : Nat) (a2 : Nat) (a3 : Nat) (i4 : Int32) (t : Rs Int32), k23 h a1 a2 a3 i4 = some t → X l K mM_L_law (tgI t) 23 [(0, .ref 2000000), (1, .ref a1), (2, .ref a2), (3, .ref a3), (4, .int i4)] [] h) {h : Hp} {a1 : Nat} {a2 : Nat} {a3 : Nat} {i4 : Int32} {t : Rs Int32} (e : f_L_law_L2255 (kXs K) (kLn K) k23 h a1 a2 a3 i4 = some t) : X l K mM_L_law (tgI t) 2255 [(0, .ref 2000000), (1, .ref a1), (2, .ref a2), (3, .ref a3), (4, .int i4)] [] h := by
  unfold f_L_law_L2255 at e
  refine x_aload_n (pc := 2255) 1 dL_law_2255 rfl ?_
  refine x_aload_n (pc := 2256) 3 dL_law_2256 rfl ?_
  rcases bnd_some e with ⟨h1, r2, ec, rfl⟩ | ⟨h1, r2, ec, e⟩
  · exact y_callX_x (pc := 2257) (c_L_critical hl ec) mf_L_critical tw_6_28 tw_6_27 dL_law_2257 (by decide) rfl rfl (leb rfl) (xx_out0 rfl)
  refine y_callX_i (pc := 2257) (c_L_critical hl ec) mf_L_critical tw_6_28 tw_6_27 dL_law_2257 (by decide) rfl rfl (leb rfl) ?_
  refine x_istore (pc := 2260) dL_law_2260 (by decide) rfl ?_
  refine x_aload_n (pc := 2262) 3 dL_law_2262 rfl ?_
  obtain ⟨q3, e⟩ := chk_some e
  rcases bnd_some e with ⟨h4, r5, ec, rfl⟩ | ⟨h4, r5, ec, e⟩
  · exact y_callV_x (pc := 2263) (c_X9_critical hl ec) q3 mf_X9_critical tw_8_205 tw_8_206 lf_L_267 rfl rfl dL_law_2263 (by decide) rfl rfl (leb rfl) (xx_out0 rfl)
  refine y_callV_i (pc := 2263) (c_X9_critical hl ec) q3 mf_X9_critical tw_8_205 tw_8_206 lf_L_267 rfl rfl dL_law_2263 (by decide) rfl rfl (leb rfl) ?_
  refine x_istore (pc := 2266) dL_law_2266 (by decide) rfl ?_
  refine x_aload_n (pc := 2268) 4 dL_law_2268 rfl ?_
  obtain ⟨q6, e⟩ := chk_some e
  rcases bnd_some e with ⟨h7, r8, ec, rfl⟩ | ⟨h7, r8, ec, e⟩
  · exact y_callV_x (pc := 2269) (c_X9_thrown hl ec) q6 mf_X9_thrown tw_7_12 tw_7_13 lf_L_155 rfl rfl dL_law_2269 (by decide) rfl rfl (leb rfl) (xx_out0 rfl)
  refine y_callV_i (pc := 2269) (c_X9_thrown hl ec) q6 mf_X9_thrown tw_7_12 tw_7_13 lf_L_155 rfl rfl dL_law_2269 (by decide) rfl rfl (leb rfl) ?_
  refine x_iload (pc := 2272) 1 dL_law_2272 rfl ?_
  rcases ite_some e with ⟨q9, e⟩ | ⟨q9, e⟩
  · refine x_icmp_eq_t (pc := 2274) (t := 2279) dL_law_2274 (by decide) q9 ?_
    refine x_iload (pc := 2279) 1 dL_law_2279 rfl ?_
    rcases ite_some e with ⟨q10, e⟩ | ⟨q10, e⟩
    · refine x_if_ne_f (pc := 2281) (t := 2296) dL_law_2281 (by decide) q10 ?_
      refine x_aload_n (pc := 2284) 5 dL_law_2284 rfl ?_
      refine x_iconst (pc := 2285) dL_law_2285 ?_
      obtain ⟨q11, e⟩ := chk_some e
      obtain ⟨q12, e⟩ := chk_some e
      refine x_lald (pc := 2286) dL_law_2286 q11 q12 ?_
      refine x_iload (pc := 2287) 0 dL_law_2287 rfl ?_
      refine x_i2l (pc := 2289) dL_law_2289 ?_
      refine x_lcmp (pc := 2290) dL_law_2290 ?_
      rcases ite_some e with ⟨q13, e⟩ | ⟨q13, e⟩
      · refine x_if_eq_t (pc := 2291) (t := 2296) dL_law_2291 (by decide) q13 ?_
        exact x_sub1 (p_L_law_L2296 hl hk23 e) [2, 3, 4, 5, 6] rfl
      · refine x_if_eq_f (pc := 2291) (t := 2296) dL_law_2291 (by decide) q13 ?_
        refine x_iconst (pc := 2294) dL_law_2294 ?_
        cases Option.some.inj e
        exact x_zret (pc := 2295) rfl (Or.inl rfl) dL_law_2295
    · refine x_if_ne_t (pc := 2281) (t := 2296) dL_law_2281 (by decide) q10 ?_
      exact x_sub1 (p_L_law_L2296 hl hk23 e) [2, 3, 4, 5, 6] rfl
  · refine x_icmp_eq_f (pc := 2274) (t := 2279) dL_law_2274 (by decide) q9 ?_
    refine x_iconst (pc := 2277) dL_law_2277 ?_
    cases Option.some.inj e
    exact x_zret (pc := 2278) rfl (Or.inl rfl) dL_law_2278
noncomputable def f_L_law_L2364 (xs : Nat → Int32) (xn : Nat) (k23 : Hp → Nat → Nat → Nat → Int32 → Option (Rs Int32)) (h : Hp) (a1 : Nat) (a2 : Nat) (a3 : Nat) (i4 : Int32) : Option (Rs Int32) :=
  f_L_law_L2775 xs xn k23 h a1 a2 a3 i4
theorem p_L_law_L2364 {l : Launch} {K : Ctx} (hl : l.stackTraces = false) {k23 : Hp → Nat → Nat → Nat → Int32 → Option (Rs Int32)} (hk23 : ∀ (h : Hp) (a1 : Nat) (a2 : Nat) (a3 : Nat) (i4 : Int32) (t : Rs Int32), k23 h a1 a2 a3 i4 = some t → X l K mM_L_law (tgI t) 23 [(0, .ref 2000000), (1, .ref a1), (2, .ref a2), (3, .ref a3), (4, .int i4)] [] h) {h : Hp} {a1 : Nat} {a2 : Nat} {a3 : Nat} {i4 : Int32} {t : Rs Int32} (e : f_L_law_L2364 (kXs K) (kLn K) k23 h a1 a2 a3 i4 = some t) : X l K mM_L_law (tgI t) 2364 [(0, .ref 2000000), (1, .ref a1), (2, .ref a2), (3, .ref a3), (4, .int i4)] [] h := by
  unfold f_L_law_L2364 at e
  refine x_goto (pc := 2364) (t := 2775) dL_law_2364 (by decide) ?_
  exact p_L_law_L2775 hl hk23 e
noncomputable def f_L_law_L2299 (xs : Nat → Int32) (xn : Nat) (k23 : Hp → Nat → Nat → Nat → Int32 → Option (Rs Int32)) (h : Hp) (a1 : Nat) (a2 : Nat) (a3 : Nat) (i4 : Int32) : Option (Rs Int32) :=
  chk (vp_in (i4 + (iN 1)) xn) <|
  chk (vp_in (i4 + (iN 2)) xn) <|
  bnd (f_L_costOfWord h a1 (xs (Int32.toNatClampNeg (i4 + (iN 1)))) (xs (Int32.toNatClampNeg (i4 + (iN 2)))) a3) fun h3 r4 =>
  chk (vp_in (i4 + (iN 1)) xn) <|
  chk (vp_in (i4 + (iN 2)) xn) <|
  chk (okr h3 a2 9) <|
  bnd (f_X9_costOfWord h3 a2 (xs (Int32.toNatClampNeg (i4 + (iN 1)))) (xs (Int32.toNatClampNeg (i4 + (iN 2))))) fun h8 r9 =>
  chk (okr h8 a2 9) <|
  bnd (f_X9_thrown h8 a2) fun h11 r12 =>
  if r12 = r4 then (
    if r4 = 0 then (
      chk (okr h11 a3 21) <|
      chk (vp_in (iN 0) (qW h11 a3)) <|
      if (lg_cmp (qL h11 a3 (Int32.toNatClampNeg (iN 0))) (Int32.toInt64 r9)) = 0 then (
        f_L_law_L2364 xs xn k23 h11 a1 a2 a3 i4
      ) else (
        some (h11, .inr (iN 0))
      )
    ) else (
      f_L_law_L2364 xs xn k23 h11 a1 a2 a3 i4
    )
  ) else (
    some (h11, .inr (iN 0))
  )
theorem p_L_law_L2299 {l : Launch} {K : Ctx} (hl : l.stackTraces = false) {k23 : Hp → Nat → Nat → Nat → Int32 → Option (Rs Int32)} (hk23 : ∀ (h : Hp) (a1 : Nat) (a2 : Nat) (a3 : Nat) (i4 : Int32) (t : Rs Int32), k23 h a1 a2 a3 i4 = some t → X l K mM_L_law (tgI t) 23 [(0, .ref 2000000), (1, .ref a1), (2, .ref a2), (3, .ref a3), (4, .int i4)] [] h) {h : Hp} {a1 : Nat} {a2 : Nat} {a3 : Nat} {i4 : Int32} {t : Rs Int32} (e : f_L_law_L2299 (kXs K) (kLn K) k23 h a1 a2 a3 i4 = some t) : X l K mM_L_law (tgI t) 2299 [(0, .ref 2000000), (1, .ref a1), (2, .ref a2), (3, .ref a3), (4, .int i4)] [] h := by
  unfold f_L_law_L2299 at e
  refine x_aload_n (pc := 2299) 1 dL_law_2299 rfl ?_
  refine x_aload_n (pc := 2300) 0 dL_law_2300 rfl ?_
  refine x_iload (pc := 2301) 4 dL_law_2301 rfl ?_
  refine x_iconst (pc := 2303) dL_law_2303 ?_
  refine x_iadd (pc := 2304) dL_law_2304 ?_
  obtain ⟨q1, e⟩ := chk_some e
  refine x_sld (pc := 2305) dL_law_2305 q1 ?_
  refine x_aload_n (pc := 2306) 0 dL_law_2306 rfl ?_
  refine x_iload (pc := 2307) 4 dL_law_2307 rfl ?_
  refine x_iconst (pc := 2309) dL_law_2309 ?_
  refine x_iadd (pc := 2310) dL_law_2310 ?_
  obtain ⟨q2, e⟩ := chk_some e
  refine x_sld (pc := 2311) dL_law_2311 q2 ?_
  refine x_aload_n (pc := 2312) 3 dL_law_2312 rfl ?_
  rcases bnd_some e with ⟨h3, r4, ec, rfl⟩ | ⟨h3, r4, ec, e⟩
  · exact y_callX_x (pc := 2313) (c_L_costOfWord hl ec) mf_L_costOfWord tw_6_39 tw_6_38 dL_law_2313 (by decide) rfl rfl (leb rfl) (xx_out0 rfl)
  refine y_callX_i (pc := 2313) (c_L_costOfWord hl ec) mf_L_costOfWord tw_6_39 tw_6_38 dL_law_2313 (by decide) rfl rfl (leb rfl) ?_
  refine x_istore (pc := 2316) dL_law_2316 (by decide) rfl ?_
  refine x_aload_n (pc := 2318) 3 dL_law_2318 rfl ?_
  refine x_aload_n (pc := 2319) 1 dL_law_2319 rfl ?_
  refine x_iload (pc := 2320) 5 dL_law_2320 rfl ?_
  refine x_iconst (pc := 2322) dL_law_2322 ?_
  refine x_iadd (pc := 2323) dL_law_2323 ?_
  obtain ⟨q5, e⟩ := chk_some e
  refine x_sld (pc := 2324) dL_law_2324 q5 ?_
  refine x_aload_n (pc := 2325) 1 dL_law_2325 rfl ?_
  refine x_iload (pc := 2326) 5 dL_law_2326 rfl ?_
  refine x_iconst (pc := 2328) dL_law_2328 ?_
  refine x_iadd (pc := 2329) dL_law_2329 ?_
  obtain ⟨q6, e⟩ := chk_some e
  refine x_sld (pc := 2330) dL_law_2330 q6 ?_
  obtain ⟨q7, e⟩ := chk_some e
  rcases bnd_some e with ⟨h8, r9, ec, rfl⟩ | ⟨h8, r9, ec, e⟩
  · exact y_callV_x (pc := 2331) (c_X9_costOfWord hl ec) q7 mf_X9_costOfWord tw_8_209 tw_8_210 lf_L_270 rfl rfl dL_law_2331 (by decide) rfl rfl (leb rfl) (xx_out0 rfl)
  refine y_callV_i (pc := 2331) (c_X9_costOfWord hl ec) q7 mf_X9_costOfWord tw_8_209 tw_8_210 lf_L_270 rfl rfl dL_law_2331 (by decide) rfl rfl (leb rfl) ?_
  refine x_istore (pc := 2334) dL_law_2334 (by decide) rfl ?_
  refine x_aload_n (pc := 2336) 4 dL_law_2336 rfl ?_
  obtain ⟨q10, e⟩ := chk_some e
  rcases bnd_some e with ⟨h11, r12, ec, rfl⟩ | ⟨h11, r12, ec, e⟩
  · exact y_callV_x (pc := 2337) (c_X9_thrown hl ec) q10 mf_X9_thrown tw_7_12 tw_7_13 lf_L_155 rfl rfl dL_law_2337 (by decide) rfl rfl (leb rfl) (xx_out0 rfl)
  refine y_callV_i (pc := 2337) (c_X9_thrown hl ec) q10 mf_X9_thrown tw_7_12 tw_7_13 lf_L_155 rfl rfl dL_law_2337 (by decide) rfl rfl (leb rfl) ?_
  refine x_iload (pc := 2340) 1 dL_law_2340 rfl ?_
  rcases ite_some e with ⟨q13, e⟩ | ⟨q13, e⟩
  · refine x_icmp_eq_t (pc := 2342) (t := 2347) dL_law_2342 (by decide) q13 ?_
    refine x_iload (pc := 2347) 1 dL_law_2347 rfl ?_
    rcases ite_some e with ⟨q14, e⟩ | ⟨q14, e⟩
    · refine x_if_ne_f (pc := 2349) (t := 2364) dL_law_2349 (by decide) q14 ?_
      refine x_aload_n (pc := 2352) 5 dL_law_2352 rfl ?_
      refine x_iconst (pc := 2353) dL_law_2353 ?_
      obtain ⟨q15, e⟩ := chk_some e
      obtain ⟨q16, e⟩ := chk_some e
      refine x_lald (pc := 2354) dL_law_2354 q15 q16 ?_
      refine x_iload (pc := 2355) 0 dL_law_2355 rfl ?_
      refine x_i2l (pc := 2357) dL_law_2357 ?_
      refine x_lcmp (pc := 2358) dL_law_2358 ?_
      rcases ite_some e with ⟨q17, e⟩ | ⟨q17, e⟩
      · refine x_if_eq_t (pc := 2359) (t := 2364) dL_law_2359 (by decide) q17 ?_
        exact x_sub1 (p_L_law_L2364 hl hk23 e) [2, 3, 4, 5, 6] rfl
      · refine x_if_eq_f (pc := 2359) (t := 2364) dL_law_2359 (by decide) q17 ?_
        refine x_iconst (pc := 2362) dL_law_2362 ?_
        cases Option.some.inj e
        exact x_zret (pc := 2363) rfl (Or.inl rfl) dL_law_2363
    · refine x_if_ne_t (pc := 2349) (t := 2364) dL_law_2349 (by decide) q14 ?_
      exact x_sub1 (p_L_law_L2364 hl hk23 e) [2, 3, 4, 5, 6] rfl
  · refine x_icmp_eq_f (pc := 2342) (t := 2347) dL_law_2342 (by decide) q13 ?_
    refine x_iconst (pc := 2345) dL_law_2345 ?_
    cases Option.some.inj e
    exact x_zret (pc := 2346) rfl (Or.inl rfl) dL_law_2346
noncomputable def f_L_law_L2420 (xs : Nat → Int32) (xn : Nat) (k23 : Hp → Nat → Nat → Nat → Int32 → Option (Rs Int32)) (h : Hp) (a1 : Nat) (a2 : Nat) (a3 : Nat) (i4 : Int32) : Option (Rs Int32) :=
  f_L_law_L2775 xs xn k23 h a1 a2 a3 i4
theorem p_L_law_L2420 {l : Launch} {K : Ctx} (hl : l.stackTraces = false) {k23 : Hp → Nat → Nat → Nat → Int32 → Option (Rs Int32)} (hk23 : ∀ (h : Hp) (a1 : Nat) (a2 : Nat) (a3 : Nat) (i4 : Int32) (t : Rs Int32), k23 h a1 a2 a3 i4 = some t → X l K mM_L_law (tgI t) 23 [(0, .ref 2000000), (1, .ref a1), (2, .ref a2), (3, .ref a3), (4, .int i4)] [] h) {h : Hp} {a1 : Nat} {a2 : Nat} {a3 : Nat} {i4 : Int32} {t : Rs Int32} (e : f_L_law_L2420 (kXs K) (kLn K) k23 h a1 a2 a3 i4 = some t) : X l K mM_L_law (tgI t) 2420 [(0, .ref 2000000), (1, .ref a1), (2, .ref a2), (3, .ref a3), (4, .int i4)] [] h := by
  unfold f_L_law_L2420 at e
  refine x_goto (pc := 2420) (t := 2775) dL_law_2420 (by decide) ?_
  exact p_L_law_L2775 hl hk23 e
noncomputable def f_L_law_L2367 (xs : Nat → Int32) (xn : Nat) (k23 : Hp → Nat → Nat → Nat → Int32 → Option (Rs Int32)) (h : Hp) (a1 : Nat) (a2 : Nat) (a3 : Nat) (i4 : Int32) : Option (Rs Int32) :=
  chk (vp_in (i4 + (iN 1)) xn) <|
  bnd (f_L_raggednessBits h a1 (xs (Int32.toNatClampNeg (i4 + (iN 1)))) a3) fun h2 r3 =>
  chk (vp_in (i4 + (iN 1)) xn) <|
  chk (okr h2 a2 9) <|
  bnd (f_X9_raggednessBits h2 a2 (xs (Int32.toNatClampNeg (i4 + (iN 1))))) fun h6 r7 =>
  chk (okr h6 a2 9) <|
  bnd (f_X9_thrown h6 a2) fun h9 r10 =>
  if r10 = r3 then (
    if r3 = 0 then (
      chk (okr h9 a3 21) <|
      chk (vp_in (iN 0) (qW h9 a3)) <|
      if (lg_cmp (qL h9 a3 (Int32.toNatClampNeg (iN 0))) (Int32.toInt64 r7)) = 0 then (
        f_L_law_L2420 xs xn k23 h9 a1 a2 a3 i4
      ) else (
        some (h9, .inr (iN 0))
      )
    ) else (
      f_L_law_L2420 xs xn k23 h9 a1 a2 a3 i4
    )
  ) else (
    some (h9, .inr (iN 0))
  )
theorem p_L_law_L2367 {l : Launch} {K : Ctx} (hl : l.stackTraces = false) {k23 : Hp → Nat → Nat → Nat → Int32 → Option (Rs Int32)} (hk23 : ∀ (h : Hp) (a1 : Nat) (a2 : Nat) (a3 : Nat) (i4 : Int32) (t : Rs Int32), k23 h a1 a2 a3 i4 = some t → X l K mM_L_law (tgI t) 23 [(0, .ref 2000000), (1, .ref a1), (2, .ref a2), (3, .ref a3), (4, .int i4)] [] h) {h : Hp} {a1 : Nat} {a2 : Nat} {a3 : Nat} {i4 : Int32} {t : Rs Int32} (e : f_L_law_L2367 (kXs K) (kLn K) k23 h a1 a2 a3 i4 = some t) : X l K mM_L_law (tgI t) 2367 [(0, .ref 2000000), (1, .ref a1), (2, .ref a2), (3, .ref a3), (4, .int i4)] [] h := by
  unfold f_L_law_L2367 at e
  refine x_aload_n (pc := 2367) 1 dL_law_2367 rfl ?_
  refine x_aload_n (pc := 2368) 0 dL_law_2368 rfl ?_
  refine x_iload (pc := 2369) 4 dL_law_2369 rfl ?_
  refine x_iconst (pc := 2371) dL_law_2371 ?_
  refine x_iadd (pc := 2372) dL_law_2372 ?_
  obtain ⟨q1, e⟩ := chk_some e
  refine x_sld (pc := 2373) dL_law_2373 q1 ?_
  refine x_aload_n (pc := 2374) 3 dL_law_2374 rfl ?_
  rcases bnd_some e with ⟨h2, r3, ec, rfl⟩ | ⟨h2, r3, ec, e⟩
  · exact y_callX_x (pc := 2375) (c_L_raggednessBits hl ec) mf_L_raggednessBits tw_6_51 tw_6_50 dL_law_2375 (by decide) rfl rfl (leb rfl) (xx_out0 rfl)
  refine y_callX_i (pc := 2375) (c_L_raggednessBits hl ec) mf_L_raggednessBits tw_6_51 tw_6_50 dL_law_2375 (by decide) rfl rfl (leb rfl) ?_
  refine x_istore (pc := 2378) dL_law_2378 (by decide) rfl ?_
  refine x_aload_n (pc := 2380) 3 dL_law_2380 rfl ?_
  refine x_aload_n (pc := 2381) 1 dL_law_2381 rfl ?_
  refine x_iload (pc := 2382) 5 dL_law_2382 rfl ?_
  refine x_iconst (pc := 2384) dL_law_2384 ?_
  refine x_iadd (pc := 2385) dL_law_2385 ?_
  obtain ⟨q4, e⟩ := chk_some e
  refine x_sld (pc := 2386) dL_law_2386 q4 ?_
  obtain ⟨q5, e⟩ := chk_some e
  rcases bnd_some e with ⟨h6, r7, ec, rfl⟩ | ⟨h6, r7, ec, e⟩
  · exact y_callV_x (pc := 2387) (c_X9_raggednessBits hl ec) q5 mf_X9_raggednessBits tw_8_213 tw_8_214 lf_L_273 rfl rfl dL_law_2387 (by decide) rfl rfl (leb rfl) (xx_out0 rfl)
  refine y_callV_i (pc := 2387) (c_X9_raggednessBits hl ec) q5 mf_X9_raggednessBits tw_8_213 tw_8_214 lf_L_273 rfl rfl dL_law_2387 (by decide) rfl rfl (leb rfl) ?_
  refine x_istore (pc := 2390) dL_law_2390 (by decide) rfl ?_
  refine x_aload_n (pc := 2392) 4 dL_law_2392 rfl ?_
  obtain ⟨q8, e⟩ := chk_some e
  rcases bnd_some e with ⟨h9, r10, ec, rfl⟩ | ⟨h9, r10, ec, e⟩
  · exact y_callV_x (pc := 2393) (c_X9_thrown hl ec) q8 mf_X9_thrown tw_7_12 tw_7_13 lf_L_155 rfl rfl dL_law_2393 (by decide) rfl rfl (leb rfl) (xx_out0 rfl)
  refine y_callV_i (pc := 2393) (c_X9_thrown hl ec) q8 mf_X9_thrown tw_7_12 tw_7_13 lf_L_155 rfl rfl dL_law_2393 (by decide) rfl rfl (leb rfl) ?_
  refine x_iload (pc := 2396) 1 dL_law_2396 rfl ?_
  rcases ite_some e with ⟨q11, e⟩ | ⟨q11, e⟩
  · refine x_icmp_eq_t (pc := 2398) (t := 2403) dL_law_2398 (by decide) q11 ?_
    refine x_iload (pc := 2403) 1 dL_law_2403 rfl ?_
    rcases ite_some e with ⟨q12, e⟩ | ⟨q12, e⟩
    · refine x_if_ne_f (pc := 2405) (t := 2420) dL_law_2405 (by decide) q12 ?_
      refine x_aload_n (pc := 2408) 5 dL_law_2408 rfl ?_
      refine x_iconst (pc := 2409) dL_law_2409 ?_
      obtain ⟨q13, e⟩ := chk_some e
      obtain ⟨q14, e⟩ := chk_some e
      refine x_lald (pc := 2410) dL_law_2410 q13 q14 ?_
      refine x_iload (pc := 2411) 0 dL_law_2411 rfl ?_
      refine x_i2l (pc := 2413) dL_law_2413 ?_
      refine x_lcmp (pc := 2414) dL_law_2414 ?_
      rcases ite_some e with ⟨q15, e⟩ | ⟨q15, e⟩
      · refine x_if_eq_t (pc := 2415) (t := 2420) dL_law_2415 (by decide) q15 ?_
        exact x_sub1 (p_L_law_L2420 hl hk23 e) [2, 3, 4, 5, 6] rfl
      · refine x_if_eq_f (pc := 2415) (t := 2420) dL_law_2415 (by decide) q15 ?_
        refine x_iconst (pc := 2418) dL_law_2418 ?_
        cases Option.some.inj e
        exact x_zret (pc := 2419) rfl (Or.inl rfl) dL_law_2419
    · refine x_if_ne_t (pc := 2405) (t := 2420) dL_law_2405 (by decide) q12 ?_
      exact x_sub1 (p_L_law_L2420 hl hk23 e) [2, 3, 4, 5, 6] rfl
  · refine x_icmp_eq_f (pc := 2398) (t := 2403) dL_law_2398 (by decide) q11 ?_
    refine x_iconst (pc := 2401) dL_law_2401 ?_
    cases Option.some.inj e
    exact x_zret (pc := 2402) rfl (Or.inl rfl) dL_law_2402
noncomputable def f_L_law_L2463 (xs : Nat → Int32) (xn : Nat) (k23 : Hp → Nat → Nat → Nat → Int32 → Option (Rs Int32)) (h : Hp) (a1 : Nat) (a2 : Nat) (a3 : Nat) (i4 : Int32) : Option (Rs Int32) :=
  f_L_law_L2775 xs xn k23 h a1 a2 a3 i4
theorem p_L_law_L2463 {l : Launch} {K : Ctx} (hl : l.stackTraces = false) {k23 : Hp → Nat → Nat → Nat → Int32 → Option (Rs Int32)} (hk23 : ∀ (h : Hp) (a1 : Nat) (a2 : Nat) (a3 : Nat) (i4 : Int32) (t : Rs Int32), k23 h a1 a2 a3 i4 = some t → X l K mM_L_law (tgI t) 23 [(0, .ref 2000000), (1, .ref a1), (2, .ref a2), (3, .ref a3), (4, .int i4)] [] h) {h : Hp} {a1 : Nat} {a2 : Nat} {a3 : Nat} {i4 : Int32} {t : Rs Int32} (e : f_L_law_L2463 (kXs K) (kLn K) k23 h a1 a2 a3 i4 = some t) : X l K mM_L_law (tgI t) 2463 [(0, .ref 2000000), (1, .ref a1), (2, .ref a2), (3, .ref a3), (4, .int i4)] [] h := by
  unfold f_L_law_L2463 at e
  refine x_goto (pc := 2463) (t := 2775) dL_law_2463 (by decide) ?_
  exact p_L_law_L2775 hl hk23 e
noncomputable def f_L_law_L2423 (xs : Nat → Int32) (xn : Nat) (k23 : Hp → Nat → Nat → Nat → Int32 → Option (Rs Int32)) (h : Hp) (a1 : Nat) (a2 : Nat) (a3 : Nat) (i4 : Int32) : Option (Rs Int32) :=
  bnd (f_L_densityBits h a1 a3) fun h1 r2 =>
  chk (okr h1 a2 9) <|
  bnd (f_X9_densityBits h1 a2) fun h4 r5 =>
  chk (okr h4 a2 9) <|
  bnd (f_X9_thrown h4 a2) fun h7 r8 =>
  if r8 = r2 then (
    if r2 = 0 then (
      chk (okr h7 a3 21) <|
      chk (vp_in (iN 0) (qW h7 a3)) <|
      if (lg_cmp (qL h7 a3 (Int32.toNatClampNeg (iN 0))) r5) = 0 then (
        f_L_law_L2463 xs xn k23 h7 a1 a2 a3 i4
      ) else (
        some (h7, .inr (iN 0))
      )
    ) else (
      f_L_law_L2463 xs xn k23 h7 a1 a2 a3 i4
    )
  ) else (
    some (h7, .inr (iN 0))
  )
theorem p_L_law_L2423 {l : Launch} {K : Ctx} (hl : l.stackTraces = false) {k23 : Hp → Nat → Nat → Nat → Int32 → Option (Rs Int32)} (hk23 : ∀ (h : Hp) (a1 : Nat) (a2 : Nat) (a3 : Nat) (i4 : Int32) (t : Rs Int32), k23 h a1 a2 a3 i4 = some t → X l K mM_L_law (tgI t) 23 [(0, .ref 2000000), (1, .ref a1), (2, .ref a2), (3, .ref a3), (4, .int i4)] [] h) {h : Hp} {a1 : Nat} {a2 : Nat} {a3 : Nat} {i4 : Int32} {t : Rs Int32} (e : f_L_law_L2423 (kXs K) (kLn K) k23 h a1 a2 a3 i4 = some t) : X l K mM_L_law (tgI t) 2423 [(0, .ref 2000000), (1, .ref a1), (2, .ref a2), (3, .ref a3), (4, .int i4)] [] h := by
  unfold f_L_law_L2423 at e
  refine x_aload_n (pc := 2423) 1 dL_law_2423 rfl ?_
  refine x_aload_n (pc := 2424) 3 dL_law_2424 rfl ?_
  rcases bnd_some e with ⟨h1, r2, ec, rfl⟩ | ⟨h1, r2, ec, e⟩
  · exact y_callX_x (pc := 2425) (c_L_densityBits hl ec) mf_L_densityBits tw_6_67 tw_6_66 dL_law_2425 (by decide) rfl rfl (leb rfl) (xx_out0 rfl)
  refine y_callX_i (pc := 2425) (c_L_densityBits hl ec) mf_L_densityBits tw_6_67 tw_6_66 dL_law_2425 (by decide) rfl rfl (leb rfl) ?_
  refine x_istore (pc := 2428) dL_law_2428 (by decide) rfl ?_
  refine x_aload_n (pc := 2430) 3 dL_law_2430 rfl ?_
  obtain ⟨q3, e⟩ := chk_some e
  rcases bnd_some e with ⟨h4, r5, ec, rfl⟩ | ⟨h4, r5, ec, e⟩
  · exact y_callV_x (pc := 2431) (c_X9_densityBits hl ec) q3 mf_X9_densityBits tw_8_227 tw_8_228 lf_L_276 rfl rfl dL_law_2431 (by decide) rfl rfl (leb rfl) (xx_out0 rfl)
  refine y_callV_i (pc := 2431) (c_X9_densityBits hl ec) q3 mf_X9_densityBits tw_8_227 tw_8_228 lf_L_276 rfl rfl dL_law_2431 (by decide) rfl rfl (leb rfl) ?_
  refine x_lstore (pc := 2434) dL_law_2434 (by decide) rfl ?_
  refine x_aload_n (pc := 2436) 4 dL_law_2436 rfl ?_
  obtain ⟨q6, e⟩ := chk_some e
  rcases bnd_some e with ⟨h7, r8, ec, rfl⟩ | ⟨h7, r8, ec, e⟩
  · exact y_callV_x (pc := 2437) (c_X9_thrown hl ec) q6 mf_X9_thrown tw_7_12 tw_7_13 lf_L_155 rfl rfl dL_law_2437 (by decide) rfl rfl (leb rfl) (xx_out0 rfl)
  refine y_callV_i (pc := 2437) (c_X9_thrown hl ec) q6 mf_X9_thrown tw_7_12 tw_7_13 lf_L_155 rfl rfl dL_law_2437 (by decide) rfl rfl (leb rfl) ?_
  refine x_iload (pc := 2440) 1 dL_law_2440 rfl ?_
  rcases ite_some e with ⟨q9, e⟩ | ⟨q9, e⟩
  · refine x_icmp_eq_t (pc := 2442) (t := 2447) dL_law_2442 (by decide) q9 ?_
    refine x_iload (pc := 2447) 1 dL_law_2447 rfl ?_
    rcases ite_some e with ⟨q10, e⟩ | ⟨q10, e⟩
    · refine x_if_ne_f (pc := 2449) (t := 2463) dL_law_2449 (by decide) q10 ?_
      refine x_aload_n (pc := 2452) 5 dL_law_2452 rfl ?_
      refine x_iconst (pc := 2453) dL_law_2453 ?_
      obtain ⟨q11, e⟩ := chk_some e
      obtain ⟨q12, e⟩ := chk_some e
      refine x_lald (pc := 2454) dL_law_2454 q11 q12 ?_
      refine x_lload (pc := 2455) 0 dL_law_2455 rfl ?_
      refine x_lcmp (pc := 2457) dL_law_2457 ?_
      rcases ite_some e with ⟨q13, e⟩ | ⟨q13, e⟩
      · refine x_if_eq_t (pc := 2458) (t := 2463) dL_law_2458 (by decide) q13 ?_
        exact x_sub1 (p_L_law_L2463 hl hk23 e) [2, 3, 4, 5, 6] rfl
      · refine x_if_eq_f (pc := 2458) (t := 2463) dL_law_2458 (by decide) q13 ?_
        refine x_iconst (pc := 2461) dL_law_2461 ?_
        cases Option.some.inj e
        exact x_zret (pc := 2462) rfl (Or.inl rfl) dL_law_2462
    · refine x_if_ne_t (pc := 2449) (t := 2463) dL_law_2449 (by decide) q10 ?_
      exact x_sub1 (p_L_law_L2463 hl hk23 e) [2, 3, 4, 5, 6] rfl
  · refine x_icmp_eq_f (pc := 2442) (t := 2447) dL_law_2442 (by decide) q9 ?_
    refine x_iconst (pc := 2445) dL_law_2445 ?_
    cases Option.some.inj e
    exact x_zret (pc := 2446) rfl (Or.inl rfl) dL_law_2446
noncomputable def f_L_law_L2543 (xs : Nat → Int32) (xn : Nat) (k23 : Hp → Nat → Nat → Nat → Int32 → Option (Rs Int32)) (h : Hp) (a1 : Nat) (a2 : Nat) (a3 : Nat) (i4 : Int32) : Option (Rs Int32) :=
  f_L_law_L2775 xs xn k23 h a1 a2 a3 i4
theorem p_L_law_L2543 {l : Launch} {K : Ctx} (hl : l.stackTraces = false) {k23 : Hp → Nat → Nat → Nat → Int32 → Option (Rs Int32)} (hk23 : ∀ (h : Hp) (a1 : Nat) (a2 : Nat) (a3 : Nat) (i4 : Int32) (t : Rs Int32), k23 h a1 a2 a3 i4 = some t → X l K mM_L_law (tgI t) 23 [(0, .ref 2000000), (1, .ref a1), (2, .ref a2), (3, .ref a3), (4, .int i4)] [] h) {h : Hp} {a1 : Nat} {a2 : Nat} {a3 : Nat} {i4 : Int32} {t : Rs Int32} (e : f_L_law_L2543 (kXs K) (kLn K) k23 h a1 a2 a3 i4 = some t) : X l K mM_L_law (tgI t) 2543 [(0, .ref 2000000), (1, .ref a1), (2, .ref a2), (3, .ref a3), (4, .int i4)] [] h := by
  unfold f_L_law_L2543 at e
  refine x_goto (pc := 2543) (t := 2775) dL_law_2543 (by decide) ?_
  exact p_L_law_L2775 hl hk23 e
noncomputable def f_L_law_L2466 (xs : Nat → Int32) (xn : Nat) (k23 : Hp → Nat → Nat → Nat → Int32 → Option (Rs Int32)) (h : Hp) (a1 : Nat) (a2 : Nat) (a3 : Nat) (i4 : Int32) : Option (Rs Int32) :=
  chk (vp_in (i4 + (iN 1)) xn) <|
  chk (vp_in (i4 + (iN 2)) xn) <|
  chk (vp_in (i4 + (iN 3)) xn) <|
  bnd (f_L_makeClip h a1 (xs (Int32.toNatClampNeg (i4 + (iN 1)))) (xs (Int32.toNatClampNeg (i4 + (iN 2)))) (xs (Int32.toNatClampNeg (i4 + (iN 3)))) a3) fun h4 r5 =>
  chk (vp_in (i4 + (iN 1)) xn) <|
  chk (vp_in (i4 + (iN 2)) xn) <|
  chk (vp_in (i4 + (iN 3)) xn) <|
  chk (okr h4 a2 9) <|
  bnd (f_X9_makeClip h4 a2 (xs (Int32.toNatClampNeg (i4 + (iN 1)))) (xs (Int32.toNatClampNeg (i4 + (iN 2)))) (xs (Int32.toNatClampNeg (i4 + (iN 3))))) fun h10 r11 =>
  chk (okr h10 a2 9) <|
  bnd (f_X9_thrown h10 a2) fun h13 r14 =>
  if r14 = r5 then (
    if r5 = 0 then (
      chk (okr h13 a3 21) <|
      chk (vp_in (iN 0) (qW h13 a3)) <|
      if (lg_cmp (qL h13 a3 (Int32.toNatClampNeg (iN 0))) (Int32.toInt64 r11)) = 0 then (
        f_L_law_L2543 xs xn k23 h13 a1 a2 a3 i4
      ) else (
        some (h13, .inr (iN 0))
      )
    ) else (
      f_L_law_L2543 xs xn k23 h13 a1 a2 a3 i4
    )
  ) else (
    some (h13, .inr (iN 0))
  )
theorem p_L_law_L2466 {l : Launch} {K : Ctx} (hl : l.stackTraces = false) {k23 : Hp → Nat → Nat → Nat → Int32 → Option (Rs Int32)} (hk23 : ∀ (h : Hp) (a1 : Nat) (a2 : Nat) (a3 : Nat) (i4 : Int32) (t : Rs Int32), k23 h a1 a2 a3 i4 = some t → X l K mM_L_law (tgI t) 23 [(0, .ref 2000000), (1, .ref a1), (2, .ref a2), (3, .ref a3), (4, .int i4)] [] h) {h : Hp} {a1 : Nat} {a2 : Nat} {a3 : Nat} {i4 : Int32} {t : Rs Int32} (e : f_L_law_L2466 (kXs K) (kLn K) k23 h a1 a2 a3 i4 = some t) : X l K mM_L_law (tgI t) 2466 [(0, .ref 2000000), (1, .ref a1), (2, .ref a2), (3, .ref a3), (4, .int i4)] [] h := by
  unfold f_L_law_L2466 at e
  refine x_aload_n (pc := 2466) 1 dL_law_2466 rfl ?_
  refine x_aload_n (pc := 2467) 0 dL_law_2467 rfl ?_
  refine x_iload (pc := 2468) 4 dL_law_2468 rfl ?_
  refine x_iconst (pc := 2470) dL_law_2470 ?_
  refine x_iadd (pc := 2471) dL_law_2471 ?_
  obtain ⟨q1, e⟩ := chk_some e
  refine x_sld (pc := 2472) dL_law_2472 q1 ?_
  refine x_aload_n (pc := 2473) 0 dL_law_2473 rfl ?_
  refine x_iload (pc := 2474) 4 dL_law_2474 rfl ?_
  refine x_iconst (pc := 2476) dL_law_2476 ?_
  refine x_iadd (pc := 2477) dL_law_2477 ?_
  obtain ⟨q2, e⟩ := chk_some e
  refine x_sld (pc := 2478) dL_law_2478 q2 ?_
  refine x_aload_n (pc := 2479) 0 dL_law_2479 rfl ?_
  refine x_iload (pc := 2480) 4 dL_law_2480 rfl ?_
  refine x_iconst (pc := 2482) dL_law_2482 ?_
  refine x_iadd (pc := 2483) dL_law_2483 ?_
  obtain ⟨q3, e⟩ := chk_some e
  refine x_sld (pc := 2484) dL_law_2484 q3 ?_
  refine x_aload_n (pc := 2485) 3 dL_law_2485 rfl ?_
  rcases bnd_some e with ⟨h4, r5, ec, rfl⟩ | ⟨h4, r5, ec, e⟩
  · exact y_callX_x (pc := 2486) (c_L_makeClip hl ec) mf_L_makeClip tw_6_105 tw_6_104 dL_law_2486 (by decide) rfl rfl (leb rfl) (xx_out0 rfl)
  refine y_callX_i (pc := 2486) (c_L_makeClip hl ec) mf_L_makeClip tw_6_105 tw_6_104 dL_law_2486 (by decide) rfl rfl (leb rfl) ?_
  refine x_istore (pc := 2489) dL_law_2489 (by decide) rfl ?_
  refine x_aload_n (pc := 2491) 3 dL_law_2491 rfl ?_
  refine x_aload_n (pc := 2492) 1 dL_law_2492 rfl ?_
  refine x_iload (pc := 2493) 5 dL_law_2493 rfl ?_
  refine x_iconst (pc := 2495) dL_law_2495 ?_
  refine x_iadd (pc := 2496) dL_law_2496 ?_
  obtain ⟨q6, e⟩ := chk_some e
  refine x_sld (pc := 2497) dL_law_2497 q6 ?_
  refine x_aload_n (pc := 2498) 1 dL_law_2498 rfl ?_
  refine x_iload (pc := 2499) 5 dL_law_2499 rfl ?_
  refine x_iconst (pc := 2501) dL_law_2501 ?_
  refine x_iadd (pc := 2502) dL_law_2502 ?_
  obtain ⟨q7, e⟩ := chk_some e
  refine x_sld (pc := 2503) dL_law_2503 q7 ?_
  refine x_aload_n (pc := 2504) 1 dL_law_2504 rfl ?_
  refine x_iload (pc := 2505) 5 dL_law_2505 rfl ?_
  refine x_iconst (pc := 2507) dL_law_2507 ?_
  refine x_iadd (pc := 2508) dL_law_2508 ?_
  obtain ⟨q8, e⟩ := chk_some e
  refine x_sld (pc := 2509) dL_law_2509 q8 ?_
  obtain ⟨q9, e⟩ := chk_some e
  rcases bnd_some e with ⟨h10, r11, ec, rfl⟩ | ⟨h10, r11, ec, e⟩
  · exact y_callV_x (pc := 2510) (c_X9_makeClip hl ec) q9 mf_X9_makeClip tw_9_5 tw_9_6 lf_L_279 rfl rfl dL_law_2510 (by decide) rfl rfl (leb rfl) (xx_out0 rfl)
  refine y_callV_i (pc := 2510) (c_X9_makeClip hl ec) q9 mf_X9_makeClip tw_9_5 tw_9_6 lf_L_279 rfl rfl dL_law_2510 (by decide) rfl rfl (leb rfl) ?_
  refine x_istore (pc := 2513) dL_law_2513 (by decide) rfl ?_
  refine x_aload_n (pc := 2515) 4 dL_law_2515 rfl ?_
  obtain ⟨q12, e⟩ := chk_some e
  rcases bnd_some e with ⟨h13, r14, ec, rfl⟩ | ⟨h13, r14, ec, e⟩
  · exact y_callV_x (pc := 2516) (c_X9_thrown hl ec) q12 mf_X9_thrown tw_7_12 tw_7_13 lf_L_155 rfl rfl dL_law_2516 (by decide) rfl rfl (leb rfl) (xx_out0 rfl)
  refine y_callV_i (pc := 2516) (c_X9_thrown hl ec) q12 mf_X9_thrown tw_7_12 tw_7_13 lf_L_155 rfl rfl dL_law_2516 (by decide) rfl rfl (leb rfl) ?_
  refine x_iload (pc := 2519) 1 dL_law_2519 rfl ?_
  rcases ite_some e with ⟨q15, e⟩ | ⟨q15, e⟩
  · refine x_icmp_eq_t (pc := 2521) (t := 2526) dL_law_2521 (by decide) q15 ?_
    refine x_iload (pc := 2526) 1 dL_law_2526 rfl ?_
    rcases ite_some e with ⟨q16, e⟩ | ⟨q16, e⟩
    · refine x_if_ne_f (pc := 2528) (t := 2543) dL_law_2528 (by decide) q16 ?_
      refine x_aload_n (pc := 2531) 5 dL_law_2531 rfl ?_
      refine x_iconst (pc := 2532) dL_law_2532 ?_
      obtain ⟨q17, e⟩ := chk_some e
      obtain ⟨q18, e⟩ := chk_some e
      refine x_lald (pc := 2533) dL_law_2533 q17 q18 ?_
      refine x_iload (pc := 2534) 0 dL_law_2534 rfl ?_
      refine x_i2l (pc := 2536) dL_law_2536 ?_
      refine x_lcmp (pc := 2537) dL_law_2537 ?_
      rcases ite_some e with ⟨q19, e⟩ | ⟨q19, e⟩
      · refine x_if_eq_t (pc := 2538) (t := 2543) dL_law_2538 (by decide) q19 ?_
        exact x_sub1 (p_L_law_L2543 hl hk23 e) [2, 3, 4, 5, 6] rfl
      · refine x_if_eq_f (pc := 2538) (t := 2543) dL_law_2538 (by decide) q19 ?_
        refine x_iconst (pc := 2541) dL_law_2541 ?_
        cases Option.some.inj e
        exact x_zret (pc := 2542) rfl (Or.inl rfl) dL_law_2542
    · refine x_if_ne_t (pc := 2528) (t := 2543) dL_law_2528 (by decide) q16 ?_
      exact x_sub1 (p_L_law_L2543 hl hk23 e) [2, 3, 4, 5, 6] rfl
  · refine x_icmp_eq_f (pc := 2521) (t := 2526) dL_law_2521 (by decide) q15 ?_
    refine x_iconst (pc := 2524) dL_law_2524 ?_
    cases Option.some.inj e
    exact x_zret (pc := 2525) rfl (Or.inl rfl) dL_law_2525
noncomputable def f_L_law_L2623 (xs : Nat → Int32) (xn : Nat) (k23 : Hp → Nat → Nat → Nat → Int32 → Option (Rs Int32)) (h : Hp) (a1 : Nat) (a2 : Nat) (a3 : Nat) (i4 : Int32) : Option (Rs Int32) :=
  f_L_law_L2775 xs xn k23 h a1 a2 a3 i4
theorem p_L_law_L2623 {l : Launch} {K : Ctx} (hl : l.stackTraces = false) {k23 : Hp → Nat → Nat → Nat → Int32 → Option (Rs Int32)} (hk23 : ∀ (h : Hp) (a1 : Nat) (a2 : Nat) (a3 : Nat) (i4 : Int32) (t : Rs Int32), k23 h a1 a2 a3 i4 = some t → X l K mM_L_law (tgI t) 23 [(0, .ref 2000000), (1, .ref a1), (2, .ref a2), (3, .ref a3), (4, .int i4)] [] h) {h : Hp} {a1 : Nat} {a2 : Nat} {a3 : Nat} {i4 : Int32} {t : Rs Int32} (e : f_L_law_L2623 (kXs K) (kLn K) k23 h a1 a2 a3 i4 = some t) : X l K mM_L_law (tgI t) 2623 [(0, .ref 2000000), (1, .ref a1), (2, .ref a2), (3, .ref a3), (4, .int i4)] [] h := by
  unfold f_L_law_L2623 at e
  refine x_goto (pc := 2623) (t := 2775) dL_law_2623 (by decide) ?_
  exact p_L_law_L2775 hl hk23 e
noncomputable def f_L_law_L2546 (xs : Nat → Int32) (xn : Nat) (k23 : Hp → Nat → Nat → Nat → Int32 → Option (Rs Int32)) (h : Hp) (a1 : Nat) (a2 : Nat) (a3 : Nat) (i4 : Int32) : Option (Rs Int32) :=
  chk (vp_in (i4 + (iN 1)) xn) <|
  chk (vp_in (i4 + (iN 2)) xn) <|
  chk (vp_in (i4 + (iN 3)) xn) <|
  bnd (f_L_copyTo h a1 (xs (Int32.toNatClampNeg (i4 + (iN 1)))) (xs (Int32.toNatClampNeg (i4 + (iN 2)))) (xs (Int32.toNatClampNeg (i4 + (iN 3)))) a3) fun h4 r5 =>
  chk (vp_in (i4 + (iN 1)) xn) <|
  chk (vp_in (i4 + (iN 2)) xn) <|
  chk (vp_in (i4 + (iN 3)) xn) <|
  chk (okr h4 a2 9) <|
  bnd (f_X9_copyTo h4 a2 (xs (Int32.toNatClampNeg (i4 + (iN 1)))) (xs (Int32.toNatClampNeg (i4 + (iN 2)))) (xs (Int32.toNatClampNeg (i4 + (iN 3))))) fun h10 r11 =>
  chk (okr h10 a2 9) <|
  bnd (f_X9_thrown h10 a2) fun h13 r14 =>
  if r14 = r5 then (
    if r5 = 0 then (
      chk (okr h13 a3 21) <|
      chk (vp_in (iN 0) (qW h13 a3)) <|
      if (lg_cmp (qL h13 a3 (Int32.toNatClampNeg (iN 0))) (Int32.toInt64 r11)) = 0 then (
        f_L_law_L2623 xs xn k23 h13 a1 a2 a3 i4
      ) else (
        some (h13, .inr (iN 0))
      )
    ) else (
      f_L_law_L2623 xs xn k23 h13 a1 a2 a3 i4
    )
  ) else (
    some (h13, .inr (iN 0))
  )
theorem p_L_law_L2546 {l : Launch} {K : Ctx} (hl : l.stackTraces = false) {k23 : Hp → Nat → Nat → Nat → Int32 → Option (Rs Int32)} (hk23 : ∀ (h : Hp) (a1 : Nat) (a2 : Nat) (a3 : Nat) (i4 : Int32) (t : Rs Int32), k23 h a1 a2 a3 i4 = some t → X l K mM_L_law (tgI t) 23 [(0, .ref 2000000), (1, .ref a1), (2, .ref a2), (3, .ref a3), (4, .int i4)] [] h) {h : Hp} {a1 : Nat} {a2 : Nat} {a3 : Nat} {i4 : Int32} {t : Rs Int32} (e : f_L_law_L2546 (kXs K) (kLn K) k23 h a1 a2 a3 i4 = some t) : X l K mM_L_law (tgI t) 2546 [(0, .ref 2000000), (1, .ref a1), (2, .ref a2), (3, .ref a3), (4, .int i4)] [] h := by
  unfold f_L_law_L2546 at e
  refine x_aload_n (pc := 2546) 1 dL_law_2546 rfl ?_
  refine x_aload_n (pc := 2547) 0 dL_law_2547 rfl ?_
  refine x_iload (pc := 2548) 4 dL_law_2548 rfl ?_
  refine x_iconst (pc := 2550) dL_law_2550 ?_
  refine x_iadd (pc := 2551) dL_law_2551 ?_
  obtain ⟨q1, e⟩ := chk_some e
  refine x_sld (pc := 2552) dL_law_2552 q1 ?_
  refine x_aload_n (pc := 2553) 0 dL_law_2553 rfl ?_
  refine x_iload (pc := 2554) 4 dL_law_2554 rfl ?_
  refine x_iconst (pc := 2556) dL_law_2556 ?_
  refine x_iadd (pc := 2557) dL_law_2557 ?_
  obtain ⟨q2, e⟩ := chk_some e
  refine x_sld (pc := 2558) dL_law_2558 q2 ?_
  refine x_aload_n (pc := 2559) 0 dL_law_2559 rfl ?_
  refine x_iload (pc := 2560) 4 dL_law_2560 rfl ?_
  refine x_iconst (pc := 2562) dL_law_2562 ?_
  refine x_iadd (pc := 2563) dL_law_2563 ?_
  obtain ⟨q3, e⟩ := chk_some e
  refine x_sld (pc := 2564) dL_law_2564 q3 ?_
  refine x_aload_n (pc := 2565) 3 dL_law_2565 rfl ?_
  rcases bnd_some e with ⟨h4, r5, ec, rfl⟩ | ⟨h4, r5, ec, e⟩
  · exact y_callX_x (pc := 2566) (c_L_copyTo hl ec) mf_L_copyTo tw_6_116 tw_6_115 dL_law_2566 (by decide) rfl rfl (leb rfl) (xx_out0 rfl)
  refine y_callX_i (pc := 2566) (c_L_copyTo hl ec) mf_L_copyTo tw_6_116 tw_6_115 dL_law_2566 (by decide) rfl rfl (leb rfl) ?_
  refine x_istore (pc := 2569) dL_law_2569 (by decide) rfl ?_
  refine x_aload_n (pc := 2571) 3 dL_law_2571 rfl ?_
  refine x_aload_n (pc := 2572) 1 dL_law_2572 rfl ?_
  refine x_iload (pc := 2573) 5 dL_law_2573 rfl ?_
  refine x_iconst (pc := 2575) dL_law_2575 ?_
  refine x_iadd (pc := 2576) dL_law_2576 ?_
  obtain ⟨q6, e⟩ := chk_some e
  refine x_sld (pc := 2577) dL_law_2577 q6 ?_
  refine x_aload_n (pc := 2578) 1 dL_law_2578 rfl ?_
  refine x_iload (pc := 2579) 5 dL_law_2579 rfl ?_
  refine x_iconst (pc := 2581) dL_law_2581 ?_
  refine x_iadd (pc := 2582) dL_law_2582 ?_
  obtain ⟨q7, e⟩ := chk_some e
  refine x_sld (pc := 2583) dL_law_2583 q7 ?_
  refine x_aload_n (pc := 2584) 1 dL_law_2584 rfl ?_
  refine x_iload (pc := 2585) 5 dL_law_2585 rfl ?_
  refine x_iconst (pc := 2587) dL_law_2587 ?_
  refine x_iadd (pc := 2588) dL_law_2588 ?_
  obtain ⟨q8, e⟩ := chk_some e
  refine x_sld (pc := 2589) dL_law_2589 q8 ?_
  obtain ⟨q9, e⟩ := chk_some e
  rcases bnd_some e with ⟨h10, r11, ec, rfl⟩ | ⟨h10, r11, ec, e⟩
  · exact y_callV_x (pc := 2590) (c_X9_copyTo hl ec) q9 mf_X9_copyTo tw_9_12 tw_9_13 lf_L_282 rfl rfl dL_law_2590 (by decide) rfl rfl (leb rfl) (xx_out0 rfl)
  refine y_callV_i (pc := 2590) (c_X9_copyTo hl ec) q9 mf_X9_copyTo tw_9_12 tw_9_13 lf_L_282 rfl rfl dL_law_2590 (by decide) rfl rfl (leb rfl) ?_
  refine x_istore (pc := 2593) dL_law_2593 (by decide) rfl ?_
  refine x_aload_n (pc := 2595) 4 dL_law_2595 rfl ?_
  obtain ⟨q12, e⟩ := chk_some e
  rcases bnd_some e with ⟨h13, r14, ec, rfl⟩ | ⟨h13, r14, ec, e⟩
  · exact y_callV_x (pc := 2596) (c_X9_thrown hl ec) q12 mf_X9_thrown tw_7_12 tw_7_13 lf_L_155 rfl rfl dL_law_2596 (by decide) rfl rfl (leb rfl) (xx_out0 rfl)
  refine y_callV_i (pc := 2596) (c_X9_thrown hl ec) q12 mf_X9_thrown tw_7_12 tw_7_13 lf_L_155 rfl rfl dL_law_2596 (by decide) rfl rfl (leb rfl) ?_
  refine x_iload (pc := 2599) 1 dL_law_2599 rfl ?_
  rcases ite_some e with ⟨q15, e⟩ | ⟨q15, e⟩
  · refine x_icmp_eq_t (pc := 2601) (t := 2606) dL_law_2601 (by decide) q15 ?_
    refine x_iload (pc := 2606) 1 dL_law_2606 rfl ?_
    rcases ite_some e with ⟨q16, e⟩ | ⟨q16, e⟩
    · refine x_if_ne_f (pc := 2608) (t := 2623) dL_law_2608 (by decide) q16 ?_
      refine x_aload_n (pc := 2611) 5 dL_law_2611 rfl ?_
      refine x_iconst (pc := 2612) dL_law_2612 ?_
      obtain ⟨q17, e⟩ := chk_some e
      obtain ⟨q18, e⟩ := chk_some e
      refine x_lald (pc := 2613) dL_law_2613 q17 q18 ?_
      refine x_iload (pc := 2614) 0 dL_law_2614 rfl ?_
      refine x_i2l (pc := 2616) dL_law_2616 ?_
      refine x_lcmp (pc := 2617) dL_law_2617 ?_
      rcases ite_some e with ⟨q19, e⟩ | ⟨q19, e⟩
      · refine x_if_eq_t (pc := 2618) (t := 2623) dL_law_2618 (by decide) q19 ?_
        exact x_sub1 (p_L_law_L2623 hl hk23 e) [2, 3, 4, 5, 6] rfl
      · refine x_if_eq_f (pc := 2618) (t := 2623) dL_law_2618 (by decide) q19 ?_
        refine x_iconst (pc := 2621) dL_law_2621 ?_
        cases Option.some.inj e
        exact x_zret (pc := 2622) rfl (Or.inl rfl) dL_law_2622
    · refine x_if_ne_t (pc := 2608) (t := 2623) dL_law_2608 (by decide) q16 ?_
      exact x_sub1 (p_L_law_L2623 hl hk23 e) [2, 3, 4, 5, 6] rfl
  · refine x_icmp_eq_f (pc := 2601) (t := 2606) dL_law_2601 (by decide) q15 ?_
    refine x_iconst (pc := 2604) dL_law_2604 ?_
    cases Option.some.inj e
    exact x_zret (pc := 2605) rfl (Or.inl rfl) dL_law_2605
noncomputable def f_L_law_L2715 (xs : Nat → Int32) (xn : Nat) (k23 : Hp → Nat → Nat → Nat → Int32 → Option (Rs Int32)) (h : Hp) (a1 : Nat) (a2 : Nat) (a3 : Nat) (i4 : Int32) : Option (Rs Int32) :=
  f_L_law_L2775 xs xn k23 h a1 a2 a3 i4
theorem p_L_law_L2715 {l : Launch} {K : Ctx} (hl : l.stackTraces = false) {k23 : Hp → Nat → Nat → Nat → Int32 → Option (Rs Int32)} (hk23 : ∀ (h : Hp) (a1 : Nat) (a2 : Nat) (a3 : Nat) (i4 : Int32) (t : Rs Int32), k23 h a1 a2 a3 i4 = some t → X l K mM_L_law (tgI t) 23 [(0, .ref 2000000), (1, .ref a1), (2, .ref a2), (3, .ref a3), (4, .int i4)] [] h) {h : Hp} {a1 : Nat} {a2 : Nat} {a3 : Nat} {i4 : Int32} {t : Rs Int32} (e : f_L_law_L2715 (kXs K) (kLn K) k23 h a1 a2 a3 i4 = some t) : X l K mM_L_law (tgI t) 2715 [(0, .ref 2000000), (1, .ref a1), (2, .ref a2), (3, .ref a3), (4, .int i4)] [] h := by
  unfold f_L_law_L2715 at e
  refine x_goto (pc := 2715) (t := 2775) dL_law_2715 (by decide) ?_
  exact p_L_law_L2775 hl hk23 e
noncomputable def f_L_law_L2626 (xs : Nat → Int32) (xn : Nat) (k23 : Hp → Nat → Nat → Nat → Int32 → Option (Rs Int32)) (h : Hp) (a1 : Nat) (a2 : Nat) (a3 : Nat) (i4 : Int32) : Option (Rs Int32) :=
  chk (vp_in (i4 + (iN 1)) xn) <|
  chk (vp_in (i4 + (iN 2)) xn) <|
  chk (vp_in (i4 + (iN 3)) xn) <|
  chk (vp_in (i4 + (iN 4)) xn) <|
  bnd (f_L_paste h a1 (xs (Int32.toNatClampNeg (i4 + (iN 1)))) (xs (Int32.toNatClampNeg (i4 + (iN 2)))) (xs (Int32.toNatClampNeg (i4 + (iN 3)))) (xs (Int32.toNatClampNeg (i4 + (iN 4)))) a3) fun h5 r6 =>
  chk (vp_in (i4 + (iN 1)) xn) <|
  chk (vp_in (i4 + (iN 2)) xn) <|
  chk (vp_in (i4 + (iN 3)) xn) <|
  chk (vp_in (i4 + (iN 4)) xn) <|
  chk (okr h5 a2 9) <|
  bnd (f_X9_paste h5 a2 (xs (Int32.toNatClampNeg (i4 + (iN 1)))) (xs (Int32.toNatClampNeg (i4 + (iN 2)))) (xs (Int32.toNatClampNeg (i4 + (iN 3)))) (xs (Int32.toNatClampNeg (i4 + (iN 4))))) fun h12 r13 =>
  chk (okr h12 a2 9) <|
  bnd (f_X9_thrown h12 a2) fun h15 r16 =>
  if r16 = r6 then (
    if r6 = 0 then (
      chk (okr h15 a3 21) <|
      chk (vp_in (iN 0) (qW h15 a3)) <|
      if (lg_cmp (qL h15 a3 (Int32.toNatClampNeg (iN 0))) (Int32.toInt64 r13)) = 0 then (
        f_L_law_L2715 xs xn k23 h15 a1 a2 a3 i4
      ) else (
        some (h15, .inr (iN 0))
      )
    ) else (
      f_L_law_L2715 xs xn k23 h15 a1 a2 a3 i4
    )
  ) else (
    some (h15, .inr (iN 0))
  )
theorem p_L_law_L2626 {l : Launch} {K : Ctx} (hl : l.stackTraces = false) {k23 : Hp → Nat → Nat → Nat → Int32 → Option (Rs Int32)} (hk23 : ∀ (h : Hp) (a1 : Nat) (a2 : Nat) (a3 : Nat) (i4 : Int32) (t : Rs Int32), k23 h a1 a2 a3 i4 = some t → X l K mM_L_law (tgI t) 23 [(0, .ref 2000000), (1, .ref a1), (2, .ref a2), (3, .ref a3), (4, .int i4)] [] h) {h : Hp} {a1 : Nat} {a2 : Nat} {a3 : Nat} {i4 : Int32} {t : Rs Int32} (e : f_L_law_L2626 (kXs K) (kLn K) k23 h a1 a2 a3 i4 = some t) : X l K mM_L_law (tgI t) 2626 [(0, .ref 2000000), (1, .ref a1), (2, .ref a2), (3, .ref a3), (4, .int i4)] [] h := by
  unfold f_L_law_L2626 at e
  refine x_aload_n (pc := 2626) 1 dL_law_2626 rfl ?_
  refine x_aload_n (pc := 2627) 0 dL_law_2627 rfl ?_
  refine x_iload (pc := 2628) 4 dL_law_2628 rfl ?_
  refine x_iconst (pc := 2630) dL_law_2630 ?_
  refine x_iadd (pc := 2631) dL_law_2631 ?_
  obtain ⟨q1, e⟩ := chk_some e
  refine x_sld (pc := 2632) dL_law_2632 q1 ?_
  refine x_aload_n (pc := 2633) 0 dL_law_2633 rfl ?_
  refine x_iload (pc := 2634) 4 dL_law_2634 rfl ?_
  refine x_iconst (pc := 2636) dL_law_2636 ?_
  refine x_iadd (pc := 2637) dL_law_2637 ?_
  obtain ⟨q2, e⟩ := chk_some e
  refine x_sld (pc := 2638) dL_law_2638 q2 ?_
  refine x_aload_n (pc := 2639) 0 dL_law_2639 rfl ?_
  refine x_iload (pc := 2640) 4 dL_law_2640 rfl ?_
  refine x_iconst (pc := 2642) dL_law_2642 ?_
  refine x_iadd (pc := 2643) dL_law_2643 ?_
  obtain ⟨q3, e⟩ := chk_some e
  refine x_sld (pc := 2644) dL_law_2644 q3 ?_
  refine x_aload_n (pc := 2645) 0 dL_law_2645 rfl ?_
  refine x_iload (pc := 2646) 4 dL_law_2646 rfl ?_
  refine x_iconst (pc := 2648) dL_law_2648 ?_
  refine x_iadd (pc := 2649) dL_law_2649 ?_
  obtain ⟨q4, e⟩ := chk_some e
  refine x_sld (pc := 2650) dL_law_2650 q4 ?_
  refine x_aload_n (pc := 2651) 3 dL_law_2651 rfl ?_
  rcases bnd_some e with ⟨h5, r6, ec, rfl⟩ | ⟨h5, r6, ec, e⟩
  · exact y_callX_x (pc := 2652) (c_L_paste hl ec) mf_L_paste tw_6_129 tw_6_128 dL_law_2652 (by decide) rfl rfl (leb rfl) (xx_out0 rfl)
  refine y_callX_i (pc := 2652) (c_L_paste hl ec) mf_L_paste tw_6_129 tw_6_128 dL_law_2652 (by decide) rfl rfl (leb rfl) ?_
  refine x_istore (pc := 2655) dL_law_2655 (by decide) rfl ?_
  refine x_aload_n (pc := 2657) 3 dL_law_2657 rfl ?_
  refine x_aload_n (pc := 2658) 1 dL_law_2658 rfl ?_
  refine x_iload (pc := 2659) 5 dL_law_2659 rfl ?_
  refine x_iconst (pc := 2661) dL_law_2661 ?_
  refine x_iadd (pc := 2662) dL_law_2662 ?_
  obtain ⟨q7, e⟩ := chk_some e
  refine x_sld (pc := 2663) dL_law_2663 q7 ?_
  refine x_aload_n (pc := 2664) 1 dL_law_2664 rfl ?_
  refine x_iload (pc := 2665) 5 dL_law_2665 rfl ?_
  refine x_iconst (pc := 2667) dL_law_2667 ?_
  refine x_iadd (pc := 2668) dL_law_2668 ?_
  obtain ⟨q8, e⟩ := chk_some e
  refine x_sld (pc := 2669) dL_law_2669 q8 ?_
  refine x_aload_n (pc := 2670) 1 dL_law_2670 rfl ?_
  refine x_iload (pc := 2671) 5 dL_law_2671 rfl ?_
  refine x_iconst (pc := 2673) dL_law_2673 ?_
  refine x_iadd (pc := 2674) dL_law_2674 ?_
  obtain ⟨q9, e⟩ := chk_some e
  refine x_sld (pc := 2675) dL_law_2675 q9 ?_
  refine x_aload_n (pc := 2676) 1 dL_law_2676 rfl ?_
  refine x_iload (pc := 2677) 5 dL_law_2677 rfl ?_
  refine x_iconst (pc := 2679) dL_law_2679 ?_
  refine x_iadd (pc := 2680) dL_law_2680 ?_
  obtain ⟨q10, e⟩ := chk_some e
  refine x_sld (pc := 2681) dL_law_2681 q10 ?_
  obtain ⟨q11, e⟩ := chk_some e
  rcases bnd_some e with ⟨h12, r13, ec, rfl⟩ | ⟨h12, r13, ec, e⟩
  · exact y_callV_x (pc := 2682) (c_X9_paste hl ec) q11 mf_X9_paste tw_9_19 tw_9_20 lf_L_285 rfl rfl dL_law_2682 (by decide) rfl rfl (leb rfl) (xx_out0 rfl)
  refine y_callV_i (pc := 2682) (c_X9_paste hl ec) q11 mf_X9_paste tw_9_19 tw_9_20 lf_L_285 rfl rfl dL_law_2682 (by decide) rfl rfl (leb rfl) ?_
  refine x_istore (pc := 2685) dL_law_2685 (by decide) rfl ?_
  refine x_aload_n (pc := 2687) 4 dL_law_2687 rfl ?_
  obtain ⟨q14, e⟩ := chk_some e
  rcases bnd_some e with ⟨h15, r16, ec, rfl⟩ | ⟨h15, r16, ec, e⟩
  · exact y_callV_x (pc := 2688) (c_X9_thrown hl ec) q14 mf_X9_thrown tw_7_12 tw_7_13 lf_L_155 rfl rfl dL_law_2688 (by decide) rfl rfl (leb rfl) (xx_out0 rfl)
  refine y_callV_i (pc := 2688) (c_X9_thrown hl ec) q14 mf_X9_thrown tw_7_12 tw_7_13 lf_L_155 rfl rfl dL_law_2688 (by decide) rfl rfl (leb rfl) ?_
  refine x_iload (pc := 2691) 1 dL_law_2691 rfl ?_
  rcases ite_some e with ⟨q17, e⟩ | ⟨q17, e⟩
  · refine x_icmp_eq_t (pc := 2693) (t := 2698) dL_law_2693 (by decide) q17 ?_
    refine x_iload (pc := 2698) 1 dL_law_2698 rfl ?_
    rcases ite_some e with ⟨q18, e⟩ | ⟨q18, e⟩
    · refine x_if_ne_f (pc := 2700) (t := 2715) dL_law_2700 (by decide) q18 ?_
      refine x_aload_n (pc := 2703) 5 dL_law_2703 rfl ?_
      refine x_iconst (pc := 2704) dL_law_2704 ?_
      obtain ⟨q19, e⟩ := chk_some e
      obtain ⟨q20, e⟩ := chk_some e
      refine x_lald (pc := 2705) dL_law_2705 q19 q20 ?_
      refine x_iload (pc := 2706) 0 dL_law_2706 rfl ?_
      refine x_i2l (pc := 2708) dL_law_2708 ?_
      refine x_lcmp (pc := 2709) dL_law_2709 ?_
      rcases ite_some e with ⟨q21, e⟩ | ⟨q21, e⟩
      · refine x_if_eq_t (pc := 2710) (t := 2715) dL_law_2710 (by decide) q21 ?_
        exact x_sub1 (p_L_law_L2715 hl hk23 e) [2, 3, 4, 5, 6] rfl
      · refine x_if_eq_f (pc := 2710) (t := 2715) dL_law_2710 (by decide) q21 ?_
        refine x_iconst (pc := 2713) dL_law_2713 ?_
        cases Option.some.inj e
        exact x_zret (pc := 2714) rfl (Or.inl rfl) dL_law_2714
    · refine x_if_ne_t (pc := 2700) (t := 2715) dL_law_2700 (by decide) q18 ?_
      exact x_sub1 (p_L_law_L2715 hl hk23 e) [2, 3, 4, 5, 6] rfl
  · refine x_icmp_eq_f (pc := 2693) (t := 2698) dL_law_2693 (by decide) q17 ?_
    refine x_iconst (pc := 2696) dL_law_2696 ?_
    cases Option.some.inj e
    exact x_zret (pc := 2697) rfl (Or.inl rfl) dL_law_2697
noncomputable def f_L_law_L2718 (xs : Nat → Int32) (xn : Nat) (k23 : Hp → Nat → Nat → Nat → Int32 → Option (Rs Int32)) (h : Hp) (a1 : Nat) (a2 : Nat) (a3 : Nat) (i4 : Int32) : Option (Rs Int32) :=
  chk (okr h a1 8) <|
  bnd (f_X8_save h a1) fun h2 r3 =>
  chk (okr h2 a2 9) <|
  bnd (f_X9_save h2 a2) fun h5 r6 =>
  if r3 = r6 then (
    f_L_law_L2775 xs xn k23 h5 a1 a2 a3 i4
  ) else (
    some (h5, .inr (iN 0))
  )
theorem p_L_law_L2718 {l : Launch} {K : Ctx} (hl : l.stackTraces = false) {k23 : Hp → Nat → Nat → Nat → Int32 → Option (Rs Int32)} (hk23 : ∀ (h : Hp) (a1 : Nat) (a2 : Nat) (a3 : Nat) (i4 : Int32) (t : Rs Int32), k23 h a1 a2 a3 i4 = some t → X l K mM_L_law (tgI t) 23 [(0, .ref 2000000), (1, .ref a1), (2, .ref a2), (3, .ref a3), (4, .int i4)] [] h) {h : Hp} {a1 : Nat} {a2 : Nat} {a3 : Nat} {i4 : Int32} {t : Rs Int32} (e : f_L_law_L2718 (kXs K) (kLn K) k23 h a1 a2 a3 i4 = some t) : X l K mM_L_law (tgI t) 2718 [(0, .ref 2000000), (1, .ref a1), (2, .ref a2), (3, .ref a3), (4, .int i4)] [] h := by
  unfold f_L_law_L2718 at e
  refine x_aload_n (pc := 2718) 1 dL_law_2718 rfl ?_
  obtain ⟨q1, e⟩ := chk_some e
  rcases bnd_some e with ⟨h2, r3, ec, rfl⟩ | ⟨h2, r3, ec, e⟩
  · exact y_callV_x (pc := 2719) (c_X8_save hl ec) q1 mf_X8_save tw_3_55 tw_3_56 lf_L_286 rfl rfl dL_law_2719 (by decide) rfl rfl (leb rfl) (xx_out0 rfl)
  refine y_callV_i (pc := 2719) (c_X8_save hl ec) q1 mf_X8_save tw_3_55 tw_3_56 lf_L_286 rfl rfl dL_law_2719 (by decide) rfl rfl (leb rfl) ?_
  refine x_aload_n (pc := 2722) 2 dL_law_2722 rfl ?_
  obtain ⟨q4, e⟩ := chk_some e
  rcases bnd_some e with ⟨h5, r6, ec, rfl⟩ | ⟨h5, r6, ec, e⟩
  · exact y_callV_x (pc := 2723) (c_X9_save hl ec) q4 mf_X9_save tw_9_23 tw_9_24 lf_L_289 rfl rfl dL_law_2723 (by decide) rfl rfl (leb rfl) (xx_out0 rfl)
  refine y_callV_i (pc := 2723) (c_X9_save hl ec) q4 mf_X9_save tw_9_23 tw_9_24 lf_L_289 rfl rfl dL_law_2723 (by decide) rfl rfl (leb rfl) ?_
  rcases ite_some e with ⟨q7, e⟩ | ⟨q7, e⟩
  · refine x_icmp_eq_t (pc := 2726) (t := 2775) dL_law_2726 (by decide) q7 ?_
    exact p_L_law_L2775 hl hk23 e
  · refine x_icmp_eq_f (pc := 2726) (t := 2775) dL_law_2726 (by decide) q7 ?_
    refine x_iconst (pc := 2729) dL_law_2729 ?_
    cases Option.some.inj e
    exact x_zret (pc := 2730) rfl (Or.inl rfl) dL_law_2730
noncomputable def f_L_law_L2772 (xs : Nat → Int32) (xn : Nat) (k23 : Hp → Nat → Nat → Nat → Int32 → Option (Rs Int32)) (h : Hp) (a1 : Nat) (a2 : Nat) (a3 : Nat) (i4 : Int32) : Option (Rs Int32) :=
  f_L_law_L2775 xs xn k23 h a1 a2 a3 i4
theorem p_L_law_L2772 {l : Launch} {K : Ctx} (hl : l.stackTraces = false) {k23 : Hp → Nat → Nat → Nat → Int32 → Option (Rs Int32)} (hk23 : ∀ (h : Hp) (a1 : Nat) (a2 : Nat) (a3 : Nat) (i4 : Int32) (t : Rs Int32), k23 h a1 a2 a3 i4 = some t → X l K mM_L_law (tgI t) 23 [(0, .ref 2000000), (1, .ref a1), (2, .ref a2), (3, .ref a3), (4, .int i4)] [] h) {h : Hp} {a1 : Nat} {a2 : Nat} {a3 : Nat} {i4 : Int32} {t : Rs Int32} (e : f_L_law_L2772 (kXs K) (kLn K) k23 h a1 a2 a3 i4 = some t) : X l K mM_L_law (tgI t) 2772 [(0, .ref 2000000), (1, .ref a1), (2, .ref a2), (3, .ref a3), (4, .int i4)] [] h := by
  unfold f_L_law_L2772 at e
  refine x_goto (pc := 2772) (t := 2775) dL_law_2772 (by decide) ?_
  exact p_L_law_L2775 hl hk23 e
noncomputable def f_L_law_L2731 (xs : Nat → Int32) (xn : Nat) (k23 : Hp → Nat → Nat → Nat → Int32 → Option (Rs Int32)) (h : Hp) (a1 : Nat) (a2 : Nat) (a3 : Nat) (i4 : Int32) : Option (Rs Int32) :=
  bnd (f_L_restore h a1 a3) fun h1 r2 =>
  chk (okr h1 a2 9) <|
  bnd (f_X9_restore h1 a2) fun h4 r5 =>
  chk (okr h4 a2 9) <|
  bnd (f_X9_thrown h4 a2) fun h7 r8 =>
  if r8 = r2 then (
    if r2 = 0 then (
      chk (okr h7 a3 21) <|
      chk (vp_in (iN 0) (qW h7 a3)) <|
      if (lg_cmp (qL h7 a3 (Int32.toNatClampNeg (iN 0))) (Int32.toInt64 r5)) = 0 then (
        f_L_law_L2772 xs xn k23 h7 a1 a2 a3 i4
      ) else (
        some (h7, .inr (iN 0))
      )
    ) else (
      f_L_law_L2772 xs xn k23 h7 a1 a2 a3 i4
    )
  ) else (
    some (h7, .inr (iN 0))
  )
theorem p_L_law_L2731 {l : Launch} {K : Ctx} (hl : l.stackTraces = false) {k23 : Hp → Nat → Nat → Nat → Int32 → Option (Rs Int32)} (hk23 : ∀ (h : Hp) (a1 : Nat) (a2 : Nat) (a3 : Nat) (i4 : Int32) (t : Rs Int32), k23 h a1 a2 a3 i4 = some t → X l K mM_L_law (tgI t) 23 [(0, .ref 2000000), (1, .ref a1), (2, .ref a2), (3, .ref a3), (4, .int i4)] [] h) {h : Hp} {a1 : Nat} {a2 : Nat} {a3 : Nat} {i4 : Int32} {t : Rs Int32} (e : f_L_law_L2731 (kXs K) (kLn K) k23 h a1 a2 a3 i4 = some t) : X l K mM_L_law (tgI t) 2731 [(0, .ref 2000000), (1, .ref a1), (2, .ref a2), (3, .ref a3), (4, .int i4)] [] h := by
  unfold f_L_law_L2731 at e
  refine x_aload_n (pc := 2731) 1 dL_law_2731 rfl ?_
  refine x_aload_n (pc := 2732) 3 dL_law_2732 rfl ?_
  rcases bnd_some e with ⟨h1, r2, ec, rfl⟩ | ⟨h1, r2, ec, e⟩
  · exact y_callX_x (pc := 2733) (c_L_restore hl ec) mf_L_restore tw_6_136 tw_6_135 dL_law_2733 (by decide) rfl rfl (leb rfl) (xx_out0 rfl)
  refine y_callX_i (pc := 2733) (c_L_restore hl ec) mf_L_restore tw_6_136 tw_6_135 dL_law_2733 (by decide) rfl rfl (leb rfl) ?_
  refine x_istore (pc := 2736) dL_law_2736 (by decide) rfl ?_
  refine x_aload_n (pc := 2738) 3 dL_law_2738 rfl ?_
  obtain ⟨q3, e⟩ := chk_some e
  rcases bnd_some e with ⟨h4, r5, ec, rfl⟩ | ⟨h4, r5, ec, e⟩
  · exact y_callV_x (pc := 2739) (c_X9_restore hl ec) q3 mf_X9_restore tw_9_27 tw_9_28 lf_L_292 rfl rfl dL_law_2739 (by decide) rfl rfl (leb rfl) (xx_out0 rfl)
  refine y_callV_i (pc := 2739) (c_X9_restore hl ec) q3 mf_X9_restore tw_9_27 tw_9_28 lf_L_292 rfl rfl dL_law_2739 (by decide) rfl rfl (leb rfl) ?_
  refine x_istore (pc := 2742) dL_law_2742 (by decide) rfl ?_
  refine x_aload_n (pc := 2744) 4 dL_law_2744 rfl ?_
  obtain ⟨q6, e⟩ := chk_some e
  rcases bnd_some e with ⟨h7, r8, ec, rfl⟩ | ⟨h7, r8, ec, e⟩
  · exact y_callV_x (pc := 2745) (c_X9_thrown hl ec) q6 mf_X9_thrown tw_7_12 tw_7_13 lf_L_155 rfl rfl dL_law_2745 (by decide) rfl rfl (leb rfl) (xx_out0 rfl)
  refine y_callV_i (pc := 2745) (c_X9_thrown hl ec) q6 mf_X9_thrown tw_7_12 tw_7_13 lf_L_155 rfl rfl dL_law_2745 (by decide) rfl rfl (leb rfl) ?_
  refine x_iload (pc := 2748) 1 dL_law_2748 rfl ?_
  rcases ite_some e with ⟨q9, e⟩ | ⟨q9, e⟩
  · refine x_icmp_eq_t (pc := 2750) (t := 2755) dL_law_2750 (by decide) q9 ?_
    refine x_iload (pc := 2755) 1 dL_law_2755 rfl ?_
    rcases ite_some e with ⟨q10, e⟩ | ⟨q10, e⟩
    · refine x_if_ne_f (pc := 2757) (t := 2772) dL_law_2757 (by decide) q10 ?_
      refine x_aload_n (pc := 2760) 5 dL_law_2760 rfl ?_
      refine x_iconst (pc := 2761) dL_law_2761 ?_
      obtain ⟨q11, e⟩ := chk_some e
      obtain ⟨q12, e⟩ := chk_some e
      refine x_lald (pc := 2762) dL_law_2762 q11 q12 ?_
      refine x_iload (pc := 2763) 0 dL_law_2763 rfl ?_
      refine x_i2l (pc := 2765) dL_law_2765 ?_
      refine x_lcmp (pc := 2766) dL_law_2766 ?_
      rcases ite_some e with ⟨q13, e⟩ | ⟨q13, e⟩
      · refine x_if_eq_t (pc := 2767) (t := 2772) dL_law_2767 (by decide) q13 ?_
        exact x_sub1 (p_L_law_L2772 hl hk23 e) [2, 3, 4, 5, 6] rfl
      · refine x_if_eq_f (pc := 2767) (t := 2772) dL_law_2767 (by decide) q13 ?_
        refine x_iconst (pc := 2770) dL_law_2770 ?_
        cases Option.some.inj e
        exact x_zret (pc := 2771) rfl (Or.inl rfl) dL_law_2771
    · refine x_if_ne_t (pc := 2757) (t := 2772) dL_law_2757 (by decide) q10 ?_
      exact x_sub1 (p_L_law_L2772 hl hk23 e) [2, 3, 4, 5, 6] rfl
  · refine x_icmp_eq_f (pc := 2750) (t := 2755) dL_law_2750 (by decide) q9 ?_
    refine x_iconst (pc := 2753) dL_law_2753 ?_
    cases Option.some.inj e
    exact x_zret (pc := 2754) rfl (Or.inl rfl) dL_law_2754
noncomputable def f_L_law_B23 (xs : Nat → Int32) (xn : Nat) (k23 : Hp → Nat → Nat → Nat → Int32 → Option (Rs Int32)) (h : Hp) (a1 : Nat) (a2 : Nat) (a3 : Nat) (i4 : Int32) : Option (Rs Int32) :=
  if ((Int32.ofNat xn) - (iN 5)) < i4 then (
    some (h, .inr (iN 1))
  ) else (
    chk (vp_in i4 xn) <|
    if ((xs (Int32.toNatClampNeg i4)) &&& (iN 63)) = iN 0 then (
      f_L_law_L224 xs xn k23 h a1 a2 a3 i4
    ) else
    if ((xs (Int32.toNatClampNeg i4)) &&& (iN 63)) = iN 1 then (
      f_L_law_L280 xs xn k23 h a1 a2 a3 i4
    ) else
    if ((xs (Int32.toNatClampNeg i4)) &&& (iN 63)) = iN 2 then (
      f_L_law_L348 xs xn k23 h a1 a2 a3 i4
    ) else
    if ((xs (Int32.toNatClampNeg i4)) &&& (iN 63)) = iN 3 then (
      f_L_law_L428 xs xn k23 h a1 a2 a3 i4
    ) else
    if ((xs (Int32.toNatClampNeg i4)) &&& (iN 63)) = iN 4 then (
      f_L_law_L472 xs xn k23 h a1 a2 a3 i4
    ) else
    if ((xs (Int32.toNatClampNeg i4)) &&& (iN 63)) = iN 5 then (
      f_L_law_L564 xs xn k23 h a1 a2 a3 i4
    ) else
    if ((xs (Int32.toNatClampNeg i4)) &&& (iN 63)) = iN 6 then (
      f_L_law_L620 xs xn k23 h a1 a2 a3 i4
    ) else
    if ((xs (Int32.toNatClampNeg i4)) &&& (iN 63)) = iN 7 then (
      f_L_law_L700 xs xn k23 h a1 a2 a3 i4
    ) else
    if ((xs (Int32.toNatClampNeg i4)) &&& (iN 63)) = iN 8 then (
      f_L_law_L756 xs xn k23 h a1 a2 a3 i4
    ) else
    if ((xs (Int32.toNatClampNeg i4)) &&& (iN 63)) = iN 9 then (
      f_L_law_L836 xs xn k23 h a1 a2 a3 i4
    ) else
    if ((xs (Int32.toNatClampNeg i4)) &&& (iN 63)) = iN 10 then (
      f_L_law_L904 xs xn k23 h a1 a2 a3 i4
    ) else
    if ((xs (Int32.toNatClampNeg i4)) &&& (iN 63)) = iN 11 then (
      f_L_law_L960 xs xn k23 h a1 a2 a3 i4
    ) else
    if ((xs (Int32.toNatClampNeg i4)) &&& (iN 63)) = iN 12 then (
      f_L_law_L1004 xs xn k23 h a1 a2 a3 i4
    ) else
    if ((xs (Int32.toNatClampNeg i4)) &&& (iN 63)) = iN 13 then (
      f_L_law_L1017 xs xn k23 h a1 a2 a3 i4
    ) else
    if ((xs (Int32.toNatClampNeg i4)) &&& (iN 63)) = iN 14 then (
      f_L_law_L1073 xs xn k23 h a1 a2 a3 i4
    ) else
    if ((xs (Int32.toNatClampNeg i4)) &&& (iN 63)) = iN 15 then (
      f_L_law_L1141 xs xn k23 h a1 a2 a3 i4
    ) else
    if ((xs (Int32.toNatClampNeg i4)) &&& (iN 63)) = iN 16 then (
      f_L_law_L1209 xs xn k23 h a1 a2 a3 i4
    ) else
    if ((xs (Int32.toNatClampNeg i4)) &&& (iN 63)) = iN 17 then (
      f_L_law_L1277 xs xn k23 h a1 a2 a3 i4
    ) else
    if ((xs (Int32.toNatClampNeg i4)) &&& (iN 63)) = iN 18 then (
      f_L_law_L1357 xs xn k23 h a1 a2 a3 i4
    ) else
    if ((xs (Int32.toNatClampNeg i4)) &&& (iN 63)) = iN 19 then (
      f_L_law_L1425 xs xn k23 h a1 a2 a3 i4
    ) else
    if ((xs (Int32.toNatClampNeg i4)) &&& (iN 63)) = iN 20 then (
      f_L_law_L1493 xs xn k23 h a1 a2 a3 i4
    ) else
    if ((xs (Int32.toNatClampNeg i4)) &&& (iN 63)) = iN 21 then (
      f_L_law_L1561 xs xn k23 h a1 a2 a3 i4
    ) else
    if ((xs (Int32.toNatClampNeg i4)) &&& (iN 63)) = iN 22 then (
      f_L_law_L1574 xs xn k23 h a1 a2 a3 i4
    ) else
    if ((xs (Int32.toNatClampNeg i4)) &&& (iN 63)) = iN 23 then (
      f_L_law_L1642 xs xn k23 h a1 a2 a3 i4
    ) else
    if ((xs (Int32.toNatClampNeg i4)) &&& (iN 63)) = iN 24 then (
      f_L_law_L1698 xs xn k23 h a1 a2 a3 i4
    ) else
    if ((xs (Int32.toNatClampNeg i4)) &&& (iN 63)) = iN 25 then (
      f_L_law_L1742 xs xn k23 h a1 a2 a3 i4
    ) else
    if ((xs (Int32.toNatClampNeg i4)) &&& (iN 63)) = iN 26 then (
      f_L_law_L1798 xs xn k23 h a1 a2 a3 i4
    ) else
    if ((xs (Int32.toNatClampNeg i4)) &&& (iN 63)) = iN 27 then (
      f_L_law_L1842 xs xn k23 h a1 a2 a3 i4
    ) else
    if ((xs (Int32.toNatClampNeg i4)) &&& (iN 63)) = iN 28 then (
      f_L_law_L1926 xs xn k23 h a1 a2 a3 i4
    ) else
    if ((xs (Int32.toNatClampNeg i4)) &&& (iN 63)) = iN 29 then (
      f_L_law_L1982 xs xn k23 h a1 a2 a3 i4
    ) else
    if ((xs (Int32.toNatClampNeg i4)) &&& (iN 63)) = iN 30 then (
      f_L_law_L2074 xs xn k23 h a1 a2 a3 i4
    ) else
    if ((xs (Int32.toNatClampNeg i4)) &&& (iN 63)) = iN 31 then (
      f_L_law_L2130 xs xn k23 h a1 a2 a3 i4
    ) else
    if ((xs (Int32.toNatClampNeg i4)) &&& (iN 63)) = iN 32 then (
      f_L_law_L2186 xs xn k23 h a1 a2 a3 i4
    ) else
    if ((xs (Int32.toNatClampNeg i4)) &&& (iN 63)) = iN 33 then (
      f_L_law_L2199 xs xn k23 h a1 a2 a3 i4
    ) else
    if ((xs (Int32.toNatClampNeg i4)) &&& (iN 63)) = iN 34 then (
      f_L_law_L2255 xs xn k23 h a1 a2 a3 i4
    ) else
    if ((xs (Int32.toNatClampNeg i4)) &&& (iN 63)) = iN 35 then (
      f_L_law_L2299 xs xn k23 h a1 a2 a3 i4
    ) else
    if ((xs (Int32.toNatClampNeg i4)) &&& (iN 63)) = iN 36 then (
      f_L_law_L2367 xs xn k23 h a1 a2 a3 i4
    ) else
    if ((xs (Int32.toNatClampNeg i4)) &&& (iN 63)) = iN 37 then (
      f_L_law_L2423 xs xn k23 h a1 a2 a3 i4
    ) else
    if ((xs (Int32.toNatClampNeg i4)) &&& (iN 63)) = iN 38 then (
      f_L_law_L2466 xs xn k23 h a1 a2 a3 i4
    ) else
    if ((xs (Int32.toNatClampNeg i4)) &&& (iN 63)) = iN 39 then (
      f_L_law_L2546 xs xn k23 h a1 a2 a3 i4
    ) else
    if ((xs (Int32.toNatClampNeg i4)) &&& (iN 63)) = iN 40 then (
      f_L_law_L2626 xs xn k23 h a1 a2 a3 i4
    ) else
    if ((xs (Int32.toNatClampNeg i4)) &&& (iN 63)) = iN 41 then (
      f_L_law_L2718 xs xn k23 h a1 a2 a3 i4
    ) else
    if ((xs (Int32.toNatClampNeg i4)) &&& (iN 63)) = iN 42 then (
      f_L_law_L2731 xs xn k23 h a1 a2 a3 i4
    ) else
    (
      f_L_law_L2775 xs xn k23 h a1 a2 a3 i4
    )
  )
theorem p_L_law_B23 {l : Launch} {K : Ctx} (hl : l.stackTraces = false) {k23 : Hp → Nat → Nat → Nat → Int32 → Option (Rs Int32)} (hk23 : ∀ (h : Hp) (a1 : Nat) (a2 : Nat) (a3 : Nat) (i4 : Int32) (t : Rs Int32), k23 h a1 a2 a3 i4 = some t → X l K mM_L_law (tgI t) 23 [(0, .ref 2000000), (1, .ref a1), (2, .ref a2), (3, .ref a3), (4, .int i4)] [] h) {h : Hp} {a1 : Nat} {a2 : Nat} {a3 : Nat} {i4 : Int32} {t : Rs Int32} (e : f_L_law_B23 (kXs K) (kLn K) k23 h a1 a2 a3 i4 = some t) : X l K mM_L_law (tgI t) 23 [(0, .ref 2000000), (1, .ref a1), (2, .ref a2), (3, .ref a3), (4, .int i4)] [] h := by
  unfold f_L_law_B23 at e
  refine x_iload (pc := 23) 4 dL_law_23 rfl ?_
  refine x_aload_n (pc := 25) 0 dL_law_25 rfl ?_
  refine x_slen (pc := 26) dL_law_26 ?_
  refine x_iconst (pc := 27) dL_law_27 ?_
  refine x_isub (pc := 28) dL_law_28 ?_
  rcases ite_some e with ⟨q1, e⟩ | ⟨q1, e⟩
  · refine x_icmp_gt_t (pc := 29) (t := 2781) dL_law_29 (by decide) q1 ?_
    refine x_iconst (pc := 2781) dL_law_2781 ?_
    cases Option.some.inj e
    exact x_zret (pc := 2782) rfl (Or.inr rfl) dL_law_2782
  · refine x_icmp_gt_f (pc := 29) (t := 2781) dL_law_29 (by decide) q1 ?_
    refine x_aload_n (pc := 32) 0 dL_law_32 rfl ?_
    refine x_iload (pc := 33) 4 dL_law_33 rfl ?_
    obtain ⟨q2, e⟩ := chk_some e
    refine x_sld (pc := 35) dL_law_35 q2 ?_
    refine x_bipush (pc := 36) (v := iN 63) dL_law_36 rfl ?_
    refine x_iand (pc := 38) dL_law_38 ?_
    rcases ite_some e with ⟨q3, e⟩ | ⟨q3, e⟩
    · refine x_tabK (pc := 39) (z := 0) (t := 224) dL_law_39 q3 (by decide) (by decide) (by decide) rfl (by decide) ?_
      exact p_L_law_L224 hl hk23 e
    rcases ite_some e with ⟨q4, e⟩ | ⟨q4, e⟩
    · refine x_tabK (pc := 39) (z := 1) (t := 280) dL_law_39 q4 (by decide) (by decide) (by decide) rfl (by decide) ?_
      exact p_L_law_L280 hl hk23 e
    rcases ite_some e with ⟨q5, e⟩ | ⟨q5, e⟩
    · refine x_tabK (pc := 39) (z := 2) (t := 348) dL_law_39 q5 (by decide) (by decide) (by decide) rfl (by decide) ?_
      exact p_L_law_L348 hl hk23 e
    rcases ite_some e with ⟨q6, e⟩ | ⟨q6, e⟩
    · refine x_tabK (pc := 39) (z := 3) (t := 428) dL_law_39 q6 (by decide) (by decide) (by decide) rfl (by decide) ?_
      exact p_L_law_L428 hl hk23 e
    rcases ite_some e with ⟨q7, e⟩ | ⟨q7, e⟩
    · refine x_tabK (pc := 39) (z := 4) (t := 472) dL_law_39 q7 (by decide) (by decide) (by decide) rfl (by decide) ?_
      exact p_L_law_L472 hl hk23 e
    rcases ite_some e with ⟨q8, e⟩ | ⟨q8, e⟩
    · refine x_tabK (pc := 39) (z := 5) (t := 564) dL_law_39 q8 (by decide) (by decide) (by decide) rfl (by decide) ?_
      exact p_L_law_L564 hl hk23 e
    rcases ite_some e with ⟨q9, e⟩ | ⟨q9, e⟩
    · refine x_tabK (pc := 39) (z := 6) (t := 620) dL_law_39 q9 (by decide) (by decide) (by decide) rfl (by decide) ?_
      exact p_L_law_L620 hl hk23 e
    rcases ite_some e with ⟨q10, e⟩ | ⟨q10, e⟩
    · refine x_tabK (pc := 39) (z := 7) (t := 700) dL_law_39 q10 (by decide) (by decide) (by decide) rfl (by decide) ?_
      exact p_L_law_L700 hl hk23 e
    rcases ite_some e with ⟨q11, e⟩ | ⟨q11, e⟩
    · refine x_tabK (pc := 39) (z := 8) (t := 756) dL_law_39 q11 (by decide) (by decide) (by decide) rfl (by decide) ?_
      exact p_L_law_L756 hl hk23 e
    rcases ite_some e with ⟨q12, e⟩ | ⟨q12, e⟩
    · refine x_tabK (pc := 39) (z := 9) (t := 836) dL_law_39 q12 (by decide) (by decide) (by decide) rfl (by decide) ?_
      exact p_L_law_L836 hl hk23 e
    rcases ite_some e with ⟨q13, e⟩ | ⟨q13, e⟩
    · refine x_tabK (pc := 39) (z := 10) (t := 904) dL_law_39 q13 (by decide) (by decide) (by decide) rfl (by decide) ?_
      exact p_L_law_L904 hl hk23 e
    rcases ite_some e with ⟨q14, e⟩ | ⟨q14, e⟩
    · refine x_tabK (pc := 39) (z := 11) (t := 960) dL_law_39 q14 (by decide) (by decide) (by decide) rfl (by decide) ?_
      exact p_L_law_L960 hl hk23 e
    rcases ite_some e with ⟨q15, e⟩ | ⟨q15, e⟩
    · refine x_tabK (pc := 39) (z := 12) (t := 1004) dL_law_39 q15 (by decide) (by decide) (by decide) rfl (by decide) ?_
      exact p_L_law_L1004 hl hk23 e
    rcases ite_some e with ⟨q16, e⟩ | ⟨q16, e⟩
    · refine x_tabK (pc := 39) (z := 13) (t := 1017) dL_law_39 q16 (by decide) (by decide) (by decide) rfl (by decide) ?_
      exact p_L_law_L1017 hl hk23 e
    rcases ite_some e with ⟨q17, e⟩ | ⟨q17, e⟩
    · refine x_tabK (pc := 39) (z := 14) (t := 1073) dL_law_39 q17 (by decide) (by decide) (by decide) rfl (by decide) ?_
      exact p_L_law_L1073 hl hk23 e
    rcases ite_some e with ⟨q18, e⟩ | ⟨q18, e⟩
    · refine x_tabK (pc := 39) (z := 15) (t := 1141) dL_law_39 q18 (by decide) (by decide) (by decide) rfl (by decide) ?_
      exact p_L_law_L1141 hl hk23 e
    rcases ite_some e with ⟨q19, e⟩ | ⟨q19, e⟩
    · refine x_tabK (pc := 39) (z := 16) (t := 1209) dL_law_39 q19 (by decide) (by decide) (by decide) rfl (by decide) ?_
      exact p_L_law_L1209 hl hk23 e
    rcases ite_some e with ⟨q20, e⟩ | ⟨q20, e⟩
    · refine x_tabK (pc := 39) (z := 17) (t := 1277) dL_law_39 q20 (by decide) (by decide) (by decide) rfl (by decide) ?_
      exact p_L_law_L1277 hl hk23 e
    rcases ite_some e with ⟨q21, e⟩ | ⟨q21, e⟩
    · refine x_tabK (pc := 39) (z := 18) (t := 1357) dL_law_39 q21 (by decide) (by decide) (by decide) rfl (by decide) ?_
      exact p_L_law_L1357 hl hk23 e
    rcases ite_some e with ⟨q22, e⟩ | ⟨q22, e⟩
    · refine x_tabK (pc := 39) (z := 19) (t := 1425) dL_law_39 q22 (by decide) (by decide) (by decide) rfl (by decide) ?_
      exact p_L_law_L1425 hl hk23 e
    rcases ite_some e with ⟨q23, e⟩ | ⟨q23, e⟩
    · refine x_tabK (pc := 39) (z := 20) (t := 1493) dL_law_39 q23 (by decide) (by decide) (by decide) rfl (by decide) ?_
      exact p_L_law_L1493 hl hk23 e
    rcases ite_some e with ⟨q24, e⟩ | ⟨q24, e⟩
    · refine x_tabK (pc := 39) (z := 21) (t := 1561) dL_law_39 q24 (by decide) (by decide) (by decide) rfl (by decide) ?_
      exact p_L_law_L1561 hl hk23 e
    rcases ite_some e with ⟨q25, e⟩ | ⟨q25, e⟩
    · refine x_tabK (pc := 39) (z := 22) (t := 1574) dL_law_39 q25 (by decide) (by decide) (by decide) rfl (by decide) ?_
      exact p_L_law_L1574 hl hk23 e
    rcases ite_some e with ⟨q26, e⟩ | ⟨q26, e⟩
    · refine x_tabK (pc := 39) (z := 23) (t := 1642) dL_law_39 q26 (by decide) (by decide) (by decide) rfl (by decide) ?_
      exact p_L_law_L1642 hl hk23 e
    rcases ite_some e with ⟨q27, e⟩ | ⟨q27, e⟩
    · refine x_tabK (pc := 39) (z := 24) (t := 1698) dL_law_39 q27 (by decide) (by decide) (by decide) rfl (by decide) ?_
      exact p_L_law_L1698 hl hk23 e
    rcases ite_some e with ⟨q28, e⟩ | ⟨q28, e⟩
    · refine x_tabK (pc := 39) (z := 25) (t := 1742) dL_law_39 q28 (by decide) (by decide) (by decide) rfl (by decide) ?_
      exact p_L_law_L1742 hl hk23 e
    rcases ite_some e with ⟨q29, e⟩ | ⟨q29, e⟩
    · refine x_tabK (pc := 39) (z := 26) (t := 1798) dL_law_39 q29 (by decide) (by decide) (by decide) rfl (by decide) ?_
      exact p_L_law_L1798 hl hk23 e
    rcases ite_some e with ⟨q30, e⟩ | ⟨q30, e⟩
    · refine x_tabK (pc := 39) (z := 27) (t := 1842) dL_law_39 q30 (by decide) (by decide) (by decide) rfl (by decide) ?_
      exact p_L_law_L1842 hl hk23 e
    rcases ite_some e with ⟨q31, e⟩ | ⟨q31, e⟩
    · refine x_tabK (pc := 39) (z := 28) (t := 1926) dL_law_39 q31 (by decide) (by decide) (by decide) rfl (by decide) ?_
      exact p_L_law_L1926 hl hk23 e
    rcases ite_some e with ⟨q32, e⟩ | ⟨q32, e⟩
    · refine x_tabK (pc := 39) (z := 29) (t := 1982) dL_law_39 q32 (by decide) (by decide) (by decide) rfl (by decide) ?_
      exact p_L_law_L1982 hl hk23 e
    rcases ite_some e with ⟨q33, e⟩ | ⟨q33, e⟩
    · refine x_tabK (pc := 39) (z := 30) (t := 2074) dL_law_39 q33 (by decide) (by decide) (by decide) rfl (by decide) ?_
      exact p_L_law_L2074 hl hk23 e
    rcases ite_some e with ⟨q34, e⟩ | ⟨q34, e⟩
    · refine x_tabK (pc := 39) (z := 31) (t := 2130) dL_law_39 q34 (by decide) (by decide) (by decide) rfl (by decide) ?_
      exact p_L_law_L2130 hl hk23 e
    rcases ite_some e with ⟨q35, e⟩ | ⟨q35, e⟩
    · refine x_tabK (pc := 39) (z := 32) (t := 2186) dL_law_39 q35 (by decide) (by decide) (by decide) rfl (by decide) ?_
      exact p_L_law_L2186 hl hk23 e
    rcases ite_some e with ⟨q36, e⟩ | ⟨q36, e⟩
    · refine x_tabK (pc := 39) (z := 33) (t := 2199) dL_law_39 q36 (by decide) (by decide) (by decide) rfl (by decide) ?_
      exact p_L_law_L2199 hl hk23 e
    rcases ite_some e with ⟨q37, e⟩ | ⟨q37, e⟩
    · refine x_tabK (pc := 39) (z := 34) (t := 2255) dL_law_39 q37 (by decide) (by decide) (by decide) rfl (by decide) ?_
      exact p_L_law_L2255 hl hk23 e
    rcases ite_some e with ⟨q38, e⟩ | ⟨q38, e⟩
    · refine x_tabK (pc := 39) (z := 35) (t := 2299) dL_law_39 q38 (by decide) (by decide) (by decide) rfl (by decide) ?_
      exact p_L_law_L2299 hl hk23 e
    rcases ite_some e with ⟨q39, e⟩ | ⟨q39, e⟩
    · refine x_tabK (pc := 39) (z := 36) (t := 2367) dL_law_39 q39 (by decide) (by decide) (by decide) rfl (by decide) ?_
      exact p_L_law_L2367 hl hk23 e
    rcases ite_some e with ⟨q40, e⟩ | ⟨q40, e⟩
    · refine x_tabK (pc := 39) (z := 37) (t := 2423) dL_law_39 q40 (by decide) (by decide) (by decide) rfl (by decide) ?_
      exact p_L_law_L2423 hl hk23 e
    rcases ite_some e with ⟨q41, e⟩ | ⟨q41, e⟩
    · refine x_tabK (pc := 39) (z := 38) (t := 2466) dL_law_39 q41 (by decide) (by decide) (by decide) rfl (by decide) ?_
      exact p_L_law_L2466 hl hk23 e
    rcases ite_some e with ⟨q42, e⟩ | ⟨q42, e⟩
    · refine x_tabK (pc := 39) (z := 39) (t := 2546) dL_law_39 q42 (by decide) (by decide) (by decide) rfl (by decide) ?_
      exact p_L_law_L2546 hl hk23 e
    rcases ite_some e with ⟨q43, e⟩ | ⟨q43, e⟩
    · refine x_tabK (pc := 39) (z := 40) (t := 2626) dL_law_39 q43 (by decide) (by decide) (by decide) rfl (by decide) ?_
      exact p_L_law_L2626 hl hk23 e
    rcases ite_some e with ⟨q44, e⟩ | ⟨q44, e⟩
    · refine x_tabK (pc := 39) (z := 41) (t := 2718) dL_law_39 q44 (by decide) (by decide) (by decide) rfl (by decide) ?_
      exact p_L_law_L2718 hl hk23 e
    rcases ite_some e with ⟨q45, e⟩ | ⟨q45, e⟩
    · refine x_tabK (pc := 39) (z := 42) (t := 2731) dL_law_39 q45 (by decide) (by decide) (by decide) rfl (by decide) ?_
      exact p_L_law_L2731 hl hk23 e
    refine x_tabO (pc := 39) (t := 2775) dL_law_39 (by have z0 := lv_neT q3 (show (iN 0).toInt = 0 by decide); have z1 := lv_neT q4 (show (iN 1).toInt = 1 by decide); have z2 := lv_neT q5 (show (iN 2).toInt = 2 by decide); have z3 := lv_neT q6 (show (iN 3).toInt = 3 by decide); have z4 := lv_neT q7 (show (iN 4).toInt = 4 by decide); have z5 := lv_neT q8 (show (iN 5).toInt = 5 by decide); have z6 := lv_neT q9 (show (iN 6).toInt = 6 by decide); have z7 := lv_neT q10 (show (iN 7).toInt = 7 by decide); have z8 := lv_neT q11 (show (iN 8).toInt = 8 by decide); have z9 := lv_neT q12 (show (iN 9).toInt = 9 by decide); have z10 := lv_neT q13 (show (iN 10).toInt = 10 by decide); have z11 := lv_neT q14 (show (iN 11).toInt = 11 by decide); have z12 := lv_neT q15 (show (iN 12).toInt = 12 by decide); have z13 := lv_neT q16 (show (iN 13).toInt = 13 by decide); have z14 := lv_neT q17 (show (iN 14).toInt = 14 by decide); have z15 := lv_neT q18 (show (iN 15).toInt = 15 by decide); have z16 := lv_neT q19 (show (iN 16).toInt = 16 by decide); have z17 := lv_neT q20 (show (iN 17).toInt = 17 by decide); have z18 := lv_neT q21 (show (iN 18).toInt = 18 by decide); have z19 := lv_neT q22 (show (iN 19).toInt = 19 by decide); have z20 := lv_neT q23 (show (iN 20).toInt = 20 by decide); have z21 := lv_neT q24 (show (iN 21).toInt = 21 by decide); have z22 := lv_neT q25 (show (iN 22).toInt = 22 by decide); have z23 := lv_neT q26 (show (iN 23).toInt = 23 by decide); have z24 := lv_neT q27 (show (iN 24).toInt = 24 by decide); have z25 := lv_neT q28 (show (iN 25).toInt = 25 by decide); have z26 := lv_neT q29 (show (iN 26).toInt = 26 by decide); have z27 := lv_neT q30 (show (iN 27).toInt = 27 by decide); have z28 := lv_neT q31 (show (iN 28).toInt = 28 by decide); have z29 := lv_neT q32 (show (iN 29).toInt = 29 by decide); have z30 := lv_neT q33 (show (iN 30).toInt = 30 by decide); have z31 := lv_neT q34 (show (iN 31).toInt = 31 by decide); have z32 := lv_neT q35 (show (iN 32).toInt = 32 by decide); have z33 := lv_neT q36 (show (iN 33).toInt = 33 by decide); have z34 := lv_neT q37 (show (iN 34).toInt = 34 by decide); have z35 := lv_neT q38 (show (iN 35).toInt = 35 by decide); have z36 := lv_neT q39 (show (iN 36).toInt = 36 by decide); have z37 := lv_neT q40 (show (iN 37).toInt = 37 by decide); have z38 := lv_neT q41 (show (iN 38).toInt = 38 by decide); have z39 := lv_neT q42 (show (iN 39).toInt = 39 by decide); have z40 := lv_neT q43 (show (iN 40).toInt = 40 by decide); have z41 := lv_neT q44 (show (iN 41).toInt = 41 by decide); have z42 := lv_neT q45 (show (iN 42).toInt = 42 by decide); omega) (by decide) ?_
    exact p_L_law_L2775 hl hk23 e
noncomputable def f_L_law_L23 (xs : Nat → Int32) (xn : Nat) (n : Nat) : Hp → Nat → Nat → Nat → Int32 → Option (Rs Int32) := Nat.rec (motive := fun _ => Hp → Nat → Nat → Nat → Int32 → Option (Rs Int32)) (fun _ _ _ _ _ => none) (fun _ r => f_L_law_B23 xs xn r) n
theorem p_L_law_L23 {l : Launch} {K : Ctx} (hl : l.stackTraces = false) : ∀ (n : Nat) (h : Hp) (a1 : Nat) (a2 : Nat) (a3 : Nat) (i4 : Int32) (t : Rs Int32) (e : f_L_law_L23 (kXs K) (kLn K) n h a1 a2 a3 i4 = some t), X l K mM_L_law (tgI t) 23 [(0, .ref 2000000), (1, .ref a1), (2, .ref a2), (3, .ref a3), (4, .int i4)] [] h := by
  intro n
  induction n with
  | zero => exact fun _ _ _ _ _ _ e => nomatch (show (none : Option (Rs Int32)) = some _ from e)
  | succ n ih => exact fun h a1 a2 a3 i4 t e => p_L_law_B23 hl (fun h a1 a2 a3 i4 t e => ih h a1 a2 a3 i4 t e) e
noncomputable def f_L_law (xs : Nat → Int32) (xn : Nat) (h : Hp) : Option (Rs Int32) :=
  chk (qN h + 1 < 1000000) <|
  lt (newO h 8 0 11) fun h2 =>
  bnd (f_X8_init h2 (qN h + 1)) fun h3 _ =>
  chk (qN h3 + 1 < 1000000) <|
  lt (newO h3 9 0 34) fun h6 =>
  bnd (f_X9_init h6 (qN h3 + 1)) fun h7 _ =>
  chk (qN h7 + 1 < 1000000) <|
  lt (newO h7 21 1 1) fun h10 =>
  f_L_law_L23 xs xn 2000 h10 (qN h + 1) (qN h3 + 1) (qN h7 + 1) (iN 0)
theorem p_L_law {l : Launch} {K : Ctx} (hl : l.stackTraces = false) {h : Hp} {t : Rs Int32} (e : f_L_law (kXs K) (kLn K) h  = some t) : X l K mM_L_law (tgI t) 0 [(0, .ref 2000000)] [] h := by
  unfold f_L_law at e
  obtain ⟨q1, e⟩ := chk_some e
  replace e := lt_go e
  refine x_new (pc := 0) (ci := 7) rfl tw_1_31 tw_1_32 tw_1_1 dL_law_0 q1 ?_
  refine x_dup (pc := 3) dL_law_3 rfl ?_
  rcases bnd_some e with ⟨h3, r4, ec, rfl⟩ | ⟨h3, r4, ec, e⟩
  · exact y_callI_x (pc := 4) (c_X8_init hl ec) mf_X8_init tw_1_34 rfl lf_L_145 dL_law_4 (by decide) rfl rfl (leb rfl) (xx_out0 rfl)
  refine y_callI_v (pc := 4) (c_X8_init hl ec) mf_X8_init tw_1_34 rfl lf_L_145 dL_law_4 (by decide) rfl rfl (leb rfl) ?_
  refine x_astore_n (pc := 7) dL_law_7 (by decide) rfl ?_
  obtain ⟨q5, e⟩ := chk_some e
  replace e := lt_go e
  refine x_new (pc := 8) (ci := 8) rfl tw_6_142 tw_6_143 tw_1_11 dL_law_8 q5 ?_
  refine x_dup (pc := 11) dL_law_11 rfl ?_
  rcases bnd_some e with ⟨h7, r8, ec, rfl⟩ | ⟨h7, r8, ec, e⟩
  · exact y_callI_x (pc := 12) (c_X9_init hl ec) mf_X9_init tw_6_145 rfl lf_L_148 dL_law_12 (by decide) rfl rfl (leb rfl) (xx_out0 rfl)
  refine y_callI_v (pc := 12) (c_X9_init hl ec) mf_X9_init tw_6_145 rfl lf_L_148 dL_law_12 (by decide) rfl rfl (leb rfl) ?_
  refine x_astore_n (pc := 15) dL_law_15 (by decide) rfl ?_
  refine x_iconst (pc := 16) dL_law_16 ?_
  obtain ⟨q9, e⟩ := chk_some e
  replace e := lt_go e
  refine x_newa (pc := 17) (atype := .long) (t := 1) (w := 1) rfl (by decide) tw_9_30 dL_law_17 (by decide) (by decide) (by decide) q9 ?_
  refine x_astore_n (pc := 19) dL_law_19 (by decide) rfl ?_
  refine x_iconst (pc := 20) dL_law_20 ?_
  refine x_istore (pc := 21) dL_law_21 (by decide) rfl ?_
  exact x_sub1 (p_L_law_L23 hl 2000 _ _ _ _ _ _ e) [4, 3, 2, 1, 0] rfl
