/-! ===== the methods as functions, each with its proof: made by program (gen_fun.py) ===== -/
/-! ## TableColumnBalancerModel.count -/
abbrev mM_X9_count : Mi := (9, yX9_count.cls, cX9_count, 2, (Option.some Jvm.ClassFile.FieldType.int), [], false)
noncomputable def f_X9_count (h : Hp) (a0 : Nat) (i1 : Int32) : Option (Rs Int32) :=
  chk (okr h a0 9) <|
  lt (putI h a0 0 (iN 0)) fun h2 =>
  if i1 = 0 then (
    chk (okr h2 (qR h2 a0 1) 20) <|
    chk (vp_in (iN 0) (qW h2 (qR h2 a0 1))) <|
    some (h2, .inr (qI h2 (qR h2 a0 1) (Int32.toNatClampNeg (iN 0))))
  ) else (
    if i1 = (iN 1) then (
      chk (okr h2 (qR h2 a0 1) 20) <|
      chk (vp_in (iN 4) (qW h2 (qR h2 a0 1))) <|
      some (h2, .inr (qI h2 (qR h2 a0 1) (Int32.toNatClampNeg (iN 4))))
    ) else (
      if i1 = (iN 2) then (
        chk (okr h2 (qR h2 a0 1) 20) <|
        chk (vp_in (iN 5) (qW h2 (qR h2 a0 1))) <|
        some (h2, .inr (qI h2 (qR h2 a0 1) (Int32.toNatClampNeg (iN 5))))
      ) else (
        bnd (f_X9_fails h2 a0 (iN 1)) fun h12 r13 =>
        some (h12, .inr r13)
      )
    )
  )
theorem p_X9_count {l : Launch} {K : Ctx} (hl : l.stackTraces = false) {h : Hp} {a0 : Nat} {i1 : Int32} {t : Rs Int32} (e : f_X9_count h a0 i1 = some t) : X l K mM_X9_count (tgI t) 0 [(0, .ref a0), (1, .int i1)] [] h := by
  unfold f_X9_count at e
  refine x_aload_n (pc := 0) 0 dX9_count_0 rfl ?_
  refine x_iconst (pc := 1) dX9_count_1 ?_
  obtain ⟨q1, e⟩ := chk_some e
  replace e := lt_go e
  refine x_putI (pc := 2) pf_X9_84 rfl rfl rfl dX9_count_2 q1 ?_
  refine x_iload_n (pc := 5) 1 dX9_count_5 rfl ?_
  rcases ite_some e with ⟨q3, e⟩ | ⟨q3, e⟩
  · refine x_if_ne_f (pc := 6) (t := 18) dX9_count_6 (by decide) q3 ?_
    refine x_aload_n (pc := 9) 0 dX9_count_9 rfl ?_
    obtain ⟨q4, e⟩ := chk_some e
    refine x_getR (pc := 10) gf_X9_9 rfl dX9_count_10 (okr_pI q1) q4.1 ?_
    refine x_iconst (pc := 13) dX9_count_13 ?_
    obtain ⟨q5, e⟩ := chk_some e
    refine x_iald (pc := 14) dX9_count_14 q4 q5 ?_
    refine x_goto (pc := 15) (t := 51) dX9_count_15 (by decide) ?_
    cases Option.some.inj e
    exact x_iret (pc := 51) rfl dX9_count_51
  · refine x_if_ne_t (pc := 6) (t := 18) dX9_count_6 (by decide) q3 ?_
    refine x_iload_n (pc := 18) 1 dX9_count_18 rfl ?_
    refine x_iconst (pc := 19) dX9_count_19 ?_
    rcases ite_some e with ⟨q6, e⟩ | ⟨q6, e⟩
    · refine x_icmp_ne_f (pc := 20) (t := 32) dX9_count_20 (by decide) q6 ?_
      refine x_aload_n (pc := 23) 0 dX9_count_23 rfl ?_
      obtain ⟨q7, e⟩ := chk_some e
      refine x_getR (pc := 24) gf_X9_9 rfl dX9_count_24 (okr_pI q1) q7.1 ?_
      refine x_iconst (pc := 27) dX9_count_27 ?_
      obtain ⟨q8, e⟩ := chk_some e
      refine x_iald (pc := 28) dX9_count_28 q7 q8 ?_
      refine x_goto (pc := 29) (t := 51) dX9_count_29 (by decide) ?_
      cases Option.some.inj e
      exact x_iret (pc := 51) rfl dX9_count_51
    · refine x_icmp_ne_t (pc := 20) (t := 32) dX9_count_20 (by decide) q6 ?_
      refine x_iload_n (pc := 32) 1 dX9_count_32 rfl ?_
      refine x_iconst (pc := 33) dX9_count_33 ?_
      rcases ite_some e with ⟨q9, e⟩ | ⟨q9, e⟩
      · refine x_icmp_ne_f (pc := 34) (t := 46) dX9_count_34 (by decide) q9 ?_
        refine x_aload_n (pc := 37) 0 dX9_count_37 rfl ?_
        obtain ⟨q10, e⟩ := chk_some e
        refine x_getR (pc := 38) gf_X9_9 rfl dX9_count_38 (okr_pI q1) q10.1 ?_
        refine x_iconst (pc := 41) dX9_count_41 ?_
        obtain ⟨q11, e⟩ := chk_some e
        refine x_iald (pc := 42) dX9_count_42 q10 q11 ?_
        refine x_goto (pc := 43) (t := 51) dX9_count_43 (by decide) ?_
        cases Option.some.inj e
        exact x_iret (pc := 51) rfl dX9_count_51
      · refine x_icmp_ne_t (pc := 34) (t := 46) dX9_count_34 (by decide) q9 ?_
        refine x_aload_n (pc := 46) 0 dX9_count_46 rfl ?_
        refine x_iconst (pc := 47) dX9_count_47 ?_
        rcases bnd_some e with ⟨h12, r13, ec, rfl⟩ | ⟨h12, r13, ec, e⟩
        · exact y_callV_x (pc := 48) (c_X9_fails hl ec) (okr_pI q1) mf_X9_fails tw_7_24 ts_6_7 lf_X9_95 rfl rfl dX9_count_48 (by decide) rfl rfl (leb rfl) (xx_out0 rfl)
        refine y_callV_i (pc := 48) (c_X9_fails hl ec) (okr_pI q1) mf_X9_fails tw_7_24 ts_6_7 lf_X9_95 rfl rfl dX9_count_48 (by decide) rfl rfl (leb rfl) ?_
        cases Option.some.inj e
        exact x_iret (pc := 51) rfl dX9_count_51
abbrev w_X9_count : Cond := (Cond.code yX9_count cX9_count 2 (Option.some Jvm.ClassFile.FieldType.int))
theorem mf_X9_count : MF yX9_count w_X9_count cX9_count 2 (Option.some Jvm.ClassFile.FieldType.int) 1 := ⟨⟨rfl, tw_7_228, by decide⟩, tw_1_11, ⟨by decide, by decide⟩, by decide +kernel⟩
theorem c_X9_count {l : Launch} {K : Ctx} (hl : l.stackTraces = false) {h : Hp} {a0 : Nat} {i1 : Int32} {t : Rs Int32} (e : f_X9_count h a0 i1 = some t) : Ctr l K 9 yX9_count w_X9_count [.ref a0, .int i1] h (tgI t) :=
  Ctr.of hl mf_X9_count false (fun q => nomatch q) rfl (leb rfl) (p_X9_count hl e)
/-! ## TableColumnBalancer.property -/
abbrev mM_X8_property : Mi := (11, yX8_property.cls, cX8_property, 4, (Option.some Jvm.ClassFile.FieldType.int), [], false)
noncomputable def f_X8_property (h : Hp) (a0 : Nat) (i1 : Int32) (i2 : Int32) : Option (Rs Int32) :=
  chk (okr h a0 8) <|
  bnd (f_X8_requireCell h a0 i1) fun h2 _ =>
  bnd (f_X8_isWithin h2 i2 (iN 0) (iN 6)) fun h4 r5 =>
  bnd (f_X8_requireArgument h4 r5) fun h6 _ =>
  chk (okr h6 a0 8) <|
  chk (okr h6 (qR h6 a0 0) 7) <|
  chk (okr h6 (qR h6 (qR h6 a0 0) 8) 25) <|
  chk (vp_in i1 (qW h6 (qR h6 (qR h6 a0 0) 8))) <|
  chk (okr h6 (qR h6 (qR h6 (qR h6 a0 0) 8) (Int32.toNatClampNeg i1)) 1) <|
  if i2 = iN 0 then (
    some (h6, .inr (qI h6 (qR h6 (qR h6 (qR h6 a0 0) 8) (Int32.toNatClampNeg i1)) 0))
  ) else
  if i2 = iN 1 then (
    some (h6, .inr (qI h6 (qR h6 (qR h6 (qR h6 a0 0) 8) (Int32.toNatClampNeg i1)) 1))
  ) else
  if i2 = iN 2 then (
    some (h6, .inr (qI h6 (qR h6 (qR h6 (qR h6 a0 0) 8) (Int32.toNatClampNeg i1)) 2))
  ) else
  if i2 = iN 3 then (
    chk (okr h6 (qR h6 (qR h6 (qR h6 (qR h6 a0 0) 8) (Int32.toNatClampNeg i1)) 3) 4) <|
    some (h6, .inr (qI h6 (qR h6 (qR h6 (qR h6 (qR h6 a0 0) 8) (Int32.toNatClampNeg i1)) 3) 0))
  ) else
  if i2 = iN 4 then (
    chk (okr h6 (qR h6 (qR h6 (qR h6 (qR h6 a0 0) 8) (Int32.toNatClampNeg i1)) 3) 4) <|
    some (h6, .inr (qI h6 (qR h6 (qR h6 (qR h6 (qR h6 a0 0) 8) (Int32.toNatClampNeg i1)) 3) 3))
  ) else
  if i2 = iN 5 then (
    bnd (f_X7_minimumOf h6 (qR h6 a0 0) (qR h6 (qR h6 (qR h6 a0 0) 8) (Int32.toNatClampNeg i1))) fun h21 r22 =>
    some (h21, .inr r22)
  ) else
  (
    bnd (f_X7_maximumOf h6 (qR h6 a0 0) (qR h6 (qR h6 (qR h6 a0 0) 8) (Int32.toNatClampNeg i1))) fun h23 r24 =>
    some (h23, .inr r24)
  )
theorem p_X8_property {l : Launch} {K : Ctx} (hl : l.stackTraces = false) {h : Hp} {a0 : Nat} {i1 : Int32} {i2 : Int32} {t : Rs Int32} (e : f_X8_property h a0 i1 i2 = some t) : X l K mM_X8_property (tgI t) 0 [(0, .ref a0), (1, .int i1), (2, .int i2)] [] h := by
  unfold f_X8_property at e
  refine x_aload_n (pc := 0) 0 dX8_property_0 rfl ?_
  refine x_iload_n (pc := 1) 1 dX8_property_1 rfl ?_
  obtain ⟨q1, e⟩ := chk_some e
  rcases bnd_some e with ⟨h2, r3, ec, rfl⟩ | ⟨h2, r3, ec, e⟩
  · exact y_callV_x (pc := 2) (c_X8_requireCell hl ec) q1 mf_X8_requireCell tw_4_67 ts_3_14 lf_X8_139 rfl rfl dX8_property_2 (by decide) rfl rfl (leb rfl) (xx_out0 rfl)
  refine y_callV_v (pc := 2) (c_X8_requireCell hl ec) q1 mf_X8_requireCell tw_4_67 ts_3_14 lf_X8_139 rfl rfl dX8_property_2 (by decide) rfl rfl (leb rfl) ?_
  refine x_iload_n (pc := 5) 2 dX8_property_5 rfl ?_
  refine x_iconst (pc := 6) dX8_property_6 ?_
  refine x_bipush (pc := 7) (v := iN 6) dX8_property_7 rfl ?_
  rcases bnd_some e with ⟨h4, r5, ec, rfl⟩ | ⟨h4, r5, ec, e⟩
  · exact y_callS_x (pc := 9) (c_X8_isWithin hl ec) mf_X8_isWithin tw_3_26 lf_X8_72 dX8_property_9 (by decide) rfl rfl (leb rfl) (xx_out0 rfl)
  refine y_callS_i (pc := 9) (c_X8_isWithin hl ec) mf_X8_isWithin tw_3_26 lf_X8_72 dX8_property_9 (by decide) rfl rfl (leb rfl) ?_
  rcases bnd_some e with ⟨h6, r7, ec, rfl⟩ | ⟨h6, r7, ec, e⟩
  · exact y_callS_x (pc := 12) (c_X8_requireArgument hl ec) mf_X8_requireArgument tw_3_84 lf_X8_76 dX8_property_12 (by decide) rfl rfl (leb rfl) (xx_out0 rfl)
  refine y_callS_v (pc := 12) (c_X8_requireArgument hl ec) mf_X8_requireArgument tw_3_84 lf_X8_76 dX8_property_12 (by decide) rfl rfl (leb rfl) ?_
  refine x_aload_n (pc := 15) 0 dX8_property_15 rfl ?_
  obtain ⟨q8, e⟩ := chk_some e
  obtain ⟨q9, e⟩ := chk_some e
  refine x_getR (pc := 16) gf_X8_10 rfl dX8_property_16 q8 q9.1 ?_
  obtain ⟨q10, e⟩ := chk_some e
  refine x_getR (pc := 19) gf_X8_159 rfl dX8_property_19 q9 q10.1 ?_
  refine x_iload_n (pc := 22) 1 dX8_property_22 rfl ?_
  obtain ⟨q11, e⟩ := chk_some e
  obtain ⟨q12, e⟩ := chk_some e
  refine x_aald (pc := 23) (t := 1) (by decide) dX8_property_23 q10 q11 q12.1 ?_
  refine x_astore_n (pc := 24) dX8_property_24 (by decide) rfl ?_
  refine x_iload_n (pc := 25) 3 dX8_property_25 rfl ?_
  rcases ite_some e with ⟨q13, e⟩ | ⟨q13, e⟩
  · refine x_tabK (pc := 26) (z := 0) (t := 64) dX8_property_26 q13 (by decide) (by decide) (by decide) rfl (by decide) ?_
    refine x_aload_n (pc := 64) 0 dX8_property_64 rfl ?_
    refine x_getI (pc := 65) gf_X8_205 rfl dX8_property_65 q12 ?_
    cases Option.some.inj e
    exact x_iret (pc := 68) rfl dX8_property_68
  rcases ite_some e with ⟨q14, e⟩ | ⟨q14, e⟩
  · refine x_tabK (pc := 26) (z := 1) (t := 69) dX8_property_26 q14 (by decide) (by decide) (by decide) rfl (by decide) ?_
    refine x_aload_n (pc := 69) 0 dX8_property_69 rfl ?_
    refine x_getI (pc := 70) gf_X8_208 rfl dX8_property_70 q12 ?_
    cases Option.some.inj e
    exact x_iret (pc := 73) rfl dX8_property_73
  rcases ite_some e with ⟨q15, e⟩ | ⟨q15, e⟩
  · refine x_tabK (pc := 26) (z := 2) (t := 74) dX8_property_26 q15 (by decide) (by decide) (by decide) rfl (by decide) ?_
    refine x_aload_n (pc := 74) 0 dX8_property_74 rfl ?_
    refine x_getI (pc := 75) gf_X8_211 rfl dX8_property_75 q12 ?_
    cases Option.some.inj e
    exact x_iret (pc := 78) rfl dX8_property_78
  rcases ite_some e with ⟨q16, e⟩ | ⟨q16, e⟩
  · refine x_tabK (pc := 26) (z := 3) (t := 79) dX8_property_26 q16 (by decide) (by decide) (by decide) rfl (by decide) ?_
    refine x_aload_n (pc := 79) 0 dX8_property_79 rfl ?_
    obtain ⟨q17, e⟩ := chk_some e
    refine x_getR (pc := 80) gf_X8_163 rfl dX8_property_80 q12 q17.1 ?_
    refine x_getI (pc := 83) gf_X8_156 rfl dX8_property_83 q17 ?_
    cases Option.some.inj e
    exact x_iret (pc := 86) rfl dX8_property_86
  rcases ite_some e with ⟨q18, e⟩ | ⟨q18, e⟩
  · refine x_tabK (pc := 26) (z := 4) (t := 87) dX8_property_26 q18 (by decide) (by decide) (by decide) rfl (by decide) ?_
    refine x_aload_n (pc := 87) 0 dX8_property_87 rfl ?_
    obtain ⟨q19, e⟩ := chk_some e
    refine x_getR (pc := 88) gf_X8_163 rfl dX8_property_88 q12 q19.1 ?_
    refine x_getI (pc := 91) gf_X8_149 rfl dX8_property_91 q19 ?_
    cases Option.some.inj e
    exact x_iret (pc := 94) rfl dX8_property_94
  rcases ite_some e with ⟨q20, e⟩ | ⟨q20, e⟩
  · refine x_tabK (pc := 26) (z := 5) (t := 95) dX8_property_26 q20 (by decide) (by decide) (by decide) rfl (by decide) ?_
    refine x_aload_n (pc := 95) 1 dX8_property_95 rfl ?_
    refine x_getR (pc := 96) gf_X8_10 rfl dX8_property_96 q8 q9.1 ?_
    refine x_aload_n (pc := 99) 0 dX8_property_99 rfl ?_
    rcases bnd_some e with ⟨h21, r22, ec, rfl⟩ | ⟨h21, r22, ec, e⟩
    · exact y_callV_x (pc := 100) (c_X7_minimumOf hl ec) q9 mf_X7_minimumOf tw_2_112 ts_1_2 lf_X8_214 rfl rfl dX8_property_100 (by decide) rfl rfl (leb rfl) (xx_out0 rfl)
    refine y_callV_i (pc := 100) (c_X7_minimumOf hl ec) q9 mf_X7_minimumOf tw_2_112 ts_1_2 lf_X8_214 rfl rfl dX8_property_100 (by decide) rfl rfl (leb rfl) ?_
    cases Option.some.inj e
    exact x_iret (pc := 103) rfl dX8_property_103
  refine x_tabO (pc := 26) (t := 104) dX8_property_26 (by have z0 := lv_neT q13 (show (iN 0).toInt = 0 by decide); have z1 := lv_neT q14 (show (iN 1).toInt = 1 by decide); have z2 := lv_neT q15 (show (iN 2).toInt = 2 by decide); have z3 := lv_neT q16 (show (iN 3).toInt = 3 by decide); have z4 := lv_neT q18 (show (iN 4).toInt = 4 by decide); have z5 := lv_neT q20 (show (iN 5).toInt = 5 by decide); omega) (by decide) ?_
  refine x_aload_n (pc := 104) 1 dX8_property_104 rfl ?_
  refine x_getR (pc := 105) gf_X8_10 rfl dX8_property_105 q8 q9.1 ?_
  refine x_aload_n (pc := 108) 0 dX8_property_108 rfl ?_
  rcases bnd_some e with ⟨h23, r24, ec, rfl⟩ | ⟨h23, r24, ec, e⟩
  · exact y_callV_x (pc := 109) (c_X7_maximumOf hl ec) q9 mf_X7_maximumOf tw_2_128 ts_1_5 lf_X8_218 rfl rfl dX8_property_109 (by decide) rfl rfl (leb rfl) (xx_out0 rfl)
  refine y_callV_i (pc := 109) (c_X7_maximumOf hl ec) q9 mf_X7_maximumOf tw_2_128 ts_1_5 lf_X8_218 rfl rfl dX8_property_109 (by decide) rfl rfl (leb rfl) ?_
  cases Option.some.inj e
  exact x_iret (pc := 112) rfl dX8_property_112
abbrev w_X8_property : Cond := (Cond.code yX8_property cX8_property 4 (Option.some Jvm.ClassFile.FieldType.int))
theorem mf_X8_property : MF yX8_property w_X8_property cX8_property 4 (Option.some Jvm.ClassFile.FieldType.int) 2 := ⟨⟨rfl, tw_5_90, by decide⟩, tw_1_1, ⟨by decide, by decide⟩, by decide +kernel⟩
theorem c_X8_property {l : Launch} {K : Ctx} (hl : l.stackTraces = false) {h : Hp} {a0 : Nat} {i1 : Int32} {i2 : Int32} {t : Rs Int32} (e : f_X8_property h a0 i1 i2 = some t) : Ctr l K 11 yX8_property w_X8_property [.ref a0, .int i1, .int i2] h (tgI t) :=
  Ctr.of hl mf_X8_property false (fun q => nomatch q) rfl (leb rfl) (p_X8_property hl e)
/-! ## TableColumnBalancerLaw.property -/
abbrev mM_L_property : Mi := (12, yL_property.cls, cL_property, 5, (Option.some Jvm.ClassFile.FieldType.int), [((0 : Nat), (10 : Nat), (13 : Nat), (21 : Nat)), ((0 : Nat), (10 : Nat), (17 : Nat), (13 : Nat))], false)
noncomputable def f_L_property (h : Hp) (a0 : Nat) (i1 : Int32) (i2 : Int32) (a3 : Nat) : Option (Rs Int32) :=
  chk (okr h a0 8) <|
  bndX (f_X8_property h a0 i1 i2) (fun h2 r3 => (
    chk (okr h2 a3 21) <|
    chk (vp_in (iN 0) (qW h2 a3)) <|
    lt (putL h2 a3 (Int32.toNatClampNeg (iN 0)) (Int32.toInt64 r3)) fun h6 =>
    some (h6, .inr (iN 0))
  )) fun h2 k =>
  if k = 2 then (
    some (h2, .inr (iN 1))
  ) else
  if k = 1 then (
    some (h2, .inr (iN 2))
  ) else
  none
theorem p_L_property {l : Launch} {K : Ctx} (hl : l.stackTraces = false) {h : Hp} {a0 : Nat} {i1 : Int32} {i2 : Int32} {a3 : Nat} {t : Rs Int32} (e : f_L_property h a0 i1 i2 a3 = some t) : X l K mM_L_property (tgI t) 0 [(0, .ref a0), (1, .int i1), (2, .int i2), (3, .ref a3)] [] h := by
  unfold f_L_property at e
  refine x_aload_n (pc := 0) 3 dL_property_0 rfl ?_
  refine x_iconst (pc := 1) dL_property_1 ?_
  refine x_aload_n (pc := 2) 0 dL_property_2 rfl ?_
  refine x_iload_n (pc := 3) 1 dL_property_3 rfl ?_
  refine x_iload_n (pc := 4) 2 dL_property_4 rfl ?_
  obtain ⟨q1, e⟩ := chk_some e
  rcases bndX_some e with ⟨h2, k, ec, e⟩ | ⟨h2, r3, ec, e⟩
  · rcases ite_some e with ⟨q7, e⟩ | ⟨q7, e⟩
    · subst q7
      refine y_callV_x (pc := 5) (c_X8_property hl ec) q1 mf_X8_property tw_5_88 tw_5_89 lf_L_61 rfl rfl dL_property_5 (by decide) rfl rfl (leb rfl) (xx_catchA (pc := 5) [] [(0, 10, 17, 13)] (0, 10, 13, 21) rfl (by decide) (fun _ hz => absurd hz List.not_mem_nil) (by decide) (by decide) tw_3_187 tw_3_229 dL_property_13 (by decide) rfl ?_)
      refine x_iconst (pc := 15) dL_property_15 ?_
      cases Option.some.inj e
      exact x_iret (pc := 16) rfl dL_property_16
    rcases ite_some e with ⟨q8, e⟩ | ⟨q8, e⟩
    · subst q8
      refine y_callV_x (pc := 5) (c_X8_property hl ec) q1 mf_X8_property tw_5_88 tw_5_89 lf_L_61 rfl rfl dL_property_5 (by decide) rfl rfl (leb rfl) (xx_catchA (pc := 5) [(0, 10, 13, 21)] [] (0, 10, 17, 13) rfl (by decide) (List.forall_mem_cons.mpr ⟨⟨by decide, 2, by decide, by decide, tw_3_187⟩, fun _ hz => absurd hz List.not_mem_nil⟩) (by decide) (by decide) tw_3_76 tw_3_88 dL_property_17 (by decide) rfl ?_)
      refine x_iconst (pc := 19) dL_property_19 ?_
      cases Option.some.inj e
      exact x_iret (pc := 20) rfl dL_property_20
    cases e
  refine y_callV_i (pc := 5) (c_X8_property hl ec) q1 mf_X8_property tw_5_88 tw_5_89 lf_L_61 rfl rfl dL_property_5 (by decide) rfl rfl (leb rfl) ?_
  refine x_i2l (pc := 8) dL_property_8 ?_
  obtain ⟨q4, e⟩ := chk_some e
  obtain ⟨q5, e⟩ := chk_some e
  replace e := lt_go e
  refine x_last (pc := 9) dL_property_9 q4 q5 ?_
  refine x_goto (pc := 10) (t := 21) dL_property_10 (by decide) ?_
  refine x_iconst (pc := 21) dL_property_21 ?_
  cases Option.some.inj e
  exact x_iret (pc := 22) rfl dL_property_22
abbrev w_L_property : Cond := (Cond.codeWith yL_property cL_property 5 (Option.some Jvm.ClassFile.FieldType.int) [((0 : Nat), (10 : Nat), (13 : Nat), (21 : Nat)), ((0 : Nat), (10 : Nat), (17 : Nat), (13 : Nat))])
theorem mf_L_property : MFX yL_property w_L_property cL_property 5 (Option.some Jvm.ClassFile.FieldType.int) 4 [((0 : Nat), (10 : Nat), (13 : Nat), (21 : Nat)), ((0 : Nat), (10 : Nat), (17 : Nat), (13 : Nat))] := ⟨⟨rfl, tw_5_86, by decide⟩, tw_1_0, ⟨by decide, by decide⟩, by decide +kernel⟩
theorem c_L_property {l : Launch} {K : Ctx} (hl : l.stackTraces = false) {h : Hp} {a0 : Nat} {i1 : Int32} {i2 : Int32} {a3 : Nat} {t : Rs Int32} (e : f_L_property h a0 i1 i2 a3 = some t) : Ctr l K 12 yL_property w_L_property [.ref a0, .int i1, .int i2, .ref a3] h (tgI t) :=
  Ctr.ofX hl mf_L_property rfl (leb rfl) (p_L_property hl e)
/-! ## TableColumnBalancerModel.cuts -/
abbrev mM_X9_cuts : Mi := (9, yX9_cuts.cls, cX9_cuts, 7, (Option.none : Option Jvm.ClassFile.FieldType), [], false)
noncomputable def f_X9_cuts_L159 (k9 : Hp → Nat → Int32 → Int32 → Int32 → Option (Rs Unit)) (h : Hp) (a0 : Nat) (i1 : Int32) (i2 : Int32) (i3 : Int32) : Option (Rs Unit) :=
  k9 h a0 i1 i2 (i3 + iN 1)
theorem p_X9_cuts_L159 {l : Launch} {K : Ctx} (hl : l.stackTraces = false) {k9 : Hp → Nat → Int32 → Int32 → Int32 → Option (Rs Unit)} (hk9 : ∀ (h : Hp) (a0 : Nat) (i1 : Int32) (i2 : Int32) (i3 : Int32) (t : Rs Unit), k9 h a0 i1 i2 i3 = some t → X l K mM_X9_cuts (tgV t) 9 [(0, .ref a0), (1, .int i1), (2, .int i2), (3, .int i3)] [] h) {h : Hp} {a0 : Nat} {i1 : Int32} {i2 : Int32} {i3 : Int32} {t : Rs Unit} (e : f_X9_cuts_L159 k9 h a0 i1 i2 i3 = some t) : X l K mM_X9_cuts (tgV t) 159 [(0, .ref a0), (1, .int i1), (2, .int i2), (3, .int i3)] [] h := by
  unfold f_X9_cuts_L159 at e
  refine x_iinc (pc := 159) 3 dX9_cuts_159 rfl (by decide) rfl ?_
  refine x_goto (pc := 162) (t := 9) dX9_cuts_162 (by decide) ?_
  exact x_sub1 (hk9 _ _ _ _ _ _ e) [1, 2, 3, 0] rfl
noncomputable def f_X9_cuts_L146 (k9 : Hp → Nat → Int32 → Int32 → Int32 → Option (Rs Unit)) (h : Hp) (a0 : Nat) (i1 : Int32) (i3 : Int32) (s0 : Int32) (s1 : Int32) (s2 : Nat) : Option (Rs Unit) :=
  chk (okr h s2 20) <|
  chk (vp_in s1 (qW h s2)) <|
  lt (putI h s2 (Int32.toNatClampNeg s1) s0) fun h3 =>
  chk (okr h3 a0 9) <|
  lt (putI h3 a0 18 ((qI h3 a0 18) + (iN 1))) fun h5 =>
  f_X9_cuts_L159 k9 h5 a0 i1 (iN 0) i3
theorem p_X9_cuts_L146 {l : Launch} {K : Ctx} (hl : l.stackTraces = false) {k9 : Hp → Nat → Int32 → Int32 → Int32 → Option (Rs Unit)} (hk9 : ∀ (h : Hp) (a0 : Nat) (i1 : Int32) (i2 : Int32) (i3 : Int32) (t : Rs Unit), k9 h a0 i1 i2 i3 = some t → X l K mM_X9_cuts (tgV t) 9 [(0, .ref a0), (1, .int i1), (2, .int i2), (3, .int i3)] [] h) {h : Hp} {a0 : Nat} {i1 : Int32} {i3 : Int32} {s0 : Int32} {s1 : Int32} {s2 : Nat} {t : Rs Unit} (e : f_X9_cuts_L146 k9 h a0 i1 i3 s0 s1 s2 = some t) : X l K mM_X9_cuts (tgV t) 146 [(0, .ref a0), (1, .int i1), (3, .int i3)] [.int s0, .int s1, .ref s2] h := by
  unfold f_X9_cuts_L146 at e
  obtain ⟨q1, e⟩ := chk_some e
  obtain ⟨q2, e⟩ := chk_some e
  replace e := lt_go e
  refine x_iast (pc := 146) dX9_cuts_146 q1 q2 ?_
  refine x_aload_n (pc := 147) 0 dX9_cuts_147 rfl ?_
  refine x_dup (pc := 148) dX9_cuts_148 rfl ?_
  obtain ⟨q4, e⟩ := chk_some e
  refine x_getI (pc := 149) gf_X9_262 rfl dX9_cuts_149 q4 ?_
  refine x_iconst (pc := 152) dX9_cuts_152 ?_
  refine x_iadd (pc := 153) dX9_cuts_153 ?_
  replace e := lt_go e
  refine x_putI (pc := 154) pf_X9_262 rfl rfl rfl dX9_cuts_154 q4 ?_
  refine x_iconst (pc := 157) dX9_cuts_157 ?_
  refine x_istore_n (pc := 158) dX9_cuts_158 (by decide) rfl ?_
  exact x_sub1 (p_X9_cuts_L159 hl hk9 e) [1, 2, 0, 3] rfl
noncomputable def f_X9_cuts_L109 (k9 : Hp → Nat → Int32 → Int32 → Int32 → Option (Rs Unit)) (h : Hp) (a0 : Nat) (i1 : Int32) (i3 : Int32) (i4 : Int32) (i5 : Int32) (i6 : Int32) (s0 : Int32) (s1 : Int32) (s2 : Int32) : Option (Rs Unit) :=
  if i6 = 0 then (
    chk (okr h a0 9) <|
    chk (okr h (qR h a0 16) 20) <|
    chk (vp_in (qI h a0 18) (qW h (qR h a0 16))) <|
    lt (putI h (qR h a0 16) (Int32.toNatClampNeg (qI h a0 18)) (s2 + (s1 + s0))) fun h5 =>
    chk (okr h5 (qR h5 a0 17) 20) <|
    if i5 = 0 then (
      f_X9_cuts_L146 k9 h5 a0 i1 i3 i4 (qI h5 a0 18) (qR h5 a0 17)
    ) else (
      f_X9_cuts_L146 k9 h5 a0 i1 i3 (iN 1) (qI h5 a0 18) (qR h5 a0 17)
    )
  ) else (
    f_X9_cuts_L159 k9 h a0 i1 (s2 + (s1 + s0)) i3
  )
theorem p_X9_cuts_L109 {l : Launch} {K : Ctx} (hl : l.stackTraces = false) {k9 : Hp → Nat → Int32 → Int32 → Int32 → Option (Rs Unit)} (hk9 : ∀ (h : Hp) (a0 : Nat) (i1 : Int32) (i2 : Int32) (i3 : Int32) (t : Rs Unit), k9 h a0 i1 i2 i3 = some t → X l K mM_X9_cuts (tgV t) 9 [(0, .ref a0), (1, .int i1), (2, .int i2), (3, .int i3)] [] h) {h : Hp} {a0 : Nat} {i1 : Int32} {i3 : Int32} {i4 : Int32} {i5 : Int32} {i6 : Int32} {s0 : Int32} {s1 : Int32} {s2 : Int32} {t : Rs Unit} (e : f_X9_cuts_L109 k9 h a0 i1 i3 i4 i5 i6 s0 s1 s2 = some t) : X l K mM_X9_cuts (tgV t) 109 [(0, .ref a0), (1, .int i1), (3, .int i3), (4, .int i4), (5, .int i5), (6, .int i6)] [.int s0, .int s1, .int s2] h := by
  unfold f_X9_cuts_L109 at e
  refine x_iadd (pc := 109) dX9_cuts_109 ?_
  refine x_iadd (pc := 110) dX9_cuts_110 ?_
  refine x_istore_n (pc := 111) dX9_cuts_111 (by decide) rfl ?_
  refine x_iload (pc := 112) 6 dX9_cuts_112 rfl ?_
  rcases ite_some e with ⟨q1, e⟩ | ⟨q1, e⟩
  · refine x_if_ne_f (pc := 114) (t := 159) dX9_cuts_114 (by decide) q1 ?_
    refine x_aload_n (pc := 117) 1 dX9_cuts_117 rfl ?_
    obtain ⟨q2, e⟩ := chk_some e
    obtain ⟨q3, e⟩ := chk_some e
    refine x_getR (pc := 118) gf_X9_39 rfl dX9_cuts_118 q2 q3.1 ?_
    refine x_aload_n (pc := 121) 1 dX9_cuts_121 rfl ?_
    refine x_getI (pc := 122) gf_X9_262 rfl dX9_cuts_122 q2 ?_
    refine x_iload_n (pc := 125) 0 dX9_cuts_125 rfl ?_
    obtain ⟨q4, e⟩ := chk_some e
    replace e := lt_go e
    refine x_iast (pc := 126) dX9_cuts_126 q3 q4 ?_
    refine x_aload_n (pc := 127) 1 dX9_cuts_127 rfl ?_
    obtain ⟨q6, e⟩ := chk_some e
    refine x_getR (pc := 128) gf_X9_42 rfl dX9_cuts_128 (okr_pI q2) q6.1 ?_
    refine x_aload_n (pc := 131) 1 dX9_cuts_131 rfl ?_
    refine x_getI (pc := 132) gf_X9_262 rfl dX9_cuts_132 (okr_pI q2) ?_
    refine x_iload (pc := 135) 5 dX9_cuts_135 rfl ?_
    rcases ite_some e with ⟨q7, e⟩ | ⟨q7, e⟩
    · refine x_if_eq_t (pc := 137) (t := 144) dX9_cuts_137 (by decide) q7 ?_
      refine x_iload (pc := 144) 4 dX9_cuts_144 rfl ?_
      exact x_sub1 (p_X9_cuts_L146 hl hk9 e) [1, 2, 3] rfl
    · refine x_if_eq_f (pc := 137) (t := 144) dX9_cuts_137 (by decide) q7 ?_
      refine x_iconst (pc := 140) dX9_cuts_140 ?_
      refine x_goto (pc := 141) (t := 146) dX9_cuts_141 (by decide) ?_
      exact x_sub1 (p_X9_cuts_L146 hl hk9 e) [1, 2, 3] rfl
  · refine x_if_ne_t (pc := 114) (t := 159) dX9_cuts_114 (by decide) q1 ?_
    exact x_sub1 (p_X9_cuts_L159 hl hk9 e) [1, 2, 0, 3] rfl
noncomputable def f_X9_cuts_L108 (k9 : Hp → Nat → Int32 → Int32 → Int32 → Option (Rs Unit)) (h : Hp) (a0 : Nat) (i1 : Int32) (i3 : Int32) (i4 : Int32) (i5 : Int32) (i6 : Int32) (s0 : Int32) (s1 : Int32) : Option (Rs Unit) :=
  f_X9_cuts_L109 k9 h a0 i1 i3 i4 i5 i6 (iN 0) s0 s1
theorem p_X9_cuts_L108 {l : Launch} {K : Ctx} (hl : l.stackTraces = false) {k9 : Hp → Nat → Int32 → Int32 → Int32 → Option (Rs Unit)} (hk9 : ∀ (h : Hp) (a0 : Nat) (i1 : Int32) (i2 : Int32) (i3 : Int32) (t : Rs Unit), k9 h a0 i1 i2 i3 = some t → X l K mM_X9_cuts (tgV t) 9 [(0, .ref a0), (1, .int i1), (2, .int i2), (3, .int i3)] [] h) {h : Hp} {a0 : Nat} {i1 : Int32} {i3 : Int32} {i4 : Int32} {i5 : Int32} {i6 : Int32} {s0 : Int32} {s1 : Int32} {t : Rs Unit} (e : f_X9_cuts_L108 k9 h a0 i1 i3 i4 i5 i6 s0 s1 = some t) : X l K mM_X9_cuts (tgV t) 108 [(0, .ref a0), (1, .int i1), (3, .int i3), (4, .int i4), (5, .int i5), (6, .int i6)] [.int s0, .int s1] h := by
  unfold f_X9_cuts_L108 at e
  refine x_iconst (pc := 108) dX9_cuts_108 ?_
  exact p_X9_cuts_L109 hl hk9 e
noncomputable def f_X9_cuts_L81 (k9 : Hp → Nat → Int32 → Int32 → Int32 → Option (Rs Unit)) (h : Hp) (a0 : Nat) (i1 : Int32) (i2 : Int32) (i3 : Int32) (i4 : Int32) (i5 : Int32) (s0 : Int32) : Option (Rs Unit) :=
  chk (okr h a0 9) <|
  bnd (f_X9_of h a0 i1 ((iN 7) + i3)) fun h2 r3 =>
  if s0 = 0 then (
    f_X9_cuts_L108 k9 h2 a0 i1 i3 i4 i5 s0 r3 i2
  ) else (
    if i4 = (iN 3) then (
      f_X9_cuts_L108 k9 h2 a0 i1 i3 i4 i5 s0 r3 i2
    ) else (
      f_X9_cuts_L109 k9 h2 a0 i1 i3 i4 i5 s0 (iN 1) r3 i2
    )
  )
theorem p_X9_cuts_L81 {l : Launch} {K : Ctx} (hl : l.stackTraces = false) {k9 : Hp → Nat → Int32 → Int32 → Int32 → Option (Rs Unit)} (hk9 : ∀ (h : Hp) (a0 : Nat) (i1 : Int32) (i2 : Int32) (i3 : Int32) (t : Rs Unit), k9 h a0 i1 i2 i3 = some t → X l K mM_X9_cuts (tgV t) 9 [(0, .ref a0), (1, .int i1), (2, .int i2), (3, .int i3)] [] h) {h : Hp} {a0 : Nat} {i1 : Int32} {i2 : Int32} {i3 : Int32} {i4 : Int32} {i5 : Int32} {s0 : Int32} {t : Rs Unit} (e : f_X9_cuts_L81 k9 h a0 i1 i2 i3 i4 i5 s0 = some t) : X l K mM_X9_cuts (tgV t) 81 [(0, .ref a0), (1, .int i1), (2, .int i2), (3, .int i3), (4, .int i4), (5, .int i5)] [.int s0] h := by
  unfold f_X9_cuts_L81 at e
  refine x_istore (pc := 81) dX9_cuts_81 (by decide) rfl ?_
  refine x_iload_n (pc := 83) 3 dX9_cuts_83 rfl ?_
  refine x_aload_n (pc := 84) 1 dX9_cuts_84 rfl ?_
  refine x_iload_n (pc := 85) 2 dX9_cuts_85 rfl ?_
  refine x_bipush (pc := 86) (v := iN 7) dX9_cuts_86 rfl ?_
  refine x_iload_n (pc := 88) 4 dX9_cuts_88 rfl ?_
  refine x_iadd (pc := 89) dX9_cuts_89 ?_
  obtain ⟨q1, e⟩ := chk_some e
  rcases bnd_some e with ⟨h2, r3, ec, rfl⟩ | ⟨h2, r3, ec, e⟩
  · exact y_callV_x (pc := 90) (c_X9_of hl ec) q1 mf_X9_of tw_7_63 ts_6_12 lf_X9_91 rfl rfl dX9_cuts_90 (by decide) rfl rfl (leb rfl) (xx_out0 rfl)
  refine y_callV_i (pc := 90) (c_X9_of hl ec) q1 mf_X9_of tw_7_63 ts_6_12 lf_X9_91 rfl rfl dX9_cuts_90 (by decide) rfl rfl (leb rfl) ?_
  refine x_iload (pc := 93) 0 dX9_cuts_93 rfl ?_
  rcases ite_some e with ⟨q4, e⟩ | ⟨q4, e⟩
  · refine x_if_eq_t (pc := 95) (t := 108) dX9_cuts_95 (by decide) q4 ?_
    exact x_sub1 (p_X9_cuts_L108 hl hk9 e) [1, 2, 4, 5, 6, 0] rfl
  · refine x_if_eq_f (pc := 95) (t := 108) dX9_cuts_95 (by decide) q4 ?_
    refine x_iload (pc := 98) 5 dX9_cuts_98 rfl ?_
    refine x_iconst (pc := 100) dX9_cuts_100 ?_
    rcases ite_some e with ⟨q5, e⟩ | ⟨q5, e⟩
    · refine x_icmp_eq_t (pc := 101) (t := 108) dX9_cuts_101 (by decide) q5 ?_
      exact x_sub1 (p_X9_cuts_L108 hl hk9 e) [1, 2, 4, 5, 6, 0] rfl
    · refine x_icmp_eq_f (pc := 101) (t := 108) dX9_cuts_101 (by decide) q5 ?_
      refine x_iconst (pc := 104) dX9_cuts_104 ?_
      refine x_goto (pc := 105) (t := 109) dX9_cuts_105 (by decide) ?_
      exact x_sub1 (p_X9_cuts_L109 hl hk9 e) [1, 2, 4, 5, 6, 0] rfl
noncomputable def f_X9_cuts_L76 (k9 : Hp → Nat → Int32 → Int32 → Int32 → Option (Rs Unit)) (h : Hp) (a0 : Nat) (i1 : Int32) (i2 : Int32) (i3 : Int32) (i4 : Int32) (i5 : Int32) : Option (Rs Unit) :=
  f_X9_cuts_L81 k9 h a0 i1 i2 i3 i4 i5 (iN 1)
theorem p_X9_cuts_L76 {l : Launch} {K : Ctx} (hl : l.stackTraces = false) {k9 : Hp → Nat → Int32 → Int32 → Int32 → Option (Rs Unit)} (hk9 : ∀ (h : Hp) (a0 : Nat) (i1 : Int32) (i2 : Int32) (i3 : Int32) (t : Rs Unit), k9 h a0 i1 i2 i3 = some t → X l K mM_X9_cuts (tgV t) 9 [(0, .ref a0), (1, .int i1), (2, .int i2), (3, .int i3)] [] h) {h : Hp} {a0 : Nat} {i1 : Int32} {i2 : Int32} {i3 : Int32} {i4 : Int32} {i5 : Int32} {t : Rs Unit} (e : f_X9_cuts_L76 k9 h a0 i1 i2 i3 i4 i5 = some t) : X l K mM_X9_cuts (tgV t) 76 [(0, .ref a0), (1, .int i1), (2, .int i2), (3, .int i3), (4, .int i4), (5, .int i5)] [] h := by
  unfold f_X9_cuts_L76 at e
  refine x_iconst (pc := 76) dX9_cuts_76 ?_
  refine x_goto (pc := 77) (t := 81) dX9_cuts_77 (by decide) ?_
  exact p_X9_cuts_L81 hl hk9 e
noncomputable def f_X9_cuts_L80 (k9 : Hp → Nat → Int32 → Int32 → Int32 → Option (Rs Unit)) (h : Hp) (a0 : Nat) (i1 : Int32) (i2 : Int32) (i3 : Int32) (i4 : Int32) (i5 : Int32) : Option (Rs Unit) :=
  f_X9_cuts_L81 k9 h a0 i1 i2 i3 i4 i5 (iN 0)
theorem p_X9_cuts_L80 {l : Launch} {K : Ctx} (hl : l.stackTraces = false) {k9 : Hp → Nat → Int32 → Int32 → Int32 → Option (Rs Unit)} (hk9 : ∀ (h : Hp) (a0 : Nat) (i1 : Int32) (i2 : Int32) (i3 : Int32) (t : Rs Unit), k9 h a0 i1 i2 i3 = some t → X l K mM_X9_cuts (tgV t) 9 [(0, .ref a0), (1, .int i1), (2, .int i2), (3, .int i3)] [] h) {h : Hp} {a0 : Nat} {i1 : Int32} {i2 : Int32} {i3 : Int32} {i4 : Int32} {i5 : Int32} {t : Rs Unit} (e : f_X9_cuts_L80 k9 h a0 i1 i2 i3 i4 i5 = some t) : X l K mM_X9_cuts (tgV t) 80 [(0, .ref a0), (1, .int i1), (2, .int i2), (3, .int i3), (4, .int i4), (5, .int i5)] [] h := by
  unfold f_X9_cuts_L80 at e
  refine x_iconst (pc := 80) dX9_cuts_80 ?_
  exact p_X9_cuts_L81 hl hk9 e
noncomputable def f_X9_cuts_L47 (k9 : Hp → Nat → Int32 → Int32 → Int32 → Option (Rs Unit)) (h : Hp) (a0 : Nat) (i1 : Int32) (i2 : Int32) (i3 : Int32) (i4 : Int32) (s0 : Int32) : Option (Rs Unit) :=
  if s0 = 0 then (
    if i4 = (iN 2) then (
      f_X9_cuts_L76 k9 h a0 i1 i2 i3 i4 s0
    ) else (
      chk (okr h a0 9) <|
      bnd (f_X9_of h a0 i1 (iN 3)) fun h4 r5 =>
      if r5 = (iN 3) then (
        if i4 = (iN 1) then (
          f_X9_cuts_L80 k9 h4 a0 i1 i2 i3 i4 s0
        ) else (
          f_X9_cuts_L76 k9 h4 a0 i1 i2 i3 i4 s0
        )
      ) else (
        f_X9_cuts_L80 k9 h4 a0 i1 i2 i3 i4 s0
      )
    )
  ) else (
    f_X9_cuts_L80 k9 h a0 i1 i2 i3 i4 s0
  )
theorem p_X9_cuts_L47 {l : Launch} {K : Ctx} (hl : l.stackTraces = false) {k9 : Hp → Nat → Int32 → Int32 → Int32 → Option (Rs Unit)} (hk9 : ∀ (h : Hp) (a0 : Nat) (i1 : Int32) (i2 : Int32) (i3 : Int32) (t : Rs Unit), k9 h a0 i1 i2 i3 = some t → X l K mM_X9_cuts (tgV t) 9 [(0, .ref a0), (1, .int i1), (2, .int i2), (3, .int i3)] [] h) {h : Hp} {a0 : Nat} {i1 : Int32} {i2 : Int32} {i3 : Int32} {i4 : Int32} {s0 : Int32} {t : Rs Unit} (e : f_X9_cuts_L47 k9 h a0 i1 i2 i3 i4 s0 = some t) : X l K mM_X9_cuts (tgV t) 47 [(0, .ref a0), (1, .int i1), (2, .int i2), (3, .int i3), (4, .int i4)] [.int s0] h := by
  unfold f_X9_cuts_L47 at e
  refine x_istore (pc := 47) dX9_cuts_47 (by decide) rfl ?_
  refine x_iload (pc := 49) 0 dX9_cuts_49 rfl ?_
  rcases ite_some e with ⟨q1, e⟩ | ⟨q1, e⟩
  · refine x_if_ne_f (pc := 51) (t := 80) dX9_cuts_51 (by decide) q1 ?_
    refine x_iload (pc := 54) 5 dX9_cuts_54 rfl ?_
    refine x_iconst (pc := 56) dX9_cuts_56 ?_
    rcases ite_some e with ⟨q2, e⟩ | ⟨q2, e⟩
    · refine x_icmp_eq_t (pc := 57) (t := 76) dX9_cuts_57 (by decide) q2 ?_
      exact x_sub1 (p_X9_cuts_L76 hl hk9 e) [1, 2, 3, 4, 5, 0] rfl
    · refine x_icmp_eq_f (pc := 57) (t := 76) dX9_cuts_57 (by decide) q2 ?_
      refine x_aload_n (pc := 60) 1 dX9_cuts_60 rfl ?_
      refine x_iload_n (pc := 61) 2 dX9_cuts_61 rfl ?_
      refine x_iconst (pc := 62) dX9_cuts_62 ?_
      obtain ⟨q3, e⟩ := chk_some e
      rcases bnd_some e with ⟨h4, r5, ec, rfl⟩ | ⟨h4, r5, ec, e⟩
      · exact y_callV_x (pc := 63) (c_X9_of hl ec) q3 mf_X9_of tw_7_63 ts_6_12 lf_X9_91 rfl rfl dX9_cuts_63 (by decide) rfl rfl (leb rfl) (xx_out0 rfl)
      refine y_callV_i (pc := 63) (c_X9_of hl ec) q3 mf_X9_of tw_7_63 ts_6_12 lf_X9_91 rfl rfl dX9_cuts_63 (by decide) rfl rfl (leb rfl) ?_
      refine x_iconst (pc := 66) dX9_cuts_66 ?_
      rcases ite_some e with ⟨q6, e⟩ | ⟨q6, e⟩
      · refine x_icmp_ne_f (pc := 67) (t := 80) dX9_cuts_67 (by decide) q6 ?_
        refine x_iload (pc := 70) 5 dX9_cuts_70 rfl ?_
        refine x_iconst (pc := 72) dX9_cuts_72 ?_
        rcases ite_some e with ⟨q7, e⟩ | ⟨q7, e⟩
        · refine x_icmp_eq_t (pc := 73) (t := 80) dX9_cuts_73 (by decide) q7 ?_
          exact x_sub1 (p_X9_cuts_L80 hl hk9 e) [1, 2, 3, 4, 5, 0] rfl
        · refine x_icmp_eq_f (pc := 73) (t := 80) dX9_cuts_73 (by decide) q7 ?_
          exact x_sub1 (p_X9_cuts_L76 hl hk9 e) [1, 2, 3, 4, 5, 0] rfl
      · refine x_icmp_ne_t (pc := 67) (t := 80) dX9_cuts_67 (by decide) q6 ?_
        exact x_sub1 (p_X9_cuts_L80 hl hk9 e) [1, 2, 3, 4, 5, 0] rfl
  · refine x_if_ne_t (pc := 51) (t := 80) dX9_cuts_51 (by decide) q1 ?_
    exact x_sub1 (p_X9_cuts_L80 hl hk9 e) [1, 2, 3, 4, 5, 0] rfl
noncomputable def f_X9_cuts_B9 (k9 : Hp → Nat → Int32 → Int32 → Int32 → Option (Rs Unit)) (h : Hp) (a0 : Nat) (i1 : Int32) (i2 : Int32) (i3 : Int32) : Option (Rs Unit) :=
  chk (okr h a0 9) <|
  bnd (f_X9_of h a0 i1 (iN 4)) fun h2 r3 =>
  if r3 ≤ i3 then (
    some (h2, .inr ())
  ) else (
    chk (okr h2 a0 9) <|
    bnd (f_X9_of h2 a0 i1 ((iN 19) + i3)) fun h6 r7 =>
    chk (okr h6 a0 9) <|
    bnd (f_X9_of h6 a0 i1 (iN 4)) fun h9 r10 =>
    if i3 = (r10 - (iN 1)) then (
      f_X9_cuts_L47 k9 h9 a0 i1 i2 i3 r7 (iN 1)
    ) else (
      f_X9_cuts_L47 k9 h9 a0 i1 i2 i3 r7 (iN 0)
    )
  )
theorem p_X9_cuts_B9 {l : Launch} {K : Ctx} (hl : l.stackTraces = false) {k9 : Hp → Nat → Int32 → Int32 → Int32 → Option (Rs Unit)} (hk9 : ∀ (h : Hp) (a0 : Nat) (i1 : Int32) (i2 : Int32) (i3 : Int32) (t : Rs Unit), k9 h a0 i1 i2 i3 = some t → X l K mM_X9_cuts (tgV t) 9 [(0, .ref a0), (1, .int i1), (2, .int i2), (3, .int i3)] [] h) {h : Hp} {a0 : Nat} {i1 : Int32} {i2 : Int32} {i3 : Int32} {t : Rs Unit} (e : f_X9_cuts_B9 k9 h a0 i1 i2 i3 = some t) : X l K mM_X9_cuts (tgV t) 9 [(0, .ref a0), (1, .int i1), (2, .int i2), (3, .int i3)] [] h := by
  unfold f_X9_cuts_B9 at e
  refine x_iload_n (pc := 9) 3 dX9_cuts_9 rfl ?_
  refine x_aload_n (pc := 10) 0 dX9_cuts_10 rfl ?_
  refine x_iload_n (pc := 11) 1 dX9_cuts_11 rfl ?_
  refine x_iconst (pc := 12) dX9_cuts_12 ?_
  obtain ⟨q1, e⟩ := chk_some e
  rcases bnd_some e with ⟨h2, r3, ec, rfl⟩ | ⟨h2, r3, ec, e⟩
  · exact y_callV_x (pc := 13) (c_X9_of hl ec) q1 mf_X9_of tw_7_63 ts_6_12 lf_X9_91 rfl rfl dX9_cuts_13 (by decide) rfl rfl (leb rfl) (xx_out0 rfl)
  refine y_callV_i (pc := 13) (c_X9_of hl ec) q1 mf_X9_of tw_7_63 ts_6_12 lf_X9_91 rfl rfl dX9_cuts_13 (by decide) rfl rfl (leb rfl) ?_
  rcases ite_some e with ⟨q4, e⟩ | ⟨q4, e⟩
  · refine x_icmp_ge_t (pc := 16) (t := 165) dX9_cuts_16 (by decide) q4 ?_
    cases Option.some.inj e
    exact x_vret (pc := 165) rfl dX9_cuts_165
  · refine x_icmp_ge_f (pc := 16) (t := 165) dX9_cuts_16 (by decide) q4 ?_
    refine x_aload_n (pc := 19) 0 dX9_cuts_19 rfl ?_
    refine x_iload_n (pc := 20) 1 dX9_cuts_20 rfl ?_
    refine x_bipush (pc := 21) (v := iN 19) dX9_cuts_21 rfl ?_
    refine x_iload_n (pc := 23) 3 dX9_cuts_23 rfl ?_
    refine x_iadd (pc := 24) dX9_cuts_24 ?_
    obtain ⟨q5, e⟩ := chk_some e
    rcases bnd_some e with ⟨h6, r7, ec, rfl⟩ | ⟨h6, r7, ec, e⟩
    · exact y_callV_x (pc := 25) (c_X9_of hl ec) q5 mf_X9_of tw_7_63 ts_6_12 lf_X9_91 rfl rfl dX9_cuts_25 (by decide) rfl rfl (leb rfl) (xx_out0 rfl)
    refine y_callV_i (pc := 25) (c_X9_of hl ec) q5 mf_X9_of tw_7_63 ts_6_12 lf_X9_91 rfl rfl dX9_cuts_25 (by decide) rfl rfl (leb rfl) ?_
    refine x_istore (pc := 28) dX9_cuts_28 (by decide) rfl ?_
    refine x_iload_n (pc := 30) 4 dX9_cuts_30 rfl ?_
    refine x_aload_n (pc := 31) 1 dX9_cuts_31 rfl ?_
    refine x_iload_n (pc := 32) 2 dX9_cuts_32 rfl ?_
    refine x_iconst (pc := 33) dX9_cuts_33 ?_
    obtain ⟨q8, e⟩ := chk_some e
    rcases bnd_some e with ⟨h9, r10, ec, rfl⟩ | ⟨h9, r10, ec, e⟩
    · exact y_callV_x (pc := 34) (c_X9_of hl ec) q8 mf_X9_of tw_7_63 ts_6_12 lf_X9_91 rfl rfl dX9_cuts_34 (by decide) rfl rfl (leb rfl) (xx_out0 rfl)
    refine y_callV_i (pc := 34) (c_X9_of hl ec) q8 mf_X9_of tw_7_63 ts_6_12 lf_X9_91 rfl rfl dX9_cuts_34 (by decide) rfl rfl (leb rfl) ?_
    refine x_iconst (pc := 37) dX9_cuts_37 ?_
    refine x_isub (pc := 38) dX9_cuts_38 ?_
    rcases ite_some e with ⟨q11, e⟩ | ⟨q11, e⟩
    · refine x_icmp_ne_f (pc := 39) (t := 46) dX9_cuts_39 (by decide) q11 ?_
      refine x_iconst (pc := 42) dX9_cuts_42 ?_
      refine x_goto (pc := 43) (t := 47) dX9_cuts_43 (by decide) ?_
      exact x_sub1 (p_X9_cuts_L47 hl hk9 e) [1, 2, 3, 4, 0] rfl
    · refine x_icmp_ne_t (pc := 39) (t := 46) dX9_cuts_39 (by decide) q11 ?_
      refine x_iconst (pc := 46) dX9_cuts_46 ?_
      exact x_sub1 (p_X9_cuts_L47 hl hk9 e) [1, 2, 3, 4, 0] rfl
noncomputable def f_X9_cuts_L9 (n : Nat) : Hp → Nat → Int32 → Int32 → Int32 → Option (Rs Unit) := Nat.rec (motive := fun _ => Hp → Nat → Int32 → Int32 → Int32 → Option (Rs Unit)) (fun _ _ _ _ _ => none) (fun _ r => f_X9_cuts_B9 r) n
theorem p_X9_cuts_L9 {l : Launch} {K : Ctx} (hl : l.stackTraces = false) : ∀ (n : Nat) (h : Hp) (a0 : Nat) (i1 : Int32) (i2 : Int32) (i3 : Int32) (t : Rs Unit) (e : f_X9_cuts_L9 n h a0 i1 i2 i3 = some t), X l K mM_X9_cuts (tgV t) 9 [(0, .ref a0), (1, .int i1), (2, .int i2), (3, .int i3)] [] h := by
  intro n
  induction n with
  | zero => exact fun _ _ _ _ _ _ e => nomatch (show (none : Option (Rs Unit)) = some _ from e)
  | succ n ih => exact fun h a0 i1 i2 i3 t e => p_X9_cuts_B9 hl (fun h a0 i1 i2 i3 t e => ih h a0 i1 i2 i3 t e) e
noncomputable def f_X9_cuts (h : Hp) (a0 : Nat) (i1 : Int32) : Option (Rs Unit) :=
  chk (okr h a0 9) <|
  lt (putI h a0 18 (iN 0)) fun h2 =>
  f_X9_cuts_L9 2000 h2 a0 i1 (iN 0) (iN 0)
theorem p_X9_cuts {l : Launch} {K : Ctx} (hl : l.stackTraces = false) {h : Hp} {a0 : Nat} {i1 : Int32} {t : Rs Unit} (e : f_X9_cuts h a0 i1 = some t) : X l K mM_X9_cuts (tgV t) 0 [(0, .ref a0), (1, .int i1)] [] h := by
  unfold f_X9_cuts at e
  refine x_aload_n (pc := 0) 0 dX9_cuts_0 rfl ?_
  refine x_iconst (pc := 1) dX9_cuts_1 ?_
  obtain ⟨q1, e⟩ := chk_some e
  replace e := lt_go e
  refine x_putI (pc := 2) pf_X9_262 rfl rfl rfl dX9_cuts_2 q1 ?_
  refine x_iconst (pc := 5) dX9_cuts_5 ?_
  refine x_istore_n (pc := 6) dX9_cuts_6 (by decide) rfl ?_
  refine x_iconst (pc := 7) dX9_cuts_7 ?_
  refine x_istore_n (pc := 8) dX9_cuts_8 (by decide) rfl ?_
  exact x_sub1 (p_X9_cuts_L9 hl 2000 _ _ _ _ _ _ e) [2, 3, 1, 0] rfl
abbrev w_X9_cuts : Cond := (Cond.code yX9_cuts cX9_cuts 7 (Option.none : Option Jvm.ClassFile.FieldType))
theorem mf_X9_cuts : MF yX9_cuts w_X9_cuts cX9_cuts 7 (Option.none : Option Jvm.ClassFile.FieldType) 1 := ⟨⟨rfl, tw_8_4, by decide⟩, tw_1_11, ⟨by decide, by decide⟩, by decide +kernel⟩
theorem c_X9_cuts {l : Launch} {K : Ctx} (hl : l.stackTraces = false) {h : Hp} {a0 : Nat} {i1 : Int32} {t : Rs Unit} (e : f_X9_cuts h a0 i1 = some t) : Ctr l K 9 yX9_cuts w_X9_cuts [.ref a0, .int i1] h (tgV t) :=
  Ctr.of hl mf_X9_cuts false (fun q => nomatch q) rfl (leb rfl) (p_X9_cuts hl e)
/-! ## TableColumnBalancerModel.longOf -/
abbrev mM_X9_longOf : Mi := (8, yX9_longOf.cls, cX9_longOf, 5, (Option.some Jvm.ClassFile.FieldType.int), [], false)
noncomputable def f_X9_longOf_L54 (k19 : Hp → Nat → Int32 → Int32 → Int32 → Option (Rs Int32)) (h : Hp) (a0 : Nat) (i2 : Int32) (i4 : Int32) (s0 : Int32) (s1 : Int32) (s2 : Int32) : Option (Rs Int32) :=
  k19 h a0 i2 (s2 + (s1 + s0)) (i4 + iN 1)
theorem p_X9_longOf_L54 {l : Launch} {K : Ctx} (hl : l.stackTraces = false) {k19 : Hp → Nat → Int32 → Int32 → Int32 → Option (Rs Int32)} (hk19 : ∀ (h : Hp) (a0 : Nat) (i2 : Int32) (i3 : Int32) (i4 : Int32) (t : Rs Int32), k19 h a0 i2 i3 i4 = some t → X l K mM_X9_longOf (tgI t) 19 [(0, .ref a0), (2, .int i2), (3, .int i3), (4, .int i4)] [] h) {h : Hp} {a0 : Nat} {i2 : Int32} {i4 : Int32} {s0 : Int32} {s1 : Int32} {s2 : Int32} {t : Rs Int32} (e : f_X9_longOf_L54 k19 h a0 i2 i4 s0 s1 s2 = some t) : X l K mM_X9_longOf (tgI t) 54 [(0, .ref a0), (2, .int i2), (4, .int i4)] [.int s0, .int s1, .int s2] h := by
  unfold f_X9_longOf_L54 at e
  refine x_iadd (pc := 54) dX9_longOf_54 ?_
  refine x_iadd (pc := 55) dX9_longOf_55 ?_
  refine x_istore_n (pc := 56) dX9_longOf_56 (by decide) rfl ?_
  refine x_iinc (pc := 57) 3 dX9_longOf_57 rfl (by decide) rfl ?_
  refine x_goto (pc := 60) (t := 19) dX9_longOf_60 (by decide) ?_
  exact x_sub1 (hk19 _ _ _ _ _ _ e) [2, 3, 1, 0] rfl
noncomputable def f_X9_longOf_L53 (k19 : Hp → Nat → Int32 → Int32 → Int32 → Option (Rs Int32)) (h : Hp) (a0 : Nat) (i2 : Int32) (i4 : Int32) (s0 : Int32) (s1 : Int32) : Option (Rs Int32) :=
  f_X9_longOf_L54 k19 h a0 i2 i4 (iN 0) s0 s1
theorem p_X9_longOf_L53 {l : Launch} {K : Ctx} (hl : l.stackTraces = false) {k19 : Hp → Nat → Int32 → Int32 → Int32 → Option (Rs Int32)} (hk19 : ∀ (h : Hp) (a0 : Nat) (i2 : Int32) (i3 : Int32) (i4 : Int32) (t : Rs Int32), k19 h a0 i2 i3 i4 = some t → X l K mM_X9_longOf (tgI t) 19 [(0, .ref a0), (2, .int i2), (3, .int i3), (4, .int i4)] [] h) {h : Hp} {a0 : Nat} {i2 : Int32} {i4 : Int32} {s0 : Int32} {s1 : Int32} {t : Rs Int32} (e : f_X9_longOf_L53 k19 h a0 i2 i4 s0 s1 = some t) : X l K mM_X9_longOf (tgI t) 53 [(0, .ref a0), (2, .int i2), (4, .int i4)] [.int s0, .int s1] h := by
  unfold f_X9_longOf_L53 at e
  refine x_iconst (pc := 53) dX9_longOf_53 ?_
  exact p_X9_longOf_L54 hl hk19 e
noncomputable def f_X9_longOf_B19 (k19 : Hp → Nat → Int32 → Int32 → Int32 → Option (Rs Int32)) (h : Hp) (a0 : Nat) (i2 : Int32) (i3 : Int32) (i4 : Int32) : Option (Rs Int32) :=
  if i2 < i4 then (
    some (h, .inr i3)
  ) else (
    chk (okr h a0 9) <|
    chk (okr h (qR h a0 16) 20) <|
    chk (vp_in i4 (qW h (qR h a0 16))) <|
    if i2 ≤ i4 then (
      f_X9_longOf_L53 k19 h a0 i2 i4 (qI h (qR h a0 16) (Int32.toNatClampNeg i4)) i3
    ) else (
      chk (okr h (qR h a0 17) 20) <|
      chk (vp_in i4 (qW h (qR h a0 17))) <|
      if (qI h (qR h a0 17) (Int32.toNatClampNeg i4)) = 0 then (
        f_X9_longOf_L54 k19 h a0 i2 i4 (iN 1) (qI h (qR h a0 16) (Int32.toNatClampNeg i4)) i3
      ) else (
        f_X9_longOf_L53 k19 h a0 i2 i4 (qI h (qR h a0 16) (Int32.toNatClampNeg i4)) i3
      )
    )
  )
theorem p_X9_longOf_B19 {l : Launch} {K : Ctx} (hl : l.stackTraces = false) {k19 : Hp → Nat → Int32 → Int32 → Int32 → Option (Rs Int32)} (hk19 : ∀ (h : Hp) (a0 : Nat) (i2 : Int32) (i3 : Int32) (i4 : Int32) (t : Rs Int32), k19 h a0 i2 i3 i4 = some t → X l K mM_X9_longOf (tgI t) 19 [(0, .ref a0), (2, .int i2), (3, .int i3), (4, .int i4)] [] h) {h : Hp} {a0 : Nat} {i2 : Int32} {i3 : Int32} {i4 : Int32} {t : Rs Int32} (e : f_X9_longOf_B19 k19 h a0 i2 i3 i4 = some t) : X l K mM_X9_longOf (tgI t) 19 [(0, .ref a0), (2, .int i2), (3, .int i3), (4, .int i4)] [] h := by
  unfold f_X9_longOf_B19 at e
  refine x_iload (pc := 19) 3 dX9_longOf_19 rfl ?_
  refine x_iload_n (pc := 21) 1 dX9_longOf_21 rfl ?_
  rcases ite_some e with ⟨q1, e⟩ | ⟨q1, e⟩
  · refine x_icmp_gt_t (pc := 22) (t := 63) dX9_longOf_22 (by decide) q1 ?_
    refine x_iload_n (pc := 63) 2 dX9_longOf_63 rfl ?_
    cases Option.some.inj e
    exact x_iret (pc := 64) rfl dX9_longOf_64
  · refine x_icmp_gt_f (pc := 22) (t := 63) dX9_longOf_22 (by decide) q1 ?_
    refine x_iload_n (pc := 25) 2 dX9_longOf_25 rfl ?_
    refine x_aload_n (pc := 26) 0 dX9_longOf_26 rfl ?_
    obtain ⟨q2, e⟩ := chk_some e
    obtain ⟨q3, e⟩ := chk_some e
    refine x_getR (pc := 27) gf_X9_39 rfl dX9_longOf_27 q2 q3.1 ?_
    refine x_iload (pc := 30) 3 dX9_longOf_30 rfl ?_
    obtain ⟨q4, e⟩ := chk_some e
    refine x_iald (pc := 32) dX9_longOf_32 q3 q4 ?_
    refine x_iload (pc := 33) 3 dX9_longOf_33 rfl ?_
    refine x_iload_n (pc := 35) 1 dX9_longOf_35 rfl ?_
    rcases ite_some e with ⟨q5, e⟩ | ⟨q5, e⟩
    · refine x_icmp_ge_t (pc := 36) (t := 53) dX9_longOf_36 (by decide) q5 ?_
      exact x_sub1 (p_X9_longOf_L53 hl hk19 e) [0, 1, 3] rfl
    · refine x_icmp_ge_f (pc := 36) (t := 53) dX9_longOf_36 (by decide) q5 ?_
      refine x_aload_n (pc := 39) 0 dX9_longOf_39 rfl ?_
      obtain ⟨q6, e⟩ := chk_some e
      refine x_getR (pc := 40) gf_X9_42 rfl dX9_longOf_40 q2 q6.1 ?_
      refine x_iload (pc := 43) 3 dX9_longOf_43 rfl ?_
      obtain ⟨q7, e⟩ := chk_some e
      refine x_iald (pc := 45) dX9_longOf_45 q6 q7 ?_
      rcases ite_some e with ⟨q8, e⟩ | ⟨q8, e⟩
      · refine x_if_ne_f (pc := 46) (t := 53) dX9_longOf_46 (by decide) q8 ?_
        refine x_iconst (pc := 49) dX9_longOf_49 ?_
        refine x_goto (pc := 50) (t := 54) dX9_longOf_50 (by decide) ?_
        exact x_sub1 (p_X9_longOf_L54 hl hk19 e) [0, 1, 3] rfl
      · refine x_if_ne_t (pc := 46) (t := 53) dX9_longOf_46 (by decide) q8 ?_
        exact x_sub1 (p_X9_longOf_L53 hl hk19 e) [0, 1, 3] rfl
noncomputable def f_X9_longOf_L19 (n : Nat) : Hp → Nat → Int32 → Int32 → Int32 → Option (Rs Int32) := Nat.rec (motive := fun _ => Hp → Nat → Int32 → Int32 → Int32 → Option (Rs Int32)) (fun _ _ _ _ _ => none) (fun _ r => f_X9_longOf_B19 r) n
theorem p_X9_longOf_L19 {l : Launch} {K : Ctx} (hl : l.stackTraces = false) : ∀ (n : Nat) (h : Hp) (a0 : Nat) (i2 : Int32) (i3 : Int32) (i4 : Int32) (t : Rs Int32) (e : f_X9_longOf_L19 n h a0 i2 i3 i4 = some t), X l K mM_X9_longOf (tgI t) 19 [(0, .ref a0), (2, .int i2), (3, .int i3), (4, .int i4)] [] h := by
  intro n
  induction n with
  | zero => exact fun _ _ _ _ _ _ e => nomatch (show (none : Option (Rs Int32)) = some _ from e)
  | succ n ih => exact fun h a0 i2 i3 i4 t e => p_X9_longOf_B19 hl (fun h a0 i2 i3 i4 t e => ih h a0 i2 i3 i4 t e) e
noncomputable def f_X9_longOf_L15 (h : Hp) (a0 : Nat) (i1 : Int32) (i2 : Int32) (s0 : Int32) : Option (Rs Int32) :=
  f_X9_longOf_L19 2000 h a0 i2 s0 i1
theorem p_X9_longOf_L15 {l : Launch} {K : Ctx} (hl : l.stackTraces = false) {h : Hp} {a0 : Nat} {i1 : Int32} {i2 : Int32} {s0 : Int32} {t : Rs Int32} (e : f_X9_longOf_L15 h a0 i1 i2 s0 = some t) : X l K mM_X9_longOf (tgI t) 15 [(0, .ref a0), (1, .int i1), (2, .int i2)] [.int s0] h := by
  unfold f_X9_longOf_L15 at e
  refine x_istore_n (pc := 15) dX9_longOf_15 (by decide) rfl ?_
  refine x_iload_n (pc := 16) 2 dX9_longOf_16 rfl ?_
  refine x_istore (pc := 17) dX9_longOf_17 (by decide) rfl ?_
  exact x_sub1 (p_X9_longOf_L19 hl 2000 _ _ _ _ _ _ e) [2, 4, 1, 0] rfl
noncomputable def f_X9_longOf (h : Hp) (a0 : Nat) (i1 : Int32) (i2 : Int32) : Option (Rs Int32) :=
  chk (okr h a0 9) <|
  chk (okr h (qR h a0 17) 20) <|
  chk (vp_in i2 (qW h (qR h a0 17))) <|
  if (qI h (qR h a0 17) (Int32.toNatClampNeg i2)) = (iN 3) then (
    f_X9_longOf_L15 h a0 i1 i2 (iN 1)
  ) else (
    f_X9_longOf_L15 h a0 i1 i2 (iN 0)
  )
theorem p_X9_longOf {l : Launch} {K : Ctx} (hl : l.stackTraces = false) {h : Hp} {a0 : Nat} {i1 : Int32} {i2 : Int32} {t : Rs Int32} (e : f_X9_longOf h a0 i1 i2 = some t) : X l K mM_X9_longOf (tgI t) 0 [(0, .ref a0), (1, .int i1), (2, .int i2)] [] h := by
  unfold f_X9_longOf at e
  refine x_aload_n (pc := 0) 0 dX9_longOf_0 rfl ?_
  obtain ⟨q1, e⟩ := chk_some e
  obtain ⟨q2, e⟩ := chk_some e
  refine x_getR (pc := 1) gf_X9_42 rfl dX9_longOf_1 q1 q2.1 ?_
  refine x_iload_n (pc := 4) 2 dX9_longOf_4 rfl ?_
  obtain ⟨q3, e⟩ := chk_some e
  refine x_iald (pc := 5) dX9_longOf_5 q2 q3 ?_
  refine x_iconst (pc := 6) dX9_longOf_6 ?_
  rcases ite_some e with ⟨q4, e⟩ | ⟨q4, e⟩
  · refine x_icmp_ne_f (pc := 7) (t := 14) dX9_longOf_7 (by decide) q4 ?_
    refine x_iconst (pc := 10) dX9_longOf_10 ?_
    refine x_goto (pc := 11) (t := 15) dX9_longOf_11 (by decide) ?_
    exact p_X9_longOf_L15 hl e
  · refine x_icmp_ne_t (pc := 7) (t := 14) dX9_longOf_7 (by decide) q4 ?_
    refine x_iconst (pc := 14) dX9_longOf_14 ?_
    exact p_X9_longOf_L15 hl e
abbrev w_X9_longOf : Cond := (Cond.code yX9_longOf cX9_longOf 5 (Option.some Jvm.ClassFile.FieldType.int))
theorem mf_X9_longOf : MF yX9_longOf w_X9_longOf cX9_longOf 5 (Option.some Jvm.ClassFile.FieldType.int) 2 := ⟨⟨rfl, tw_8_8, by decide⟩, tw_1_11, ⟨by decide, by decide⟩, by decide +kernel⟩
theorem c_X9_longOf {l : Launch} {K : Ctx} (hl : l.stackTraces = false) {h : Hp} {a0 : Nat} {i1 : Int32} {i2 : Int32} {t : Rs Int32} (e : f_X9_longOf h a0 i1 i2 = some t) : Ctr l K 8 yX9_longOf w_X9_longOf [.ref a0, .int i1, .int i2] h (tgI t) :=
  Ctr.of hl mf_X9_longOf false (fun q => nomatch q) rfl (leb rfl) (p_X9_longOf hl e)
/-! ## TableColumnBalancerModel.greater -/
abbrev mM_X9_greater : Mi := (8, yX9_greater.cls, cX9_greater, 2, (Option.some Jvm.ClassFile.FieldType.int), [], false)
noncomputable def f_X9_greater (h : Hp) (i0 : Int32) (i1 : Int32) : Option (Rs Int32) :=
  if i0 ≤ i1 then (
    some (h, .inr i1)
  ) else (
    some (h, .inr i0)
  )
theorem p_X9_greater {l : Launch} {K : Ctx} (hl : l.stackTraces = false) {h : Hp} {i0 : Int32} {i1 : Int32} {t : Rs Int32} (e : f_X9_greater h i0 i1 = some t) : X l K mM_X9_greater (tgI t) 0 [(0, .int i0), (1, .int i1)] [] h := by
  unfold f_X9_greater at e
  refine x_iload_n (pc := 0) 0 dX9_greater_0 rfl ?_
  refine x_iload_n (pc := 1) 1 dX9_greater_1 rfl ?_
  rcases ite_some e with ⟨q1, e⟩ | ⟨q1, e⟩
  · refine x_icmp_le_t (pc := 2) (t := 9) dX9_greater_2 (by decide) q1 ?_
    refine x_iload_n (pc := 9) 1 dX9_greater_9 rfl ?_
    cases Option.some.inj e
    exact x_iret (pc := 10) rfl dX9_greater_10
  · refine x_icmp_le_f (pc := 2) (t := 9) dX9_greater_2 (by decide) q1 ?_
    refine x_iload_n (pc := 5) 0 dX9_greater_5 rfl ?_
    refine x_goto (pc := 6) (t := 10) dX9_greater_6 (by decide) ?_
    cases Option.some.inj e
    exact x_iret (pc := 10) rfl dX9_greater_10
abbrev w_X9_greater : Cond := (Cond.code yX9_greater cX9_greater 2 (Option.some Jvm.ClassFile.FieldType.int))
theorem mf_X9_greater : MF yX9_greater w_X9_greater cX9_greater 2 (Option.some Jvm.ClassFile.FieldType.int) 2 := ⟨⟨rfl, tw_8_11, by decide⟩, tw_1_11, ⟨by decide, by decide⟩, by decide +kernel⟩
theorem c_X9_greater {l : Launch} {K : Ctx} (hl : l.stackTraces = false) {h : Hp} {i0 : Int32} {i1 : Int32} {t : Rs Int32} (e : f_X9_greater h i0 i1 = some t) : Ctr l K 8 yX9_greater w_X9_greater [.int i0, .int i1] h (tgI t) :=
  Ctr.of hl mf_X9_greater false (fun q => nomatch q) rfl (leb rfl) (p_X9_greater hl e)
/-! ## TableColumnBalancerModel.indentOf -/
abbrev mM_X9_indentOf : Mi := (9, yX9_indentOf.cls, cX9_indentOf, 2, (Option.some Jvm.ClassFile.FieldType.int), [], false)
noncomputable def f_X9_indentOf (h : Hp) (a0 : Nat) (i1 : Int32) : Option (Rs Int32) :=
  chk (okr h a0 9) <|
  bnd (f_X9_of h a0 i1 (iN 3)) fun h2 r3 =>
  if r3 = (iN 2) then (
    some (h2, .inr (iN 2))
  ) else (
    some (h2, .inr (iN 0))
  )
theorem p_X9_indentOf {l : Launch} {K : Ctx} (hl : l.stackTraces = false) {h : Hp} {a0 : Nat} {i1 : Int32} {t : Rs Int32} (e : f_X9_indentOf h a0 i1 = some t) : X l K mM_X9_indentOf (tgI t) 0 [(0, .ref a0), (1, .int i1)] [] h := by
  unfold f_X9_indentOf at e
  refine x_aload_n (pc := 0) 0 dX9_indentOf_0 rfl ?_
  refine x_iload_n (pc := 1) 1 dX9_indentOf_1 rfl ?_
  refine x_iconst (pc := 2) dX9_indentOf_2 ?_
  obtain ⟨q1, e⟩ := chk_some e
  rcases bnd_some e with ⟨h2, r3, ec, rfl⟩ | ⟨h2, r3, ec, e⟩
  · exact y_callV_x (pc := 3) (c_X9_of hl ec) q1 mf_X9_of tw_7_63 ts_6_12 lf_X9_91 rfl rfl dX9_indentOf_3 (by decide) rfl rfl (leb rfl) (xx_out0 rfl)
  refine y_callV_i (pc := 3) (c_X9_of hl ec) q1 mf_X9_of tw_7_63 ts_6_12 lf_X9_91 rfl rfl dX9_indentOf_3 (by decide) rfl rfl (leb rfl) ?_
  refine x_iconst (pc := 6) dX9_indentOf_6 ?_
  rcases ite_some e with ⟨q4, e⟩ | ⟨q4, e⟩
  · refine x_icmp_ne_f (pc := 7) (t := 14) dX9_indentOf_7 (by decide) q4 ?_
    refine x_iconst (pc := 10) dX9_indentOf_10 ?_
    refine x_goto (pc := 11) (t := 15) dX9_indentOf_11 (by decide) ?_
    cases Option.some.inj e
    exact x_iret (pc := 15) rfl dX9_indentOf_15
  · refine x_icmp_ne_t (pc := 7) (t := 14) dX9_indentOf_7 (by decide) q4 ?_
    refine x_iconst (pc := 14) dX9_indentOf_14 ?_
    cases Option.some.inj e
    exact x_iret (pc := 15) rfl dX9_indentOf_15
abbrev w_X9_indentOf : Cond := (Cond.code yX9_indentOf cX9_indentOf 2 (Option.some Jvm.ClassFile.FieldType.int))
theorem mf_X9_indentOf : MF yX9_indentOf w_X9_indentOf cX9_indentOf 2 (Option.some Jvm.ClassFile.FieldType.int) 1 := ⟨⟨rfl, tw_8_15, by decide⟩, tw_1_11, ⟨by decide, by decide⟩, by decide +kernel⟩
theorem c_X9_indentOf {l : Launch} {K : Ctx} (hl : l.stackTraces = false) {h : Hp} {a0 : Nat} {i1 : Int32} {t : Rs Int32} (e : f_X9_indentOf h a0 i1 = some t) : Ctr l K 9 yX9_indentOf w_X9_indentOf [.ref a0, .int i1] h (tgI t) :=
  Ctr.of hl mf_X9_indentOf false (fun q => nomatch q) rfl (leb rfl) (p_X9_indentOf hl e)
/-! ## TableColumnBalancerModel.leastContent -/
abbrev mM_X9_leastContent : Mi := (10, yX9_leastContent.cls, cX9_leastContent, 4, (Option.some Jvm.ClassFile.FieldType.int), [], false)
noncomputable def f_X9_leastContent_B47 (k47 : Hp → Nat → Int32 → Int32 → Int32 → Option (Rs Int32)) (h : Hp) (a0 : Nat) (i1 : Int32) (i2 : Int32) (i3 : Int32) : Option (Rs Int32) :=
  chk (okr h a0 9) <|
  if (qI h a0 18) ≤ i3 then (
    bnd (f_X9_indentOf h a0 i1) fun h3 r4 =>
    some (h3, .inr (r4 + i2))
  ) else (
    bnd (f_X9_longOf h a0 i3 i3) fun h5 r6 =>
    bnd (f_X9_greater h5 i2 r6) fun h7 r8 =>
    k47 h7 a0 i1 r8 (i3 + iN 1)
  )
theorem p_X9_leastContent_B47 {l : Launch} {K : Ctx} (hl : l.stackTraces = false) {k47 : Hp → Nat → Int32 → Int32 → Int32 → Option (Rs Int32)} (hk47 : ∀ (h : Hp) (a0 : Nat) (i1 : Int32) (i2 : Int32) (i3 : Int32) (t : Rs Int32), k47 h a0 i1 i2 i3 = some t → X l K mM_X9_leastContent (tgI t) 47 [(0, .ref a0), (1, .int i1), (2, .int i2), (3, .int i3)] [] h) {h : Hp} {a0 : Nat} {i1 : Int32} {i2 : Int32} {i3 : Int32} {t : Rs Int32} (e : f_X9_leastContent_B47 k47 h a0 i1 i2 i3 = some t) : X l K mM_X9_leastContent (tgI t) 47 [(0, .ref a0), (1, .int i1), (2, .int i2), (3, .int i3)] [] h := by
  unfold f_X9_leastContent_B47 at e
  refine x_iload_n (pc := 47) 3 dX9_leastContent_47 rfl ?_
  refine x_aload_n (pc := 48) 0 dX9_leastContent_48 rfl ?_
  obtain ⟨q1, e⟩ := chk_some e
  refine x_getI (pc := 49) gf_X9_262 rfl dX9_leastContent_49 q1 ?_
  rcases ite_some e with ⟨q2, e⟩ | ⟨q2, e⟩
  · refine x_icmp_ge_t (pc := 52) (t := 72) dX9_leastContent_52 (by decide) q2 ?_
    refine x_aload_n (pc := 72) 0 dX9_leastContent_72 rfl ?_
    refine x_iload_n (pc := 73) 1 dX9_leastContent_73 rfl ?_
    rcases bnd_some e with ⟨h3, r4, ec, rfl⟩ | ⟨h3, r4, ec, e⟩
    · exact y_callV_x (pc := 74) (c_X9_indentOf hl ec) q1 mf_X9_indentOf tw_8_14 ts_8_12 lf_X9_271 rfl rfl dX9_leastContent_74 (by decide) rfl rfl (leb rfl) (xx_out0 rfl)
    refine y_callV_i (pc := 74) (c_X9_indentOf hl ec) q1 mf_X9_indentOf tw_8_14 ts_8_12 lf_X9_271 rfl rfl dX9_leastContent_74 (by decide) rfl rfl (leb rfl) ?_
    refine x_iload_n (pc := 77) 2 dX9_leastContent_77 rfl ?_
    refine x_iadd (pc := 78) dX9_leastContent_78 ?_
    cases Option.some.inj e
    exact x_iret (pc := 79) rfl dX9_leastContent_79
  · refine x_icmp_ge_f (pc := 52) (t := 72) dX9_leastContent_52 (by decide) q2 ?_
    refine x_iload_n (pc := 55) 2 dX9_leastContent_55 rfl ?_
    refine x_aload_n (pc := 56) 0 dX9_leastContent_56 rfl ?_
    refine x_iload_n (pc := 57) 3 dX9_leastContent_57 rfl ?_
    refine x_iload_n (pc := 58) 3 dX9_leastContent_58 rfl ?_
    rcases bnd_some e with ⟨h5, r6, ec, rfl⟩ | ⟨h5, r6, ec, e⟩
    · exact y_callV_x (pc := 59) (c_X9_longOf hl ec) q1 mf_X9_longOf tw_8_7 ts_8_11 lf_X9_274 rfl rfl dX9_leastContent_59 (by decide) rfl rfl (leb rfl) (xx_out0 rfl)
    refine y_callV_i (pc := 59) (c_X9_longOf hl ec) q1 mf_X9_longOf tw_8_7 ts_8_11 lf_X9_274 rfl rfl dX9_leastContent_59 (by decide) rfl rfl (leb rfl) ?_
    rcases bnd_some e with ⟨h7, r8, ec, rfl⟩ | ⟨h7, r8, ec, e⟩
    · exact y_callS_x (pc := 62) (c_X9_greater hl ec) mf_X9_greater tw_8_10 lf_X9_277 dX9_leastContent_62 (by decide) rfl rfl (leb rfl) (xx_out0 rfl)
    refine y_callS_i (pc := 62) (c_X9_greater hl ec) mf_X9_greater tw_8_10 lf_X9_277 dX9_leastContent_62 (by decide) rfl rfl (leb rfl) ?_
    refine x_istore_n (pc := 65) dX9_leastContent_65 (by decide) rfl ?_
    refine x_iinc (pc := 66) 3 dX9_leastContent_66 rfl (by decide) rfl ?_
    refine x_goto (pc := 69) (t := 47) dX9_leastContent_69 (by decide) ?_
    exact x_sub1 (hk47 _ _ _ _ _ _ e) [2, 3, 1, 0] rfl
noncomputable def f_X9_leastContent_L47 (n : Nat) : Hp → Nat → Int32 → Int32 → Int32 → Option (Rs Int32) := Nat.rec (motive := fun _ => Hp → Nat → Int32 → Int32 → Int32 → Option (Rs Int32)) (fun _ _ _ _ _ => none) (fun _ r => f_X9_leastContent_B47 r) n
theorem p_X9_leastContent_L47 {l : Launch} {K : Ctx} (hl : l.stackTraces = false) : ∀ (n : Nat) (h : Hp) (a0 : Nat) (i1 : Int32) (i2 : Int32) (i3 : Int32) (t : Rs Int32) (e : f_X9_leastContent_L47 n h a0 i1 i2 i3 = some t), X l K mM_X9_leastContent (tgI t) 47 [(0, .ref a0), (1, .int i1), (2, .int i2), (3, .int i3)] [] h := by
  intro n
  induction n with
  | zero => exact fun _ _ _ _ _ _ e => nomatch (show (none : Option (Rs Int32)) = some _ from e)
  | succ n ih => exact fun h a0 i1 i2 i3 t e => p_X9_leastContent_B47 hl (fun h a0 i1 i2 i3 t e => ih h a0 i1 i2 i3 t e) e
noncomputable def f_X9_leastContent (h : Hp) (a0 : Nat) (i1 : Int32) : Option (Rs Int32) :=
  chk (okr h a0 9) <|
  bnd (f_X9_of h a0 i1 (iN 3)) fun h2 r3 =>
  if r3 = (iN 4) then (
    chk (okr h2 a0 9) <|
    bnd (f_X9_of h2 a0 i1 (iN 5)) fun h6 r7 =>
    chk (¬ (iN 2) = 0) <|
    some (h6, .inr ((r7 + (iN 1)) / (iN 2)))
  ) else (
    chk (okr h2 a0 9) <|
    bnd (f_X9_of h2 a0 i1 (iN 3)) fun h10 r11 =>
    if r11 = (iN 5) then (
      chk (okr h10 a0 9) <|
      bnd (f_X9_of h10 a0 i1 (iN 5)) fun h14 r15 =>
      some (h14, .inr r15)
    ) else (
      chk (okr h10 a0 9) <|
      bnd (f_X9_cuts h10 a0 i1) fun h17 _ =>
      f_X9_leastContent_L47 2000 h17 a0 i1 (iN 0) (iN 0)
    )
  )
theorem p_X9_leastContent {l : Launch} {K : Ctx} (hl : l.stackTraces = false) {h : Hp} {a0 : Nat} {i1 : Int32} {t : Rs Int32} (e : f_X9_leastContent h a0 i1 = some t) : X l K mM_X9_leastContent (tgI t) 0 [(0, .ref a0), (1, .int i1)] [] h := by
  unfold f_X9_leastContent at e
  refine x_aload_n (pc := 0) 0 dX9_leastContent_0 rfl ?_
  refine x_iload_n (pc := 1) 1 dX9_leastContent_1 rfl ?_
  refine x_iconst (pc := 2) dX9_leastContent_2 ?_
  obtain ⟨q1, e⟩ := chk_some e
  rcases bnd_some e with ⟨h2, r3, ec, rfl⟩ | ⟨h2, r3, ec, e⟩
  · exact y_callV_x (pc := 3) (c_X9_of hl ec) q1 mf_X9_of tw_7_63 ts_6_12 lf_X9_91 rfl rfl dX9_leastContent_3 (by decide) rfl rfl (leb rfl) (xx_out0 rfl)
  refine y_callV_i (pc := 3) (c_X9_of hl ec) q1 mf_X9_of tw_7_63 ts_6_12 lf_X9_91 rfl rfl dX9_leastContent_3 (by decide) rfl rfl (leb rfl) ?_
  refine x_iconst (pc := 6) dX9_leastContent_6 ?_
  rcases ite_some e with ⟨q4, e⟩ | ⟨q4, e⟩
  · refine x_icmp_ne_f (pc := 7) (t := 21) dX9_leastContent_7 (by decide) q4 ?_
    refine x_aload_n (pc := 10) 0 dX9_leastContent_10 rfl ?_
    refine x_iload_n (pc := 11) 1 dX9_leastContent_11 rfl ?_
    refine x_iconst (pc := 12) dX9_leastContent_12 ?_
    obtain ⟨q5, e⟩ := chk_some e
    rcases bnd_some e with ⟨h6, r7, ec, rfl⟩ | ⟨h6, r7, ec, e⟩
    · exact y_callV_x (pc := 13) (c_X9_of hl ec) q5 mf_X9_of tw_7_63 ts_6_12 lf_X9_91 rfl rfl dX9_leastContent_13 (by decide) rfl rfl (leb rfl) (xx_out0 rfl)
    refine y_callV_i (pc := 13) (c_X9_of hl ec) q5 mf_X9_of tw_7_63 ts_6_12 lf_X9_91 rfl rfl dX9_leastContent_13 (by decide) rfl rfl (leb rfl) ?_
    refine x_iconst (pc := 16) dX9_leastContent_16 ?_
    refine x_iadd (pc := 17) dX9_leastContent_17 ?_
    refine x_iconst (pc := 18) dX9_leastContent_18 ?_
    obtain ⟨q8, e⟩ := chk_some e
    refine x_idiv (pc := 19) dX9_leastContent_19 q8 ?_
    cases Option.some.inj e
    exact x_iret (pc := 20) rfl dX9_leastContent_20
  · refine x_icmp_ne_t (pc := 7) (t := 21) dX9_leastContent_7 (by decide) q4 ?_
    refine x_aload_n (pc := 21) 0 dX9_leastContent_21 rfl ?_
    refine x_iload_n (pc := 22) 1 dX9_leastContent_22 rfl ?_
    refine x_iconst (pc := 23) dX9_leastContent_23 ?_
    obtain ⟨q9, e⟩ := chk_some e
    rcases bnd_some e with ⟨h10, r11, ec, rfl⟩ | ⟨h10, r11, ec, e⟩
    · exact y_callV_x (pc := 24) (c_X9_of hl ec) q9 mf_X9_of tw_7_63 ts_6_12 lf_X9_91 rfl rfl dX9_leastContent_24 (by decide) rfl rfl (leb rfl) (xx_out0 rfl)
    refine y_callV_i (pc := 24) (c_X9_of hl ec) q9 mf_X9_of tw_7_63 ts_6_12 lf_X9_91 rfl rfl dX9_leastContent_24 (by decide) rfl rfl (leb rfl) ?_
    refine x_iconst (pc := 27) dX9_leastContent_27 ?_
    rcases ite_some e with ⟨q12, e⟩ | ⟨q12, e⟩
    · refine x_icmp_ne_f (pc := 28) (t := 38) dX9_leastContent_28 (by decide) q12 ?_
      refine x_aload_n (pc := 31) 0 dX9_leastContent_31 rfl ?_
      refine x_iload_n (pc := 32) 1 dX9_leastContent_32 rfl ?_
      refine x_iconst (pc := 33) dX9_leastContent_33 ?_
      obtain ⟨q13, e⟩ := chk_some e
      rcases bnd_some e with ⟨h14, r15, ec, rfl⟩ | ⟨h14, r15, ec, e⟩
      · exact y_callV_x (pc := 34) (c_X9_of hl ec) q13 mf_X9_of tw_7_63 ts_6_12 lf_X9_91 rfl rfl dX9_leastContent_34 (by decide) rfl rfl (leb rfl) (xx_out0 rfl)
      refine y_callV_i (pc := 34) (c_X9_of hl ec) q13 mf_X9_of tw_7_63 ts_6_12 lf_X9_91 rfl rfl dX9_leastContent_34 (by decide) rfl rfl (leb rfl) ?_
      cases Option.some.inj e
      exact x_iret (pc := 37) rfl dX9_leastContent_37
    · refine x_icmp_ne_t (pc := 28) (t := 38) dX9_leastContent_28 (by decide) q12 ?_
      refine x_aload_n (pc := 38) 0 dX9_leastContent_38 rfl ?_
      refine x_iload_n (pc := 39) 1 dX9_leastContent_39 rfl ?_
      obtain ⟨q16, e⟩ := chk_some e
      rcases bnd_some e with ⟨h17, r18, ec, rfl⟩ | ⟨h17, r18, ec, e⟩
      · exact y_callV_x (pc := 40) (c_X9_cuts hl ec) q16 mf_X9_cuts tw_8_3 ts_8_10 lf_X9_265 rfl rfl dX9_leastContent_40 (by decide) rfl rfl (leb rfl) (xx_out0 rfl)
      refine y_callV_v (pc := 40) (c_X9_cuts hl ec) q16 mf_X9_cuts tw_8_3 ts_8_10 lf_X9_265 rfl rfl dX9_leastContent_40 (by decide) rfl rfl (leb rfl) ?_
      refine x_iconst (pc := 43) dX9_leastContent_43 ?_
      refine x_istore_n (pc := 44) dX9_leastContent_44 (by decide) rfl ?_
      refine x_iconst (pc := 45) dX9_leastContent_45 ?_
      refine x_istore_n (pc := 46) dX9_leastContent_46 (by decide) rfl ?_
      exact x_sub1 (p_X9_leastContent_L47 hl 2000 _ _ _ _ _ _ e) [2, 3, 1, 0] rfl
abbrev w_X9_leastContent : Cond := (Cond.code yX9_leastContent cX9_leastContent 4 (Option.some Jvm.ClassFile.FieldType.int))
theorem mf_X9_leastContent : MF yX9_leastContent w_X9_leastContent cX9_leastContent 4 (Option.some Jvm.ClassFile.FieldType.int) 1 := ⟨⟨rfl, tw_8_0, by decide⟩, tw_1_11, ⟨by decide, by decide⟩, by decide +kernel⟩
theorem c_X9_leastContent {l : Launch} {K : Ctx} (hl : l.stackTraces = false) {h : Hp} {a0 : Nat} {i1 : Int32} {t : Rs Int32} (e : f_X9_leastContent h a0 i1 = some t) : Ctr l K 10 yX9_leastContent w_X9_leastContent [.ref a0, .int i1] h (tgI t) :=
  Ctr.of hl mf_X9_leastContent false (fun q => nomatch q) rfl (leb rfl) (p_X9_leastContent hl e)
/-! ## TableColumnBalancerModel.leastOf -/
abbrev mM_X9_leastOf : Mi := (11, yX9_leastOf.cls, cX9_leastOf, 2, (Option.some Jvm.ClassFile.FieldType.int), [], false)
noncomputable def f_X9_leastOf (h : Hp) (a0 : Nat) (i1 : Int32) : Option (Rs Int32) :=
  chk (okr h a0 9) <|
  bnd (f_X9_leastContent h a0 i1) fun h2 r3 =>
  chk (okr h2 a0 9) <|
  chk (okr h2 (qR h2 a0 1) 20) <|
  chk (vp_in (iN 3) (qW h2 (qR h2 a0 1))) <|
  some (h2, .inr (r3 + ((iN 2) * (qI h2 (qR h2 a0 1) (Int32.toNatClampNeg (iN 3))))))
theorem p_X9_leastOf {l : Launch} {K : Ctx} (hl : l.stackTraces = false) {h : Hp} {a0 : Nat} {i1 : Int32} {t : Rs Int32} (e : f_X9_leastOf h a0 i1 = some t) : X l K mM_X9_leastOf (tgI t) 0 [(0, .ref a0), (1, .int i1)] [] h := by
  unfold f_X9_leastOf at e
  refine x_aload_n (pc := 0) 0 dX9_leastOf_0 rfl ?_
  refine x_iload_n (pc := 1) 1 dX9_leastOf_1 rfl ?_
  obtain ⟨q1, e⟩ := chk_some e
  rcases bnd_some e with ⟨h2, r3, ec, rfl⟩ | ⟨h2, r3, ec, e⟩
  · exact y_callV_x (pc := 2) (c_X9_leastContent hl ec) q1 mf_X9_leastContent tw_7_239 ts_8_9 lf_X9_284 rfl rfl dX9_leastOf_2 (by decide) rfl rfl (leb rfl) (xx_out0 rfl)
  refine y_callV_i (pc := 2) (c_X9_leastContent hl ec) q1 mf_X9_leastContent tw_7_239 ts_8_9 lf_X9_284 rfl rfl dX9_leastOf_2 (by decide) rfl rfl (leb rfl) ?_
  refine x_iconst (pc := 5) dX9_leastOf_5 ?_
  refine x_aload_n (pc := 6) 0 dX9_leastOf_6 rfl ?_
  obtain ⟨q4, e⟩ := chk_some e
  obtain ⟨q5, e⟩ := chk_some e
  refine x_getR (pc := 7) gf_X9_9 rfl dX9_leastOf_7 q4 q5.1 ?_
  refine x_iconst (pc := 10) dX9_leastOf_10 ?_
  obtain ⟨q6, e⟩ := chk_some e
  refine x_iald (pc := 11) dX9_leastOf_11 q5 q6 ?_
  refine x_imul (pc := 12) dX9_leastOf_12 ?_
  refine x_iadd (pc := 13) dX9_leastOf_13 ?_
  cases Option.some.inj e
  exact x_iret (pc := 14) rfl dX9_leastOf_14
abbrev w_X9_leastOf : Cond := (Cond.code yX9_leastOf cX9_leastOf 2 (Option.some Jvm.ClassFile.FieldType.int))
theorem mf_X9_leastOf : MF yX9_leastOf w_X9_leastOf cX9_leastOf 2 (Option.some Jvm.ClassFile.FieldType.int) 1 := ⟨⟨rfl, tw_7_236, by decide⟩, tw_1_11, ⟨by decide, by decide⟩, by decide +kernel⟩
theorem c_X9_leastOf {l : Launch} {K : Ctx} (hl : l.stackTraces = false) {h : Hp} {a0 : Nat} {i1 : Int32} {t : Rs Int32} (e : f_X9_leastOf h a0 i1 = some t) : Ctr l K 11 yX9_leastOf w_X9_leastOf [.ref a0, .int i1] h (tgI t) :=
  Ctr.of hl mf_X9_leastOf false (fun q => nomatch q) rfl (leb rfl) (p_X9_leastOf hl e)
/-! ## TableColumnBalancerModel.mostContent -/
abbrev mM_X9_mostContent : Mi := (10, yX9_mostContent.cls, cX9_mostContent, 5, (Option.some Jvm.ClassFile.FieldType.int), [], false)
noncomputable def f_X9_mostContent_L64 (k27 : Hp → Nat → Int32 → Int32 → Int32 → Int32 → Option (Rs Int32)) (h : Hp) (a0 : Nat) (i1 : Int32) (i2 : Int32) (i3 : Int32) (i4 : Int32) : Option (Rs Int32) :=
  k27 h a0 i1 i2 i3 (i4 + iN 1)
theorem p_X9_mostContent_L64 {l : Launch} {K : Ctx} (hl : l.stackTraces = false) {k27 : Hp → Nat → Int32 → Int32 → Int32 → Int32 → Option (Rs Int32)} (hk27 : ∀ (h : Hp) (a0 : Nat) (i1 : Int32) (i2 : Int32) (i3 : Int32) (i4 : Int32) (t : Rs Int32), k27 h a0 i1 i2 i3 i4 = some t → X l K mM_X9_mostContent (tgI t) 27 [(0, .ref a0), (1, .int i1), (2, .int i2), (3, .int i3), (4, .int i4)] [] h) {h : Hp} {a0 : Nat} {i1 : Int32} {i2 : Int32} {i3 : Int32} {i4 : Int32} {t : Rs Int32} (e : f_X9_mostContent_L64 k27 h a0 i1 i2 i3 i4 = some t) : X l K mM_X9_mostContent (tgI t) 64 [(0, .ref a0), (1, .int i1), (2, .int i2), (3, .int i3), (4, .int i4)] [] h := by
  unfold f_X9_mostContent_L64 at e
  refine x_iinc (pc := 64) 4 dX9_mostContent_64 rfl (by decide) rfl ?_
  refine x_goto (pc := 67) (t := 27) dX9_mostContent_67 (by decide) ?_
  exact x_sub1 (hk27 _ _ _ _ _ _ _ e) [1, 2, 3, 4, 0] rfl
noncomputable def f_X9_mostContent_B27 (k27 : Hp → Nat → Int32 → Int32 → Int32 → Int32 → Option (Rs Int32)) (h : Hp) (a0 : Nat) (i1 : Int32) (i2 : Int32) (i3 : Int32) (i4 : Int32) : Option (Rs Int32) :=
  chk (okr h a0 9) <|
  if (qI h a0 18) ≤ i4 then (
    bnd (f_X9_indentOf h a0 i1) fun h3 r4 =>
    some (h3, .inr (r4 + i2))
  ) else (
    chk (okr h (qR h a0 17) 20) <|
    chk (vp_in i4 (qW h (qR h a0 17))) <|
    if (qI h (qR h a0 17) (Int32.toNatClampNeg i4)) = (iN 1) then (
      bnd (f_X9_longOf h a0 i3 i4) fun h8 r9 =>
      bnd (f_X9_greater h8 i2 r9) fun h10 r11 =>
      f_X9_mostContent_L64 k27 h10 a0 i1 r11 (i4 + (iN 1)) i4
    ) else (
      f_X9_mostContent_L64 k27 h a0 i1 i2 i3 i4
    )
  )
theorem p_X9_mostContent_B27 {l : Launch} {K : Ctx} (hl : l.stackTraces = false) {k27 : Hp → Nat → Int32 → Int32 → Int32 → Int32 → Option (Rs Int32)} (hk27 : ∀ (h : Hp) (a0 : Nat) (i1 : Int32) (i2 : Int32) (i3 : Int32) (i4 : Int32) (t : Rs Int32), k27 h a0 i1 i2 i3 i4 = some t → X l K mM_X9_mostContent (tgI t) 27 [(0, .ref a0), (1, .int i1), (2, .int i2), (3, .int i3), (4, .int i4)] [] h) {h : Hp} {a0 : Nat} {i1 : Int32} {i2 : Int32} {i3 : Int32} {i4 : Int32} {t : Rs Int32} (e : f_X9_mostContent_B27 k27 h a0 i1 i2 i3 i4 = some t) : X l K mM_X9_mostContent (tgI t) 27 [(0, .ref a0), (1, .int i1), (2, .int i2), (3, .int i3), (4, .int i4)] [] h := by
  unfold f_X9_mostContent_B27 at e
  refine x_iload (pc := 27) 4 dX9_mostContent_27 rfl ?_
  refine x_aload_n (pc := 29) 0 dX9_mostContent_29 rfl ?_
  obtain ⟨q1, e⟩ := chk_some e
  refine x_getI (pc := 30) gf_X9_262 rfl dX9_mostContent_30 q1 ?_
  rcases ite_some e with ⟨q2, e⟩ | ⟨q2, e⟩
  · refine x_icmp_ge_t (pc := 33) (t := 70) dX9_mostContent_33 (by decide) q2 ?_
    refine x_aload_n (pc := 70) 0 dX9_mostContent_70 rfl ?_
    refine x_iload_n (pc := 71) 1 dX9_mostContent_71 rfl ?_
    rcases bnd_some e with ⟨h3, r4, ec, rfl⟩ | ⟨h3, r4, ec, e⟩
    · exact y_callV_x (pc := 72) (c_X9_indentOf hl ec) q1 mf_X9_indentOf tw_8_14 ts_8_12 lf_X9_271 rfl rfl dX9_mostContent_72 (by decide) rfl rfl (leb rfl) (xx_out0 rfl)
    refine y_callV_i (pc := 72) (c_X9_indentOf hl ec) q1 mf_X9_indentOf tw_8_14 ts_8_12 lf_X9_271 rfl rfl dX9_mostContent_72 (by decide) rfl rfl (leb rfl) ?_
    refine x_iload_n (pc := 75) 2 dX9_mostContent_75 rfl ?_
    refine x_iadd (pc := 76) dX9_mostContent_76 ?_
    cases Option.some.inj e
    exact x_iret (pc := 77) rfl dX9_mostContent_77
  · refine x_icmp_ge_f (pc := 33) (t := 70) dX9_mostContent_33 (by decide) q2 ?_
    refine x_aload_n (pc := 36) 0 dX9_mostContent_36 rfl ?_
    obtain ⟨q5, e⟩ := chk_some e
    refine x_getR (pc := 37) gf_X9_42 rfl dX9_mostContent_37 q1 q5.1 ?_
    refine x_iload (pc := 40) 4 dX9_mostContent_40 rfl ?_
    obtain ⟨q6, e⟩ := chk_some e
    refine x_iald (pc := 42) dX9_mostContent_42 q5 q6 ?_
    refine x_iconst (pc := 43) dX9_mostContent_43 ?_
    rcases ite_some e with ⟨q7, e⟩ | ⟨q7, e⟩
    · refine x_icmp_ne_f (pc := 44) (t := 64) dX9_mostContent_44 (by decide) q7 ?_
      refine x_iload_n (pc := 47) 2 dX9_mostContent_47 rfl ?_
      refine x_aload_n (pc := 48) 0 dX9_mostContent_48 rfl ?_
      refine x_iload_n (pc := 49) 3 dX9_mostContent_49 rfl ?_
      refine x_iload (pc := 50) 4 dX9_mostContent_50 rfl ?_
      rcases bnd_some e with ⟨h8, r9, ec, rfl⟩ | ⟨h8, r9, ec, e⟩
      · exact y_callV_x (pc := 52) (c_X9_longOf hl ec) q1 mf_X9_longOf tw_8_7 ts_8_11 lf_X9_274 rfl rfl dX9_mostContent_52 (by decide) rfl rfl (leb rfl) (xx_out0 rfl)
      refine y_callV_i (pc := 52) (c_X9_longOf hl ec) q1 mf_X9_longOf tw_8_7 ts_8_11 lf_X9_274 rfl rfl dX9_mostContent_52 (by decide) rfl rfl (leb rfl) ?_
      rcases bnd_some e with ⟨h10, r11, ec, rfl⟩ | ⟨h10, r11, ec, e⟩
      · exact y_callS_x (pc := 55) (c_X9_greater hl ec) mf_X9_greater tw_8_10 lf_X9_277 dX9_mostContent_55 (by decide) rfl rfl (leb rfl) (xx_out0 rfl)
      refine y_callS_i (pc := 55) (c_X9_greater hl ec) mf_X9_greater tw_8_10 lf_X9_277 dX9_mostContent_55 (by decide) rfl rfl (leb rfl) ?_
      refine x_istore_n (pc := 58) dX9_mostContent_58 (by decide) rfl ?_
      refine x_iload (pc := 59) 4 dX9_mostContent_59 rfl ?_
      refine x_iconst (pc := 61) dX9_mostContent_61 ?_
      refine x_iadd (pc := 62) dX9_mostContent_62 ?_
      refine x_istore_n (pc := 63) dX9_mostContent_63 (by decide) rfl ?_
      exact x_sub1 (p_X9_mostContent_L64 hl hk27 e) [2, 3, 1, 0, 4] rfl
    · refine x_icmp_ne_t (pc := 44) (t := 64) dX9_mostContent_44 (by decide) q7 ?_
      exact p_X9_mostContent_L64 hl hk27 e
noncomputable def f_X9_mostContent_L27 (n : Nat) : Hp → Nat → Int32 → Int32 → Int32 → Int32 → Option (Rs Int32) := Nat.rec (motive := fun _ => Hp → Nat → Int32 → Int32 → Int32 → Int32 → Option (Rs Int32)) (fun _ _ _ _ _ _ => none) (fun _ r => f_X9_mostContent_B27 r) n
theorem p_X9_mostContent_L27 {l : Launch} {K : Ctx} (hl : l.stackTraces = false) : ∀ (n : Nat) (h : Hp) (a0 : Nat) (i1 : Int32) (i2 : Int32) (i3 : Int32) (i4 : Int32) (t : Rs Int32) (e : f_X9_mostContent_L27 n h a0 i1 i2 i3 i4 = some t), X l K mM_X9_mostContent (tgI t) 27 [(0, .ref a0), (1, .int i1), (2, .int i2), (3, .int i3), (4, .int i4)] [] h := by
  intro n
  induction n with
  | zero => exact fun _ _ _ _ _ _ _ e => nomatch (show (none : Option (Rs Int32)) = some _ from e)
  | succ n ih => exact fun h a0 i1 i2 i3 i4 t e => p_X9_mostContent_B27 hl (fun h a0 i1 i2 i3 i4 t e => ih h a0 i1 i2 i3 i4 t e) e
noncomputable def f_X9_mostContent (h : Hp) (a0 : Nat) (i1 : Int32) : Option (Rs Int32) :=
  chk (okr h a0 9) <|
  bnd (f_X9_isText h a0 i1) fun h2 r3 =>
  if r3 = 0 then (
    chk (okr h2 a0 9) <|
    bnd (f_X9_of h2 a0 i1 (iN 5)) fun h6 r7 =>
    some (h6, .inr r7)
  ) else (
    chk (okr h2 a0 9) <|
    bnd (f_X9_cuts h2 a0 i1) fun h9 _ =>
    f_X9_mostContent_L27 2000 h9 a0 i1 (iN 0) (iN 0) (iN 0)
  )
theorem p_X9_mostContent {l : Launch} {K : Ctx} (hl : l.stackTraces = false) {h : Hp} {a0 : Nat} {i1 : Int32} {t : Rs Int32} (e : f_X9_mostContent h a0 i1 = some t) : X l K mM_X9_mostContent (tgI t) 0 [(0, .ref a0), (1, .int i1)] [] h := by
  unfold f_X9_mostContent at e
  refine x_aload_n (pc := 0) 0 dX9_mostContent_0 rfl ?_
  refine x_iload_n (pc := 1) 1 dX9_mostContent_1 rfl ?_
  obtain ⟨q1, e⟩ := chk_some e
  rcases bnd_some e with ⟨h2, r3, ec, rfl⟩ | ⟨h2, r3, ec, e⟩
  · exact y_callV_x (pc := 2) (c_X9_isText hl ec) q1 mf_X9_isText tw_7_87 ts_7_0 lf_X9_127 rfl rfl dX9_mostContent_2 (by decide) rfl rfl (leb rfl) (xx_out0 rfl)
  refine y_callV_i (pc := 2) (c_X9_isText hl ec) q1 mf_X9_isText tw_7_87 ts_7_0 lf_X9_127 rfl rfl dX9_mostContent_2 (by decide) rfl rfl (leb rfl) ?_
  rcases ite_some e with ⟨q4, e⟩ | ⟨q4, e⟩
  · refine x_if_ne_f (pc := 5) (t := 15) dX9_mostContent_5 (by decide) q4 ?_
    refine x_aload_n (pc := 8) 0 dX9_mostContent_8 rfl ?_
    refine x_iload_n (pc := 9) 1 dX9_mostContent_9 rfl ?_
    refine x_iconst (pc := 10) dX9_mostContent_10 ?_
    obtain ⟨q5, e⟩ := chk_some e
    rcases bnd_some e with ⟨h6, r7, ec, rfl⟩ | ⟨h6, r7, ec, e⟩
    · exact y_callV_x (pc := 11) (c_X9_of hl ec) q5 mf_X9_of tw_7_63 ts_6_12 lf_X9_91 rfl rfl dX9_mostContent_11 (by decide) rfl rfl (leb rfl) (xx_out0 rfl)
    refine y_callV_i (pc := 11) (c_X9_of hl ec) q5 mf_X9_of tw_7_63 ts_6_12 lf_X9_91 rfl rfl dX9_mostContent_11 (by decide) rfl rfl (leb rfl) ?_
    cases Option.some.inj e
    exact x_iret (pc := 14) rfl dX9_mostContent_14
  · refine x_if_ne_t (pc := 5) (t := 15) dX9_mostContent_5 (by decide) q4 ?_
    refine x_aload_n (pc := 15) 0 dX9_mostContent_15 rfl ?_
    refine x_iload_n (pc := 16) 1 dX9_mostContent_16 rfl ?_
    obtain ⟨q8, e⟩ := chk_some e
    rcases bnd_some e with ⟨h9, r10, ec, rfl⟩ | ⟨h9, r10, ec, e⟩
    · exact y_callV_x (pc := 17) (c_X9_cuts hl ec) q8 mf_X9_cuts tw_8_3 ts_8_10 lf_X9_265 rfl rfl dX9_mostContent_17 (by decide) rfl rfl (leb rfl) (xx_out0 rfl)
    refine y_callV_v (pc := 17) (c_X9_cuts hl ec) q8 mf_X9_cuts tw_8_3 ts_8_10 lf_X9_265 rfl rfl dX9_mostContent_17 (by decide) rfl rfl (leb rfl) ?_
    refine x_iconst (pc := 20) dX9_mostContent_20 ?_
    refine x_istore_n (pc := 21) dX9_mostContent_21 (by decide) rfl ?_
    refine x_iconst (pc := 22) dX9_mostContent_22 ?_
    refine x_istore_n (pc := 23) dX9_mostContent_23 (by decide) rfl ?_
    refine x_iconst (pc := 24) dX9_mostContent_24 ?_
    refine x_istore (pc := 25) dX9_mostContent_25 (by decide) rfl ?_
    exact x_sub1 (p_X9_mostContent_L27 hl 2000 _ _ _ _ _ _ _ e) [3, 4, 2, 1, 0] rfl
abbrev w_X9_mostContent : Cond := (Cond.code yX9_mostContent cX9_mostContent 5 (Option.some Jvm.ClassFile.FieldType.int))
theorem mf_X9_mostContent : MF yX9_mostContent w_X9_mostContent cX9_mostContent 5 (Option.some Jvm.ClassFile.FieldType.int) 1 := ⟨⟨rfl, tw_8_23, by decide⟩, tw_1_11, ⟨by decide, by decide⟩, by decide +kernel⟩
theorem c_X9_mostContent {l : Launch} {K : Ctx} (hl : l.stackTraces = false) {h : Hp} {a0 : Nat} {i1 : Int32} {t : Rs Int32} (e : f_X9_mostContent h a0 i1 = some t) : Ctr l K 10 yX9_mostContent w_X9_mostContent [.ref a0, .int i1] h (tgI t) :=
  Ctr.of hl mf_X9_mostContent false (fun q => nomatch q) rfl (leb rfl) (p_X9_mostContent hl e)
/-! ## TableColumnBalancerModel.mostOf -/
abbrev mM_X9_mostOf : Mi := (11, yX9_mostOf.cls, cX9_mostOf, 2, (Option.some Jvm.ClassFile.FieldType.int), [], false)
noncomputable def f_X9_mostOf (h : Hp) (a0 : Nat) (i1 : Int32) : Option (Rs Int32) :=
  chk (okr h a0 9) <|
  bnd (f_X9_mostContent h a0 i1) fun h2 r3 =>
  chk (okr h2 a0 9) <|
  chk (okr h2 (qR h2 a0 1) 20) <|
  chk (vp_in (iN 3) (qW h2 (qR h2 a0 1))) <|
  some (h2, .inr (r3 + ((iN 2) * (qI h2 (qR h2 a0 1) (Int32.toNatClampNeg (iN 3))))))
theorem p_X9_mostOf {l : Launch} {K : Ctx} (hl : l.stackTraces = false) {h : Hp} {a0 : Nat} {i1 : Int32} {t : Rs Int32} (e : f_X9_mostOf h a0 i1 = some t) : X l K mM_X9_mostOf (tgI t) 0 [(0, .ref a0), (1, .int i1)] [] h := by
  unfold f_X9_mostOf at e
  refine x_aload_n (pc := 0) 0 dX9_mostOf_0 rfl ?_
  refine x_iload_n (pc := 1) 1 dX9_mostOf_1 rfl ?_
  obtain ⟨q1, e⟩ := chk_some e
  rcases bnd_some e with ⟨h2, r3, ec, rfl⟩ | ⟨h2, r3, ec, e⟩
  · exact y_callV_x (pc := 2) (c_X9_mostContent hl ec) q1 mf_X9_mostContent tw_8_22 ts_8_14 lf_X9_287 rfl rfl dX9_mostOf_2 (by decide) rfl rfl (leb rfl) (xx_out0 rfl)
  refine y_callV_i (pc := 2) (c_X9_mostContent hl ec) q1 mf_X9_mostContent tw_8_22 ts_8_14 lf_X9_287 rfl rfl dX9_mostOf_2 (by decide) rfl rfl (leb rfl) ?_
  refine x_iconst (pc := 5) dX9_mostOf_5 ?_
  refine x_aload_n (pc := 6) 0 dX9_mostOf_6 rfl ?_
  obtain ⟨q4, e⟩ := chk_some e
  obtain ⟨q5, e⟩ := chk_some e
  refine x_getR (pc := 7) gf_X9_9 rfl dX9_mostOf_7 q4 q5.1 ?_
  refine x_iconst (pc := 10) dX9_mostOf_10 ?_
  obtain ⟨q6, e⟩ := chk_some e
  refine x_iald (pc := 11) dX9_mostOf_11 q5 q6 ?_
  refine x_imul (pc := 12) dX9_mostOf_12 ?_
  refine x_iadd (pc := 13) dX9_mostOf_13 ?_
  cases Option.some.inj e
  exact x_iret (pc := 14) rfl dX9_mostOf_14
abbrev w_X9_mostOf : Cond := (Cond.code yX9_mostOf cX9_mostOf 2 (Option.some Jvm.ClassFile.FieldType.int))
theorem mf_X9_mostOf : MF yX9_mostOf w_X9_mostOf cX9_mostOf 2 (Option.some Jvm.ClassFile.FieldType.int) 1 := ⟨⟨rfl, tw_8_19, by decide⟩, tw_1_11, ⟨by decide, by decide⟩, by decide +kernel⟩
theorem c_X9_mostOf {l : Launch} {K : Ctx} (hl : l.stackTraces = false) {h : Hp} {a0 : Nat} {i1 : Int32} {t : Rs Int32} (e : f_X9_mostOf h a0 i1 = some t) : Ctr l K 11 yX9_mostOf w_X9_mostOf [.ref a0, .int i1] h (tgI t) :=
  Ctr.of hl mf_X9_mostOf false (fun q => nomatch q) rfl (leb rfl) (p_X9_mostOf hl e)
/-! ## TableColumnBalancerModel.property -/
abbrev mM_X9_property : Mi := (12, yX9_property.cls, cX9_property, 3, (Option.some Jvm.ClassFile.FieldType.int), [], false)
noncomputable def f_X9_property (h : Hp) (a0 : Nat) (i1 : Int32) (i2 : Int32) : Option (Rs Int32) :=
  chk (okr h a0 9) <|
  lt (putI h a0 0 (iN 0)) fun h2 =>
  bnd (f_X9_isCell h2 a0 i1) fun h3 r4 =>
  if r4 = 0 then (
    chk (okr h3 a0 9) <|
    bnd (f_X9_fails h3 a0 (iN 1)) fun h7 r8 =>
    some (h7, .inr r8)
  ) else (
    if i2 = iN 4 then (
      chk (okr h3 a0 9) <|
      bnd (f_X9_isText h3 a0 i1) fun h11 r12 =>
      if r12 = 0 then (
        some (h11, .inr (iN 0))
      ) else (
        chk (okr h11 a0 9) <|
        bnd (f_X9_of h11 a0 i1 (iN 4)) fun h15 r16 =>
        some (h15, .inr r16)
      )
    ) else
    if i2 = iN 5 then (
      chk (okr h3 a0 9) <|
      bnd (f_X9_leastOf h3 a0 i1) fun h19 r20 =>
      some (h19, .inr r20)
    ) else
    if i2 = iN 6 then (
      chk (okr h3 a0 9) <|
      bnd (f_X9_mostOf h3 a0 i1) fun h23 r24 =>
      some (h23, .inr r24)
    ) else
    (
      bnd (f_X9_in h3 i2 (iN 0) (iN 3)) fun h25 r26 =>
      if r26 = 0 then (
        chk (okr h25 a0 9) <|
        bnd (f_X9_fails h25 a0 (iN 2)) fun h29 r30 =>
        some (h29, .inr r30)
      ) else (
        chk (okr h25 a0 9) <|
        bnd (f_X9_of h25 a0 i1 i2) fun h32 r33 =>
        some (h32, .inr r33)
      )
    )
  )
theorem p_X9_property {l : Launch} {K : Ctx} (hl : l.stackTraces = false) {h : Hp} {a0 : Nat} {i1 : Int32} {i2 : Int32} {t : Rs Int32} (e : f_X9_property h a0 i1 i2 = some t) : X l K mM_X9_property (tgI t) 0 [(0, .ref a0), (1, .int i1), (2, .int i2)] [] h := by
  unfold f_X9_property at e
  refine x_aload_n (pc := 0) 0 dX9_property_0 rfl ?_
  refine x_iconst (pc := 1) dX9_property_1 ?_
  obtain ⟨q1, e⟩ := chk_some e
  replace e := lt_go e
  refine x_putI (pc := 2) pf_X9_84 rfl rfl rfl dX9_property_2 q1 ?_
  refine x_aload_n (pc := 5) 0 dX9_property_5 rfl ?_
  refine x_iload_n (pc := 6) 1 dX9_property_6 rfl ?_
  rcases bnd_some e with ⟨h3, r4, ec, rfl⟩ | ⟨h3, r4, ec, e⟩
  · exact y_callV_x (pc := 7) (c_X9_isCell hl ec) (okr_pI q1) mf_X9_isCell tw_7_75 ts_6_14 lf_X9_120 rfl rfl dX9_property_7 (by decide) rfl rfl (leb rfl) (xx_out0 rfl)
  refine y_callV_i (pc := 7) (c_X9_isCell hl ec) (okr_pI q1) mf_X9_isCell tw_7_75 ts_6_14 lf_X9_120 rfl rfl dX9_property_7 (by decide) rfl rfl (leb rfl) ?_
  rcases ite_some e with ⟨q5, e⟩ | ⟨q5, e⟩
  · refine x_if_ne_f (pc := 10) (t := 19) dX9_property_10 (by decide) q5 ?_
    refine x_aload_n (pc := 13) 0 dX9_property_13 rfl ?_
    refine x_iconst (pc := 14) dX9_property_14 ?_
    obtain ⟨q6, e⟩ := chk_some e
    rcases bnd_some e with ⟨h7, r8, ec, rfl⟩ | ⟨h7, r8, ec, e⟩
    · exact y_callV_x (pc := 15) (c_X9_fails hl ec) q6 mf_X9_fails tw_7_24 ts_6_7 lf_X9_95 rfl rfl dX9_property_15 (by decide) rfl rfl (leb rfl) (xx_out0 rfl)
    refine y_callV_i (pc := 15) (c_X9_fails hl ec) q6 mf_X9_fails tw_7_24 ts_6_7 lf_X9_95 rfl rfl dX9_property_15 (by decide) rfl rfl (leb rfl) ?_
    cases Option.some.inj e
    exact x_iret (pc := 18) rfl dX9_property_18
  · refine x_if_ne_t (pc := 10) (t := 19) dX9_property_10 (by decide) q5 ?_
    refine x_iload_n (pc := 19) 2 dX9_property_19 rfl ?_
    rcases ite_some e with ⟨q9, e⟩ | ⟨q9, e⟩
    · refine x_tabK (pc := 20) (z := 4) (t := 48) dX9_property_20 q9 (by decide) (by decide) (by decide) rfl (by decide) ?_
      refine x_aload_n (pc := 48) 0 dX9_property_48 rfl ?_
      refine x_iload_n (pc := 49) 1 dX9_property_49 rfl ?_
      obtain ⟨q10, e⟩ := chk_some e
      rcases bnd_some e with ⟨h11, r12, ec, rfl⟩ | ⟨h11, r12, ec, e⟩
      · exact y_callV_x (pc := 50) (c_X9_isText hl ec) q10 mf_X9_isText tw_7_87 ts_7_0 lf_X9_127 rfl rfl dX9_property_50 (by decide) rfl rfl (leb rfl) (xx_out0 rfl)
      refine y_callV_i (pc := 50) (c_X9_isText hl ec) q10 mf_X9_isText tw_7_87 ts_7_0 lf_X9_127 rfl rfl dX9_property_50 (by decide) rfl rfl (leb rfl) ?_
      rcases ite_some e with ⟨q13, e⟩ | ⟨q13, e⟩
      · refine x_if_eq_t (pc := 53) (t := 65) dX9_property_53 (by decide) q13 ?_
        refine x_iconst (pc := 65) dX9_property_65 ?_
        cases Option.some.inj e
        exact x_iret (pc := 66) rfl dX9_property_66
      · refine x_if_eq_f (pc := 53) (t := 65) dX9_property_53 (by decide) q13 ?_
        refine x_aload_n (pc := 56) 0 dX9_property_56 rfl ?_
        refine x_iload_n (pc := 57) 1 dX9_property_57 rfl ?_
        refine x_iconst (pc := 58) dX9_property_58 ?_
        obtain ⟨q14, e⟩ := chk_some e
        rcases bnd_some e with ⟨h15, r16, ec, rfl⟩ | ⟨h15, r16, ec, e⟩
        · exact y_callV_x (pc := 59) (c_X9_of hl ec) q14 mf_X9_of tw_7_63 ts_6_12 lf_X9_91 rfl rfl dX9_property_59 (by decide) rfl rfl (leb rfl) (xx_out0 rfl)
        refine y_callV_i (pc := 59) (c_X9_of hl ec) q14 mf_X9_of tw_7_63 ts_6_12 lf_X9_91 rfl rfl dX9_property_59 (by decide) rfl rfl (leb rfl) ?_
        refine x_goto (pc := 62) (t := 66) dX9_property_62 (by decide) ?_
        cases Option.some.inj e
        exact x_iret (pc := 66) rfl dX9_property_66
    rcases ite_some e with ⟨q17, e⟩ | ⟨q17, e⟩
    · refine x_tabK (pc := 20) (z := 5) (t := 67) dX9_property_20 q17 (by decide) (by decide) (by decide) rfl (by decide) ?_
      refine x_aload_n (pc := 67) 0 dX9_property_67 rfl ?_
      refine x_iload_n (pc := 68) 1 dX9_property_68 rfl ?_
      obtain ⟨q18, e⟩ := chk_some e
      rcases bnd_some e with ⟨h19, r20, ec, rfl⟩ | ⟨h19, r20, ec, e⟩
      · exact y_callV_x (pc := 69) (c_X9_leastOf hl ec) q18 mf_X9_leastOf tw_7_235 ts_8_8 lf_X9_293 rfl rfl dX9_property_69 (by decide) rfl rfl (leb rfl) (xx_out0 rfl)
      refine y_callV_i (pc := 69) (c_X9_leastOf hl ec) q18 mf_X9_leastOf tw_7_235 ts_8_8 lf_X9_293 rfl rfl dX9_property_69 (by decide) rfl rfl (leb rfl) ?_
      cases Option.some.inj e
      exact x_iret (pc := 72) rfl dX9_property_72
    rcases ite_some e with ⟨q21, e⟩ | ⟨q21, e⟩
    · refine x_tabK (pc := 20) (z := 6) (t := 73) dX9_property_20 q21 (by decide) (by decide) (by decide) rfl (by decide) ?_
      refine x_aload_n (pc := 73) 0 dX9_property_73 rfl ?_
      refine x_iload_n (pc := 74) 1 dX9_property_74 rfl ?_
      obtain ⟨q22, e⟩ := chk_some e
      rcases bnd_some e with ⟨h23, r24, ec, rfl⟩ | ⟨h23, r24, ec, e⟩
      · exact y_callV_x (pc := 75) (c_X9_mostOf hl ec) q22 mf_X9_mostOf tw_8_18 ts_8_13 lf_X9_296 rfl rfl dX9_property_75 (by decide) rfl rfl (leb rfl) (xx_out0 rfl)
      refine y_callV_i (pc := 75) (c_X9_mostOf hl ec) q22 mf_X9_mostOf tw_8_18 ts_8_13 lf_X9_296 rfl rfl dX9_property_75 (by decide) rfl rfl (leb rfl) ?_
      cases Option.some.inj e
      exact x_iret (pc := 78) rfl dX9_property_78
    refine x_tabO (pc := 20) (t := 79) dX9_property_20 (by have z4 := lv_neT q9 (show (iN 4).toInt = 4 by decide); have z5 := lv_neT q17 (show (iN 5).toInt = 5 by decide); have z6 := lv_neT q21 (show (iN 6).toInt = 6 by decide); omega) (by decide) ?_
    refine x_iload_n (pc := 79) 2 dX9_property_79 rfl ?_
    refine x_iconst (pc := 80) dX9_property_80 ?_
    refine x_iconst (pc := 81) dX9_property_81 ?_
    rcases bnd_some e with ⟨h25, r26, ec, rfl⟩ | ⟨h25, r26, ec, e⟩
    · exact y_callS_x (pc := 82) (c_X9_in hl ec) mf_X9_in tw_7_20 lf_X9_87 dX9_property_82 (by decide) rfl rfl (leb rfl) (xx_out0 rfl)
    refine y_callS_i (pc := 82) (c_X9_in hl ec) mf_X9_in tw_7_20 lf_X9_87 dX9_property_82 (by decide) rfl rfl (leb rfl) ?_
    rcases ite_some e with ⟨q27, e⟩ | ⟨q27, e⟩
    · refine x_if_eq_t (pc := 85) (t := 97) dX9_property_85 (by decide) q27 ?_
      refine x_aload_n (pc := 97) 0 dX9_property_97 rfl ?_
      refine x_iconst (pc := 98) dX9_property_98 ?_
      obtain ⟨q28, e⟩ := chk_some e
      rcases bnd_some e with ⟨h29, r30, ec, rfl⟩ | ⟨h29, r30, ec, e⟩
      · exact y_callV_x (pc := 99) (c_X9_fails hl ec) q28 mf_X9_fails tw_7_24 ts_6_7 lf_X9_95 rfl rfl dX9_property_99 (by decide) rfl rfl (leb rfl) (xx_out0 rfl)
      refine y_callV_i (pc := 99) (c_X9_fails hl ec) q28 mf_X9_fails tw_7_24 ts_6_7 lf_X9_95 rfl rfl dX9_property_99 (by decide) rfl rfl (leb rfl) ?_
      cases Option.some.inj e
      exact x_iret (pc := 102) rfl dX9_property_102
    · refine x_if_eq_f (pc := 85) (t := 97) dX9_property_85 (by decide) q27 ?_
      refine x_aload_n (pc := 88) 0 dX9_property_88 rfl ?_
      refine x_iload_n (pc := 89) 1 dX9_property_89 rfl ?_
      refine x_iload_n (pc := 90) 2 dX9_property_90 rfl ?_
      obtain ⟨q31, e⟩ := chk_some e
      rcases bnd_some e with ⟨h32, r33, ec, rfl⟩ | ⟨h32, r33, ec, e⟩
      · exact y_callV_x (pc := 91) (c_X9_of hl ec) q31 mf_X9_of tw_7_63 ts_6_12 lf_X9_91 rfl rfl dX9_property_91 (by decide) rfl rfl (leb rfl) (xx_out0 rfl)
      refine y_callV_i (pc := 91) (c_X9_of hl ec) q31 mf_X9_of tw_7_63 ts_6_12 lf_X9_91 rfl rfl dX9_property_91 (by decide) rfl rfl (leb rfl) ?_
      refine x_goto (pc := 94) (t := 102) dX9_property_94 (by decide) ?_
      cases Option.some.inj e
      exact x_iret (pc := 102) rfl dX9_property_102
abbrev w_X9_property : Cond := (Cond.code yX9_property cX9_property 3 (Option.some Jvm.ClassFile.FieldType.int))
theorem mf_X9_property : MF yX9_property w_X9_property cX9_property 3 (Option.some Jvm.ClassFile.FieldType.int) 2 := ⟨⟨rfl, tw_7_232, by decide⟩, tw_1_11, ⟨by decide, by decide⟩, by decide +kernel⟩
theorem c_X9_property {l : Launch} {K : Ctx} (hl : l.stackTraces = false) {h : Hp} {a0 : Nat} {i1 : Int32} {i2 : Int32} {t : Rs Int32} (e : f_X9_property h a0 i1 i2 = some t) : Ctr l K 12 yX9_property w_X9_property [.ref a0, .int i1, .int i2] h (tgI t) :=
  Ctr.of hl mf_X9_property false (fun q => nomatch q) rfl (leb rfl) (p_X9_property hl e)
/-! ## TableColumnBalancer$Table.occupant -/
abbrev mM_X7_occupant : Mi := (9, yX7_occupant.cls, cX7_occupant, 4, (Option.some Jvm.ClassFile.FieldType.int), [], false)
noncomputable def f_X7_occupant_L39 (k2 : Hp → Nat → Int32 → Int32 → Int32 → Option (Rs Int32)) (h : Hp) (a0 : Nat) (i1 : Int32) (i2 : Int32) (i3 : Int32) : Option (Rs Int32) :=
  k2 h a0 i1 i2 (i3 + iN 1)
theorem p_X7_occupant_L39 {l : Launch} {K : Ctx} (hl : l.stackTraces = false) {k2 : Hp → Nat → Int32 → Int32 → Int32 → Option (Rs Int32)} (hk2 : ∀ (h : Hp) (a0 : Nat) (i1 : Int32) (i2 : Int32) (i3 : Int32) (t : Rs Int32), k2 h a0 i1 i2 i3 = some t → X l K mM_X7_occupant (tgI t) 2 [(0, .ref a0), (1, .int i1), (2, .int i2), (3, .int i3)] [] h) {h : Hp} {a0 : Nat} {i1 : Int32} {i2 : Int32} {i3 : Int32} {t : Rs Int32} (e : f_X7_occupant_L39 k2 h a0 i1 i2 i3 = some t) : X l K mM_X7_occupant (tgI t) 39 [(0, .ref a0), (1, .int i1), (2, .int i2), (3, .int i3)] [] h := by
  unfold f_X7_occupant_L39 at e
  refine x_iinc (pc := 39) 3 dX7_occupant_39 rfl (by decide) rfl ?_
  refine x_goto (pc := 42) (t := 2) dX7_occupant_42 (by decide) ?_
  exact x_sub1 (hk2 _ _ _ _ _ _ e) [1, 2, 3, 0] rfl
noncomputable def f_X7_occupant_B2 (k2 : Hp → Nat → Int32 → Int32 → Int32 → Option (Rs Int32)) (h : Hp) (a0 : Nat) (i1 : Int32) (i2 : Int32) (i3 : Int32) : Option (Rs Int32) :=
  chk (okr h a0 7) <|
  if (qI h a0 5) ≤ i3 then (
    some (h, .inr (iN (-1)))
  ) else (
    chk (okr h (qR h a0 8) 25) <|
    chk (vp_in i3 (qW h (qR h a0 8))) <|
    chk (okr h (qR h (qR h a0 8) (Int32.toNatClampNeg i3)) 1) <|
    if (qI h (qR h (qR h a0 8) (Int32.toNatClampNeg i3)) 0) = i1 then (
      bnd (f_X1_overlaps h (qR h (qR h a0 8) (Int32.toNatClampNeg i3)) i2 (iN 1)) fun h7 r8 =>
      if r8 = 0 then (
        f_X7_occupant_L39 k2 h7 a0 i1 i2 i3
      ) else (
        some (h7, .inr i3)
      )
    ) else (
      f_X7_occupant_L39 k2 h a0 i1 i2 i3
    )
  )
theorem p_X7_occupant_B2 {l : Launch} {K : Ctx} (hl : l.stackTraces = false) {k2 : Hp → Nat → Int32 → Int32 → Int32 → Option (Rs Int32)} (hk2 : ∀ (h : Hp) (a0 : Nat) (i1 : Int32) (i2 : Int32) (i3 : Int32) (t : Rs Int32), k2 h a0 i1 i2 i3 = some t → X l K mM_X7_occupant (tgI t) 2 [(0, .ref a0), (1, .int i1), (2, .int i2), (3, .int i3)] [] h) {h : Hp} {a0 : Nat} {i1 : Int32} {i2 : Int32} {i3 : Int32} {t : Rs Int32} (e : f_X7_occupant_B2 k2 h a0 i1 i2 i3 = some t) : X l K mM_X7_occupant (tgI t) 2 [(0, .ref a0), (1, .int i1), (2, .int i2), (3, .int i3)] [] h := by
  unfold f_X7_occupant_B2 at e
  refine x_iload_n (pc := 2) 3 dX7_occupant_2 rfl ?_
  refine x_aload_n (pc := 3) 0 dX7_occupant_3 rfl ?_
  obtain ⟨q1, e⟩ := chk_some e
  refine x_getI (pc := 4) gf_X7_41 rfl dX7_occupant_4 q1 ?_
  rcases ite_some e with ⟨q2, e⟩ | ⟨q2, e⟩
  · refine x_icmp_ge_t (pc := 7) (t := 45) dX7_occupant_7 (by decide) q2 ?_
    refine x_iconst (pc := 45) dX7_occupant_45 ?_
    cases Option.some.inj e
    exact x_iret (pc := 46) rfl dX7_occupant_46
  · refine x_icmp_ge_f (pc := 7) (t := 45) dX7_occupant_7 (by decide) q2 ?_
    refine x_aload_n (pc := 10) 0 dX7_occupant_10 rfl ?_
    obtain ⟨q3, e⟩ := chk_some e
    refine x_getR (pc := 11) gf_X7_30 rfl dX7_occupant_11 q1 q3.1 ?_
    refine x_iload_n (pc := 14) 3 dX7_occupant_14 rfl ?_
    obtain ⟨q4, e⟩ := chk_some e
    obtain ⟨q5, e⟩ := chk_some e
    refine x_aald (pc := 15) (t := 1) (by decide) dX7_occupant_15 q3 q4 q5.1 ?_
    refine x_getI (pc := 16) gf_X7_52 rfl dX7_occupant_16 q5 ?_
    refine x_iload_n (pc := 19) 1 dX7_occupant_19 rfl ?_
    rcases ite_some e with ⟨q6, e⟩ | ⟨q6, e⟩
    · refine x_icmp_ne_f (pc := 20) (t := 39) dX7_occupant_20 (by decide) q6 ?_
      refine x_aload_n (pc := 23) 0 dX7_occupant_23 rfl ?_
      refine x_getR (pc := 24) gf_X7_30 rfl dX7_occupant_24 q1 q3.1 ?_
      refine x_iload_n (pc := 27) 3 dX7_occupant_27 rfl ?_
      refine x_aald (pc := 28) (t := 1) (by decide) dX7_occupant_28 q3 q4 q5.1 ?_
      refine x_iload_n (pc := 29) 2 dX7_occupant_29 rfl ?_
      refine x_iconst (pc := 30) dX7_occupant_30 ?_
      rcases bnd_some e with ⟨h7, r8, ec, rfl⟩ | ⟨h7, r8, ec, e⟩
      · exact y_callV_x (pc := 31) (c_X1_overlaps hl ec) q5 mf_X1_overlaps tw_2_156 ts_1_12 lf_X7_55 rfl rfl dX7_occupant_31 (by decide) rfl rfl (leb rfl) (xx_out0 rfl)
      refine y_callV_i (pc := 31) (c_X1_overlaps hl ec) q5 mf_X1_overlaps tw_2_156 ts_1_12 lf_X7_55 rfl rfl dX7_occupant_31 (by decide) rfl rfl (leb rfl) ?_
      rcases ite_some e with ⟨q9, e⟩ | ⟨q9, e⟩
      · refine x_if_eq_t (pc := 34) (t := 39) dX7_occupant_34 (by decide) q9 ?_
        exact p_X7_occupant_L39 hl hk2 e
      · refine x_if_eq_f (pc := 34) (t := 39) dX7_occupant_34 (by decide) q9 ?_
        refine x_iload_n (pc := 37) 3 dX7_occupant_37 rfl ?_
        cases Option.some.inj e
        exact x_iret (pc := 38) rfl dX7_occupant_38
    · refine x_icmp_ne_t (pc := 20) (t := 39) dX7_occupant_20 (by decide) q6 ?_
      exact p_X7_occupant_L39 hl hk2 e
noncomputable def f_X7_occupant_L2 (n : Nat) : Hp → Nat → Int32 → Int32 → Int32 → Option (Rs Int32) := Nat.rec (motive := fun _ => Hp → Nat → Int32 → Int32 → Int32 → Option (Rs Int32)) (fun _ _ _ _ _ => none) (fun _ r => f_X7_occupant_B2 r) n
theorem p_X7_occupant_L2 {l : Launch} {K : Ctx} (hl : l.stackTraces = false) : ∀ (n : Nat) (h : Hp) (a0 : Nat) (i1 : Int32) (i2 : Int32) (i3 : Int32) (t : Rs Int32) (e : f_X7_occupant_L2 n h a0 i1 i2 i3 = some t), X l K mM_X7_occupant (tgI t) 2 [(0, .ref a0), (1, .int i1), (2, .int i2), (3, .int i3)] [] h := by
  intro n
  induction n with
  | zero => exact fun _ _ _ _ _ _ e => nomatch (show (none : Option (Rs Int32)) = some _ from e)
  | succ n ih => exact fun h a0 i1 i2 i3 t e => p_X7_occupant_B2 hl (fun h a0 i1 i2 i3 t e => ih h a0 i1 i2 i3 t e) e
noncomputable def f_X7_occupant (h : Hp) (a0 : Nat) (i1 : Int32) (i2 : Int32) : Option (Rs Int32) :=
  f_X7_occupant_L2 2000 h a0 i1 i2 (iN 0)
theorem p_X7_occupant {l : Launch} {K : Ctx} (hl : l.stackTraces = false) {h : Hp} {a0 : Nat} {i1 : Int32} {i2 : Int32} {t : Rs Int32} (e : f_X7_occupant h a0 i1 i2 = some t) : X l K mM_X7_occupant (tgI t) 0 [(0, .ref a0), (1, .int i1), (2, .int i2)] [] h := by
  unfold f_X7_occupant at e
  refine x_iconst (pc := 0) dX7_occupant_0 ?_
  refine x_istore_n (pc := 1) dX7_occupant_1 (by decide) rfl ?_
  exact x_sub1 (p_X7_occupant_L2 hl 2000 _ _ _ _ _ _ e) [1, 2, 3, 0] rfl
abbrev w_X7_occupant : Cond := (Cond.code yX7_occupant cX7_occupant 4 (Option.some Jvm.ClassFile.FieldType.int))
theorem mf_X7_occupant : MF yX7_occupant w_X7_occupant cX7_occupant 4 (Option.some Jvm.ClassFile.FieldType.int) 2 := ⟨⟨rfl, tw_5_103, by decide⟩, tw_1_2, ⟨by decide, by decide⟩, by decide +kernel⟩
theorem c_X7_occupant {l : Launch} {K : Ctx} (hl : l.stackTraces = false) {h : Hp} {a0 : Nat} {i1 : Int32} {i2 : Int32} {t : Rs Int32} (e : f_X7_occupant h a0 i1 i2 = some t) : Ctr l K 9 yX7_occupant w_X7_occupant [.ref a0, .int i1, .int i2] h (tgI t) :=
  Ctr.of hl mf_X7_occupant false (fun q => nomatch q) rfl (leb rfl) (p_X7_occupant hl e)
/-! ## TableColumnBalancer.cellAt -/
abbrev mM_X8_cellAt : Mi := (10, yX8_cellAt.cls, cX8_cellAt, 3, (Option.some Jvm.ClassFile.FieldType.int), [], false)
noncomputable def f_X8_cellAt (h : Hp) (a0 : Nat) (i1 : Int32) (i2 : Int32) : Option (Rs Int32) :=
  chk (okr h a0 8) <|
  bnd (f_X8_requireRow h a0 i1) fun h2 _ =>
  chk (okr h2 a0 8) <|
  bnd (f_X8_requireColumn h2 a0 i2) fun h5 _ =>
  chk (okr h5 a0 8) <|
  chk (okr h5 (qR h5 a0 0) 7) <|
  bnd (f_X7_occupant h5 (qR h5 a0 0) i1 i2) fun h9 r10 =>
  some (h9, .inr r10)
theorem p_X8_cellAt {l : Launch} {K : Ctx} (hl : l.stackTraces = false) {h : Hp} {a0 : Nat} {i1 : Int32} {i2 : Int32} {t : Rs Int32} (e : f_X8_cellAt h a0 i1 i2 = some t) : X l K mM_X8_cellAt (tgI t) 0 [(0, .ref a0), (1, .int i1), (2, .int i2)] [] h := by
  unfold f_X8_cellAt at e
  refine x_aload_n (pc := 0) 0 dX8_cellAt_0 rfl ?_
  refine x_iload_n (pc := 1) 1 dX8_cellAt_1 rfl ?_
  obtain ⟨q1, e⟩ := chk_some e
  rcases bnd_some e with ⟨h2, r3, ec, rfl⟩ | ⟨h2, r3, ec, e⟩
  · exact y_callV_x (pc := 2) (c_X8_requireRow hl ec) q1 mf_X8_requireRow tw_4_30 ts_3_7 lf_X8_124 rfl rfl dX8_cellAt_2 (by decide) rfl rfl (leb rfl) (xx_out0 rfl)
  refine y_callV_v (pc := 2) (c_X8_requireRow hl ec) q1 mf_X8_requireRow tw_4_30 ts_3_7 lf_X8_124 rfl rfl dX8_cellAt_2 (by decide) rfl rfl (leb rfl) ?_
  refine x_aload_n (pc := 5) 0 dX8_cellAt_5 rfl ?_
  refine x_iload_n (pc := 6) 2 dX8_cellAt_6 rfl ?_
  obtain ⟨q4, e⟩ := chk_some e
  rcases bnd_some e with ⟨h5, r6, ec, rfl⟩ | ⟨h5, r6, ec, e⟩
  · exact y_callV_x (pc := 7) (c_X8_requireColumn hl ec) q4 mf_X8_requireColumn tw_4_11 ts_3_6 lf_X8_108 rfl rfl dX8_cellAt_7 (by decide) rfl rfl (leb rfl) (xx_out0 rfl)
  refine y_callV_v (pc := 7) (c_X8_requireColumn hl ec) q4 mf_X8_requireColumn tw_4_11 ts_3_6 lf_X8_108 rfl rfl dX8_cellAt_7 (by decide) rfl rfl (leb rfl) ?_
  refine x_aload_n (pc := 10) 0 dX8_cellAt_10 rfl ?_
  obtain ⟨q7, e⟩ := chk_some e
  obtain ⟨q8, e⟩ := chk_some e
  refine x_getR (pc := 11) gf_X8_10 rfl dX8_cellAt_11 q7 q8.1 ?_
  refine x_iload_n (pc := 14) 1 dX8_cellAt_14 rfl ?_
  refine x_iload_n (pc := 15) 2 dX8_cellAt_15 rfl ?_
  rcases bnd_some e with ⟨h9, r10, ec, rfl⟩ | ⟨h9, r10, ec, e⟩
  · exact y_callV_x (pc := 16) (c_X7_occupant hl ec) q8 mf_X7_occupant tw_5_102 ts_5_10 lf_X8_221 rfl rfl dX8_cellAt_16 (by decide) rfl rfl (leb rfl) (xx_out0 rfl)
  refine y_callV_i (pc := 16) (c_X7_occupant hl ec) q8 mf_X7_occupant tw_5_102 ts_5_10 lf_X8_221 rfl rfl dX8_cellAt_16 (by decide) rfl rfl (leb rfl) ?_
  cases Option.some.inj e
  exact x_iret (pc := 19) rfl dX8_cellAt_19
abbrev w_X8_cellAt : Cond := (Cond.code yX8_cellAt cX8_cellAt 3 (Option.some Jvm.ClassFile.FieldType.int))
theorem mf_X8_cellAt : MF yX8_cellAt w_X8_cellAt cX8_cellAt 3 (Option.some Jvm.ClassFile.FieldType.int) 2 := ⟨⟨rfl, tw_5_99, by decide⟩, tw_1_1, ⟨by decide, by decide⟩, by decide +kernel⟩
theorem c_X8_cellAt {l : Launch} {K : Ctx} (hl : l.stackTraces = false) {h : Hp} {a0 : Nat} {i1 : Int32} {i2 : Int32} {t : Rs Int32} (e : f_X8_cellAt h a0 i1 i2 = some t) : Ctr l K 10 yX8_cellAt w_X8_cellAt [.ref a0, .int i1, .int i2] h (tgI t) :=
  Ctr.of hl mf_X8_cellAt false (fun q => nomatch q) rfl (leb rfl) (p_X8_cellAt hl e)
/-! ## TableColumnBalancerLaw.cellAt -/
abbrev mM_L_cellAt : Mi := (11, yL_cellAt.cls, cL_cellAt, 5, (Option.some Jvm.ClassFile.FieldType.int), [((0 : Nat), (10 : Nat), (13 : Nat), (21 : Nat))], false)
noncomputable def f_L_cellAt (h : Hp) (a0 : Nat) (i1 : Int32) (i2 : Int32) (a3 : Nat) : Option (Rs Int32) :=
  chk (okr h a0 8) <|
  bndX (f_X8_cellAt h a0 i1 i2) (fun h2 r3 => (
    chk (okr h2 a3 21) <|
    chk (vp_in (iN 0) (qW h2 a3)) <|
    lt (putL h2 a3 (Int32.toNatClampNeg (iN 0)) (Int32.toInt64 r3)) fun h6 =>
    some (h6, .inr (iN 0))
  )) fun h2 k =>
  if k = 2 then (
    some (h2, .inr (iN 1))
  ) else
  none
theorem p_L_cellAt {l : Launch} {K : Ctx} (hl : l.stackTraces = false) {h : Hp} {a0 : Nat} {i1 : Int32} {i2 : Int32} {a3 : Nat} {t : Rs Int32} (e : f_L_cellAt h a0 i1 i2 a3 = some t) : X l K mM_L_cellAt (tgI t) 0 [(0, .ref a0), (1, .int i1), (2, .int i2), (3, .ref a3)] [] h := by
  unfold f_L_cellAt at e
  refine x_aload_n (pc := 0) 3 dL_cellAt_0 rfl ?_
  refine x_iconst (pc := 1) dL_cellAt_1 ?_
  refine x_aload_n (pc := 2) 0 dL_cellAt_2 rfl ?_
  refine x_iload_n (pc := 3) 1 dL_cellAt_3 rfl ?_
  refine x_iload_n (pc := 4) 2 dL_cellAt_4 rfl ?_
  obtain ⟨q1, e⟩ := chk_some e
  rcases bndX_some e with ⟨h2, k, ec, e⟩ | ⟨h2, r3, ec, e⟩
  · rcases ite_some e with ⟨q7, e⟩ | ⟨q7, e⟩
    · subst q7
      refine y_callV_x (pc := 5) (c_X8_cellAt hl ec) q1 mf_X8_cellAt tw_5_97 tw_5_98 lf_L_64 rfl rfl dL_cellAt_5 (by decide) rfl rfl (leb rfl) (xx_catchA (pc := 5) [] [] (0, 10, 13, 21) rfl (by decide) (fun _ hz => absurd hz List.not_mem_nil) (by decide) (by decide) tw_3_187 tw_3_229 dL_cellAt_13 (by decide) rfl ?_)
      refine x_iconst (pc := 15) dL_cellAt_15 ?_
      cases Option.some.inj e
      exact x_iret (pc := 16) rfl dL_cellAt_16
    cases e
  refine y_callV_i (pc := 5) (c_X8_cellAt hl ec) q1 mf_X8_cellAt tw_5_97 tw_5_98 lf_L_64 rfl rfl dL_cellAt_5 (by decide) rfl rfl (leb rfl) ?_
  refine x_i2l (pc := 8) dL_cellAt_8 ?_
  obtain ⟨q4, e⟩ := chk_some e
  obtain ⟨q5, e⟩ := chk_some e
  replace e := lt_go e
  refine x_last (pc := 9) dL_cellAt_9 q4 q5 ?_
  refine x_goto (pc := 10) (t := 17) dL_cellAt_10 (by decide) ?_
  refine x_iconst (pc := 17) dL_cellAt_17 ?_
  cases Option.some.inj e
  exact x_iret (pc := 18) rfl dL_cellAt_18
abbrev w_L_cellAt : Cond := (Cond.codeWith yL_cellAt cL_cellAt 5 (Option.some Jvm.ClassFile.FieldType.int) [((0 : Nat), (10 : Nat), (13 : Nat), (21 : Nat))])
theorem mf_L_cellAt : MFX yL_cellAt w_L_cellAt cL_cellAt 5 (Option.some Jvm.ClassFile.FieldType.int) 4 [((0 : Nat), (10 : Nat), (13 : Nat), (21 : Nat))] := ⟨⟨rfl, tw_5_95, by decide⟩, tw_1_0, ⟨by decide, by decide⟩, by decide +kernel⟩
theorem c_L_cellAt {l : Launch} {K : Ctx} (hl : l.stackTraces = false) {h : Hp} {a0 : Nat} {i1 : Int32} {i2 : Int32} {a3 : Nat} {t : Rs Int32} (e : f_L_cellAt h a0 i1 i2 a3 = some t) : Ctr l K 11 yL_cellAt w_L_cellAt [.ref a0, .int i1, .int i2, .ref a3] h (tgI t) :=
  Ctr.ofX hl mf_L_cellAt rfl (leb rfl) (p_L_cellAt hl e)
/-! ## TableColumnBalancerModel.cellAt -/
abbrev mM_X9_cellAt : Mi := (10, yX9_cellAt.cls, cX9_cellAt, 3, (Option.some Jvm.ClassFile.FieldType.int), [], false)
noncomputable def f_X9_cellAt_L30 (h : Hp) (a0 : Nat) : Option (Rs Int32) :=
  chk (okr h a0 9) <|
  bnd (f_X9_fails h a0 (iN 1)) fun h2 r3 =>
  some (h2, .inr r3)
theorem p_X9_cellAt_L30 {l : Launch} {K : Ctx} (hl : l.stackTraces = false) {h : Hp} {a0 : Nat} {t : Rs Int32} (e : f_X9_cellAt_L30 h a0 = some t) : X l K mM_X9_cellAt (tgI t) 30 [(0, .ref a0)] [] h := by
  unfold f_X9_cellAt_L30 at e
  refine x_aload_n (pc := 30) 0 dX9_cellAt_30 rfl ?_
  refine x_iconst (pc := 31) dX9_cellAt_31 ?_
  obtain ⟨q1, e⟩ := chk_some e
  rcases bnd_some e with ⟨h2, r3, ec, rfl⟩ | ⟨h2, r3, ec, e⟩
  · exact y_callV_x (pc := 32) (c_X9_fails hl ec) q1 mf_X9_fails tw_7_24 ts_6_7 lf_X9_95 rfl rfl dX9_cellAt_32 (by decide) rfl rfl (leb rfl) (xx_out0 rfl)
  refine y_callV_i (pc := 32) (c_X9_fails hl ec) q1 mf_X9_fails tw_7_24 ts_6_7 lf_X9_95 rfl rfl dX9_cellAt_32 (by decide) rfl rfl (leb rfl) ?_
  cases Option.some.inj e
  exact x_iret (pc := 35) rfl dX9_cellAt_35
noncomputable def f_X9_cellAt (h : Hp) (a0 : Nat) (i1 : Int32) (i2 : Int32) : Option (Rs Int32) :=
  chk (okr h a0 9) <|
  lt (putI h a0 0 (iN 0)) fun h2 =>
  bnd (f_X9_isRow h2 a0 i1) fun h3 r4 =>
  if r4 = 0 then (
    f_X9_cellAt_L30 h3 a0
  ) else (
    chk (okr h3 a0 9) <|
    bnd (f_X9_isColumn h3 a0 i2) fun h7 r8 =>
    if r8 = 0 then (
      f_X9_cellAt_L30 h7 a0
    ) else (
      chk (okr h7 a0 9) <|
      bnd (f_X9_atPlace h7 a0 i1 i2) fun h11 r12 =>
      some (h11, .inr r12)
    )
  )
theorem p_X9_cellAt {l : Launch} {K : Ctx} (hl : l.stackTraces = false) {h : Hp} {a0 : Nat} {i1 : Int32} {i2 : Int32} {t : Rs Int32} (e : f_X9_cellAt h a0 i1 i2 = some t) : X l K mM_X9_cellAt (tgI t) 0 [(0, .ref a0), (1, .int i1), (2, .int i2)] [] h := by
  unfold f_X9_cellAt at e
  refine x_aload_n (pc := 0) 0 dX9_cellAt_0 rfl ?_
  refine x_iconst (pc := 1) dX9_cellAt_1 ?_
  obtain ⟨q1, e⟩ := chk_some e
  replace e := lt_go e
  refine x_putI (pc := 2) pf_X9_84 rfl rfl rfl dX9_cellAt_2 q1 ?_
  refine x_aload_n (pc := 5) 0 dX9_cellAt_5 rfl ?_
  refine x_iload_n (pc := 6) 1 dX9_cellAt_6 rfl ?_
  rcases bnd_some e with ⟨h3, r4, ec, rfl⟩ | ⟨h3, r4, ec, e⟩
  · exact y_callV_x (pc := 7) (c_X9_isRow hl ec) (okr_pI q1) mf_X9_isRow tw_7_51 ts_6_9 lf_X9_110 rfl rfl dX9_cellAt_7 (by decide) rfl rfl (leb rfl) (xx_out0 rfl)
  refine y_callV_i (pc := 7) (c_X9_isRow hl ec) (okr_pI q1) mf_X9_isRow tw_7_51 ts_6_9 lf_X9_110 rfl rfl dX9_cellAt_7 (by decide) rfl rfl (leb rfl) ?_
  rcases ite_some e with ⟨q5, e⟩ | ⟨q5, e⟩
  · refine x_if_eq_t (pc := 10) (t := 30) dX9_cellAt_10 (by decide) q5 ?_
    exact x_sub1 (p_X9_cellAt_L30 hl e) [0] rfl
  · refine x_if_eq_f (pc := 10) (t := 30) dX9_cellAt_10 (by decide) q5 ?_
    refine x_aload_n (pc := 13) 0 dX9_cellAt_13 rfl ?_
    refine x_iload_n (pc := 14) 2 dX9_cellAt_14 rfl ?_
    obtain ⟨q6, e⟩ := chk_some e
    rcases bnd_some e with ⟨h7, r8, ec, rfl⟩ | ⟨h7, r8, ec, e⟩
    · exact y_callV_x (pc := 15) (c_X9_isColumn hl ec) q6 mf_X9_isColumn tw_7_39 ts_6_8 lf_X9_103 rfl rfl dX9_cellAt_15 (by decide) rfl rfl (leb rfl) (xx_out0 rfl)
    refine y_callV_i (pc := 15) (c_X9_isColumn hl ec) q6 mf_X9_isColumn tw_7_39 ts_6_8 lf_X9_103 rfl rfl dX9_cellAt_15 (by decide) rfl rfl (leb rfl) ?_
    rcases ite_some e with ⟨q9, e⟩ | ⟨q9, e⟩
    · refine x_if_eq_t (pc := 18) (t := 30) dX9_cellAt_18 (by decide) q9 ?_
      exact x_sub1 (p_X9_cellAt_L30 hl e) [0] rfl
    · refine x_if_eq_f (pc := 18) (t := 30) dX9_cellAt_18 (by decide) q9 ?_
      refine x_aload_n (pc := 21) 0 dX9_cellAt_21 rfl ?_
      refine x_iload_n (pc := 22) 1 dX9_cellAt_22 rfl ?_
      refine x_iload_n (pc := 23) 2 dX9_cellAt_23 rfl ?_
      obtain ⟨q10, e⟩ := chk_some e
      rcases bnd_some e with ⟨h11, r12, ec, rfl⟩ | ⟨h11, r12, ec, e⟩
      · exact y_callV_x (pc := 24) (c_X9_atPlace hl ec) q10 mf_X9_atPlace tw_7_59 ts_6_11 lf_X9_107 rfl rfl dX9_cellAt_24 (by decide) rfl rfl (leb rfl) (xx_out0 rfl)
      refine y_callV_i (pc := 24) (c_X9_atPlace hl ec) q10 mf_X9_atPlace tw_7_59 ts_6_11 lf_X9_107 rfl rfl dX9_cellAt_24 (by decide) rfl rfl (leb rfl) ?_
      refine x_goto (pc := 27) (t := 35) dX9_cellAt_27 (by decide) ?_
      cases Option.some.inj e
      exact x_iret (pc := 35) rfl dX9_cellAt_35
abbrev w_X9_cellAt : Cond := (Cond.code yX9_cellAt cX9_cellAt 3 (Option.some Jvm.ClassFile.FieldType.int))
theorem mf_X9_cellAt : MF yX9_cellAt w_X9_cellAt cX9_cellAt 3 (Option.some Jvm.ClassFile.FieldType.int) 2 := ⟨⟨rfl, tw_8_27, by decide⟩, tw_1_11, ⟨by decide, by decide⟩, by decide +kernel⟩
theorem c_X9_cellAt {l : Launch} {K : Ctx} (hl : l.stackTraces = false) {h : Hp} {a0 : Nat} {i1 : Int32} {i2 : Int32} {t : Rs Int32} (e : f_X9_cellAt h a0 i1 i2 = some t) : Ctr l K 10 yX9_cellAt w_X9_cellAt [.ref a0, .int i1, .int i2] h (tgI t) :=
  Ctr.of hl mf_X9_cellAt false (fun q => nomatch q) rfl (leb rfl) (p_X9_cellAt hl e)
/-! ## TableColumnBalancer$Content.breakLines -/
abbrev mM_X4_breakLines : Mi := (8, yX4_breakLines.cls, cX4_breakLines, 7, (Option.some Jvm.ClassFile.FieldType.int), [], false)
noncomputable def f_X4_breakLines_L97 (k18 : Hp → Nat → Int32 → Int32 → Int32 → Int32 → Int32 → Option (Rs Int32)) (h : Hp) (a0 : Nat) (i2 : Int32) (i3 : Int32) (i4 : Int32) (i6 : Int32) (s0 : Int32) : Option (Rs Int32) :=
  k18 h a0 i2 i3 i4 s0 (i6 + iN 1)
theorem p_X4_breakLines_L97 {l : Launch} {K : Ctx} (hl : l.stackTraces = false) {k18 : Hp → Nat → Int32 → Int32 → Int32 → Int32 → Int32 → Option (Rs Int32)} (hk18 : ∀ (h : Hp) (a0 : Nat) (i2 : Int32) (i3 : Int32) (i4 : Int32) (i5 : Int32) (i6 : Int32) (t : Rs Int32), k18 h a0 i2 i3 i4 i5 i6 = some t → X l K mM_X4_breakLines (tgI t) 18 [(0, .ref a0), (2, .int i2), (3, .int i3), (4, .int i4), (5, .int i5), (6, .int i6)] [] h) {h : Hp} {a0 : Nat} {i2 : Int32} {i3 : Int32} {i4 : Int32} {i6 : Int32} {s0 : Int32} {t : Rs Int32} (e : f_X4_breakLines_L97 k18 h a0 i2 i3 i4 i6 s0 = some t) : X l K mM_X4_breakLines (tgI t) 97 [(0, .ref a0), (2, .int i2), (3, .int i3), (4, .int i4), (6, .int i6)] [.int s0] h := by
  unfold f_X4_breakLines_L97 at e
  refine x_istore (pc := 97) dX4_breakLines_97 (by decide) rfl ?_
  refine x_iinc (pc := 99) 5 dX4_breakLines_99 rfl (by decide) rfl ?_
  refine x_goto (pc := 102) (t := 18) dX4_breakLines_102 (by decide) ?_
  exact x_sub1 (hk18 _ _ _ _ _ _ _ _ e) [2, 3, 4, 5, 1, 0] rfl
noncomputable def f_X4_breakLines_L52 (k18 : Hp → Nat → Int32 → Int32 → Int32 → Int32 → Int32 → Option (Rs Int32)) (h : Hp) (a0 : Nat) (i2 : Int32) (i3 : Int32) (i4 : Int32) (i6 : Int32) : Option (Rs Int32) :=
  chk (okr h a0 4) <|
  chk (okr h (qR h a0 11) 20) <|
  chk (okr h (qR h a0 8) 20) <|
  chk (vp_in i6 (qW h (qR h a0 8))) <|
  chk (vp_in (i3 - (iN 1)) (qW h (qR h a0 11))) <|
  lt (putI h (qR h a0 11) (Int32.toNatClampNeg (i3 - (iN 1))) (i4 + (qI h (qR h a0 8) (Int32.toNatClampNeg i6)))) fun h6 =>
  chk (okr h6 (qR h6 a0 9) 20) <|
  chk (vp_in i6 (qW h6 (qR h6 a0 9))) <|
  chk (okr h6 (qR h6 a0 10) 22) <|
  chk (vp_in i6 (qW h6 (qR h6 a0 10))) <|
  if (qI h6 (qR h6 a0 10) (Int32.toNatClampNeg i6)) = 0 then (
    f_X4_breakLines_L97 k18 h6 a0 i2 i3 (i4 + (qI h6 (qR h6 a0 9) (Int32.toNatClampNeg i6))) i6 (iN 1)
  ) else (
    f_X4_breakLines_L97 k18 h6 a0 i2 i3 (i4 + (qI h6 (qR h6 a0 9) (Int32.toNatClampNeg i6))) i6 (iN 0)
  )
theorem p_X4_breakLines_L52 {l : Launch} {K : Ctx} (hl : l.stackTraces = false) {k18 : Hp → Nat → Int32 → Int32 → Int32 → Int32 → Int32 → Option (Rs Int32)} (hk18 : ∀ (h : Hp) (a0 : Nat) (i2 : Int32) (i3 : Int32) (i4 : Int32) (i5 : Int32) (i6 : Int32) (t : Rs Int32), k18 h a0 i2 i3 i4 i5 i6 = some t → X l K mM_X4_breakLines (tgI t) 18 [(0, .ref a0), (2, .int i2), (3, .int i3), (4, .int i4), (5, .int i5), (6, .int i6)] [] h) {h : Hp} {a0 : Nat} {i2 : Int32} {i3 : Int32} {i4 : Int32} {i6 : Int32} {t : Rs Int32} (e : f_X4_breakLines_L52 k18 h a0 i2 i3 i4 i6 = some t) : X l K mM_X4_breakLines (tgI t) 52 [(0, .ref a0), (2, .int i2), (3, .int i3), (4, .int i4), (6, .int i6)] [] h := by
  unfold f_X4_breakLines_L52 at e
  refine x_aload_n (pc := 52) 0 dX4_breakLines_52 rfl ?_
  obtain ⟨q1, e⟩ := chk_some e
  obtain ⟨q2, e⟩ := chk_some e
  refine x_getR (pc := 53) gf_X4_28 rfl dX4_breakLines_53 q1 q2.1 ?_
  refine x_iload_n (pc := 56) 2 dX4_breakLines_56 rfl ?_
  refine x_iconst (pc := 57) dX4_breakLines_57 ?_
  refine x_isub (pc := 58) dX4_breakLines_58 ?_
  refine x_iload (pc := 59) 3 dX4_breakLines_59 rfl ?_
  refine x_aload_n (pc := 61) 0 dX4_breakLines_61 rfl ?_
  obtain ⟨q3, e⟩ := chk_some e
  refine x_getR (pc := 62) gf_X4_18 rfl dX4_breakLines_62 q1 q3.1 ?_
  refine x_iload (pc := 65) 4 dX4_breakLines_65 rfl ?_
  obtain ⟨q4, e⟩ := chk_some e
  refine x_iald (pc := 67) dX4_breakLines_67 q3 q4 ?_
  refine x_iadd (pc := 68) dX4_breakLines_68 ?_
  obtain ⟨q5, e⟩ := chk_some e
  replace e := lt_go e
  refine x_iast (pc := 69) dX4_breakLines_69 q2 q5 ?_
  refine x_iload (pc := 70) 3 dX4_breakLines_70 rfl ?_
  refine x_aload_n (pc := 72) 0 dX4_breakLines_72 rfl ?_
  obtain ⟨q7, e⟩ := chk_some e
  refine x_getR (pc := 73) gf_X4_21 rfl dX4_breakLines_73 (okr_pI q1) q7.1 ?_
  refine x_iload (pc := 76) 4 dX4_breakLines_76 rfl ?_
  obtain ⟨q8, e⟩ := chk_some e
  refine x_iald (pc := 78) dX4_breakLines_78 q7 q8 ?_
  refine x_iadd (pc := 79) dX4_breakLines_79 ?_
  refine x_istore (pc := 80) dX4_breakLines_80 (by decide) rfl ?_
  refine x_aload_n (pc := 82) 1 dX4_breakLines_82 rfl ?_
  obtain ⟨q9, e⟩ := chk_some e
  refine x_getR (pc := 83) gf_X4_24 rfl dX4_breakLines_83 (okr_pI q1) q9.1 ?_
  refine x_iload (pc := 86) 4 dX4_breakLines_86 rfl ?_
  obtain ⟨q10, e⟩ := chk_some e
  refine x_zald (pc := 88) dX4_breakLines_88 q9 q10 ?_
  rcases ite_some e with ⟨q11, e⟩ | ⟨q11, e⟩
  · refine x_if_ne_f (pc := 89) (t := 96) dX4_breakLines_89 (by decide) q11 ?_
    refine x_iconst (pc := 92) dX4_breakLines_92 ?_
    refine x_goto (pc := 93) (t := 97) dX4_breakLines_93 (by decide) ?_
    exact x_sub1 (p_X4_breakLines_L97 hl hk18 e) [1, 2, 3, 0, 4] rfl
  · refine x_if_ne_t (pc := 89) (t := 96) dX4_breakLines_89 (by decide) q11 ?_
    refine x_iconst (pc := 96) dX4_breakLines_96 ?_
    exact x_sub1 (p_X4_breakLines_L97 hl hk18 e) [1, 2, 3, 0, 4] rfl
noncomputable def f_X4_breakLines_L46 (k18 : Hp → Nat → Int32 → Int32 → Int32 → Int32 → Int32 → Option (Rs Int32)) (h : Hp) (a0 : Nat) (i2 : Int32) (i3 : Int32) (i6 : Int32) : Option (Rs Int32) :=
  f_X4_breakLines_L52 k18 h a0 i2 (i3 + iN 1) (iN 0) i6
theorem p_X4_breakLines_L46 {l : Launch} {K : Ctx} (hl : l.stackTraces = false) {k18 : Hp → Nat → Int32 → Int32 → Int32 → Int32 → Int32 → Option (Rs Int32)} (hk18 : ∀ (h : Hp) (a0 : Nat) (i2 : Int32) (i3 : Int32) (i4 : Int32) (i5 : Int32) (i6 : Int32) (t : Rs Int32), k18 h a0 i2 i3 i4 i5 i6 = some t → X l K mM_X4_breakLines (tgI t) 18 [(0, .ref a0), (2, .int i2), (3, .int i3), (4, .int i4), (5, .int i5), (6, .int i6)] [] h) {h : Hp} {a0 : Nat} {i2 : Int32} {i3 : Int32} {i6 : Int32} {t : Rs Int32} (e : f_X4_breakLines_L46 k18 h a0 i2 i3 i6 = some t) : X l K mM_X4_breakLines (tgI t) 46 [(0, .ref a0), (2, .int i2), (3, .int i3), (6, .int i6)] [] h := by
  unfold f_X4_breakLines_L46 at e
  refine x_iconst (pc := 46) dX4_breakLines_46 ?_
  refine x_istore (pc := 47) dX4_breakLines_47 (by decide) rfl ?_
  refine x_iinc (pc := 49) 3 dX4_breakLines_49 rfl (by decide) rfl ?_
  exact x_sub1 (p_X4_breakLines_L52 hl hk18 e) [2, 3, 0, 1, 4] rfl
noncomputable def f_X4_breakLines_B18 (k18 : Hp → Nat → Int32 → Int32 → Int32 → Int32 → Int32 → Option (Rs Int32)) (h : Hp) (a0 : Nat) (i2 : Int32) (i3 : Int32) (i4 : Int32) (i5 : Int32) (i6 : Int32) : Option (Rs Int32) :=
  chk (okr h a0 4) <|
  if (qI h a0 7) ≤ i6 then (
    some (h, .inr i3)
  ) else (
    if i5 = 0 then (
      f_X4_breakLines_L46 k18 h a0 i2 i3 i6
    ) else (
      chk (okr h (qR h a0 8) 20) <|
      chk (vp_in i6 (qW h (qR h a0 8))) <|
      if (i4 + (qI h (qR h a0 8) (Int32.toNatClampNeg i6))) ≤ i2 then (
        f_X4_breakLines_L52 k18 h a0 i2 i3 i4 i6
      ) else (
        f_X4_breakLines_L46 k18 h a0 i2 i3 i6
      )
    )
  )
theorem p_X4_breakLines_B18 {l : Launch} {K : Ctx} (hl : l.stackTraces = false) {k18 : Hp → Nat → Int32 → Int32 → Int32 → Int32 → Int32 → Option (Rs Int32)} (hk18 : ∀ (h : Hp) (a0 : Nat) (i2 : Int32) (i3 : Int32) (i4 : Int32) (i5 : Int32) (i6 : Int32) (t : Rs Int32), k18 h a0 i2 i3 i4 i5 i6 = some t → X l K mM_X4_breakLines (tgI t) 18 [(0, .ref a0), (2, .int i2), (3, .int i3), (4, .int i4), (5, .int i5), (6, .int i6)] [] h) {h : Hp} {a0 : Nat} {i2 : Int32} {i3 : Int32} {i4 : Int32} {i5 : Int32} {i6 : Int32} {t : Rs Int32} (e : f_X4_breakLines_B18 k18 h a0 i2 i3 i4 i5 i6 = some t) : X l K mM_X4_breakLines (tgI t) 18 [(0, .ref a0), (2, .int i2), (3, .int i3), (4, .int i4), (5, .int i5), (6, .int i6)] [] h := by
  unfold f_X4_breakLines_B18 at e
  refine x_iload (pc := 18) 5 dX4_breakLines_18 rfl ?_
  refine x_aload_n (pc := 20) 0 dX4_breakLines_20 rfl ?_
  obtain ⟨q1, e⟩ := chk_some e
  refine x_getI (pc := 21) gf_X4_53 rfl dX4_breakLines_21 q1 ?_
  rcases ite_some e with ⟨q2, e⟩ | ⟨q2, e⟩
  · refine x_icmp_ge_t (pc := 24) (t := 105) dX4_breakLines_24 (by decide) q2 ?_
    refine x_iload_n (pc := 105) 2 dX4_breakLines_105 rfl ?_
    cases Option.some.inj e
    exact x_iret (pc := 106) rfl dX4_breakLines_106
  · refine x_icmp_ge_f (pc := 24) (t := 105) dX4_breakLines_24 (by decide) q2 ?_
    refine x_iload (pc := 27) 4 dX4_breakLines_27 rfl ?_
    rcases ite_some e with ⟨q3, e⟩ | ⟨q3, e⟩
    · refine x_if_eq_t (pc := 29) (t := 46) dX4_breakLines_29 (by decide) q3 ?_
      exact x_sub1 (p_X4_breakLines_L46 hl hk18 e) [0, 1, 2, 5] rfl
    · refine x_if_eq_f (pc := 29) (t := 46) dX4_breakLines_29 (by decide) q3 ?_
      refine x_iload (pc := 32) 3 dX4_breakLines_32 rfl ?_
      refine x_aload_n (pc := 34) 0 dX4_breakLines_34 rfl ?_
      obtain ⟨q4, e⟩ := chk_some e
      refine x_getR (pc := 35) gf_X4_18 rfl dX4_breakLines_35 q1 q4.1 ?_
      refine x_iload (pc := 38) 5 dX4_breakLines_38 rfl ?_
      obtain ⟨q5, e⟩ := chk_some e
      refine x_iald (pc := 40) dX4_breakLines_40 q4 q5 ?_
      refine x_iadd (pc := 41) dX4_breakLines_41 ?_
      refine x_iload_n (pc := 42) 1 dX4_breakLines_42 rfl ?_
      rcases ite_some e with ⟨q6, e⟩ | ⟨q6, e⟩
      · refine x_icmp_le_t (pc := 43) (t := 52) dX4_breakLines_43 (by decide) q6 ?_
        exact x_sub1 (p_X4_breakLines_L52 hl hk18 e) [0, 1, 2, 3, 5] rfl
      · refine x_icmp_le_f (pc := 43) (t := 52) dX4_breakLines_43 (by decide) q6 ?_
        exact x_sub1 (p_X4_breakLines_L46 hl hk18 e) [0, 1, 2, 5] rfl
noncomputable def f_X4_breakLines_L18 (n : Nat) : Hp → Nat → Int32 → Int32 → Int32 → Int32 → Int32 → Option (Rs Int32) := Nat.rec (motive := fun _ => Hp → Nat → Int32 → Int32 → Int32 → Int32 → Int32 → Option (Rs Int32)) (fun _ _ _ _ _ _ _ => none) (fun _ r => f_X4_breakLines_B18 r) n
theorem p_X4_breakLines_L18 {l : Launch} {K : Ctx} (hl : l.stackTraces = false) : ∀ (n : Nat) (h : Hp) (a0 : Nat) (i2 : Int32) (i3 : Int32) (i4 : Int32) (i5 : Int32) (i6 : Int32) (t : Rs Int32) (e : f_X4_breakLines_L18 n h a0 i2 i3 i4 i5 i6 = some t), X l K mM_X4_breakLines (tgI t) 18 [(0, .ref a0), (2, .int i2), (3, .int i3), (4, .int i4), (5, .int i5), (6, .int i6)] [] h := by
  intro n
  induction n with
  | zero => exact fun _ _ _ _ _ _ _ _ e => nomatch (show (none : Option (Rs Int32)) = some _ from e)
  | succ n ih => exact fun h a0 i2 i3 i4 i5 i6 t e => p_X4_breakLines_B18 hl (fun h a0 i2 i3 i4 i5 i6 t e => ih h a0 i2 i3 i4 i5 i6 t e) e
noncomputable def f_X4_breakLines (h : Hp) (a0 : Nat) (i1 : Int32) : Option (Rs Int32) :=
  chk (okr h a0 4) <|
  f_X4_breakLines_L18 2000 h a0 (i1 - (qI h a0 4)) (iN 0) (iN 0) (iN 0) (iN 0)
theorem p_X4_breakLines {l : Launch} {K : Ctx} (hl : l.stackTraces = false) {h : Hp} {a0 : Nat} {i1 : Int32} {t : Rs Int32} (e : f_X4_breakLines h a0 i1 = some t) : X l K mM_X4_breakLines (tgI t) 0 [(0, .ref a0), (1, .int i1)] [] h := by
  unfold f_X4_breakLines at e
  refine x_iload_n (pc := 0) 1 dX4_breakLines_0 rfl ?_
  refine x_aload_n (pc := 1) 0 dX4_breakLines_1 rfl ?_
  obtain ⟨q1, e⟩ := chk_some e
  refine x_getI (pc := 2) gf_X4_50 rfl dX4_breakLines_2 q1 ?_
  refine x_isub (pc := 5) dX4_breakLines_5 ?_
  refine x_istore_n (pc := 6) dX4_breakLines_6 (by decide) rfl ?_
  refine x_iconst (pc := 7) dX4_breakLines_7 ?_
  refine x_istore_n (pc := 8) dX4_breakLines_8 (by decide) rfl ?_
  refine x_iconst (pc := 9) dX4_breakLines_9 ?_
  refine x_istore (pc := 10) dX4_breakLines_10 (by decide) rfl ?_
  refine x_iconst (pc := 12) dX4_breakLines_12 ?_
  refine x_istore (pc := 13) dX4_breakLines_13 (by decide) rfl ?_
  refine x_iconst (pc := 15) dX4_breakLines_15 ?_
  refine x_istore (pc := 16) dX4_breakLines_16 (by decide) rfl ?_
  exact x_sub1 (p_X4_breakLines_L18 hl 2000 _ _ _ _ _ _ _ _ e) [5, 4, 3, 2, 1, 0] rfl
abbrev w_X4_breakLines : Cond := (Cond.code yX4_breakLines cX4_breakLines 7 (Option.some Jvm.ClassFile.FieldType.int))
theorem mf_X4_breakLines : MF yX4_breakLines w_X4_breakLines cX4_breakLines 7 (Option.some Jvm.ClassFile.FieldType.int) 1 := ⟨⟨rfl, tw_3_31, by decide⟩, tw_1_4, ⟨by decide, by decide⟩, by decide +kernel⟩
theorem c_X4_breakLines {l : Launch} {K : Ctx} (hl : l.stackTraces = false) {h : Hp} {a0 : Nat} {i1 : Int32} {t : Rs Int32} (e : f_X4_breakLines h a0 i1 = some t) : Ctr l K 8 yX4_breakLines w_X4_breakLines [.ref a0, .int i1] h (tgI t) :=
  Ctr.of hl mf_X4_breakLines false (fun q => nomatch q) rfl (leb rfl) (p_X4_breakLines hl e)
/-! ## TableColumnBalancer.lineCount -/
abbrev mM_X8_lineCount : Mi := (11, yX8_lineCount.cls, cX8_lineCount, 4, (Option.some Jvm.ClassFile.FieldType.int), [], false)
noncomputable def f_X8_lineCount (h : Hp) (a0 : Nat) (i1 : Int32) (i2 : Int32) : Option (Rs Int32) :=
  chk (okr h a0 8) <|
  bnd (f_X8_textOf h a0 i1) fun h2 r3 =>
  chk (okr h2 r3 4) <|
  bnd (f_X4_minimum h2 r3) fun h5 r6 =>
  bnd (f_X8_isWithin h5 i2 r6 (iN 99)) fun h7 r8 =>
  bnd (f_X8_requireArgument h7 r8) fun h9 _ =>
  chk (okr h9 r3 4) <|
  bnd (f_X4_breakLines h9 r3 i2) fun h12 r13 =>
  some (h12, .inr r13)
theorem p_X8_lineCount {l : Launch} {K : Ctx} (hl : l.stackTraces = false) {h : Hp} {a0 : Nat} {i1 : Int32} {i2 : Int32} {t : Rs Int32} (e : f_X8_lineCount h a0 i1 i2 = some t) : X l K mM_X8_lineCount (tgI t) 0 [(0, .ref a0), (1, .int i1), (2, .int i2)] [] h := by
  unfold f_X8_lineCount at e
  refine x_aload_n (pc := 0) 0 dX8_lineCount_0 rfl ?_
  refine x_iload_n (pc := 1) 1 dX8_lineCount_1 rfl ?_
  obtain ⟨q1, e⟩ := chk_some e
  rcases bnd_some e with ⟨h2, r3, ec, rfl⟩ | ⟨h2, r3, ec, e⟩
  · exact y_callV_x (pc := 2) (c_X8_textOf hl ec) q1 mf_X8_textOf tw_4_83 ts_4_0 lf_X8_145 rfl rfl dX8_lineCount_2 (by decide) rfl rfl (leb rfl) (xx_out0 rfl)
  refine y_callV_i (pc := 2) (c_X8_textOf hl ec) q1 mf_X8_textOf tw_4_83 ts_4_0 lf_X8_145 rfl rfl dX8_lineCount_2 (by decide) rfl rfl (leb rfl) ?_
  refine x_astore_n (pc := 5) dX8_lineCount_5 (by decide) rfl ?_
  refine x_iload_n (pc := 6) 3 dX8_lineCount_6 rfl ?_
  refine x_aload_n (pc := 7) 0 dX8_lineCount_7 rfl ?_
  obtain ⟨q4, e⟩ := chk_some e
  rcases bnd_some e with ⟨h5, r6, ec, rfl⟩ | ⟨h5, r6, ec, e⟩
  · exact y_callV_x (pc := 8) (c_X4_minimum hl ec) q4 mf_X4_minimum tw_2_116 ts_1_3 lf_X8_225 rfl rfl dX8_lineCount_8 (by decide) rfl rfl (leb rfl) (xx_out0 rfl)
  refine y_callV_i (pc := 8) (c_X4_minimum hl ec) q4 mf_X4_minimum tw_2_116 ts_1_3 lf_X8_225 rfl rfl dX8_lineCount_8 (by decide) rfl rfl (leb rfl) ?_
  refine x_bipush (pc := 11) (v := iN 99) dX8_lineCount_11 rfl ?_
  rcases bnd_some e with ⟨h7, r8, ec, rfl⟩ | ⟨h7, r8, ec, e⟩
  · exact y_callS_x (pc := 13) (c_X8_isWithin hl ec) mf_X8_isWithin tw_3_26 lf_X8_72 dX8_lineCount_13 (by decide) rfl rfl (leb rfl) (xx_out0 rfl)
  refine y_callS_i (pc := 13) (c_X8_isWithin hl ec) mf_X8_isWithin tw_3_26 lf_X8_72 dX8_lineCount_13 (by decide) rfl rfl (leb rfl) ?_
  rcases bnd_some e with ⟨h9, r10, ec, rfl⟩ | ⟨h9, r10, ec, e⟩
  · exact y_callS_x (pc := 16) (c_X8_requireArgument hl ec) mf_X8_requireArgument tw_3_84 lf_X8_76 dX8_lineCount_16 (by decide) rfl rfl (leb rfl) (xx_out0 rfl)
  refine y_callS_v (pc := 16) (c_X8_requireArgument hl ec) mf_X8_requireArgument tw_3_84 lf_X8_76 dX8_lineCount_16 (by decide) rfl rfl (leb rfl) ?_
  refine x_aload_n (pc := 19) 0 dX8_lineCount_19 rfl ?_
  refine x_iload_n (pc := 20) 3 dX8_lineCount_20 rfl ?_
  obtain ⟨q11, e⟩ := chk_some e
  rcases bnd_some e with ⟨h12, r13, ec, rfl⟩ | ⟨h12, r13, ec, e⟩
  · exact y_callV_x (pc := 21) (c_X4_breakLines hl ec) q11 mf_X4_breakLines tw_3_30 ts_2_10 lf_X8_229 rfl rfl dX8_lineCount_21 (by decide) rfl rfl (leb rfl) (xx_out0 rfl)
  refine y_callV_i (pc := 21) (c_X4_breakLines hl ec) q11 mf_X4_breakLines tw_3_30 ts_2_10 lf_X8_229 rfl rfl dX8_lineCount_21 (by decide) rfl rfl (leb rfl) ?_
  cases Option.some.inj e
  exact x_iret (pc := 24) rfl dX8_lineCount_24
abbrev w_X8_lineCount : Cond := (Cond.code yX8_lineCount cX8_lineCount 4 (Option.some Jvm.ClassFile.FieldType.int))
theorem mf_X8_lineCount : MF yX8_lineCount w_X8_lineCount cX8_lineCount 4 (Option.some Jvm.ClassFile.FieldType.int) 2 := ⟨⟨rfl, tw_5_110, by decide⟩, tw_1_1, ⟨by decide, by decide⟩, by decide +kernel⟩
theorem c_X8_lineCount {l : Launch} {K : Ctx} (hl : l.stackTraces = false) {h : Hp} {a0 : Nat} {i1 : Int32} {i2 : Int32} {t : Rs Int32} (e : f_X8_lineCount h a0 i1 i2 = some t) : Ctr l K 11 yX8_lineCount w_X8_lineCount [.ref a0, .int i1, .int i2] h (tgI t) :=
  Ctr.of hl mf_X8_lineCount false (fun q => nomatch q) rfl (leb rfl) (p_X8_lineCount hl e)
/-! ## TableColumnBalancerLaw.lineCount -/
abbrev mM_L_lineCount : Mi := (12, yL_lineCount.cls, cL_lineCount, 5, (Option.some Jvm.ClassFile.FieldType.int), [((0 : Nat), (10 : Nat), (13 : Nat), (21 : Nat)), ((0 : Nat), (10 : Nat), (17 : Nat), (41 : Nat)), ((0 : Nat), (10 : Nat), (21 : Nat), (13 : Nat))], false)
noncomputable def f_L_lineCount (h : Hp) (a0 : Nat) (i1 : Int32) (i2 : Int32) (a3 : Nat) : Option (Rs Int32) :=
  chk (okr h a0 8) <|
  bndX (f_X8_lineCount h a0 i1 i2) (fun h2 r3 => (
    chk (okr h2 a3 21) <|
    chk (vp_in (iN 0) (qW h2 a3)) <|
    lt (putL h2 a3 (Int32.toNatClampNeg (iN 0)) (Int32.toInt64 r3)) fun h6 =>
    some (h6, .inr (iN 0))
  )) fun h2 k =>
  if k = 2 then (
    some (h2, .inr (iN 1))
  ) else
  if k = 4 then (
    some (h2, .inr (iN 2))
  ) else
  if k = 1 then (
    some (h2, .inr (iN 3))
  ) else
  none
theorem p_L_lineCount {l : Launch} {K : Ctx} (hl : l.stackTraces = false) {h : Hp} {a0 : Nat} {i1 : Int32} {i2 : Int32} {a3 : Nat} {t : Rs Int32} (e : f_L_lineCount h a0 i1 i2 a3 = some t) : X l K mM_L_lineCount (tgI t) 0 [(0, .ref a0), (1, .int i1), (2, .int i2), (3, .ref a3)] [] h := by
  unfold f_L_lineCount at e
  refine x_aload_n (pc := 0) 3 dL_lineCount_0 rfl ?_
  refine x_iconst (pc := 1) dL_lineCount_1 ?_
  refine x_aload_n (pc := 2) 0 dL_lineCount_2 rfl ?_
  refine x_iload_n (pc := 3) 1 dL_lineCount_3 rfl ?_
  refine x_iload_n (pc := 4) 2 dL_lineCount_4 rfl ?_
  obtain ⟨q1, e⟩ := chk_some e
  rcases bndX_some e with ⟨h2, k, ec, e⟩ | ⟨h2, r3, ec, e⟩
  · rcases ite_some e with ⟨q7, e⟩ | ⟨q7, e⟩
    · subst q7
      refine y_callV_x (pc := 5) (c_X8_lineCount hl ec) q1 mf_X8_lineCount tw_5_108 tw_5_109 lf_L_67 rfl rfl dL_lineCount_5 (by decide) rfl rfl (leb rfl) (xx_catchA (pc := 5) [] [(0, 10, 17, 41), (0, 10, 21, 13)] (0, 10, 13, 21) rfl (by decide) (fun _ hz => absurd hz List.not_mem_nil) (by decide) (by decide) tw_3_187 tw_3_229 dL_lineCount_13 (by decide) rfl ?_)
      refine x_iconst (pc := 15) dL_lineCount_15 ?_
      cases Option.some.inj e
      exact x_iret (pc := 16) rfl dL_lineCount_16
    rcases ite_some e with ⟨q8, e⟩ | ⟨q8, e⟩
    · subst q8
      refine y_callV_x (pc := 5) (c_X8_lineCount hl ec) q1 mf_X8_lineCount tw_5_108 tw_5_109 lf_L_67 rfl rfl dL_lineCount_5 (by decide) rfl rfl (leb rfl) (xx_catchA (pc := 5) [(0, 10, 13, 21)] [(0, 10, 21, 13)] (0, 10, 17, 41) rfl (by decide) (List.forall_mem_cons.mpr ⟨⟨by decide, 2, by decide, by decide, tw_3_187⟩, fun _ hz => absurd hz List.not_mem_nil⟩) (by decide) (by decide) tw_4_76 tw_4_91 dL_lineCount_17 (by decide) rfl ?_)
      refine x_iconst (pc := 19) dL_lineCount_19 ?_
      cases Option.some.inj e
      exact x_iret (pc := 20) rfl dL_lineCount_20
    rcases ite_some e with ⟨q9, e⟩ | ⟨q9, e⟩
    · subst q9
      refine y_callV_x (pc := 5) (c_X8_lineCount hl ec) q1 mf_X8_lineCount tw_5_108 tw_5_109 lf_L_67 rfl rfl dL_lineCount_5 (by decide) rfl rfl (leb rfl) (xx_catchA (pc := 5) [(0, 10, 13, 21), (0, 10, 17, 41)] [] (0, 10, 21, 13) rfl (by decide) (List.forall_mem_cons.mpr ⟨⟨by decide, 2, by decide, by decide, tw_3_187⟩, List.forall_mem_cons.mpr ⟨⟨by decide, 4, by decide, by decide, tw_4_76⟩, fun _ hz => absurd hz List.not_mem_nil⟩⟩) (by decide) (by decide) tw_3_76 tw_3_88 dL_lineCount_21 (by decide) rfl ?_)
      refine x_iconst (pc := 23) dL_lineCount_23 ?_
      cases Option.some.inj e
      exact x_iret (pc := 24) rfl dL_lineCount_24
    cases e
  refine y_callV_i (pc := 5) (c_X8_lineCount hl ec) q1 mf_X8_lineCount tw_5_108 tw_5_109 lf_L_67 rfl rfl dL_lineCount_5 (by decide) rfl rfl (leb rfl) ?_
  refine x_i2l (pc := 8) dL_lineCount_8 ?_
  obtain ⟨q4, e⟩ := chk_some e
  obtain ⟨q5, e⟩ := chk_some e
  replace e := lt_go e
  refine x_last (pc := 9) dL_lineCount_9 q4 q5 ?_
  refine x_goto (pc := 10) (t := 25) dL_lineCount_10 (by decide) ?_
  refine x_iconst (pc := 25) dL_lineCount_25 ?_
  cases Option.some.inj e
  exact x_iret (pc := 26) rfl dL_lineCount_26
abbrev w_L_lineCount : Cond := (Cond.codeWith yL_lineCount cL_lineCount 5 (Option.some Jvm.ClassFile.FieldType.int) [((0 : Nat), (10 : Nat), (13 : Nat), (21 : Nat)), ((0 : Nat), (10 : Nat), (17 : Nat), (41 : Nat)), ((0 : Nat), (10 : Nat), (21 : Nat), (13 : Nat))])
theorem mf_L_lineCount : MFX yL_lineCount w_L_lineCount cL_lineCount 5 (Option.some Jvm.ClassFile.FieldType.int) 4 [((0 : Nat), (10 : Nat), (13 : Nat), (21 : Nat)), ((0 : Nat), (10 : Nat), (17 : Nat), (41 : Nat)), ((0 : Nat), (10 : Nat), (21 : Nat), (13 : Nat))] := ⟨⟨rfl, tw_5_106, by decide⟩, tw_1_0, ⟨by decide, by decide⟩, by decide +kernel⟩
theorem c_L_lineCount {l : Launch} {K : Ctx} (hl : l.stackTraces = false) {h : Hp} {a0 : Nat} {i1 : Int32} {i2 : Int32} {a3 : Nat} {t : Rs Int32} (e : f_L_lineCount h a0 i1 i2 a3 = some t) : Ctr l K 12 yL_lineCount w_L_lineCount [.ref a0, .int i1, .int i2, .ref a3] h (tgI t) :=
  Ctr.ofX hl mf_L_lineCount rfl (leb rfl) (p_L_lineCount hl e)
/-! ## TableColumnBalancerModel.breaksLines -/
abbrev mM_X9_breaksLines : Mi := (10, yX9_breaksLines.cls, cX9_breaksLines, 7, (Option.none : Option Jvm.ClassFile.FieldType), [], false)
noncomputable def f_X9_breaksLines_L71 (k21 : Hp → Nat → Int32 → Int32 → Option (Rs Unit)) (k38 : Hp → Nat → Int32 → Int32 → Int32 → Int32 → Option (Rs Unit)) (h : Hp) (a0 : Nat) (i3 : Int32) (i4 : Int32) (i6 : Int32) (s0 : Int32) : Option (Rs Unit) :=
  k38 h a0 i3 i4 s0 i6
theorem p_X9_breaksLines_L71 {l : Launch} {K : Ctx} (hl : l.stackTraces = false) {k21 : Hp → Nat → Int32 → Int32 → Option (Rs Unit)} {k38 : Hp → Nat → Int32 → Int32 → Int32 → Int32 → Option (Rs Unit)} (hk21 : ∀ (h : Hp) (a0 : Nat) (i3 : Int32) (i4 : Int32) (t : Rs Unit), k21 h a0 i3 i4 = some t → X l K mM_X9_breaksLines (tgV t) 21 [(0, .ref a0), (3, .int i3), (4, .int i4)] [] h) (hk38 : ∀ (h : Hp) (a0 : Nat) (i3 : Int32) (i4 : Int32) (i5 : Int32) (i6 : Int32) (t : Rs Unit), k38 h a0 i3 i4 i5 i6 = some t → X l K mM_X9_breaksLines (tgV t) 38 [(0, .ref a0), (3, .int i3), (4, .int i4), (5, .int i5), (6, .int i6)] [] h) {h : Hp} {a0 : Nat} {i3 : Int32} {i4 : Int32} {i6 : Int32} {s0 : Int32} {t : Rs Unit} (e : f_X9_breaksLines_L71 k21 k38 h a0 i3 i4 i6 s0 = some t) : X l K mM_X9_breaksLines (tgV t) 71 [(0, .ref a0), (3, .int i3), (4, .int i4), (6, .int i6)] [.int s0] h := by
  unfold f_X9_breaksLines_L71 at e
  refine x_istore (pc := 71) dX9_breaksLines_71 (by decide) rfl ?_
  refine x_goto (pc := 73) (t := 38) dX9_breaksLines_73 (by decide) ?_
  exact x_sub1 (hk38 _ _ _ _ _ _ _ e) [1, 2, 3, 0, 4] rfl
noncomputable def f_X9_breaksLines_B38 (k21 : Hp → Nat → Int32 → Int32 → Option (Rs Unit)) (k38 : Hp → Nat → Int32 → Int32 → Int32 → Int32 → Option (Rs Unit)) (h : Hp) (a0 : Nat) (i3 : Int32) (i4 : Int32) (i5 : Int32) (i6 : Int32) : Option (Rs Unit) :=
  chk (okr h a0 9) <|
  chk (okr h (qR h a0 17) 20) <|
  chk (vp_in i6 (qW h (qR h a0 17))) <|
  if (qI h (qR h a0 17) (Int32.toNatClampNeg i6)) = (iN 1) then (
    chk (okr h (qR h a0 19) 20) <|
    bnd (f_X9_longOf h a0 i4 i5) fun h6 r7 =>
    chk (okr h6 (qR h a0 19) 20) <|
    chk (vp_in (qI h a0 20) (qW h6 (qR h a0 19))) <|
    lt (putI h6 (qR h a0 19) (Int32.toNatClampNeg (qI h a0 20)) r7) fun h10 =>
    chk (okr h10 a0 9) <|
    lt (putI h10 a0 20 ((qI h10 a0 20) + (iN 1))) fun h12 =>
    k21 h12 a0 i3 (i5 + (iN 1))
  ) else (
    bnd (f_X9_longOf h a0 i4 (i6 + iN 1)) fun h13 r14 =>
    if i3 < r14 then (
      f_X9_breaksLines_L71 k21 k38 h13 a0 i3 i4 (i6 + iN 1) i5
    ) else (
      f_X9_breaksLines_L71 k21 k38 h13 a0 i3 i4 (i6 + iN 1) (i6 + iN 1)
    )
  )
theorem p_X9_breaksLines_B38 {l : Launch} {K : Ctx} (hl : l.stackTraces = false) {k21 : Hp → Nat → Int32 → Int32 → Option (Rs Unit)} {k38 : Hp → Nat → Int32 → Int32 → Int32 → Int32 → Option (Rs Unit)} (hk21 : ∀ (h : Hp) (a0 : Nat) (i3 : Int32) (i4 : Int32) (t : Rs Unit), k21 h a0 i3 i4 = some t → X l K mM_X9_breaksLines (tgV t) 21 [(0, .ref a0), (3, .int i3), (4, .int i4)] [] h) (hk38 : ∀ (h : Hp) (a0 : Nat) (i3 : Int32) (i4 : Int32) (i5 : Int32) (i6 : Int32) (t : Rs Unit), k38 h a0 i3 i4 i5 i6 = some t → X l K mM_X9_breaksLines (tgV t) 38 [(0, .ref a0), (3, .int i3), (4, .int i4), (5, .int i5), (6, .int i6)] [] h) {h : Hp} {a0 : Nat} {i3 : Int32} {i4 : Int32} {i5 : Int32} {i6 : Int32} {t : Rs Unit} (e : f_X9_breaksLines_B38 k21 k38 h a0 i3 i4 i5 i6 = some t) : X l K mM_X9_breaksLines (tgV t) 38 [(0, .ref a0), (3, .int i3), (4, .int i4), (5, .int i5), (6, .int i6)] [] h := by
  unfold f_X9_breaksLines_B38 at e
  refine x_aload_n (pc := 38) 0 dX9_breaksLines_38 rfl ?_
  obtain ⟨q1, e⟩ := chk_some e
  obtain ⟨q2, e⟩ := chk_some e
  refine x_getR (pc := 39) gf_X9_42 rfl dX9_breaksLines_39 q1 q2.1 ?_
  refine x_iload (pc := 42) 4 dX9_breaksLines_42 rfl ?_
  obtain ⟨q3, e⟩ := chk_some e
  refine x_iald (pc := 44) dX9_breaksLines_44 q2 q3 ?_
  refine x_iconst (pc := 45) dX9_breaksLines_45 ?_
  rcases ite_some e with ⟨q4, e⟩ | ⟨q4, e⟩
  · refine x_icmp_eq_t (pc := 46) (t := 76) dX9_breaksLines_46 (by decide) q4 ?_
    refine x_aload_n (pc := 76) 0 dX9_breaksLines_76 rfl ?_
    obtain ⟨q5, e⟩ := chk_some e
    refine x_getR (pc := 77) gf_X9_45 rfl dX9_breaksLines_77 q1 q5.1 ?_
    refine x_aload_n (pc := 80) 0 dX9_breaksLines_80 rfl ?_
    refine x_getI (pc := 81) gf_X9_268 rfl dX9_breaksLines_81 q1 ?_
    refine x_aload_n (pc := 84) 0 dX9_breaksLines_84 rfl ?_
    refine x_iload (pc := 85) 2 dX9_breaksLines_85 rfl ?_
    refine x_iload (pc := 87) 3 dX9_breaksLines_87 rfl ?_
    rcases bnd_some e with ⟨h6, r7, ec, rfl⟩ | ⟨h6, r7, ec, e⟩
    · exact y_callV_x (pc := 89) (c_X9_longOf hl ec) q1 mf_X9_longOf tw_8_7 ts_8_11 lf_X9_274 rfl rfl dX9_breaksLines_89 (by decide) rfl rfl (leb rfl) (xx_out0 rfl)
    refine y_callV_i (pc := 89) (c_X9_longOf hl ec) q1 mf_X9_longOf tw_8_7 ts_8_11 lf_X9_274 rfl rfl dX9_breaksLines_89 (by decide) rfl rfl (leb rfl) ?_
    obtain ⟨q8, e⟩ := chk_some e
    obtain ⟨q9, e⟩ := chk_some e
    replace e := lt_go e
    refine x_iast (pc := 92) dX9_breaksLines_92 q8 q9 ?_
    refine x_aload_n (pc := 93) 0 dX9_breaksLines_93 rfl ?_
    refine x_dup (pc := 94) dX9_breaksLines_94 rfl ?_
    obtain ⟨q11, e⟩ := chk_some e
    refine x_getI (pc := 95) gf_X9_268 rfl dX9_breaksLines_95 q11 ?_
    refine x_iconst (pc := 98) dX9_breaksLines_98 ?_
    refine x_iadd (pc := 99) dX9_breaksLines_99 ?_
    replace e := lt_go e
    refine x_putI (pc := 100) pf_X9_268 rfl rfl rfl dX9_breaksLines_100 q11 ?_
    refine x_iload (pc := 103) 3 dX9_breaksLines_103 rfl ?_
    refine x_iconst (pc := 105) dX9_breaksLines_105 ?_
    refine x_iadd (pc := 106) dX9_breaksLines_106 ?_
    refine x_istore (pc := 107) dX9_breaksLines_107 (by decide) rfl ?_
    refine x_goto (pc := 109) (t := 21) dX9_breaksLines_109 (by decide) ?_
    exact x_sub1 (hk21 _ _ _ _ _ e) [1, 2, 0] rfl
  · refine x_icmp_eq_f (pc := 46) (t := 76) dX9_breaksLines_46 (by decide) q4 ?_
    refine x_iinc (pc := 49) 4 dX9_breaksLines_49 rfl (by decide) rfl ?_
    refine x_aload_n (pc := 52) 1 dX9_breaksLines_52 rfl ?_
    refine x_iload (pc := 53) 3 dX9_breaksLines_53 rfl ?_
    refine x_iload (pc := 55) 0 dX9_breaksLines_55 rfl ?_
    rcases bnd_some e with ⟨h13, r14, ec, rfl⟩ | ⟨h13, r14, ec, e⟩
    · exact y_callV_x (pc := 57) (c_X9_longOf hl ec) q1 mf_X9_longOf tw_8_7 ts_8_11 lf_X9_274 rfl rfl dX9_breaksLines_57 (by decide) rfl rfl (leb rfl) (xx_out0 rfl)
    refine y_callV_i (pc := 57) (c_X9_longOf hl ec) q1 mf_X9_longOf tw_8_7 ts_8_11 lf_X9_274 rfl rfl dX9_breaksLines_57 (by decide) rfl rfl (leb rfl) ?_
    refine x_iload_n (pc := 60) 2 dX9_breaksLines_60 rfl ?_
    rcases ite_some e with ⟨q15, e⟩ | ⟨q15, e⟩
    · refine x_icmp_gt_t (pc := 61) (t := 69) dX9_breaksLines_61 (by decide) q15 ?_
      refine x_iload (pc := 69) 4 dX9_breaksLines_69 rfl ?_
      exact x_sub1 (p_X9_breaksLines_L71 hl hk21 hk38 e) [1, 2, 3, 0] rfl
    · refine x_icmp_gt_f (pc := 61) (t := 69) dX9_breaksLines_61 (by decide) q15 ?_
      refine x_iload (pc := 64) 0 dX9_breaksLines_64 rfl ?_
      refine x_goto (pc := 66) (t := 71) dX9_breaksLines_66 (by decide) ?_
      exact x_sub1 (p_X9_breaksLines_L71 hl hk21 hk38 e) [1, 2, 3, 0] rfl
noncomputable def f_X9_breaksLines_L38 (k21 : Hp → Nat → Int32 → Int32 → Option (Rs Unit)) (n : Nat) : Hp → Nat → Int32 → Int32 → Int32 → Int32 → Option (Rs Unit) := Nat.rec (motive := fun _ => Hp → Nat → Int32 → Int32 → Int32 → Int32 → Option (Rs Unit)) (fun _ _ _ _ _ _ => none) (fun _ r => f_X9_breaksLines_B38 k21 r) n
theorem p_X9_breaksLines_L38 {l : Launch} {K : Ctx} (hl : l.stackTraces = false) {k21 : Hp → Nat → Int32 → Int32 → Option (Rs Unit)} (hk21 : ∀ (h : Hp) (a0 : Nat) (i3 : Int32) (i4 : Int32) (t : Rs Unit), k21 h a0 i3 i4 = some t → X l K mM_X9_breaksLines (tgV t) 21 [(0, .ref a0), (3, .int i3), (4, .int i4)] [] h) : ∀ (n : Nat) (h : Hp) (a0 : Nat) (i3 : Int32) (i4 : Int32) (i5 : Int32) (i6 : Int32) (t : Rs Unit) (e : f_X9_breaksLines_L38 k21 n h a0 i3 i4 i5 i6 = some t), X l K mM_X9_breaksLines (tgV t) 38 [(0, .ref a0), (3, .int i3), (4, .int i4), (5, .int i5), (6, .int i6)] [] h := by
  intro n
  induction n with
  | zero => exact fun _ _ _ _ _ _ _ e => nomatch (show (none : Option (Rs Unit)) = some _ from e)
  | succ n ih => exact fun h a0 i3 i4 i5 i6 t e => p_X9_breaksLines_B38 hl hk21 (fun h a0 i3 i4 i5 i6 t e => ih h a0 i3 i4 i5 i6 t e) e
noncomputable def f_X9_breaksLines_B21 (k21 : Hp → Nat → Int32 → Int32 → Option (Rs Unit)) (h : Hp) (a0 : Nat) (i3 : Int32) (i4 : Int32) : Option (Rs Unit) :=
  chk (okr h a0 9) <|
  if (qI h a0 18) ≤ i4 then (
    some (h, .inr ())
  ) else (
    f_X9_breaksLines_L38 k21 2000 h a0 i3 i4 i4 i4
  )
theorem p_X9_breaksLines_B21 {l : Launch} {K : Ctx} (hl : l.stackTraces = false) {k21 : Hp → Nat → Int32 → Int32 → Option (Rs Unit)} (hk21 : ∀ (h : Hp) (a0 : Nat) (i3 : Int32) (i4 : Int32) (t : Rs Unit), k21 h a0 i3 i4 = some t → X l K mM_X9_breaksLines (tgV t) 21 [(0, .ref a0), (3, .int i3), (4, .int i4)] [] h) {h : Hp} {a0 : Nat} {i3 : Int32} {i4 : Int32} {t : Rs Unit} (e : f_X9_breaksLines_B21 k21 h a0 i3 i4 = some t) : X l K mM_X9_breaksLines (tgV t) 21 [(0, .ref a0), (3, .int i3), (4, .int i4)] [] h := by
  unfold f_X9_breaksLines_B21 at e
  refine x_iload (pc := 21) 2 dX9_breaksLines_21 rfl ?_
  refine x_aload_n (pc := 23) 0 dX9_breaksLines_23 rfl ?_
  obtain ⟨q1, e⟩ := chk_some e
  refine x_getI (pc := 24) gf_X9_262 rfl dX9_breaksLines_24 q1 ?_
  rcases ite_some e with ⟨q2, e⟩ | ⟨q2, e⟩
  · refine x_icmp_ge_t (pc := 27) (t := 112) dX9_breaksLines_27 (by decide) q2 ?_
    cases Option.some.inj e
    exact x_vret (pc := 112) rfl dX9_breaksLines_112
  · refine x_icmp_ge_f (pc := 27) (t := 112) dX9_breaksLines_27 (by decide) q2 ?_
    refine x_iload (pc := 30) 2 dX9_breaksLines_30 rfl ?_
    refine x_istore (pc := 32) dX9_breaksLines_32 (by decide) rfl ?_
    refine x_iload (pc := 34) 3 dX9_breaksLines_34 rfl ?_
    refine x_istore (pc := 36) dX9_breaksLines_36 (by decide) rfl ?_
    exact x_sub1 (p_X9_breaksLines_L38 hl hk21 2000 _ _ _ _ _ _ _ e) [2, 3, 4, 1, 0] rfl
noncomputable def f_X9_breaksLines_L21 (n : Nat) : Hp → Nat → Int32 → Int32 → Option (Rs Unit) := Nat.rec (motive := fun _ => Hp → Nat → Int32 → Int32 → Option (Rs Unit)) (fun _ _ _ _ => none) (fun _ r => f_X9_breaksLines_B21 r) n
theorem p_X9_breaksLines_L21 {l : Launch} {K : Ctx} (hl : l.stackTraces = false) : ∀ (n : Nat) (h : Hp) (a0 : Nat) (i3 : Int32) (i4 : Int32) (t : Rs Unit) (e : f_X9_breaksLines_L21 n h a0 i3 i4 = some t), X l K mM_X9_breaksLines (tgV t) 21 [(0, .ref a0), (3, .int i3), (4, .int i4)] [] h := by
  intro n
  induction n with
  | zero => exact fun _ _ _ _ _ e => nomatch (show (none : Option (Rs Unit)) = some _ from e)
  | succ n ih => exact fun h a0 i3 i4 t e => p_X9_breaksLines_B21 hl (fun h a0 i3 i4 t e => ih h a0 i3 i4 t e) e
noncomputable def f_X9_breaksLines (h : Hp) (a0 : Nat) (i1 : Int32) (i2 : Int32) : Option (Rs Unit) :=
  chk (okr h a0 9) <|
  bnd (f_X9_cuts h a0 i1) fun h2 _ =>
  chk (okr h2 a0 9) <|
  lt (putI h2 a0 20 (iN 0)) fun h5 =>
  bnd (f_X9_indentOf h5 a0 i1) fun h6 r7 =>
  f_X9_breaksLines_L21 2000 h6 a0 (i2 - r7) (iN 0)
theorem p_X9_breaksLines {l : Launch} {K : Ctx} (hl : l.stackTraces = false) {h : Hp} {a0 : Nat} {i1 : Int32} {i2 : Int32} {t : Rs Unit} (e : f_X9_breaksLines h a0 i1 i2 = some t) : X l K mM_X9_breaksLines (tgV t) 0 [(0, .ref a0), (1, .int i1), (2, .int i2)] [] h := by
  unfold f_X9_breaksLines at e
  refine x_aload_n (pc := 0) 0 dX9_breaksLines_0 rfl ?_
  refine x_iload_n (pc := 1) 1 dX9_breaksLines_1 rfl ?_
  obtain ⟨q1, e⟩ := chk_some e
  rcases bnd_some e with ⟨h2, r3, ec, rfl⟩ | ⟨h2, r3, ec, e⟩
  · exact y_callV_x (pc := 2) (c_X9_cuts hl ec) q1 mf_X9_cuts tw_8_3 ts_8_10 lf_X9_265 rfl rfl dX9_breaksLines_2 (by decide) rfl rfl (leb rfl) (xx_out0 rfl)
  refine y_callV_v (pc := 2) (c_X9_cuts hl ec) q1 mf_X9_cuts tw_8_3 ts_8_10 lf_X9_265 rfl rfl dX9_breaksLines_2 (by decide) rfl rfl (leb rfl) ?_
  refine x_aload_n (pc := 5) 0 dX9_breaksLines_5 rfl ?_
  refine x_iconst (pc := 6) dX9_breaksLines_6 ?_
  obtain ⟨q4, e⟩ := chk_some e
  replace e := lt_go e
  refine x_putI (pc := 7) pf_X9_268 rfl rfl rfl dX9_breaksLines_7 q4 ?_
  refine x_iload_n (pc := 10) 2 dX9_breaksLines_10 rfl ?_
  refine x_aload_n (pc := 11) 0 dX9_breaksLines_11 rfl ?_
  refine x_iload_n (pc := 12) 1 dX9_breaksLines_12 rfl ?_
  rcases bnd_some e with ⟨h6, r7, ec, rfl⟩ | ⟨h6, r7, ec, e⟩
  · exact y_callV_x (pc := 13) (c_X9_indentOf hl ec) (okr_pI q4) mf_X9_indentOf tw_8_14 ts_8_12 lf_X9_271 rfl rfl dX9_breaksLines_13 (by decide) rfl rfl (leb rfl) (xx_out0 rfl)
  refine y_callV_i (pc := 13) (c_X9_indentOf hl ec) (okr_pI q4) mf_X9_indentOf tw_8_14 ts_8_12 lf_X9_271 rfl rfl dX9_breaksLines_13 (by decide) rfl rfl (leb rfl) ?_
  refine x_isub (pc := 16) dX9_breaksLines_16 ?_
  refine x_istore_n (pc := 17) dX9_breaksLines_17 (by decide) rfl ?_
  refine x_iconst (pc := 18) dX9_breaksLines_18 ?_
  refine x_istore (pc := 19) dX9_breaksLines_19 (by decide) rfl ?_
  exact x_sub1 (p_X9_breaksLines_L21 hl 2000 _ _ _ _ _ e) [2, 1, 0] rfl
abbrev w_X9_breaksLines : Cond := (Cond.code yX9_breaksLines cX9_breaksLines 7 (Option.none : Option Jvm.ClassFile.FieldType))
theorem mf_X9_breaksLines : MF yX9_breaksLines w_X9_breaksLines cX9_breaksLines 7 (Option.none : Option Jvm.ClassFile.FieldType) 2 := ⟨⟨rfl, tw_8_35, by decide⟩, tw_1_11, ⟨by decide, by decide⟩, by decide +kernel⟩
theorem c_X9_breaksLines {l : Launch} {K : Ctx} (hl : l.stackTraces = false) {h : Hp} {a0 : Nat} {i1 : Int32} {i2 : Int32} {t : Rs Unit} (e : f_X9_breaksLines h a0 i1 i2 = some t) : Ctr l K 10 yX9_breaksLines w_X9_breaksLines [.ref a0, .int i1, .int i2] h (tgV t) :=
  Ctr.of hl mf_X9_breaksLines false (fun q => nomatch q) rfl (leb rfl) (p_X9_breaksLines hl e)
/-! ## TableColumnBalancerModel.lineCount -/
abbrev mM_X9_lineCount : Mi := (11, yX9_lineCount.cls, cX9_lineCount, 3, (Option.some Jvm.ClassFile.FieldType.int), [], false)
noncomputable def f_X9_lineCount (h : Hp) (a0 : Nat) (i1 : Int32) (i2 : Int32) : Option (Rs Int32) :=
  chk (okr h a0 9) <|
  lt (putI h a0 0 (iN 0)) fun h2 =>
  bnd (f_X9_isCell h2 a0 i1) fun h3 r4 =>
  if r4 = 0 then (
    chk (okr h3 a0 9) <|
    bnd (f_X9_fails h3 a0 (iN 1)) fun h7 r8 =>
    some (h7, .inr r8)
  ) else (
    chk (okr h3 a0 9) <|
    bnd (f_X9_isText h3 a0 i1) fun h10 r11 =>
    if r11 = 0 then (
      chk (okr h10 a0 9) <|
      bnd (f_X9_fails h10 a0 (iN 2)) fun h14 r15 =>
      some (h14, .inr r15)
    ) else (
      chk (okr h10 a0 9) <|
      bnd (f_X9_leastContent h10 a0 i1) fun h17 r18 =>
      bnd (f_X9_in h17 i2 r18 (iN 99)) fun h19 r20 =>
      if r20 = 0 then (
        chk (okr h19 a0 9) <|
        bnd (f_X9_fails h19 a0 (iN 3)) fun h23 r24 =>
        some (h23, .inr r24)
      ) else (
        chk (okr h19 a0 9) <|
        bnd (f_X9_breaksLines h19 a0 i1 i2) fun h26 _ =>
        chk (okr h26 a0 9) <|
        some (h26, .inr (qI h26 a0 20))
      )
    )
  )
theorem p_X9_lineCount {l : Launch} {K : Ctx} (hl : l.stackTraces = false) {h : Hp} {a0 : Nat} {i1 : Int32} {i2 : Int32} {t : Rs Int32} (e : f_X9_lineCount h a0 i1 i2 = some t) : X l K mM_X9_lineCount (tgI t) 0 [(0, .ref a0), (1, .int i1), (2, .int i2)] [] h := by
  unfold f_X9_lineCount at e
  refine x_aload_n (pc := 0) 0 dX9_lineCount_0 rfl ?_
  refine x_iconst (pc := 1) dX9_lineCount_1 ?_
  obtain ⟨q1, e⟩ := chk_some e
  replace e := lt_go e
  refine x_putI (pc := 2) pf_X9_84 rfl rfl rfl dX9_lineCount_2 q1 ?_
  refine x_aload_n (pc := 5) 0 dX9_lineCount_5 rfl ?_
  refine x_iload_n (pc := 6) 1 dX9_lineCount_6 rfl ?_
  rcases bnd_some e with ⟨h3, r4, ec, rfl⟩ | ⟨h3, r4, ec, e⟩
  · exact y_callV_x (pc := 7) (c_X9_isCell hl ec) (okr_pI q1) mf_X9_isCell tw_7_75 ts_6_14 lf_X9_120 rfl rfl dX9_lineCount_7 (by decide) rfl rfl (leb rfl) (xx_out0 rfl)
  refine y_callV_i (pc := 7) (c_X9_isCell hl ec) (okr_pI q1) mf_X9_isCell tw_7_75 ts_6_14 lf_X9_120 rfl rfl dX9_lineCount_7 (by decide) rfl rfl (leb rfl) ?_
  rcases ite_some e with ⟨q5, e⟩ | ⟨q5, e⟩
  · refine x_if_ne_f (pc := 10) (t := 19) dX9_lineCount_10 (by decide) q5 ?_
    refine x_aload_n (pc := 13) 0 dX9_lineCount_13 rfl ?_
    refine x_iconst (pc := 14) dX9_lineCount_14 ?_
    obtain ⟨q6, e⟩ := chk_some e
    rcases bnd_some e with ⟨h7, r8, ec, rfl⟩ | ⟨h7, r8, ec, e⟩
    · exact y_callV_x (pc := 15) (c_X9_fails hl ec) q6 mf_X9_fails tw_7_24 ts_6_7 lf_X9_95 rfl rfl dX9_lineCount_15 (by decide) rfl rfl (leb rfl) (xx_out0 rfl)
    refine y_callV_i (pc := 15) (c_X9_fails hl ec) q6 mf_X9_fails tw_7_24 ts_6_7 lf_X9_95 rfl rfl dX9_lineCount_15 (by decide) rfl rfl (leb rfl) ?_
    cases Option.some.inj e
    exact x_iret (pc := 18) rfl dX9_lineCount_18
  · refine x_if_ne_t (pc := 10) (t := 19) dX9_lineCount_10 (by decide) q5 ?_
    refine x_aload_n (pc := 19) 0 dX9_lineCount_19 rfl ?_
    refine x_iload_n (pc := 20) 1 dX9_lineCount_20 rfl ?_
    obtain ⟨q9, e⟩ := chk_some e
    rcases bnd_some e with ⟨h10, r11, ec, rfl⟩ | ⟨h10, r11, ec, e⟩
    · exact y_callV_x (pc := 21) (c_X9_isText hl ec) q9 mf_X9_isText tw_7_87 ts_7_0 lf_X9_127 rfl rfl dX9_lineCount_21 (by decide) rfl rfl (leb rfl) (xx_out0 rfl)
    refine y_callV_i (pc := 21) (c_X9_isText hl ec) q9 mf_X9_isText tw_7_87 ts_7_0 lf_X9_127 rfl rfl dX9_lineCount_21 (by decide) rfl rfl (leb rfl) ?_
    rcases ite_some e with ⟨q12, e⟩ | ⟨q12, e⟩
    · refine x_if_ne_f (pc := 24) (t := 33) dX9_lineCount_24 (by decide) q12 ?_
      refine x_aload_n (pc := 27) 0 dX9_lineCount_27 rfl ?_
      refine x_iconst (pc := 28) dX9_lineCount_28 ?_
      obtain ⟨q13, e⟩ := chk_some e
      rcases bnd_some e with ⟨h14, r15, ec, rfl⟩ | ⟨h14, r15, ec, e⟩
      · exact y_callV_x (pc := 29) (c_X9_fails hl ec) q13 mf_X9_fails tw_7_24 ts_6_7 lf_X9_95 rfl rfl dX9_lineCount_29 (by decide) rfl rfl (leb rfl) (xx_out0 rfl)
      refine y_callV_i (pc := 29) (c_X9_fails hl ec) q13 mf_X9_fails tw_7_24 ts_6_7 lf_X9_95 rfl rfl dX9_lineCount_29 (by decide) rfl rfl (leb rfl) ?_
      cases Option.some.inj e
      exact x_iret (pc := 32) rfl dX9_lineCount_32
    · refine x_if_ne_t (pc := 24) (t := 33) dX9_lineCount_24 (by decide) q12 ?_
      refine x_iload_n (pc := 33) 2 dX9_lineCount_33 rfl ?_
      refine x_aload_n (pc := 34) 0 dX9_lineCount_34 rfl ?_
      refine x_iload_n (pc := 35) 1 dX9_lineCount_35 rfl ?_
      obtain ⟨q16, e⟩ := chk_some e
      rcases bnd_some e with ⟨h17, r18, ec, rfl⟩ | ⟨h17, r18, ec, e⟩
      · exact y_callV_x (pc := 36) (c_X9_leastContent hl ec) q16 mf_X9_leastContent tw_7_239 ts_8_9 lf_X9_284 rfl rfl dX9_lineCount_36 (by decide) rfl rfl (leb rfl) (xx_out0 rfl)
      refine y_callV_i (pc := 36) (c_X9_leastContent hl ec) q16 mf_X9_leastContent tw_7_239 ts_8_9 lf_X9_284 rfl rfl dX9_lineCount_36 (by decide) rfl rfl (leb rfl) ?_
      refine x_bipush (pc := 39) (v := iN 99) dX9_lineCount_39 rfl ?_
      rcases bnd_some e with ⟨h19, r20, ec, rfl⟩ | ⟨h19, r20, ec, e⟩
      · exact y_callS_x (pc := 41) (c_X9_in hl ec) mf_X9_in tw_7_20 lf_X9_87 dX9_lineCount_41 (by decide) rfl rfl (leb rfl) (xx_out0 rfl)
      refine y_callS_i (pc := 41) (c_X9_in hl ec) mf_X9_in tw_7_20 lf_X9_87 dX9_lineCount_41 (by decide) rfl rfl (leb rfl) ?_
      rcases ite_some e with ⟨q21, e⟩ | ⟨q21, e⟩
      · refine x_if_ne_f (pc := 44) (t := 53) dX9_lineCount_44 (by decide) q21 ?_
        refine x_aload_n (pc := 47) 0 dX9_lineCount_47 rfl ?_
        refine x_iconst (pc := 48) dX9_lineCount_48 ?_
        obtain ⟨q22, e⟩ := chk_some e
        rcases bnd_some e with ⟨h23, r24, ec, rfl⟩ | ⟨h23, r24, ec, e⟩
        · exact y_callV_x (pc := 49) (c_X9_fails hl ec) q22 mf_X9_fails tw_7_24 ts_6_7 lf_X9_95 rfl rfl dX9_lineCount_49 (by decide) rfl rfl (leb rfl) (xx_out0 rfl)
        refine y_callV_i (pc := 49) (c_X9_fails hl ec) q22 mf_X9_fails tw_7_24 ts_6_7 lf_X9_95 rfl rfl dX9_lineCount_49 (by decide) rfl rfl (leb rfl) ?_
        cases Option.some.inj e
        exact x_iret (pc := 52) rfl dX9_lineCount_52
      · refine x_if_ne_t (pc := 44) (t := 53) dX9_lineCount_44 (by decide) q21 ?_
        refine x_aload_n (pc := 53) 0 dX9_lineCount_53 rfl ?_
        refine x_iload_n (pc := 54) 1 dX9_lineCount_54 rfl ?_
        refine x_iload_n (pc := 55) 2 dX9_lineCount_55 rfl ?_
        obtain ⟨q25, e⟩ := chk_some e
        rcases bnd_some e with ⟨h26, r27, ec, rfl⟩ | ⟨h26, r27, ec, e⟩
        · exact y_callV_x (pc := 56) (c_X9_breaksLines hl ec) q25 mf_X9_breaksLines tw_8_34 ts_8_15 lf_X9_280 rfl rfl dX9_lineCount_56 (by decide) rfl rfl (leb rfl) (xx_out0 rfl)
        refine y_callV_v (pc := 56) (c_X9_breaksLines hl ec) q25 mf_X9_breaksLines tw_8_34 ts_8_15 lf_X9_280 rfl rfl dX9_lineCount_56 (by decide) rfl rfl (leb rfl) ?_
        refine x_aload_n (pc := 59) 0 dX9_lineCount_59 rfl ?_
        obtain ⟨q28, e⟩ := chk_some e
        refine x_getI (pc := 60) gf_X9_268 rfl dX9_lineCount_60 q28 ?_
        cases Option.some.inj e
        exact x_iret (pc := 63) rfl dX9_lineCount_63
abbrev w_X9_lineCount : Cond := (Cond.code yX9_lineCount cX9_lineCount 3 (Option.some Jvm.ClassFile.FieldType.int))
theorem mf_X9_lineCount : MF yX9_lineCount w_X9_lineCount cX9_lineCount 3 (Option.some Jvm.ClassFile.FieldType.int) 2 := ⟨⟨rfl, tw_8_31, by decide⟩, tw_1_11, ⟨by decide, by decide⟩, by decide +kernel⟩
theorem c_X9_lineCount {l : Launch} {K : Ctx} (hl : l.stackTraces = false) {h : Hp} {a0 : Nat} {i1 : Int32} {i2 : Int32} {t : Rs Int32} (e : f_X9_lineCount h a0 i1 i2 = some t) : Ctr l K 11 yX9_lineCount w_X9_lineCount [.ref a0, .int i1, .int i2] h (tgI t) :=
  Ctr.of hl mf_X9_lineCount false (fun q => nomatch q) rfl (leb rfl) (p_X9_lineCount hl e)
/-! ## TableColumnBalancer.requireElement -/
abbrev mM_X8_requireElement : Mi := (8, yX8_requireElement.cls, cX8_requireElement, 1, (Option.none : Option Jvm.ClassFile.FieldType), [], false)
noncomputable def f_X8_requireElement (h : Hp) (i0 : Int32) : Option (Rs Unit) :=
  if i0 = 0 then (
    some (bump h, .inl 5)
  ) else (
    some (h, .inr ())
  )
theorem p_X8_requireElement {l : Launch} {K : Ctx} (hl : l.stackTraces = false) {h : Hp} {i0 : Int32} {t : Rs Unit} (e : f_X8_requireElement h i0 = some t) : X l K mM_X8_requireElement (tgV t) 0 [(0, .int i0)] [] h := by
  unfold f_X8_requireElement at e
  refine x_iload_n (pc := 0) 0 dX8_requireElement_0 rfl ?_
  rcases ite_some e with ⟨q1, e⟩ | ⟨q1, e⟩
  · refine x_if_ne_f (pc := 1) (t := 12) dX8_requireElement_1 (by decide) q1 ?_
    cases Option.some.inj e
    exact x_throw (pc := 4) (ic := 283) rfl tw_5_124 tw_1_25 th_X8_283 (by decide) tg_X8_283 dX8_requireElement_4 dX8_requireElement_7 dX8_requireElement_8 dX8_requireElement_11 (by decide) (leb rfl)
  · refine x_if_ne_t (pc := 1) (t := 12) dX8_requireElement_1 (by decide) q1 ?_
    cases Option.some.inj e
    exact x_vret (pc := 12) rfl dX8_requireElement_12
abbrev w_X8_requireElement : Cond := (Cond.code yX8_requireElement cX8_requireElement 1 (Option.none : Option Jvm.ClassFile.FieldType))
theorem mf_X8_requireElement : MF yX8_requireElement w_X8_requireElement cX8_requireElement 1 (Option.none : Option Jvm.ClassFile.FieldType) 1 := ⟨⟨rfl, tw_5_123, by decide⟩, tw_1_1, ⟨by decide, by decide⟩, by decide +kernel⟩
theorem c_X8_requireElement {l : Launch} {K : Ctx} (hl : l.stackTraces = false) {h : Hp} {i0 : Int32} {t : Rs Unit} (e : f_X8_requireElement h i0 = some t) : Ctr l K 8 yX8_requireElement w_X8_requireElement [.int i0] h (tgV t) :=
  Ctr.of hl mf_X8_requireElement false (fun q => nomatch q) rfl (leb rfl) (p_X8_requireElement hl e)
/-! ## TableColumnBalancer.lineLength -/
abbrev mM_X8_lineLength : Mi := (11, yX8_lineLength.cls, cX8_lineLength, 5, (Option.some Jvm.ClassFile.FieldType.int), [], false)
noncomputable def f_X8_lineLength (h : Hp) (a0 : Nat) (i1 : Int32) (i2 : Int32) (i3 : Int32) : Option (Rs Int32) :=
  chk (okr h a0 8) <|
  bnd (f_X8_textOf h a0 i1) fun h2 r3 =>
  chk (okr h2 r3 4) <|
  bnd (f_X4_minimum h2 r3) fun h5 r6 =>
  bnd (f_X8_isWithin h5 i2 r6 (iN 99)) fun h7 r8 =>
  bnd (f_X8_requireArgument h7 r8) fun h9 _ =>
  chk (okr h9 r3 4) <|
  bnd (f_X4_breakLines h9 r3 i2) fun h12 r13 =>
  bnd (f_X8_isWithin h12 i3 (iN 0) (r13 - (iN 1))) fun h14 r15 =>
  bnd (f_X8_requireElement h14 r15) fun h16 _ =>
  chk (okr h16 r3 4) <|
  chk (okr h16 (qR h16 r3 11) 20) <|
  chk (vp_in i3 (qW h16 (qR h16 r3 11))) <|
  some (h16, .inr (qI h16 (qR h16 r3 11) (Int32.toNatClampNeg i3)))
theorem p_X8_lineLength {l : Launch} {K : Ctx} (hl : l.stackTraces = false) {h : Hp} {a0 : Nat} {i1 : Int32} {i2 : Int32} {i3 : Int32} {t : Rs Int32} (e : f_X8_lineLength h a0 i1 i2 i3 = some t) : X l K mM_X8_lineLength (tgI t) 0 [(0, .ref a0), (1, .int i1), (2, .int i2), (3, .int i3)] [] h := by
  unfold f_X8_lineLength at e
  refine x_aload_n (pc := 0) 0 dX8_lineLength_0 rfl ?_
  refine x_iload_n (pc := 1) 1 dX8_lineLength_1 rfl ?_
  obtain ⟨q1, e⟩ := chk_some e
  rcases bnd_some e with ⟨h2, r3, ec, rfl⟩ | ⟨h2, r3, ec, e⟩
  · exact y_callV_x (pc := 2) (c_X8_textOf hl ec) q1 mf_X8_textOf tw_4_83 ts_4_0 lf_X8_145 rfl rfl dX8_lineLength_2 (by decide) rfl rfl (leb rfl) (xx_out0 rfl)
  refine y_callV_i (pc := 2) (c_X8_textOf hl ec) q1 mf_X8_textOf tw_4_83 ts_4_0 lf_X8_145 rfl rfl dX8_lineLength_2 (by decide) rfl rfl (leb rfl) ?_
  refine x_astore (pc := 5) dX8_lineLength_5 (by decide) rfl ?_
  refine x_iload_n (pc := 7) 3 dX8_lineLength_7 rfl ?_
  refine x_aload (pc := 8) 0 dX8_lineLength_8 rfl ?_
  obtain ⟨q4, e⟩ := chk_some e
  rcases bnd_some e with ⟨h5, r6, ec, rfl⟩ | ⟨h5, r6, ec, e⟩
  · exact y_callV_x (pc := 10) (c_X4_minimum hl ec) q4 mf_X4_minimum tw_2_116 ts_1_3 lf_X8_225 rfl rfl dX8_lineLength_10 (by decide) rfl rfl (leb rfl) (xx_out0 rfl)
  refine y_callV_i (pc := 10) (c_X4_minimum hl ec) q4 mf_X4_minimum tw_2_116 ts_1_3 lf_X8_225 rfl rfl dX8_lineLength_10 (by decide) rfl rfl (leb rfl) ?_
  refine x_bipush (pc := 13) (v := iN 99) dX8_lineLength_13 rfl ?_
  rcases bnd_some e with ⟨h7, r8, ec, rfl⟩ | ⟨h7, r8, ec, e⟩
  · exact y_callS_x (pc := 15) (c_X8_isWithin hl ec) mf_X8_isWithin tw_3_26 lf_X8_72 dX8_lineLength_15 (by decide) rfl rfl (leb rfl) (xx_out0 rfl)
  refine y_callS_i (pc := 15) (c_X8_isWithin hl ec) mf_X8_isWithin tw_3_26 lf_X8_72 dX8_lineLength_15 (by decide) rfl rfl (leb rfl) ?_
  rcases bnd_some e with ⟨h9, r10, ec, rfl⟩ | ⟨h9, r10, ec, e⟩
  · exact y_callS_x (pc := 18) (c_X8_requireArgument hl ec) mf_X8_requireArgument tw_3_84 lf_X8_76 dX8_lineLength_18 (by decide) rfl rfl (leb rfl) (xx_out0 rfl)
  refine y_callS_v (pc := 18) (c_X8_requireArgument hl ec) mf_X8_requireArgument tw_3_84 lf_X8_76 dX8_lineLength_18 (by decide) rfl rfl (leb rfl) ?_
  refine x_iload_n (pc := 21) 4 dX8_lineLength_21 rfl ?_
  refine x_iconst (pc := 22) dX8_lineLength_22 ?_
  refine x_aload (pc := 23) 0 dX8_lineLength_23 rfl ?_
  refine x_iload_n (pc := 25) 3 dX8_lineLength_25 rfl ?_
  obtain ⟨q11, e⟩ := chk_some e
  rcases bnd_some e with ⟨h12, r13, ec, rfl⟩ | ⟨h12, r13, ec, e⟩
  · exact y_callV_x (pc := 26) (c_X4_breakLines hl ec) q11 mf_X4_breakLines tw_3_30 ts_2_10 lf_X8_229 rfl rfl dX8_lineLength_26 (by decide) rfl rfl (leb rfl) (xx_out0 rfl)
  refine y_callV_i (pc := 26) (c_X4_breakLines hl ec) q11 mf_X4_breakLines tw_3_30 ts_2_10 lf_X8_229 rfl rfl dX8_lineLength_26 (by decide) rfl rfl (leb rfl) ?_
  refine x_iconst (pc := 29) dX8_lineLength_29 ?_
  refine x_isub (pc := 30) dX8_lineLength_30 ?_
  rcases bnd_some e with ⟨h14, r15, ec, rfl⟩ | ⟨h14, r15, ec, e⟩
  · exact y_callS_x (pc := 31) (c_X8_isWithin hl ec) mf_X8_isWithin tw_3_26 lf_X8_72 dX8_lineLength_31 (by decide) rfl rfl (leb rfl) (xx_out0 rfl)
  refine y_callS_i (pc := 31) (c_X8_isWithin hl ec) mf_X8_isWithin tw_3_26 lf_X8_72 dX8_lineLength_31 (by decide) rfl rfl (leb rfl) ?_
  rcases bnd_some e with ⟨h16, r17, ec, rfl⟩ | ⟨h16, r17, ec, e⟩
  · exact y_callS_x (pc := 34) (c_X8_requireElement hl ec) mf_X8_requireElement tw_5_122 lf_X8_233 dX8_lineLength_34 (by decide) rfl rfl (leb rfl) (xx_out0 rfl)
  refine y_callS_v (pc := 34) (c_X8_requireElement hl ec) mf_X8_requireElement tw_5_122 lf_X8_233 dX8_lineLength_34 (by decide) rfl rfl (leb rfl) ?_
  refine x_aload (pc := 37) 0 dX8_lineLength_37 rfl ?_
  obtain ⟨q18, e⟩ := chk_some e
  obtain ⟨q19, e⟩ := chk_some e
  refine x_getR (pc := 39) gf_X8_236 rfl dX8_lineLength_39 q18 q19.1 ?_
  refine x_iload_n (pc := 42) 4 dX8_lineLength_42 rfl ?_
  obtain ⟨q20, e⟩ := chk_some e
  refine x_iald (pc := 43) dX8_lineLength_43 q19 q20 ?_
  cases Option.some.inj e
  exact x_iret (pc := 44) rfl dX8_lineLength_44
abbrev w_X8_lineLength : Cond := (Cond.code yX8_lineLength cX8_lineLength 5 (Option.some Jvm.ClassFile.FieldType.int))
theorem mf_X8_lineLength : MF yX8_lineLength w_X8_lineLength cX8_lineLength 5 (Option.some Jvm.ClassFile.FieldType.int) 3 := ⟨⟨rfl, tw_5_120, by decide⟩, tw_1_1, ⟨by decide, by decide⟩, by decide +kernel⟩
theorem c_X8_lineLength {l : Launch} {K : Ctx} (hl : l.stackTraces = false) {h : Hp} {a0 : Nat} {i1 : Int32} {i2 : Int32} {i3 : Int32} {t : Rs Int32} (e : f_X8_lineLength h a0 i1 i2 i3 = some t) : Ctr l K 11 yX8_lineLength w_X8_lineLength [.ref a0, .int i1, .int i2, .int i3] h (tgI t) :=
  Ctr.of hl mf_X8_lineLength false (fun q => nomatch q) rfl (leb rfl) (p_X8_lineLength hl e)
/-! ## TableColumnBalancerLaw.lineLength -/
abbrev mM_L_lineLength : Mi := (12, yL_lineLength.cls, cL_lineLength, 6, (Option.some Jvm.ClassFile.FieldType.int), [((0 : Nat), (12 : Nat), (15 : Nat), (21 : Nat)), ((0 : Nat), (12 : Nat), (19 : Nat), (41 : Nat)), ((0 : Nat), (12 : Nat), (23 : Nat), (13 : Nat)), ((0 : Nat), (12 : Nat), (27 : Nat), (73 : Nat))], false)
noncomputable def f_L_lineLength (h : Hp) (a0 : Nat) (i1 : Int32) (i2 : Int32) (i3 : Int32) (a4 : Nat) : Option (Rs Int32) :=
  chk (okr h a0 8) <|
  bndX (f_X8_lineLength h a0 i1 i2 i3) (fun h2 r3 => (
    chk (okr h2 a4 21) <|
    chk (vp_in (iN 0) (qW h2 a4)) <|
    lt (putL h2 a4 (Int32.toNatClampNeg (iN 0)) (Int32.toInt64 r3)) fun h6 =>
    some (h6, .inr (iN 0))
  )) fun h2 k =>
  if k = 2 then (
    some (h2, .inr (iN 1))
  ) else
  if k = 4 then (
    some (h2, .inr (iN 2))
  ) else
  if k = 1 then (
    some (h2, .inr (iN 3))
  ) else
  if k = 5 then (
    some (h2, .inr (iN 4))
  ) else
  none
theorem p_L_lineLength {l : Launch} {K : Ctx} (hl : l.stackTraces = false) {h : Hp} {a0 : Nat} {i1 : Int32} {i2 : Int32} {i3 : Int32} {a4 : Nat} {t : Rs Int32} (e : f_L_lineLength h a0 i1 i2 i3 a4 = some t) : X l K mM_L_lineLength (tgI t) 0 [(0, .ref a0), (1, .int i1), (2, .int i2), (3, .int i3), (4, .ref a4)] [] h := by
  unfold f_L_lineLength at e
  refine x_aload (pc := 0) 4 dL_lineLength_0 rfl ?_
  refine x_iconst (pc := 2) dL_lineLength_2 ?_
  refine x_aload_n (pc := 3) 0 dL_lineLength_3 rfl ?_
  refine x_iload_n (pc := 4) 1 dL_lineLength_4 rfl ?_
  refine x_iload_n (pc := 5) 2 dL_lineLength_5 rfl ?_
  refine x_iload_n (pc := 6) 3 dL_lineLength_6 rfl ?_
  obtain ⟨q1, e⟩ := chk_some e
  rcases bndX_some e with ⟨h2, k, ec, e⟩ | ⟨h2, r3, ec, e⟩
  · rcases ite_some e with ⟨q7, e⟩ | ⟨q7, e⟩
    · subst q7
      refine y_callV_x (pc := 7) (c_X8_lineLength hl ec) q1 mf_X8_lineLength tw_5_118 tw_5_119 lf_L_70 rfl rfl dL_lineLength_7 (by decide) rfl rfl (leb rfl) (xx_catchA (pc := 7) [] [(0, 12, 19, 41), (0, 12, 23, 13), (0, 12, 27, 73)] (0, 12, 15, 21) rfl (by decide) (fun _ hz => absurd hz List.not_mem_nil) (by decide) (by decide) tw_3_187 tw_3_229 dL_lineLength_15 (by decide) rfl ?_)
      refine x_iconst (pc := 17) dL_lineLength_17 ?_
      cases Option.some.inj e
      exact x_iret (pc := 18) rfl dL_lineLength_18
    rcases ite_some e with ⟨q8, e⟩ | ⟨q8, e⟩
    · subst q8
      refine y_callV_x (pc := 7) (c_X8_lineLength hl ec) q1 mf_X8_lineLength tw_5_118 tw_5_119 lf_L_70 rfl rfl dL_lineLength_7 (by decide) rfl rfl (leb rfl) (xx_catchA (pc := 7) [(0, 12, 15, 21)] [(0, 12, 23, 13), (0, 12, 27, 73)] (0, 12, 19, 41) rfl (by decide) (List.forall_mem_cons.mpr ⟨⟨by decide, 2, by decide, by decide, tw_3_187⟩, fun _ hz => absurd hz List.not_mem_nil⟩) (by decide) (by decide) tw_4_76 tw_4_91 dL_lineLength_19 (by decide) rfl ?_)
      refine x_iconst (pc := 21) dL_lineLength_21 ?_
      cases Option.some.inj e
      exact x_iret (pc := 22) rfl dL_lineLength_22
    rcases ite_some e with ⟨q9, e⟩ | ⟨q9, e⟩
    · subst q9
      refine y_callV_x (pc := 7) (c_X8_lineLength hl ec) q1 mf_X8_lineLength tw_5_118 tw_5_119 lf_L_70 rfl rfl dL_lineLength_7 (by decide) rfl rfl (leb rfl) (xx_catchA (pc := 7) [(0, 12, 15, 21), (0, 12, 19, 41)] [(0, 12, 27, 73)] (0, 12, 23, 13) rfl (by decide) (List.forall_mem_cons.mpr ⟨⟨by decide, 2, by decide, by decide, tw_3_187⟩, List.forall_mem_cons.mpr ⟨⟨by decide, 4, by decide, by decide, tw_4_76⟩, fun _ hz => absurd hz List.not_mem_nil⟩⟩) (by decide) (by decide) tw_3_76 tw_3_88 dL_lineLength_23 (by decide) rfl ?_)
      refine x_iconst (pc := 25) dL_lineLength_25 ?_
      cases Option.some.inj e
      exact x_iret (pc := 26) rfl dL_lineLength_26
    rcases ite_some e with ⟨q10, e⟩ | ⟨q10, e⟩
    · subst q10
      refine y_callV_x (pc := 7) (c_X8_lineLength hl ec) q1 mf_X8_lineLength tw_5_118 tw_5_119 lf_L_70 rfl rfl dL_lineLength_7 (by decide) rfl rfl (leb rfl) (xx_catchA (pc := 7) [(0, 12, 15, 21), (0, 12, 19, 41), (0, 12, 23, 13)] [] (0, 12, 27, 73) rfl (by decide) (List.forall_mem_cons.mpr ⟨⟨by decide, 2, by decide, by decide, tw_3_187⟩, List.forall_mem_cons.mpr ⟨⟨by decide, 4, by decide, by decide, tw_4_76⟩, List.forall_mem_cons.mpr ⟨⟨by decide, 1, by decide, by decide, tw_3_76⟩, fun _ hz => absurd hz List.not_mem_nil⟩⟩⟩) (by decide) (by decide) tw_5_116 tw_5_126 dL_lineLength_27 (by decide) rfl ?_)
      refine x_iconst (pc := 29) dL_lineLength_29 ?_
      cases Option.some.inj e
      exact x_iret (pc := 30) rfl dL_lineLength_30
    cases e
  refine y_callV_i (pc := 7) (c_X8_lineLength hl ec) q1 mf_X8_lineLength tw_5_118 tw_5_119 lf_L_70 rfl rfl dL_lineLength_7 (by decide) rfl rfl (leb rfl) ?_
  refine x_i2l (pc := 10) dL_lineLength_10 ?_
  obtain ⟨q4, e⟩ := chk_some e
  obtain ⟨q5, e⟩ := chk_some e
  replace e := lt_go e
  refine x_last (pc := 11) dL_lineLength_11 q4 q5 ?_
  refine x_goto (pc := 12) (t := 31) dL_lineLength_12 (by decide) ?_
  refine x_iconst (pc := 31) dL_lineLength_31 ?_
  cases Option.some.inj e
  exact x_iret (pc := 32) rfl dL_lineLength_32
abbrev w_L_lineLength : Cond := (Cond.codeWith yL_lineLength cL_lineLength 6 (Option.some Jvm.ClassFile.FieldType.int) [((0 : Nat), (12 : Nat), (15 : Nat), (21 : Nat)), ((0 : Nat), (12 : Nat), (19 : Nat), (41 : Nat)), ((0 : Nat), (12 : Nat), (23 : Nat), (13 : Nat)), ((0 : Nat), (12 : Nat), (27 : Nat), (73 : Nat))])
theorem mf_L_lineLength : MFX yL_lineLength w_L_lineLength cL_lineLength 6 (Option.some Jvm.ClassFile.FieldType.int) 5 [((0 : Nat), (12 : Nat), (15 : Nat), (21 : Nat)), ((0 : Nat), (12 : Nat), (19 : Nat), (41 : Nat)), ((0 : Nat), (12 : Nat), (23 : Nat), (13 : Nat)), ((0 : Nat), (12 : Nat), (27 : Nat), (73 : Nat))] := ⟨⟨rfl, tw_5_115, by decide⟩, tw_1_0, ⟨by decide, by decide⟩, by decide +kernel⟩
theorem c_L_lineLength {l : Launch} {K : Ctx} (hl : l.stackTraces = false) {h : Hp} {a0 : Nat} {i1 : Int32} {i2 : Int32} {i3 : Int32} {a4 : Nat} {t : Rs Int32} (e : f_L_lineLength h a0 i1 i2 i3 a4 = some t) : Ctr l K 12 yL_lineLength w_L_lineLength [.ref a0, .int i1, .int i2, .int i3, .ref a4] h (tgI t) :=
  Ctr.ofX hl mf_L_lineLength rfl (leb rfl) (p_L_lineLength hl e)
/-! ## TableColumnBalancerModel.lineLength -/
abbrev mM_X9_lineLength : Mi := (11, yX9_lineLength.cls, cX9_lineLength, 4, (Option.some Jvm.ClassFile.FieldType.int), [], false)
noncomputable def f_X9_lineLength (h : Hp) (a0 : Nat) (i1 : Int32) (i2 : Int32) (i3 : Int32) : Option (Rs Int32) :=
  chk (okr h a0 9) <|
  lt (putI h a0 0 (iN 0)) fun h2 =>
  bnd (f_X9_isCell h2 a0 i1) fun h3 r4 =>
  if r4 = 0 then (
    chk (okr h3 a0 9) <|
    bnd (f_X9_fails h3 a0 (iN 1)) fun h7 r8 =>
    some (h7, .inr r8)
  ) else (
    chk (okr h3 a0 9) <|
    bnd (f_X9_isText h3 a0 i1) fun h10 r11 =>
    if r11 = 0 then (
      chk (okr h10 a0 9) <|
      bnd (f_X9_fails h10 a0 (iN 2)) fun h14 r15 =>
      some (h14, .inr r15)
    ) else (
      chk (okr h10 a0 9) <|
      bnd (f_X9_leastContent h10 a0 i1) fun h17 r18 =>
      bnd (f_X9_in h17 i2 r18 (iN 99)) fun h19 r20 =>
      if r20 = 0 then (
        chk (okr h19 a0 9) <|
        bnd (f_X9_fails h19 a0 (iN 3)) fun h23 r24 =>
        some (h23, .inr r24)
      ) else (
        chk (okr h19 a0 9) <|
        bnd (f_X9_breaksLines h19 a0 i1 i2) fun h26 _ =>
        chk (okr h26 a0 9) <|
        bnd (f_X9_in h26 i3 (iN 0) ((qI h26 a0 20) - (iN 1))) fun h29 r30 =>
        if r30 = 0 then (
          chk (okr h29 a0 9) <|
          bnd (f_X9_fails h29 a0 (iN 4)) fun h33 r34 =>
          some (h33, .inr r34)
        ) else (
          chk (okr h29 a0 9) <|
          chk (okr h29 (qR h29 a0 19) 20) <|
          chk (vp_in i3 (qW h29 (qR h29 a0 19))) <|
          some (h29, .inr (qI h29 (qR h29 a0 19) (Int32.toNatClampNeg i3)))
        )
      )
    )
  )
theorem p_X9_lineLength {l : Launch} {K : Ctx} (hl : l.stackTraces = false) {h : Hp} {a0 : Nat} {i1 : Int32} {i2 : Int32} {i3 : Int32} {t : Rs Int32} (e : f_X9_lineLength h a0 i1 i2 i3 = some t) : X l K mM_X9_lineLength (tgI t) 0 [(0, .ref a0), (1, .int i1), (2, .int i2), (3, .int i3)] [] h := by
  unfold f_X9_lineLength at e
  refine x_aload_n (pc := 0) 0 dX9_lineLength_0 rfl ?_
  refine x_iconst (pc := 1) dX9_lineLength_1 ?_
  obtain ⟨q1, e⟩ := chk_some e
  replace e := lt_go e
  refine x_putI (pc := 2) pf_X9_84 rfl rfl rfl dX9_lineLength_2 q1 ?_
  refine x_aload_n (pc := 5) 0 dX9_lineLength_5 rfl ?_
  refine x_iload_n (pc := 6) 1 dX9_lineLength_6 rfl ?_
  rcases bnd_some e with ⟨h3, r4, ec, rfl⟩ | ⟨h3, r4, ec, e⟩
  · exact y_callV_x (pc := 7) (c_X9_isCell hl ec) (okr_pI q1) mf_X9_isCell tw_7_75 ts_6_14 lf_X9_120 rfl rfl dX9_lineLength_7 (by decide) rfl rfl (leb rfl) (xx_out0 rfl)
  refine y_callV_i (pc := 7) (c_X9_isCell hl ec) (okr_pI q1) mf_X9_isCell tw_7_75 ts_6_14 lf_X9_120 rfl rfl dX9_lineLength_7 (by decide) rfl rfl (leb rfl) ?_
  rcases ite_some e with ⟨q5, e⟩ | ⟨q5, e⟩
  · refine x_if_ne_f (pc := 10) (t := 19) dX9_lineLength_10 (by decide) q5 ?_
    refine x_aload_n (pc := 13) 0 dX9_lineLength_13 rfl ?_
    refine x_iconst (pc := 14) dX9_lineLength_14 ?_
    obtain ⟨q6, e⟩ := chk_some e
    rcases bnd_some e with ⟨h7, r8, ec, rfl⟩ | ⟨h7, r8, ec, e⟩
    · exact y_callV_x (pc := 15) (c_X9_fails hl ec) q6 mf_X9_fails tw_7_24 ts_6_7 lf_X9_95 rfl rfl dX9_lineLength_15 (by decide) rfl rfl (leb rfl) (xx_out0 rfl)
    refine y_callV_i (pc := 15) (c_X9_fails hl ec) q6 mf_X9_fails tw_7_24 ts_6_7 lf_X9_95 rfl rfl dX9_lineLength_15 (by decide) rfl rfl (leb rfl) ?_
    cases Option.some.inj e
    exact x_iret (pc := 18) rfl dX9_lineLength_18
  · refine x_if_ne_t (pc := 10) (t := 19) dX9_lineLength_10 (by decide) q5 ?_
    refine x_aload_n (pc := 19) 0 dX9_lineLength_19 rfl ?_
    refine x_iload_n (pc := 20) 1 dX9_lineLength_20 rfl ?_
    obtain ⟨q9, e⟩ := chk_some e
    rcases bnd_some e with ⟨h10, r11, ec, rfl⟩ | ⟨h10, r11, ec, e⟩
    · exact y_callV_x (pc := 21) (c_X9_isText hl ec) q9 mf_X9_isText tw_7_87 ts_7_0 lf_X9_127 rfl rfl dX9_lineLength_21 (by decide) rfl rfl (leb rfl) (xx_out0 rfl)
    refine y_callV_i (pc := 21) (c_X9_isText hl ec) q9 mf_X9_isText tw_7_87 ts_7_0 lf_X9_127 rfl rfl dX9_lineLength_21 (by decide) rfl rfl (leb rfl) ?_
    rcases ite_some e with ⟨q12, e⟩ | ⟨q12, e⟩
    · refine x_if_ne_f (pc := 24) (t := 33) dX9_lineLength_24 (by decide) q12 ?_
      refine x_aload_n (pc := 27) 0 dX9_lineLength_27 rfl ?_
      refine x_iconst (pc := 28) dX9_lineLength_28 ?_
      obtain ⟨q13, e⟩ := chk_some e
      rcases bnd_some e with ⟨h14, r15, ec, rfl⟩ | ⟨h14, r15, ec, e⟩
      · exact y_callV_x (pc := 29) (c_X9_fails hl ec) q13 mf_X9_fails tw_7_24 ts_6_7 lf_X9_95 rfl rfl dX9_lineLength_29 (by decide) rfl rfl (leb rfl) (xx_out0 rfl)
      refine y_callV_i (pc := 29) (c_X9_fails hl ec) q13 mf_X9_fails tw_7_24 ts_6_7 lf_X9_95 rfl rfl dX9_lineLength_29 (by decide) rfl rfl (leb rfl) ?_
      cases Option.some.inj e
      exact x_iret (pc := 32) rfl dX9_lineLength_32
    · refine x_if_ne_t (pc := 24) (t := 33) dX9_lineLength_24 (by decide) q12 ?_
      refine x_iload_n (pc := 33) 2 dX9_lineLength_33 rfl ?_
      refine x_aload_n (pc := 34) 0 dX9_lineLength_34 rfl ?_
      refine x_iload_n (pc := 35) 1 dX9_lineLength_35 rfl ?_
      obtain ⟨q16, e⟩ := chk_some e
      rcases bnd_some e with ⟨h17, r18, ec, rfl⟩ | ⟨h17, r18, ec, e⟩
      · exact y_callV_x (pc := 36) (c_X9_leastContent hl ec) q16 mf_X9_leastContent tw_7_239 ts_8_9 lf_X9_284 rfl rfl dX9_lineLength_36 (by decide) rfl rfl (leb rfl) (xx_out0 rfl)
      refine y_callV_i (pc := 36) (c_X9_leastContent hl ec) q16 mf_X9_leastContent tw_7_239 ts_8_9 lf_X9_284 rfl rfl dX9_lineLength_36 (by decide) rfl rfl (leb rfl) ?_
      refine x_bipush (pc := 39) (v := iN 99) dX9_lineLength_39 rfl ?_
      rcases bnd_some e with ⟨h19, r20, ec, rfl⟩ | ⟨h19, r20, ec, e⟩
      · exact y_callS_x (pc := 41) (c_X9_in hl ec) mf_X9_in tw_7_20 lf_X9_87 dX9_lineLength_41 (by decide) rfl rfl (leb rfl) (xx_out0 rfl)
      refine y_callS_i (pc := 41) (c_X9_in hl ec) mf_X9_in tw_7_20 lf_X9_87 dX9_lineLength_41 (by decide) rfl rfl (leb rfl) ?_
      rcases ite_some e with ⟨q21, e⟩ | ⟨q21, e⟩
      · refine x_if_ne_f (pc := 44) (t := 53) dX9_lineLength_44 (by decide) q21 ?_
        refine x_aload_n (pc := 47) 0 dX9_lineLength_47 rfl ?_
        refine x_iconst (pc := 48) dX9_lineLength_48 ?_
        obtain ⟨q22, e⟩ := chk_some e
        rcases bnd_some e with ⟨h23, r24, ec, rfl⟩ | ⟨h23, r24, ec, e⟩
        · exact y_callV_x (pc := 49) (c_X9_fails hl ec) q22 mf_X9_fails tw_7_24 ts_6_7 lf_X9_95 rfl rfl dX9_lineLength_49 (by decide) rfl rfl (leb rfl) (xx_out0 rfl)
        refine y_callV_i (pc := 49) (c_X9_fails hl ec) q22 mf_X9_fails tw_7_24 ts_6_7 lf_X9_95 rfl rfl dX9_lineLength_49 (by decide) rfl rfl (leb rfl) ?_
        cases Option.some.inj e
        exact x_iret (pc := 52) rfl dX9_lineLength_52
      · refine x_if_ne_t (pc := 44) (t := 53) dX9_lineLength_44 (by decide) q21 ?_
        refine x_aload_n (pc := 53) 0 dX9_lineLength_53 rfl ?_
        refine x_iload_n (pc := 54) 1 dX9_lineLength_54 rfl ?_
        refine x_iload_n (pc := 55) 2 dX9_lineLength_55 rfl ?_
        obtain ⟨q25, e⟩ := chk_some e
        rcases bnd_some e with ⟨h26, r27, ec, rfl⟩ | ⟨h26, r27, ec, e⟩
        · exact y_callV_x (pc := 56) (c_X9_breaksLines hl ec) q25 mf_X9_breaksLines tw_8_34 ts_8_15 lf_X9_280 rfl rfl dX9_lineLength_56 (by decide) rfl rfl (leb rfl) (xx_out0 rfl)
        refine y_callV_v (pc := 56) (c_X9_breaksLines hl ec) q25 mf_X9_breaksLines tw_8_34 ts_8_15 lf_X9_280 rfl rfl dX9_lineLength_56 (by decide) rfl rfl (leb rfl) ?_
        refine x_iload_n (pc := 59) 3 dX9_lineLength_59 rfl ?_
        refine x_iconst (pc := 60) dX9_lineLength_60 ?_
        refine x_aload_n (pc := 61) 0 dX9_lineLength_61 rfl ?_
        obtain ⟨q28, e⟩ := chk_some e
        refine x_getI (pc := 62) gf_X9_268 rfl dX9_lineLength_62 q28 ?_
        refine x_iconst (pc := 65) dX9_lineLength_65 ?_
        refine x_isub (pc := 66) dX9_lineLength_66 ?_
        rcases bnd_some e with ⟨h29, r30, ec, rfl⟩ | ⟨h29, r30, ec, e⟩
        · exact y_callS_x (pc := 67) (c_X9_in hl ec) mf_X9_in tw_7_20 lf_X9_87 dX9_lineLength_67 (by decide) rfl rfl (leb rfl) (xx_out0 rfl)
        refine y_callS_i (pc := 67) (c_X9_in hl ec) mf_X9_in tw_7_20 lf_X9_87 dX9_lineLength_67 (by decide) rfl rfl (leb rfl) ?_
        rcases ite_some e with ⟨q31, e⟩ | ⟨q31, e⟩
        · refine x_if_eq_t (pc := 70) (t := 82) dX9_lineLength_70 (by decide) q31 ?_
          refine x_aload_n (pc := 82) 0 dX9_lineLength_82 rfl ?_
          refine x_iconst (pc := 83) dX9_lineLength_83 ?_
          obtain ⟨q32, e⟩ := chk_some e
          rcases bnd_some e with ⟨h33, r34, ec, rfl⟩ | ⟨h33, r34, ec, e⟩
          · exact y_callV_x (pc := 84) (c_X9_fails hl ec) q32 mf_X9_fails tw_7_24 ts_6_7 lf_X9_95 rfl rfl dX9_lineLength_84 (by decide) rfl rfl (leb rfl) (xx_out0 rfl)
          refine y_callV_i (pc := 84) (c_X9_fails hl ec) q32 mf_X9_fails tw_7_24 ts_6_7 lf_X9_95 rfl rfl dX9_lineLength_84 (by decide) rfl rfl (leb rfl) ?_
          cases Option.some.inj e
          exact x_iret (pc := 87) rfl dX9_lineLength_87
        · refine x_if_eq_f (pc := 70) (t := 82) dX9_lineLength_70 (by decide) q31 ?_
          refine x_aload_n (pc := 73) 0 dX9_lineLength_73 rfl ?_
          obtain ⟨q35, e⟩ := chk_some e
          obtain ⟨q36, e⟩ := chk_some e
          refine x_getR (pc := 74) gf_X9_45 rfl dX9_lineLength_74 q35 q36.1 ?_
          refine x_iload_n (pc := 77) 3 dX9_lineLength_77 rfl ?_
          obtain ⟨q37, e⟩ := chk_some e
          refine x_iald (pc := 78) dX9_lineLength_78 q36 q37 ?_
          refine x_goto (pc := 79) (t := 87) dX9_lineLength_79 (by decide) ?_
          cases Option.some.inj e
          exact x_iret (pc := 87) rfl dX9_lineLength_87
abbrev w_X9_lineLength : Cond := (Cond.code yX9_lineLength cX9_lineLength 4 (Option.some Jvm.ClassFile.FieldType.int))
theorem mf_X9_lineLength : MF yX9_lineLength w_X9_lineLength cX9_lineLength 4 (Option.some Jvm.ClassFile.FieldType.int) 3 := ⟨⟨rfl, tw_8_39, by decide⟩, tw_1_11, ⟨by decide, by decide⟩, by decide +kernel⟩
theorem c_X9_lineLength {l : Launch} {K : Ctx} (hl : l.stackTraces = false) {h : Hp} {a0 : Nat} {i1 : Int32} {i2 : Int32} {i3 : Int32} {t : Rs Int32} (e : f_X9_lineLength h a0 i1 i2 i3 = some t) : Ctr l K 11 yX9_lineLength w_X9_lineLength [.ref a0, .int i1, .int i2, .int i3] h (tgI t) :=
  Ctr.of hl mf_X9_lineLength false (fun q => nomatch q) rfl (leb rfl) (p_X9_lineLength hl e)
/-! ## TableColumnBalancer$Content.pictureHeight -/
abbrev mM_X4_pictureHeight : Mi := (8, yX4_pictureHeight.cls, cX4_pictureHeight, 2, (Option.some Jvm.ClassFile.FieldType.int), [], false)
noncomputable def f_X4_pictureHeight_L24 (h : Hp) (a0 : Nat) : Option (Rs Int32) :=
  chk (okr h a0 4) <|
  some (h, .inr (qI h a0 2))
theorem p_X4_pictureHeight_L24 {l : Launch} {K : Ctx} (hl : l.stackTraces = false) {h : Hp} {a0 : Nat} {t : Rs Int32} (e : f_X4_pictureHeight_L24 h a0 = some t) : X l K mM_X4_pictureHeight (tgI t) 24 [(0, .ref a0)] [] h := by
  unfold f_X4_pictureHeight_L24 at e
  refine x_aload_n (pc := 24) 0 dX4_pictureHeight_24 rfl ?_
  obtain ⟨q1, e⟩ := chk_some e
  refine x_getI (pc := 25) gf_X4_41 rfl dX4_pictureHeight_25 q1 ?_
  cases Option.some.inj e
  exact x_iret (pc := 28) rfl dX4_pictureHeight_28
noncomputable def f_X4_pictureHeight (h : Hp) (a0 : Nat) (i1 : Int32) : Option (Rs Int32) :=
  chk (okr h a0 4) <|
  if (qI h a0 0) = (iN 5) then (
    f_X4_pictureHeight_L24 h a0
  ) else (
    if (qI h a0 1) ≤ i1 then (
      f_X4_pictureHeight_L24 h a0
    ) else (
      if (iN 1) ≤ (qI h a0 1) then (
        chk (vf_n32 (FP.fdiv (FP.i2f i1) (FP.i2f (qI h a0 1)))) <|
        chk (vf_n32 (FP.fmul (FP.fdiv (FP.i2f i1) (FP.i2f (qI h a0 1))) (FP.i2f (qI h a0 2)))) <|
        some (h, .inr (jmax (iN 1) (FP.f2i (FP.fmul (FP.fdiv (FP.i2f i1) (FP.i2f (qI h a0 1))) (FP.i2f (qI h a0 2))))))
      ) else (
        f_X4_pictureHeight_L24 h a0
      )
    )
  )
theorem p_X4_pictureHeight {l : Launch} {K : Ctx} (hl : l.stackTraces = false) {h : Hp} {a0 : Nat} {i1 : Int32} {t : Rs Int32} (e : f_X4_pictureHeight h a0 i1 = some t) : X l K mM_X4_pictureHeight (tgI t) 0 [(0, .ref a0), (1, .int i1)] [] h := by
  unfold f_X4_pictureHeight at e
  refine x_aload_n (pc := 0) 0 dX4_pictureHeight_0 rfl ?_
  obtain ⟨q1, e⟩ := chk_some e
  refine x_getI (pc := 1) gf_X4_34 rfl dX4_pictureHeight_1 q1 ?_
  refine x_iconst (pc := 4) dX4_pictureHeight_4 ?_
  rcases ite_some e with ⟨q2, e⟩ | ⟨q2, e⟩
  · refine x_icmp_eq_t (pc := 5) (t := 24) dX4_pictureHeight_5 (by decide) q2 ?_
    exact x_sub1 (p_X4_pictureHeight_L24 hl e) [0] rfl
  · refine x_icmp_eq_f (pc := 5) (t := 24) dX4_pictureHeight_5 (by decide) q2 ?_
    refine x_iload_n (pc := 8) 1 dX4_pictureHeight_8 rfl ?_
    refine x_aload_n (pc := 9) 0 dX4_pictureHeight_9 rfl ?_
    refine x_getI (pc := 10) gf_X4_38 rfl dX4_pictureHeight_10 q1 ?_
    rcases ite_some e with ⟨q3, e⟩ | ⟨q3, e⟩
    · refine x_icmp_ge_t (pc := 13) (t := 24) dX4_pictureHeight_13 (by decide) q3 ?_
      exact x_sub1 (p_X4_pictureHeight_L24 hl e) [0] rfl
    · refine x_icmp_ge_f (pc := 13) (t := 24) dX4_pictureHeight_13 (by decide) q3 ?_
      refine x_aload_n (pc := 16) 0 dX4_pictureHeight_16 rfl ?_
      refine x_getI (pc := 17) gf_X4_38 rfl dX4_pictureHeight_17 q1 ?_
      refine x_iconst (pc := 20) dX4_pictureHeight_20 ?_
      rcases ite_some e with ⟨q4, e⟩ | ⟨q4, e⟩
      · refine x_icmp_ge_t (pc := 21) (t := 29) dX4_pictureHeight_21 (by decide) q4 ?_
        refine x_iconst (pc := 29) dX4_pictureHeight_29 ?_
        refine x_iload_n (pc := 30) 1 dX4_pictureHeight_30 rfl ?_
        refine x_i2f (pc := 31) dX4_pictureHeight_31 ?_
        refine x_aload_n (pc := 32) 0 dX4_pictureHeight_32 rfl ?_
        refine x_getI (pc := 33) gf_X4_38 rfl dX4_pictureHeight_33 q1 ?_
        refine x_i2f (pc := 36) dX4_pictureHeight_36 ?_
        obtain ⟨q5, e⟩ := chk_some e
        refine x_fdiv (pc := 37) dX4_pictureHeight_37 q5 ?_
        refine x_aload_n (pc := 38) 0 dX4_pictureHeight_38 rfl ?_
        refine x_getI (pc := 39) gf_X4_41 rfl dX4_pictureHeight_39 q1 ?_
        refine x_i2f (pc := 42) dX4_pictureHeight_42 ?_
        obtain ⟨q6, e⟩ := chk_some e
        refine x_fmul (pc := 43) dX4_pictureHeight_43 q6 ?_
        refine x_f2i (pc := 44) dX4_pictureHeight_44 ?_
        refine x_mmax (pc := 45) tw_2_122 tw_2_123 tw_1_9 tw_2_124 (by decide) (leb rfl) dX4_pictureHeight_45 ?_
        cases Option.some.inj e
        exact x_iret (pc := 48) rfl dX4_pictureHeight_48
      · refine x_icmp_ge_f (pc := 21) (t := 29) dX4_pictureHeight_21 (by decide) q4 ?_
        exact x_sub1 (p_X4_pictureHeight_L24 hl e) [0] rfl
abbrev w_X4_pictureHeight : Cond := (Cond.code yX4_pictureHeight cX4_pictureHeight 2 (Option.some Jvm.ClassFile.FieldType.int))
theorem mf_X4_pictureHeight : MF yX4_pictureHeight w_X4_pictureHeight cX4_pictureHeight 2 (Option.some Jvm.ClassFile.FieldType.int) 1 := ⟨⟨rfl, tw_3_35, by decide⟩, tw_1_4, ⟨by decide, by decide⟩, by decide +kernel⟩
theorem c_X4_pictureHeight {l : Launch} {K : Ctx} (hl : l.stackTraces = false) {h : Hp} {a0 : Nat} {i1 : Int32} {t : Rs Int32} (e : f_X4_pictureHeight h a0 i1 = some t) : Ctr l K 8 yX4_pictureHeight w_X4_pictureHeight [.ref a0, .int i1] h (tgI t) :=
  Ctr.of hl mf_X4_pictureHeight false (fun q => nomatch q) rfl (leb rfl) (p_X4_pictureHeight hl e)
/-! ## TableColumnBalancer$Content.heightWithin -/
abbrev mM_X4_heightWithin : Mi := (9, yX4_heightWithin.cls, cX4_heightWithin, 4, (Option.some Jvm.ClassFile.FieldType.int), [], false)
noncomputable def f_X4_heightWithin_L65 (h : Hp) (a0 : Nat) (i1 : Int32) (i2 : Int32) (i3 : Int32) : Option (Rs Int32) :=
  if i2 = 0 then (
    some (h, .inr i3)
  ) else (
    chk (okr h a0 4) <|
    chk (okr h (qR h a0 12) 20) <|
    chk (vp_in i1 (qW h (qR h a0 12))) <|
    lt (putI h (qR h a0 12) (Int32.toNatClampNeg i1) i3) fun h5 =>
    some (h5, .inr i3)
  )
theorem p_X4_heightWithin_L65 {l : Launch} {K : Ctx} (hl : l.stackTraces = false) {h : Hp} {a0 : Nat} {i1 : Int32} {i2 : Int32} {i3 : Int32} {t : Rs Int32} (e : f_X4_heightWithin_L65 h a0 i1 i2 i3 = some t) : X l K mM_X4_heightWithin (tgI t) 65 [(0, .ref a0), (1, .int i1), (2, .int i2), (3, .int i3)] [] h := by
  unfold f_X4_heightWithin_L65 at e
  refine x_iload_n (pc := 65) 2 dX4_heightWithin_65 rfl ?_
  rcases ite_some e with ⟨q1, e⟩ | ⟨q1, e⟩
  · refine x_if_eq_t (pc := 66) (t := 76) dX4_heightWithin_66 (by decide) q1 ?_
    refine x_iload_n (pc := 76) 3 dX4_heightWithin_76 rfl ?_
    cases Option.some.inj e
    exact x_iret (pc := 77) rfl dX4_heightWithin_77
  · refine x_if_eq_f (pc := 66) (t := 76) dX4_heightWithin_66 (by decide) q1 ?_
    refine x_aload_n (pc := 69) 0 dX4_heightWithin_69 rfl ?_
    obtain ⟨q2, e⟩ := chk_some e
    obtain ⟨q3, e⟩ := chk_some e
    refine x_getR (pc := 70) gf_X4_31 rfl dX4_heightWithin_70 q2 q3.1 ?_
    refine x_iload_n (pc := 73) 1 dX4_heightWithin_73 rfl ?_
    refine x_iload_n (pc := 74) 3 dX4_heightWithin_74 rfl ?_
    obtain ⟨q4, e⟩ := chk_some e
    replace e := lt_go e
    refine x_iast (pc := 75) dX4_heightWithin_75 q3 q4 ?_
    refine x_iload_n (pc := 76) 3 dX4_heightWithin_76 rfl ?_
    cases Option.some.inj e
    exact x_iret (pc := 77) rfl dX4_heightWithin_77
noncomputable def f_X4_heightWithin_L54 (h : Hp) (a0 : Nat) (i1 : Int32) (i2 : Int32) (s0 : Int32) (s1 : Int32) : Option (Rs Int32) :=
  f_X4_heightWithin_L65 h a0 i1 i2 (s1 * s0)
theorem p_X4_heightWithin_L54 {l : Launch} {K : Ctx} (hl : l.stackTraces = false) {h : Hp} {a0 : Nat} {i1 : Int32} {i2 : Int32} {s0 : Int32} {s1 : Int32} {t : Rs Int32} (e : f_X4_heightWithin_L54 h a0 i1 i2 s0 s1 = some t) : X l K mM_X4_heightWithin (tgI t) 54 [(0, .ref a0), (1, .int i1), (2, .int i2)] [.int s0, .int s1] h := by
  unfold f_X4_heightWithin_L54 at e
  refine x_imul (pc := 54) dX4_heightWithin_54 ?_
  refine x_istore_n (pc := 55) dX4_heightWithin_55 (by decide) rfl ?_
  refine x_goto (pc := 56) (t := 65) dX4_heightWithin_56 (by decide) ?_
  exact x_sub1 (p_X4_heightWithin_L65 hl e) [1, 2, 3, 0] rfl
noncomputable def f_X4_heightWithin_L29 (h : Hp) (a0 : Nat) (i1 : Int32) (i2 : Int32) : Option (Rs Int32) :=
  chk (okr h a0 4) <|
  bnd (f_X4_isText h a0) fun h2 r3 =>
  if r3 = 0 then (
    chk (okr h2 a0 4) <|
    bnd (f_X4_pictureHeight h2 a0 i1) fun h6 r7 =>
    f_X4_heightWithin_L65 h6 a0 i1 i2 r7
  ) else (
    chk (okr h2 a0 4) <|
    bnd (f_X4_breakLines h2 a0 i1) fun h9 r10 =>
    chk (okr h9 a0 4) <|
    if (qI h9 a0 0) = (iN 1) then (
      f_X4_heightWithin_L54 h9 a0 i1 i2 (iN 2) r10
    ) else (
      f_X4_heightWithin_L54 h9 a0 i1 i2 (iN 1) r10
    )
  )
theorem p_X4_heightWithin_L29 {l : Launch} {K : Ctx} (hl : l.stackTraces = false) {h : Hp} {a0 : Nat} {i1 : Int32} {i2 : Int32} {t : Rs Int32} (e : f_X4_heightWithin_L29 h a0 i1 i2 = some t) : X l K mM_X4_heightWithin (tgI t) 29 [(0, .ref a0), (1, .int i1), (2, .int i2)] [] h := by
  unfold f_X4_heightWithin_L29 at e
  refine x_aload_n (pc := 29) 0 dX4_heightWithin_29 rfl ?_
  obtain ⟨q1, e⟩ := chk_some e
  rcases bnd_some e with ⟨h2, r3, ec, rfl⟩ | ⟨h2, r3, ec, e⟩
  · exact y_callV_x (pc := 30) (c_X4_isText hl ec) q1 mf_X4_isText tw_2_120 ts_1_4 lf_X4_79 rfl rfl dX4_heightWithin_30 (by decide) rfl rfl (leb rfl) (xx_out0 rfl)
  refine y_callV_i (pc := 30) (c_X4_isText hl ec) q1 mf_X4_isText tw_2_120 ts_1_4 lf_X4_79 rfl rfl dX4_heightWithin_30 (by decide) rfl rfl (leb rfl) ?_
  rcases ite_some e with ⟨q4, e⟩ | ⟨q4, e⟩
  · refine x_if_eq_t (pc := 33) (t := 59) dX4_heightWithin_33 (by decide) q4 ?_
    refine x_aload_n (pc := 59) 0 dX4_heightWithin_59 rfl ?_
    refine x_iload_n (pc := 60) 1 dX4_heightWithin_60 rfl ?_
    obtain ⟨q5, e⟩ := chk_some e
    rcases bnd_some e with ⟨h6, r7, ec, rfl⟩ | ⟨h6, r7, ec, e⟩
    · exact y_callV_x (pc := 61) (c_X4_pictureHeight hl ec) q5 mf_X4_pictureHeight tw_3_34 ts_2_11 lf_X4_97 rfl rfl dX4_heightWithin_61 (by decide) rfl rfl (leb rfl) (xx_out0 rfl)
    refine y_callV_i (pc := 61) (c_X4_pictureHeight hl ec) q5 mf_X4_pictureHeight tw_3_34 ts_2_11 lf_X4_97 rfl rfl dX4_heightWithin_61 (by decide) rfl rfl (leb rfl) ?_
    refine x_istore_n (pc := 64) dX4_heightWithin_64 (by decide) rfl ?_
    exact x_sub1 (p_X4_heightWithin_L65 hl e) [1, 2, 3, 0] rfl
  · refine x_if_eq_f (pc := 33) (t := 59) dX4_heightWithin_33 (by decide) q4 ?_
    refine x_aload_n (pc := 36) 0 dX4_heightWithin_36 rfl ?_
    refine x_iload_n (pc := 37) 1 dX4_heightWithin_37 rfl ?_
    obtain ⟨q8, e⟩ := chk_some e
    rcases bnd_some e with ⟨h9, r10, ec, rfl⟩ | ⟨h9, r10, ec, e⟩
    · exact y_callV_x (pc := 38) (c_X4_breakLines hl ec) q8 mf_X4_breakLines tw_3_30 ts_2_10 lf_X4_93 rfl rfl dX4_heightWithin_38 (by decide) rfl rfl (leb rfl) (xx_out0 rfl)
    refine y_callV_i (pc := 38) (c_X4_breakLines hl ec) q8 mf_X4_breakLines tw_3_30 ts_2_10 lf_X4_93 rfl rfl dX4_heightWithin_38 (by decide) rfl rfl (leb rfl) ?_
    refine x_aload_n (pc := 41) 0 dX4_heightWithin_41 rfl ?_
    obtain ⟨q11, e⟩ := chk_some e
    refine x_getI (pc := 42) gf_X4_34 rfl dX4_heightWithin_42 q11 ?_
    refine x_iconst (pc := 45) dX4_heightWithin_45 ?_
    rcases ite_some e with ⟨q12, e⟩ | ⟨q12, e⟩
    · refine x_icmp_ne_f (pc := 46) (t := 53) dX4_heightWithin_46 (by decide) q12 ?_
      refine x_iconst (pc := 49) dX4_heightWithin_49 ?_
      refine x_goto (pc := 50) (t := 54) dX4_heightWithin_50 (by decide) ?_
      exact p_X4_heightWithin_L54 hl e
    · refine x_icmp_ne_t (pc := 46) (t := 53) dX4_heightWithin_46 (by decide) q12 ?_
      refine x_iconst (pc := 53) dX4_heightWithin_53 ?_
      exact p_X4_heightWithin_L54 hl e
noncomputable def f_X4_heightWithin (h : Hp) (a0 : Nat) (i1 : Int32) : Option (Rs Int32) :=
  bnd (f_X8_isWithin h i1 (iN 0) (iN 36)) fun h1 r2 =>
  if r2 = 0 then (
    f_X4_heightWithin_L29 h1 a0 i1 r2
  ) else (
    chk (okr h1 a0 4) <|
    chk (okr h1 (qR h1 a0 12) 20) <|
    chk (vp_in i1 (qW h1 (qR h1 a0 12))) <|
    if (qI h1 (qR h1 a0 12) (Int32.toNatClampNeg i1)) = (iN (-1)) then (
      f_X4_heightWithin_L29 h1 a0 i1 r2
    ) else (
      some (h1, .inr (qI h1 (qR h1 a0 12) (Int32.toNatClampNeg i1)))
    )
  )
theorem p_X4_heightWithin {l : Launch} {K : Ctx} (hl : l.stackTraces = false) {h : Hp} {a0 : Nat} {i1 : Int32} {t : Rs Int32} (e : f_X4_heightWithin h a0 i1 = some t) : X l K mM_X4_heightWithin (tgI t) 0 [(0, .ref a0), (1, .int i1)] [] h := by
  unfold f_X4_heightWithin at e
  refine x_iload_n (pc := 0) 1 dX4_heightWithin_0 rfl ?_
  refine x_iconst (pc := 1) dX4_heightWithin_1 ?_
  refine x_bipush (pc := 2) (v := iN 36) dX4_heightWithin_2 rfl ?_
  rcases bnd_some e with ⟨h1, r2, ec, rfl⟩ | ⟨h1, r2, ec, e⟩
  · exact y_callS_x (pc := 4) (c_X8_isWithin hl ec) mf_X8_isWithin tw_3_26 lf_X4_89 dX4_heightWithin_4 (by decide) rfl rfl (leb rfl) (xx_out0 rfl)
  refine y_callS_i (pc := 4) (c_X8_isWithin hl ec) mf_X8_isWithin tw_3_26 lf_X4_89 dX4_heightWithin_4 (by decide) rfl rfl (leb rfl) ?_
  refine x_istore_n (pc := 7) dX4_heightWithin_7 (by decide) rfl ?_
  refine x_iload_n (pc := 8) 0 dX4_heightWithin_8 rfl ?_
  rcases ite_some e with ⟨q3, e⟩ | ⟨q3, e⟩
  · refine x_if_eq_t (pc := 9) (t := 29) dX4_heightWithin_9 (by decide) q3 ?_
    exact x_sub1 (p_X4_heightWithin_L29 hl e) [1, 2, 0] rfl
  · refine x_if_eq_f (pc := 9) (t := 29) dX4_heightWithin_9 (by decide) q3 ?_
    refine x_aload_n (pc := 12) 1 dX4_heightWithin_12 rfl ?_
    obtain ⟨q4, e⟩ := chk_some e
    obtain ⟨q5, e⟩ := chk_some e
    refine x_getR (pc := 13) gf_X4_31 rfl dX4_heightWithin_13 q4 q5.1 ?_
    refine x_iload_n (pc := 16) 2 dX4_heightWithin_16 rfl ?_
    obtain ⟨q6, e⟩ := chk_some e
    refine x_iald (pc := 17) dX4_heightWithin_17 q5 q6 ?_
    refine x_iconst (pc := 18) dX4_heightWithin_18 ?_
    rcases ite_some e with ⟨q7, e⟩ | ⟨q7, e⟩
    · refine x_icmp_eq_t (pc := 19) (t := 29) dX4_heightWithin_19 (by decide) q7 ?_
      exact x_sub1 (p_X4_heightWithin_L29 hl e) [1, 2, 0] rfl
    · refine x_icmp_eq_f (pc := 19) (t := 29) dX4_heightWithin_19 (by decide) q7 ?_
      refine x_aload_n (pc := 22) 1 dX4_heightWithin_22 rfl ?_
      refine x_getR (pc := 23) gf_X4_31 rfl dX4_heightWithin_23 q4 q5.1 ?_
      refine x_iload_n (pc := 26) 2 dX4_heightWithin_26 rfl ?_
      refine x_iald (pc := 27) dX4_heightWithin_27 q5 q6 ?_
      cases Option.some.inj e
      exact x_iret (pc := 28) rfl dX4_heightWithin_28
abbrev w_X4_heightWithin : Cond := (Cond.code yX4_heightWithin cX4_heightWithin 4 (Option.some Jvm.ClassFile.FieldType.int))
theorem mf_X4_heightWithin : MF yX4_heightWithin w_X4_heightWithin cX4_heightWithin 4 (Option.some Jvm.ClassFile.FieldType.int) 1 := ⟨⟨rfl, tw_3_24, by decide⟩, tw_1_4, ⟨by decide, by decide⟩, by decide +kernel⟩
theorem c_X4_heightWithin {l : Launch} {K : Ctx} (hl : l.stackTraces = false) {h : Hp} {a0 : Nat} {i1 : Int32} {t : Rs Int32} (e : f_X4_heightWithin h a0 i1 = some t) : Ctr l K 9 yX4_heightWithin w_X4_heightWithin [.ref a0, .int i1] h (tgI t) :=
  Ctr.of hl mf_X4_heightWithin false (fun q => nomatch q) rfl (leb rfl) (p_X4_heightWithin hl e)
/-! ## TableColumnBalancer$Table.heightWithin -/
abbrev mM_X7_heightWithin : Mi := (10, yX7_heightWithin.cls, cX7_heightWithin, 3, (Option.some Jvm.ClassFile.FieldType.int), [], false)
noncomputable def f_X7_heightWithin (h : Hp) (a0 : Nat) (a1 : Nat) (i2 : Int32) : Option (Rs Int32) :=
  chk (okr h a1 1) <|
  chk (okr h (qR h a1 3) 4) <|
  chk (okr h a0 7) <|
  bnd (f_X4_heightWithin h (qR h a1 3) (i2 - ((iN 2) * (qI h a0 2)))) fun h4 r5 =>
  chk (okr h4 a0 7) <|
  some (h4, .inr (r5 + ((iN 2) * (qI h4 a0 2))))
theorem p_X7_heightWithin {l : Launch} {K : Ctx} (hl : l.stackTraces = false) {h : Hp} {a0 : Nat} {a1 : Nat} {i2 : Int32} {t : Rs Int32} (e : f_X7_heightWithin h a0 a1 i2 = some t) : X l K mM_X7_heightWithin (tgI t) 0 [(0, .ref a0), (1, .ref a1), (2, .int i2)] [] h := by
  unfold f_X7_heightWithin at e
  refine x_aload_n (pc := 0) 1 dX7_heightWithin_0 rfl ?_
  obtain ⟨q1, e⟩ := chk_some e
  obtain ⟨q2, e⟩ := chk_some e
  refine x_getR (pc := 1) gf_X7_65 rfl dX7_heightWithin_1 q1 q2.1 ?_
  refine x_iload_n (pc := 4) 2 dX7_heightWithin_4 rfl ?_
  refine x_iconst (pc := 5) dX7_heightWithin_5 ?_
  refine x_aload_n (pc := 6) 0 dX7_heightWithin_6 rfl ?_
  obtain ⟨q3, e⟩ := chk_some e
  refine x_getI (pc := 7) gf_X7_35 rfl dX7_heightWithin_7 q3 ?_
  refine x_imul (pc := 10) dX7_heightWithin_10 ?_
  refine x_isub (pc := 11) dX7_heightWithin_11 ?_
  rcases bnd_some e with ⟨h4, r5, ec, rfl⟩ | ⟨h4, r5, ec, e⟩
  · exact y_callV_x (pc := 12) (c_X4_heightWithin hl ec) q2 mf_X4_heightWithin tw_3_23 ts_2_9 lf_X7_78 rfl rfl dX7_heightWithin_12 (by decide) rfl rfl (leb rfl) (xx_out0 rfl)
  refine y_callV_i (pc := 12) (c_X4_heightWithin hl ec) q2 mf_X4_heightWithin tw_3_23 ts_2_9 lf_X7_78 rfl rfl dX7_heightWithin_12 (by decide) rfl rfl (leb rfl) ?_
  refine x_iconst (pc := 15) dX7_heightWithin_15 ?_
  refine x_aload_n (pc := 16) 0 dX7_heightWithin_16 rfl ?_
  obtain ⟨q6, e⟩ := chk_some e
  refine x_getI (pc := 17) gf_X7_35 rfl dX7_heightWithin_17 q6 ?_
  refine x_imul (pc := 20) dX7_heightWithin_20 ?_
  refine x_iadd (pc := 21) dX7_heightWithin_21 ?_
  cases Option.some.inj e
  exact x_iret (pc := 22) rfl dX7_heightWithin_22
abbrev w_X7_heightWithin : Cond := (Cond.code yX7_heightWithin cX7_heightWithin 3 (Option.some Jvm.ClassFile.FieldType.int))
theorem mf_X7_heightWithin : MF yX7_heightWithin w_X7_heightWithin cX7_heightWithin 3 (Option.some Jvm.ClassFile.FieldType.int) 2 := ⟨⟨rfl, tw_3_20, by decide⟩, tw_1_2, ⟨by decide, by decide⟩, by decide +kernel⟩
theorem c_X7_heightWithin {l : Launch} {K : Ctx} (hl : l.stackTraces = false) {h : Hp} {a0 : Nat} {a1 : Nat} {i2 : Int32} {t : Rs Int32} (e : f_X7_heightWithin h a0 a1 i2 = some t) : Ctr l K 10 yX7_heightWithin w_X7_heightWithin [.ref a0, .ref a1, .int i2] h (tgI t) :=
  Ctr.of hl mf_X7_heightWithin false (fun q => nomatch q) rfl (leb rfl) (p_X7_heightWithin hl e)
/-! ## TableColumnBalancer.cellHeight -/
abbrev mM_X8_cellHeight : Mi := (11, yX8_cellHeight.cls, cX8_cellHeight, 4, (Option.some Jvm.ClassFile.FieldType.int), [], false)
noncomputable def f_X8_cellHeight (h : Hp) (a0 : Nat) (i1 : Int32) (i2 : Int32) : Option (Rs Int32) :=
  chk (okr h a0 8) <|
  bnd (f_X8_requireCell h a0 i1) fun h2 _ =>
  chk (okr h2 a0 8) <|
  chk (okr h2 (qR h2 a0 0) 7) <|
  chk (okr h2 (qR h2 (qR h2 a0 0) 8) 25) <|
  chk (vp_in i1 (qW h2 (qR h2 (qR h2 a0 0) 8))) <|
  chk (okr h2 (qR h2 (qR h2 (qR h2 a0 0) 8) (Int32.toNatClampNeg i1)) 1) <|
  bnd (f_X7_minimumOf h2 (qR h2 a0 0) (qR h2 (qR h2 (qR h2 a0 0) 8) (Int32.toNatClampNeg i1))) fun h9 r10 =>
  bnd (f_X8_isWithin h9 i2 r10 (iN 99)) fun h11 r12 =>
  bnd (f_X8_requireArgument h11 r12) fun h13 _ =>
  chk (okr h13 a0 8) <|
  chk (okr h13 (qR h13 a0 0) 7) <|
  bnd (f_X7_heightWithin h13 (qR h13 a0 0) (qR h2 (qR h2 (qR h2 a0 0) 8) (Int32.toNatClampNeg i1)) i2) fun h17 r18 =>
  some (h17, .inr r18)
theorem p_X8_cellHeight {l : Launch} {K : Ctx} (hl : l.stackTraces = false) {h : Hp} {a0 : Nat} {i1 : Int32} {i2 : Int32} {t : Rs Int32} (e : f_X8_cellHeight h a0 i1 i2 = some t) : X l K mM_X8_cellHeight (tgI t) 0 [(0, .ref a0), (1, .int i1), (2, .int i2)] [] h := by
  unfold f_X8_cellHeight at e
  refine x_aload_n (pc := 0) 0 dX8_cellHeight_0 rfl ?_
  refine x_iload_n (pc := 1) 1 dX8_cellHeight_1 rfl ?_
  obtain ⟨q1, e⟩ := chk_some e
  rcases bnd_some e with ⟨h2, r3, ec, rfl⟩ | ⟨h2, r3, ec, e⟩
  · exact y_callV_x (pc := 2) (c_X8_requireCell hl ec) q1 mf_X8_requireCell tw_4_67 ts_3_14 lf_X8_139 rfl rfl dX8_cellHeight_2 (by decide) rfl rfl (leb rfl) (xx_out0 rfl)
  refine y_callV_v (pc := 2) (c_X8_requireCell hl ec) q1 mf_X8_requireCell tw_4_67 ts_3_14 lf_X8_139 rfl rfl dX8_cellHeight_2 (by decide) rfl rfl (leb rfl) ?_
  refine x_aload_n (pc := 5) 0 dX8_cellHeight_5 rfl ?_
  obtain ⟨q4, e⟩ := chk_some e
  obtain ⟨q5, e⟩ := chk_some e
  refine x_getR (pc := 6) gf_X8_10 rfl dX8_cellHeight_6 q4 q5.1 ?_
  obtain ⟨q6, e⟩ := chk_some e
  refine x_getR (pc := 9) gf_X8_159 rfl dX8_cellHeight_9 q5 q6.1 ?_
  refine x_iload_n (pc := 12) 1 dX8_cellHeight_12 rfl ?_
  obtain ⟨q7, e⟩ := chk_some e
  obtain ⟨q8, e⟩ := chk_some e
  refine x_aald (pc := 13) (t := 1) (by decide) dX8_cellHeight_13 q6 q7 q8.1 ?_
  refine x_astore_n (pc := 14) dX8_cellHeight_14 (by decide) rfl ?_
  refine x_iload_n (pc := 15) 3 dX8_cellHeight_15 rfl ?_
  refine x_aload_n (pc := 16) 1 dX8_cellHeight_16 rfl ?_
  refine x_getR (pc := 17) gf_X8_10 rfl dX8_cellHeight_17 q4 q5.1 ?_
  refine x_aload_n (pc := 20) 0 dX8_cellHeight_20 rfl ?_
  rcases bnd_some e with ⟨h9, r10, ec, rfl⟩ | ⟨h9, r10, ec, e⟩
  · exact y_callV_x (pc := 21) (c_X7_minimumOf hl ec) q5 mf_X7_minimumOf tw_2_112 ts_1_2 lf_X8_214 rfl rfl dX8_cellHeight_21 (by decide) rfl rfl (leb rfl) (xx_out0 rfl)
  refine y_callV_i (pc := 21) (c_X7_minimumOf hl ec) q5 mf_X7_minimumOf tw_2_112 ts_1_2 lf_X8_214 rfl rfl dX8_cellHeight_21 (by decide) rfl rfl (leb rfl) ?_
  refine x_bipush (pc := 24) (v := iN 99) dX8_cellHeight_24 rfl ?_
  rcases bnd_some e with ⟨h11, r12, ec, rfl⟩ | ⟨h11, r12, ec, e⟩
  · exact y_callS_x (pc := 26) (c_X8_isWithin hl ec) mf_X8_isWithin tw_3_26 lf_X8_72 dX8_cellHeight_26 (by decide) rfl rfl (leb rfl) (xx_out0 rfl)
  refine y_callS_i (pc := 26) (c_X8_isWithin hl ec) mf_X8_isWithin tw_3_26 lf_X8_72 dX8_cellHeight_26 (by decide) rfl rfl (leb rfl) ?_
  rcases bnd_some e with ⟨h13, r14, ec, rfl⟩ | ⟨h13, r14, ec, e⟩
  · exact y_callS_x (pc := 29) (c_X8_requireArgument hl ec) mf_X8_requireArgument tw_3_84 lf_X8_76 dX8_cellHeight_29 (by decide) rfl rfl (leb rfl) (xx_out0 rfl)
  refine y_callS_v (pc := 29) (c_X8_requireArgument hl ec) mf_X8_requireArgument tw_3_84 lf_X8_76 dX8_cellHeight_29 (by decide) rfl rfl (leb rfl) ?_
  refine x_aload_n (pc := 32) 1 dX8_cellHeight_32 rfl ?_
  obtain ⟨q15, e⟩ := chk_some e
  obtain ⟨q16, e⟩ := chk_some e
  refine x_getR (pc := 33) gf_X8_10 rfl dX8_cellHeight_33 q15 q16.1 ?_
  refine x_aload_n (pc := 36) 0 dX8_cellHeight_36 rfl ?_
  refine x_iload_n (pc := 37) 3 dX8_cellHeight_37 rfl ?_
  rcases bnd_some e with ⟨h17, r18, ec, rfl⟩ | ⟨h17, r18, ec, e⟩
  · exact y_callV_x (pc := 38) (c_X7_heightWithin hl ec) q16 mf_X7_heightWithin tw_3_19 ts_2_8 lf_X8_239 rfl rfl dX8_cellHeight_38 (by decide) rfl rfl (leb rfl) (xx_out0 rfl)
  refine y_callV_i (pc := 38) (c_X7_heightWithin hl ec) q16 mf_X7_heightWithin tw_3_19 ts_2_8 lf_X8_239 rfl rfl dX8_cellHeight_38 (by decide) rfl rfl (leb rfl) ?_
  cases Option.some.inj e
  exact x_iret (pc := 41) rfl dX8_cellHeight_41
abbrev w_X8_cellHeight : Cond := (Cond.code yX8_cellHeight cX8_cellHeight 4 (Option.some Jvm.ClassFile.FieldType.int))
theorem mf_X8_cellHeight : MF yX8_cellHeight w_X8_cellHeight cX8_cellHeight 4 (Option.some Jvm.ClassFile.FieldType.int) 2 := ⟨⟨rfl, tw_5_145, by decide⟩, tw_1_1, ⟨by decide, by decide⟩, by decide +kernel⟩
theorem c_X8_cellHeight {l : Launch} {K : Ctx} (hl : l.stackTraces = false) {h : Hp} {a0 : Nat} {i1 : Int32} {i2 : Int32} {t : Rs Int32} (e : f_X8_cellHeight h a0 i1 i2 = some t) : Ctr l K 11 yX8_cellHeight w_X8_cellHeight [.ref a0, .int i1, .int i2] h (tgI t) :=
  Ctr.of hl mf_X8_cellHeight false (fun q => nomatch q) rfl (leb rfl) (p_X8_cellHeight hl e)
/-! ## TableColumnBalancerLaw.cellHeight -/
abbrev mM_L_cellHeight : Mi := (12, yL_cellHeight.cls, cL_cellHeight, 5, (Option.some Jvm.ClassFile.FieldType.int), [((0 : Nat), (10 : Nat), (13 : Nat), (21 : Nat)), ((0 : Nat), (10 : Nat), (17 : Nat), (13 : Nat))], false)
noncomputable def f_L_cellHeight (h : Hp) (a0 : Nat) (i1 : Int32) (i2 : Int32) (a3 : Nat) : Option (Rs Int32) :=
  chk (okr h a0 8) <|
  bndX (f_X8_cellHeight h a0 i1 i2) (fun h2 r3 => (
    chk (okr h2 a3 21) <|
    chk (vp_in (iN 0) (qW h2 a3)) <|
    lt (putL h2 a3 (Int32.toNatClampNeg (iN 0)) (Int32.toInt64 r3)) fun h6 =>
    some (h6, .inr (iN 0))
  )) fun h2 k =>
  if k = 2 then (
    some (h2, .inr (iN 1))
  ) else
  if k = 1 then (
    some (h2, .inr (iN 2))
  ) else
  none
theorem p_L_cellHeight {l : Launch} {K : Ctx} (hl : l.stackTraces = false) {h : Hp} {a0 : Nat} {i1 : Int32} {i2 : Int32} {a3 : Nat} {t : Rs Int32} (e : f_L_cellHeight h a0 i1 i2 a3 = some t) : X l K mM_L_cellHeight (tgI t) 0 [(0, .ref a0), (1, .int i1), (2, .int i2), (3, .ref a3)] [] h := by
  unfold f_L_cellHeight at e
  refine x_aload_n (pc := 0) 3 dL_cellHeight_0 rfl ?_
  refine x_iconst (pc := 1) dL_cellHeight_1 ?_
  refine x_aload_n (pc := 2) 0 dL_cellHeight_2 rfl ?_
  refine x_iload_n (pc := 3) 1 dL_cellHeight_3 rfl ?_
  refine x_iload_n (pc := 4) 2 dL_cellHeight_4 rfl ?_
  obtain ⟨q1, e⟩ := chk_some e
  rcases bndX_some e with ⟨h2, k, ec, e⟩ | ⟨h2, r3, ec, e⟩
  · rcases ite_some e with ⟨q7, e⟩ | ⟨q7, e⟩
    · subst q7
      refine y_callV_x (pc := 5) (c_X8_cellHeight hl ec) q1 mf_X8_cellHeight tw_5_143 tw_5_144 lf_L_75 rfl rfl dL_cellHeight_5 (by decide) rfl rfl (leb rfl) (xx_catchA (pc := 5) [] [(0, 10, 17, 13)] (0, 10, 13, 21) rfl (by decide) (fun _ hz => absurd hz List.not_mem_nil) (by decide) (by decide) tw_3_187 tw_3_229 dL_cellHeight_13 (by decide) rfl ?_)
      refine x_iconst (pc := 15) dL_cellHeight_15 ?_
      cases Option.some.inj e
      exact x_iret (pc := 16) rfl dL_cellHeight_16
    rcases ite_some e with ⟨q8, e⟩ | ⟨q8, e⟩
    · subst q8
      refine y_callV_x (pc := 5) (c_X8_cellHeight hl ec) q1 mf_X8_cellHeight tw_5_143 tw_5_144 lf_L_75 rfl rfl dL_cellHeight_5 (by decide) rfl rfl (leb rfl) (xx_catchA (pc := 5) [(0, 10, 13, 21)] [] (0, 10, 17, 13) rfl (by decide) (List.forall_mem_cons.mpr ⟨⟨by decide, 2, by decide, by decide, tw_3_187⟩, fun _ hz => absurd hz List.not_mem_nil⟩) (by decide) (by decide) tw_3_76 tw_3_88 dL_cellHeight_17 (by decide) rfl ?_)
      refine x_iconst (pc := 19) dL_cellHeight_19 ?_
      cases Option.some.inj e
      exact x_iret (pc := 20) rfl dL_cellHeight_20
    cases e
  refine y_callV_i (pc := 5) (c_X8_cellHeight hl ec) q1 mf_X8_cellHeight tw_5_143 tw_5_144 lf_L_75 rfl rfl dL_cellHeight_5 (by decide) rfl rfl (leb rfl) ?_
  refine x_i2l (pc := 8) dL_cellHeight_8 ?_
  obtain ⟨q4, e⟩ := chk_some e
  obtain ⟨q5, e⟩ := chk_some e
  replace e := lt_go e
  refine x_last (pc := 9) dL_cellHeight_9 q4 q5 ?_
  refine x_goto (pc := 10) (t := 21) dL_cellHeight_10 (by decide) ?_
  refine x_iconst (pc := 21) dL_cellHeight_21 ?_
  cases Option.some.inj e
  exact x_iret (pc := 22) rfl dL_cellHeight_22
abbrev w_L_cellHeight : Cond := (Cond.codeWith yL_cellHeight cL_cellHeight 5 (Option.some Jvm.ClassFile.FieldType.int) [((0 : Nat), (10 : Nat), (13 : Nat), (21 : Nat)), ((0 : Nat), (10 : Nat), (17 : Nat), (13 : Nat))])
theorem mf_L_cellHeight : MFX yL_cellHeight w_L_cellHeight cL_cellHeight 5 (Option.some Jvm.ClassFile.FieldType.int) 4 [((0 : Nat), (10 : Nat), (13 : Nat), (21 : Nat)), ((0 : Nat), (10 : Nat), (17 : Nat), (13 : Nat))] := ⟨⟨rfl, tw_5_141, by decide⟩, tw_1_0, ⟨by decide, by decide⟩, by decide +kernel⟩
theorem c_L_cellHeight {l : Launch} {K : Ctx} (hl : l.stackTraces = false) {h : Hp} {a0 : Nat} {i1 : Int32} {i2 : Int32} {a3 : Nat} {t : Rs Int32} (e : f_L_cellHeight h a0 i1 i2 a3 = some t) : Ctr l K 12 yL_cellHeight w_L_cellHeight [.ref a0, .int i1, .int i2, .ref a3] h (tgI t) :=
  Ctr.ofX hl mf_L_cellHeight rfl (leb rfl) (p_L_cellHeight hl e)
/-! ## TableColumnBalancerModel.contentHeight -/
abbrev mM_X9_contentHeight : Mi := (11, yX9_contentHeight.cls, cX9_contentHeight, 4, (Option.some Jvm.ClassFile.FieldType.int), [], false)
noncomputable def f_X9_contentHeight_L30 (h : Hp) (a0 : Nat) (i1 : Int32) : Option (Rs Int32) :=
  chk (okr h a0 9) <|
  bnd (f_X9_of h a0 i1 (iN 6)) fun h2 r3 =>
  some (h2, .inr r3)
theorem p_X9_contentHeight_L30 {l : Launch} {K : Ctx} (hl : l.stackTraces = false) {h : Hp} {a0 : Nat} {i1 : Int32} {t : Rs Int32} (e : f_X9_contentHeight_L30 h a0 i1 = some t) : X l K mM_X9_contentHeight (tgI t) 30 [(0, .ref a0), (1, .int i1)] [] h := by
  unfold f_X9_contentHeight_L30 at e
  refine x_aload_n (pc := 30) 0 dX9_contentHeight_30 rfl ?_
  refine x_iload_n (pc := 31) 1 dX9_contentHeight_31 rfl ?_
  refine x_bipush (pc := 32) (v := iN 6) dX9_contentHeight_32 rfl ?_
  obtain ⟨q1, e⟩ := chk_some e
  rcases bnd_some e with ⟨h2, r3, ec, rfl⟩ | ⟨h2, r3, ec, e⟩
  · exact y_callV_x (pc := 34) (c_X9_of hl ec) q1 mf_X9_of tw_7_63 ts_6_12 lf_X9_91 rfl rfl dX9_contentHeight_34 (by decide) rfl rfl (leb rfl) (xx_out0 rfl)
  refine y_callV_i (pc := 34) (c_X9_of hl ec) q1 mf_X9_of tw_7_63 ts_6_12 lf_X9_91 rfl rfl dX9_contentHeight_34 (by decide) rfl rfl (leb rfl) ?_
  cases Option.some.inj e
  exact x_iret (pc := 37) rfl dX9_contentHeight_37
noncomputable def f_X9_contentHeight_L38 (h : Hp) (a0 : Nat) (i1 : Int32) (i2 : Int32) : Option (Rs Int32) :=
  chk (okr h a0 9) <|
  bnd (f_X9_of h a0 i1 (iN 3)) fun h2 r3 =>
  if r3 = (iN 4) then (
    chk (okr h2 a0 9) <|
    bnd (f_X9_of h2 a0 i1 (iN 5)) fun h6 r7 =>
    chk (vf_n32 (FP.fdiv (FP.i2f i2) (FP.i2f r7))) <|
    chk (okr h6 a0 9) <|
    bnd (f_X9_of h6 a0 i1 (iN 6)) fun h10 r11 =>
    chk (vf_n32 (FP.fmul (FP.fdiv (FP.i2f i2) (FP.i2f r7)) (FP.i2f r11))) <|
    bnd (f_X9_greater h10 (FP.f2i (FP.fmul (FP.fdiv (FP.i2f i2) (FP.i2f r7)) (FP.i2f r11))) (iN 1)) fun h13 r14 =>
    some (h13, .inr r14)
  ) else (
    chk (okr h2 a0 9) <|
    bnd (f_X9_breaksLines h2 a0 i1 i2) fun h16 _ =>
    chk (okr h16 a0 9) <|
    bnd (f_X9_of h16 a0 i1 (iN 3)) fun h19 r20 =>
    if r20 = (iN 1) then (
      chk (okr h19 a0 9) <|
      some (h19, .inr ((iN 2) * (qI h19 a0 20)))
    ) else (
      chk (okr h19 a0 9) <|
      some (h19, .inr (qI h19 a0 20))
    )
  )
theorem p_X9_contentHeight_L38 {l : Launch} {K : Ctx} (hl : l.stackTraces = false) {h : Hp} {a0 : Nat} {i1 : Int32} {i2 : Int32} {t : Rs Int32} (e : f_X9_contentHeight_L38 h a0 i1 i2 = some t) : X l K mM_X9_contentHeight (tgI t) 38 [(0, .ref a0), (1, .int i1), (2, .int i2)] [] h := by
  unfold f_X9_contentHeight_L38 at e
  refine x_aload_n (pc := 38) 0 dX9_contentHeight_38 rfl ?_
  refine x_iload_n (pc := 39) 1 dX9_contentHeight_39 rfl ?_
  refine x_iconst (pc := 40) dX9_contentHeight_40 ?_
  obtain ⟨q1, e⟩ := chk_some e
  rcases bnd_some e with ⟨h2, r3, ec, rfl⟩ | ⟨h2, r3, ec, e⟩
  · exact y_callV_x (pc := 41) (c_X9_of hl ec) q1 mf_X9_of tw_7_63 ts_6_12 lf_X9_91 rfl rfl dX9_contentHeight_41 (by decide) rfl rfl (leb rfl) (xx_out0 rfl)
  refine y_callV_i (pc := 41) (c_X9_of hl ec) q1 mf_X9_of tw_7_63 ts_6_12 lf_X9_91 rfl rfl dX9_contentHeight_41 (by decide) rfl rfl (leb rfl) ?_
  refine x_iconst (pc := 44) dX9_contentHeight_44 ?_
  rcases ite_some e with ⟨q4, e⟩ | ⟨q4, e⟩
  · refine x_icmp_ne_f (pc := 45) (t := 75) dX9_contentHeight_45 (by decide) q4 ?_
    refine x_iload_n (pc := 48) 2 dX9_contentHeight_48 rfl ?_
    refine x_i2f (pc := 49) dX9_contentHeight_49 ?_
    refine x_aload_n (pc := 50) 0 dX9_contentHeight_50 rfl ?_
    refine x_iload_n (pc := 51) 1 dX9_contentHeight_51 rfl ?_
    refine x_iconst (pc := 52) dX9_contentHeight_52 ?_
    obtain ⟨q5, e⟩ := chk_some e
    rcases bnd_some e with ⟨h6, r7, ec, rfl⟩ | ⟨h6, r7, ec, e⟩
    · exact y_callV_x (pc := 53) (c_X9_of hl ec) q5 mf_X9_of tw_7_63 ts_6_12 lf_X9_91 rfl rfl dX9_contentHeight_53 (by decide) rfl rfl (leb rfl) (xx_out0 rfl)
    refine y_callV_i (pc := 53) (c_X9_of hl ec) q5 mf_X9_of tw_7_63 ts_6_12 lf_X9_91 rfl rfl dX9_contentHeight_53 (by decide) rfl rfl (leb rfl) ?_
    refine x_i2f (pc := 56) dX9_contentHeight_56 ?_
    obtain ⟨q8, e⟩ := chk_some e
    refine x_fdiv (pc := 57) dX9_contentHeight_57 q8 ?_
    refine x_aload_n (pc := 58) 0 dX9_contentHeight_58 rfl ?_
    refine x_iload_n (pc := 59) 1 dX9_contentHeight_59 rfl ?_
    refine x_bipush (pc := 60) (v := iN 6) dX9_contentHeight_60 rfl ?_
    obtain ⟨q9, e⟩ := chk_some e
    rcases bnd_some e with ⟨h10, r11, ec, rfl⟩ | ⟨h10, r11, ec, e⟩
    · exact y_callV_x (pc := 62) (c_X9_of hl ec) q9 mf_X9_of tw_7_63 ts_6_12 lf_X9_91 rfl rfl dX9_contentHeight_62 (by decide) rfl rfl (leb rfl) (xx_out0 rfl)
    refine y_callV_i (pc := 62) (c_X9_of hl ec) q9 mf_X9_of tw_7_63 ts_6_12 lf_X9_91 rfl rfl dX9_contentHeight_62 (by decide) rfl rfl (leb rfl) ?_
    refine x_i2f (pc := 65) dX9_contentHeight_65 ?_
    obtain ⟨q12, e⟩ := chk_some e
    refine x_fmul (pc := 66) dX9_contentHeight_66 q12 ?_
    refine x_fstore_n (pc := 67) dX9_contentHeight_67 (by decide) rfl ?_
    refine x_fload_n (pc := 68) 0 dX9_contentHeight_68 rfl ?_
    refine x_f2i (pc := 69) dX9_contentHeight_69 ?_
    refine x_iconst (pc := 70) dX9_contentHeight_70 ?_
    rcases bnd_some e with ⟨h13, r14, ec, rfl⟩ | ⟨h13, r14, ec, e⟩
    · exact y_callS_x (pc := 71) (c_X9_greater hl ec) mf_X9_greater tw_8_10 lf_X9_277 dX9_contentHeight_71 (by decide) rfl rfl (leb rfl) (xx_out0 rfl)
    refine y_callS_i (pc := 71) (c_X9_greater hl ec) mf_X9_greater tw_8_10 lf_X9_277 dX9_contentHeight_71 (by decide) rfl rfl (leb rfl) ?_
    cases Option.some.inj e
    exact x_iret (pc := 74) rfl dX9_contentHeight_74
  · refine x_icmp_ne_t (pc := 45) (t := 75) dX9_contentHeight_45 (by decide) q4 ?_
    refine x_aload_n (pc := 75) 0 dX9_contentHeight_75 rfl ?_
    refine x_iload_n (pc := 76) 1 dX9_contentHeight_76 rfl ?_
    refine x_iload_n (pc := 77) 2 dX9_contentHeight_77 rfl ?_
    obtain ⟨q15, e⟩ := chk_some e
    rcases bnd_some e with ⟨h16, r17, ec, rfl⟩ | ⟨h16, r17, ec, e⟩
    · exact y_callV_x (pc := 78) (c_X9_breaksLines hl ec) q15 mf_X9_breaksLines tw_8_34 ts_8_15 lf_X9_280 rfl rfl dX9_contentHeight_78 (by decide) rfl rfl (leb rfl) (xx_out0 rfl)
    refine y_callV_v (pc := 78) (c_X9_breaksLines hl ec) q15 mf_X9_breaksLines tw_8_34 ts_8_15 lf_X9_280 rfl rfl dX9_contentHeight_78 (by decide) rfl rfl (leb rfl) ?_
    refine x_aload_n (pc := 81) 0 dX9_contentHeight_81 rfl ?_
    refine x_iload_n (pc := 82) 1 dX9_contentHeight_82 rfl ?_
    refine x_iconst (pc := 83) dX9_contentHeight_83 ?_
    obtain ⟨q18, e⟩ := chk_some e
    rcases bnd_some e with ⟨h19, r20, ec, rfl⟩ | ⟨h19, r20, ec, e⟩
    · exact y_callV_x (pc := 84) (c_X9_of hl ec) q18 mf_X9_of tw_7_63 ts_6_12 lf_X9_91 rfl rfl dX9_contentHeight_84 (by decide) rfl rfl (leb rfl) (xx_out0 rfl)
    refine y_callV_i (pc := 84) (c_X9_of hl ec) q18 mf_X9_of tw_7_63 ts_6_12 lf_X9_91 rfl rfl dX9_contentHeight_84 (by decide) rfl rfl (leb rfl) ?_
    refine x_iconst (pc := 87) dX9_contentHeight_87 ?_
    rcases ite_some e with ⟨q21, e⟩ | ⟨q21, e⟩
    · refine x_icmp_ne_f (pc := 88) (t := 100) dX9_contentHeight_88 (by decide) q21 ?_
      refine x_iconst (pc := 91) dX9_contentHeight_91 ?_
      refine x_aload_n (pc := 92) 0 dX9_contentHeight_92 rfl ?_
      obtain ⟨q22, e⟩ := chk_some e
      refine x_getI (pc := 93) gf_X9_268 rfl dX9_contentHeight_93 q22 ?_
      refine x_imul (pc := 96) dX9_contentHeight_96 ?_
      refine x_goto (pc := 97) (t := 104) dX9_contentHeight_97 (by decide) ?_
      cases Option.some.inj e
      exact x_iret (pc := 104) rfl dX9_contentHeight_104
    · refine x_icmp_ne_t (pc := 88) (t := 100) dX9_contentHeight_88 (by decide) q21 ?_
      refine x_aload_n (pc := 100) 0 dX9_contentHeight_100 rfl ?_
      obtain ⟨q23, e⟩ := chk_some e
      refine x_getI (pc := 101) gf_X9_268 rfl dX9_contentHeight_101 q23 ?_
      cases Option.some.inj e
      exact x_iret (pc := 104) rfl dX9_contentHeight_104
noncomputable def f_X9_contentHeight (h : Hp) (a0 : Nat) (i1 : Int32) (i2 : Int32) : Option (Rs Int32) :=
  chk (okr h a0 9) <|
  bnd (f_X9_of h a0 i1 (iN 3)) fun h2 r3 =>
  if r3 = (iN 5) then (
    f_X9_contentHeight_L30 h2 a0 i1
  ) else (
    chk (okr h2 a0 9) <|
    bnd (f_X9_of h2 a0 i1 (iN 3)) fun h6 r7 =>
    if r7 = (iN 4) then (
      chk (okr h6 a0 9) <|
      bnd (f_X9_of h6 a0 i1 (iN 5)) fun h10 r11 =>
      if i2 < r11 then (
        f_X9_contentHeight_L38 h10 a0 i1 i2
      ) else (
        f_X9_contentHeight_L30 h10 a0 i1
      )
    ) else (
      f_X9_contentHeight_L38 h6 a0 i1 i2
    )
  )
theorem p_X9_contentHeight {l : Launch} {K : Ctx} (hl : l.stackTraces = false) {h : Hp} {a0 : Nat} {i1 : Int32} {i2 : Int32} {t : Rs Int32} (e : f_X9_contentHeight h a0 i1 i2 = some t) : X l K mM_X9_contentHeight (tgI t) 0 [(0, .ref a0), (1, .int i1), (2, .int i2)] [] h := by
  unfold f_X9_contentHeight at e
  refine x_aload_n (pc := 0) 0 dX9_contentHeight_0 rfl ?_
  refine x_iload_n (pc := 1) 1 dX9_contentHeight_1 rfl ?_
  refine x_iconst (pc := 2) dX9_contentHeight_2 ?_
  obtain ⟨q1, e⟩ := chk_some e
  rcases bnd_some e with ⟨h2, r3, ec, rfl⟩ | ⟨h2, r3, ec, e⟩
  · exact y_callV_x (pc := 3) (c_X9_of hl ec) q1 mf_X9_of tw_7_63 ts_6_12 lf_X9_91 rfl rfl dX9_contentHeight_3 (by decide) rfl rfl (leb rfl) (xx_out0 rfl)
  refine y_callV_i (pc := 3) (c_X9_of hl ec) q1 mf_X9_of tw_7_63 ts_6_12 lf_X9_91 rfl rfl dX9_contentHeight_3 (by decide) rfl rfl (leb rfl) ?_
  refine x_iconst (pc := 6) dX9_contentHeight_6 ?_
  rcases ite_some e with ⟨q4, e⟩ | ⟨q4, e⟩
  · refine x_icmp_eq_t (pc := 7) (t := 30) dX9_contentHeight_7 (by decide) q4 ?_
    exact x_sub1 (p_X9_contentHeight_L30 hl e) [0, 1] rfl
  · refine x_icmp_eq_f (pc := 7) (t := 30) dX9_contentHeight_7 (by decide) q4 ?_
    refine x_aload_n (pc := 10) 0 dX9_contentHeight_10 rfl ?_
    refine x_iload_n (pc := 11) 1 dX9_contentHeight_11 rfl ?_
    refine x_iconst (pc := 12) dX9_contentHeight_12 ?_
    obtain ⟨q5, e⟩ := chk_some e
    rcases bnd_some e with ⟨h6, r7, ec, rfl⟩ | ⟨h6, r7, ec, e⟩
    · exact y_callV_x (pc := 13) (c_X9_of hl ec) q5 mf_X9_of tw_7_63 ts_6_12 lf_X9_91 rfl rfl dX9_contentHeight_13 (by decide) rfl rfl (leb rfl) (xx_out0 rfl)
    refine y_callV_i (pc := 13) (c_X9_of hl ec) q5 mf_X9_of tw_7_63 ts_6_12 lf_X9_91 rfl rfl dX9_contentHeight_13 (by decide) rfl rfl (leb rfl) ?_
    refine x_iconst (pc := 16) dX9_contentHeight_16 ?_
    rcases ite_some e with ⟨q8, e⟩ | ⟨q8, e⟩
    · refine x_icmp_ne_f (pc := 17) (t := 38) dX9_contentHeight_17 (by decide) q8 ?_
      refine x_iload_n (pc := 20) 2 dX9_contentHeight_20 rfl ?_
      refine x_aload_n (pc := 21) 0 dX9_contentHeight_21 rfl ?_
      refine x_iload_n (pc := 22) 1 dX9_contentHeight_22 rfl ?_
      refine x_iconst (pc := 23) dX9_contentHeight_23 ?_
      obtain ⟨q9, e⟩ := chk_some e
      rcases bnd_some e with ⟨h10, r11, ec, rfl⟩ | ⟨h10, r11, ec, e⟩
      · exact y_callV_x (pc := 24) (c_X9_of hl ec) q9 mf_X9_of tw_7_63 ts_6_12 lf_X9_91 rfl rfl dX9_contentHeight_24 (by decide) rfl rfl (leb rfl) (xx_out0 rfl)
      refine y_callV_i (pc := 24) (c_X9_of hl ec) q9 mf_X9_of tw_7_63 ts_6_12 lf_X9_91 rfl rfl dX9_contentHeight_24 (by decide) rfl rfl (leb rfl) ?_
      rcases ite_some e with ⟨q12, e⟩ | ⟨q12, e⟩
      · refine x_icmp_lt_t (pc := 27) (t := 38) dX9_contentHeight_27 (by decide) q12 ?_
        exact p_X9_contentHeight_L38 hl e
      · refine x_icmp_lt_f (pc := 27) (t := 38) dX9_contentHeight_27 (by decide) q12 ?_
        exact x_sub1 (p_X9_contentHeight_L30 hl e) [0, 1] rfl
    · refine x_icmp_ne_t (pc := 17) (t := 38) dX9_contentHeight_17 (by decide) q8 ?_
      exact p_X9_contentHeight_L38 hl e
abbrev w_X9_contentHeight : Cond := (Cond.code yX9_contentHeight cX9_contentHeight 4 (Option.some Jvm.ClassFile.FieldType.int))
theorem mf_X9_contentHeight : MF yX9_contentHeight w_X9_contentHeight cX9_contentHeight 4 (Option.some Jvm.ClassFile.FieldType.int) 2 := ⟨⟨rfl, tw_8_51, by decide⟩, tw_1_11, ⟨by decide, by decide⟩, by decide +kernel⟩
theorem c_X9_contentHeight {l : Launch} {K : Ctx} (hl : l.stackTraces = false) {h : Hp} {a0 : Nat} {i1 : Int32} {i2 : Int32} {t : Rs Int32} (e : f_X9_contentHeight h a0 i1 i2 = some t) : Ctr l K 11 yX9_contentHeight w_X9_contentHeight [.ref a0, .int i1, .int i2] h (tgI t) :=
  Ctr.of hl mf_X9_contentHeight false (fun q => nomatch q) rfl (leb rfl) (p_X9_contentHeight hl e)
/-! ## TableColumnBalancerModel.heightOf -/
abbrev mM_X9_heightOf : Mi := (12, yX9_heightOf.cls, cX9_heightOf, 3, (Option.some Jvm.ClassFile.FieldType.int), [], false)
noncomputable def f_X9_heightOf (h : Hp) (a0 : Nat) (i1 : Int32) (i2 : Int32) : Option (Rs Int32) :=
  chk (okr h a0 9) <|
  chk (okr h (qR h a0 1) 20) <|
  chk (vp_in (iN 3) (qW h (qR h a0 1))) <|
  bnd (f_X9_contentHeight h a0 i1 (i2 - ((iN 2) * (qI h (qR h a0 1) (Int32.toNatClampNeg (iN 3)))))) fun h4 r5 =>
  chk (okr h4 a0 9) <|
  chk (okr h4 (qR h4 a0 1) 20) <|
  chk (vp_in (iN 3) (qW h4 (qR h4 a0 1))) <|
  some (h4, .inr (r5 + ((iN 2) * (qI h4 (qR h4 a0 1) (Int32.toNatClampNeg (iN 3))))))
theorem p_X9_heightOf {l : Launch} {K : Ctx} (hl : l.stackTraces = false) {h : Hp} {a0 : Nat} {i1 : Int32} {i2 : Int32} {t : Rs Int32} (e : f_X9_heightOf h a0 i1 i2 = some t) : X l K mM_X9_heightOf (tgI t) 0 [(0, .ref a0), (1, .int i1), (2, .int i2)] [] h := by
  unfold f_X9_heightOf at e
  refine x_aload_n (pc := 0) 0 dX9_heightOf_0 rfl ?_
  refine x_iload_n (pc := 1) 1 dX9_heightOf_1 rfl ?_
  refine x_iload_n (pc := 2) 2 dX9_heightOf_2 rfl ?_
  refine x_iconst (pc := 3) dX9_heightOf_3 ?_
  refine x_aload_n (pc := 4) 0 dX9_heightOf_4 rfl ?_
  obtain ⟨q1, e⟩ := chk_some e
  obtain ⟨q2, e⟩ := chk_some e
  refine x_getR (pc := 5) gf_X9_9 rfl dX9_heightOf_5 q1 q2.1 ?_
  refine x_iconst (pc := 8) dX9_heightOf_8 ?_
  obtain ⟨q3, e⟩ := chk_some e
  refine x_iald (pc := 9) dX9_heightOf_9 q2 q3 ?_
  refine x_imul (pc := 10) dX9_heightOf_10 ?_
  refine x_isub (pc := 11) dX9_heightOf_11 ?_
  rcases bnd_some e with ⟨h4, r5, ec, rfl⟩ | ⟨h4, r5, ec, e⟩
  · exact y_callV_x (pc := 12) (c_X9_contentHeight hl ec) q1 mf_X9_contentHeight tw_8_50 ts_9_1 lf_X9_290 rfl rfl dX9_heightOf_12 (by decide) rfl rfl (leb rfl) (xx_out0 rfl)
  refine y_callV_i (pc := 12) (c_X9_contentHeight hl ec) q1 mf_X9_contentHeight tw_8_50 ts_9_1 lf_X9_290 rfl rfl dX9_heightOf_12 (by decide) rfl rfl (leb rfl) ?_
  refine x_iconst (pc := 15) dX9_heightOf_15 ?_
  refine x_aload_n (pc := 16) 0 dX9_heightOf_16 rfl ?_
  obtain ⟨q6, e⟩ := chk_some e
  obtain ⟨q7, e⟩ := chk_some e
  refine x_getR (pc := 17) gf_X9_9 rfl dX9_heightOf_17 q6 q7.1 ?_
  refine x_iconst (pc := 20) dX9_heightOf_20 ?_
  obtain ⟨q8, e⟩ := chk_some e
  refine x_iald (pc := 21) dX9_heightOf_21 q7 q8 ?_
  refine x_imul (pc := 22) dX9_heightOf_22 ?_
  refine x_iadd (pc := 23) dX9_heightOf_23 ?_
  cases Option.some.inj e
  exact x_iret (pc := 24) rfl dX9_heightOf_24
abbrev w_X9_heightOf : Cond := (Cond.code yX9_heightOf cX9_heightOf 3 (Option.some Jvm.ClassFile.FieldType.int))
theorem mf_X9_heightOf : MF yX9_heightOf w_X9_heightOf cX9_heightOf 3 (Option.some Jvm.ClassFile.FieldType.int) 2 := ⟨⟨rfl, tw_8_47, by decide⟩, tw_1_11, ⟨by decide, by decide⟩, by decide +kernel⟩
theorem c_X9_heightOf {l : Launch} {K : Ctx} (hl : l.stackTraces = false) {h : Hp} {a0 : Nat} {i1 : Int32} {i2 : Int32} {t : Rs Int32} (e : f_X9_heightOf h a0 i1 i2 = some t) : Ctr l K 12 yX9_heightOf w_X9_heightOf [.ref a0, .int i1, .int i2] h (tgI t) :=
  Ctr.of hl mf_X9_heightOf false (fun q => nomatch q) rfl (leb rfl) (p_X9_heightOf hl e)
/-! ## TableColumnBalancerModel.cellHeight -/
abbrev mM_X9_cellHeight : Mi := (13, yX9_cellHeight.cls, cX9_cellHeight, 3, (Option.some Jvm.ClassFile.FieldType.int), [], false)
noncomputable def f_X9_cellHeight (h : Hp) (a0 : Nat) (i1 : Int32) (i2 : Int32) : Option (Rs Int32) :=
  chk (okr h a0 9) <|
  lt (putI h a0 0 (iN 0)) fun h2 =>
  bnd (f_X9_isCell h2 a0 i1) fun h3 r4 =>
  if r4 = 0 then (
    chk (okr h3 a0 9) <|
    bnd (f_X9_fails h3 a0 (iN 1)) fun h7 r8 =>
    some (h7, .inr r8)
  ) else (
    chk (okr h3 a0 9) <|
    bnd (f_X9_leastOf h3 a0 i1) fun h10 r11 =>
    bnd (f_X9_in h10 i2 r11 (iN 99)) fun h12 r13 =>
    if r13 = 0 then (
      chk (okr h12 a0 9) <|
      bnd (f_X9_fails h12 a0 (iN 2)) fun h16 r17 =>
      some (h16, .inr r17)
    ) else (
      chk (okr h12 a0 9) <|
      bnd (f_X9_heightOf h12 a0 i1 i2) fun h19 r20 =>
      some (h19, .inr r20)
    )
  )
theorem p_X9_cellHeight {l : Launch} {K : Ctx} (hl : l.stackTraces = false) {h : Hp} {a0 : Nat} {i1 : Int32} {i2 : Int32} {t : Rs Int32} (e : f_X9_cellHeight h a0 i1 i2 = some t) : X l K mM_X9_cellHeight (tgI t) 0 [(0, .ref a0), (1, .int i1), (2, .int i2)] [] h := by
  unfold f_X9_cellHeight at e
  refine x_aload_n (pc := 0) 0 dX9_cellHeight_0 rfl ?_
  refine x_iconst (pc := 1) dX9_cellHeight_1 ?_
  obtain ⟨q1, e⟩ := chk_some e
  replace e := lt_go e
  refine x_putI (pc := 2) pf_X9_84 rfl rfl rfl dX9_cellHeight_2 q1 ?_
  refine x_aload_n (pc := 5) 0 dX9_cellHeight_5 rfl ?_
  refine x_iload_n (pc := 6) 1 dX9_cellHeight_6 rfl ?_
  rcases bnd_some e with ⟨h3, r4, ec, rfl⟩ | ⟨h3, r4, ec, e⟩
  · exact y_callV_x (pc := 7) (c_X9_isCell hl ec) (okr_pI q1) mf_X9_isCell tw_7_75 ts_6_14 lf_X9_120 rfl rfl dX9_cellHeight_7 (by decide) rfl rfl (leb rfl) (xx_out0 rfl)
  refine y_callV_i (pc := 7) (c_X9_isCell hl ec) (okr_pI q1) mf_X9_isCell tw_7_75 ts_6_14 lf_X9_120 rfl rfl dX9_cellHeight_7 (by decide) rfl rfl (leb rfl) ?_
  rcases ite_some e with ⟨q5, e⟩ | ⟨q5, e⟩
  · refine x_if_ne_f (pc := 10) (t := 19) dX9_cellHeight_10 (by decide) q5 ?_
    refine x_aload_n (pc := 13) 0 dX9_cellHeight_13 rfl ?_
    refine x_iconst (pc := 14) dX9_cellHeight_14 ?_
    obtain ⟨q6, e⟩ := chk_some e
    rcases bnd_some e with ⟨h7, r8, ec, rfl⟩ | ⟨h7, r8, ec, e⟩
    · exact y_callV_x (pc := 15) (c_X9_fails hl ec) q6 mf_X9_fails tw_7_24 ts_6_7 lf_X9_95 rfl rfl dX9_cellHeight_15 (by decide) rfl rfl (leb rfl) (xx_out0 rfl)
    refine y_callV_i (pc := 15) (c_X9_fails hl ec) q6 mf_X9_fails tw_7_24 ts_6_7 lf_X9_95 rfl rfl dX9_cellHeight_15 (by decide) rfl rfl (leb rfl) ?_
    cases Option.some.inj e
    exact x_iret (pc := 18) rfl dX9_cellHeight_18
  · refine x_if_ne_t (pc := 10) (t := 19) dX9_cellHeight_10 (by decide) q5 ?_
    refine x_iload_n (pc := 19) 2 dX9_cellHeight_19 rfl ?_
    refine x_aload_n (pc := 20) 0 dX9_cellHeight_20 rfl ?_
    refine x_iload_n (pc := 21) 1 dX9_cellHeight_21 rfl ?_
    obtain ⟨q9, e⟩ := chk_some e
    rcases bnd_some e with ⟨h10, r11, ec, rfl⟩ | ⟨h10, r11, ec, e⟩
    · exact y_callV_x (pc := 22) (c_X9_leastOf hl ec) q9 mf_X9_leastOf tw_7_235 ts_8_8 lf_X9_293 rfl rfl dX9_cellHeight_22 (by decide) rfl rfl (leb rfl) (xx_out0 rfl)
    refine y_callV_i (pc := 22) (c_X9_leastOf hl ec) q9 mf_X9_leastOf tw_7_235 ts_8_8 lf_X9_293 rfl rfl dX9_cellHeight_22 (by decide) rfl rfl (leb rfl) ?_
    refine x_bipush (pc := 25) (v := iN 99) dX9_cellHeight_25 rfl ?_
    rcases bnd_some e with ⟨h12, r13, ec, rfl⟩ | ⟨h12, r13, ec, e⟩
    · exact y_callS_x (pc := 27) (c_X9_in hl ec) mf_X9_in tw_7_20 lf_X9_87 dX9_cellHeight_27 (by decide) rfl rfl (leb rfl) (xx_out0 rfl)
    refine y_callS_i (pc := 27) (c_X9_in hl ec) mf_X9_in tw_7_20 lf_X9_87 dX9_cellHeight_27 (by decide) rfl rfl (leb rfl) ?_
    rcases ite_some e with ⟨q14, e⟩ | ⟨q14, e⟩
    · refine x_if_eq_t (pc := 30) (t := 42) dX9_cellHeight_30 (by decide) q14 ?_
      refine x_aload_n (pc := 42) 0 dX9_cellHeight_42 rfl ?_
      refine x_iconst (pc := 43) dX9_cellHeight_43 ?_
      obtain ⟨q15, e⟩ := chk_some e
      rcases bnd_some e with ⟨h16, r17, ec, rfl⟩ | ⟨h16, r17, ec, e⟩
      · exact y_callV_x (pc := 44) (c_X9_fails hl ec) q15 mf_X9_fails tw_7_24 ts_6_7 lf_X9_95 rfl rfl dX9_cellHeight_44 (by decide) rfl rfl (leb rfl) (xx_out0 rfl)
      refine y_callV_i (pc := 44) (c_X9_fails hl ec) q15 mf_X9_fails tw_7_24 ts_6_7 lf_X9_95 rfl rfl dX9_cellHeight_44 (by decide) rfl rfl (leb rfl) ?_
      cases Option.some.inj e
      exact x_iret (pc := 47) rfl dX9_cellHeight_47
    · refine x_if_eq_f (pc := 30) (t := 42) dX9_cellHeight_30 (by decide) q14 ?_
      refine x_aload_n (pc := 33) 0 dX9_cellHeight_33 rfl ?_
      refine x_iload_n (pc := 34) 1 dX9_cellHeight_34 rfl ?_
      refine x_iload_n (pc := 35) 2 dX9_cellHeight_35 rfl ?_
      obtain ⟨q18, e⟩ := chk_some e
      rcases bnd_some e with ⟨h19, r20, ec, rfl⟩ | ⟨h19, r20, ec, e⟩
      · exact y_callV_x (pc := 36) (c_X9_heightOf hl ec) q18 mf_X9_heightOf tw_8_46 ts_9_0 lf_X9_299 rfl rfl dX9_cellHeight_36 (by decide) rfl rfl (leb rfl) (xx_out0 rfl)
      refine y_callV_i (pc := 36) (c_X9_heightOf hl ec) q18 mf_X9_heightOf tw_8_46 ts_9_0 lf_X9_299 rfl rfl dX9_cellHeight_36 (by decide) rfl rfl (leb rfl) ?_
      refine x_goto (pc := 39) (t := 47) dX9_cellHeight_39 (by decide) ?_
      cases Option.some.inj e
      exact x_iret (pc := 47) rfl dX9_cellHeight_47
abbrev w_X9_cellHeight : Cond := (Cond.code yX9_cellHeight cX9_cellHeight 3 (Option.some Jvm.ClassFile.FieldType.int))
theorem mf_X9_cellHeight : MF yX9_cellHeight w_X9_cellHeight cX9_cellHeight 3 (Option.some Jvm.ClassFile.FieldType.int) 2 := ⟨⟨rfl, tw_8_43, by decide⟩, tw_1_11, ⟨by decide, by decide⟩, by decide +kernel⟩
theorem c_X9_cellHeight {l : Launch} {K : Ctx} (hl : l.stackTraces = false) {h : Hp} {a0 : Nat} {i1 : Int32} {i2 : Int32} {t : Rs Int32} (e : f_X9_cellHeight h a0 i1 i2 = some t) : Ctr l K 13 yX9_cellHeight w_X9_cellHeight [.ref a0, .int i1, .int i2] h (tgI t) :=
  Ctr.of hl mf_X9_cellHeight false (fun q => nomatch q) rfl (leb rfl) (p_X9_cellHeight hl e)
/-! ## TableColumnBalancer.nextStep -/
abbrev mM_X8_nextStep : Mi := (11, yX8_nextStep.cls, cX8_nextStep, 6, (Option.some Jvm.ClassFile.FieldType.int), [], false)
noncomputable def f_X8_nextStep_L88 (h : Hp) (i5 : Int32) (s0 : Int32) : Option (Rs Int32) :=
  bnd (f_X8_requireElement h s0) fun h1 _ =>
  some (h1, .inr i5)
theorem p_X8_nextStep_L88 {l : Launch} {K : Ctx} (hl : l.stackTraces = false) {h : Hp} {i5 : Int32} {s0 : Int32} {t : Rs Int32} (e : f_X8_nextStep_L88 h i5 s0 = some t) : X l K mM_X8_nextStep (tgI t) 88 [(5, .int i5)] [.int s0] h := by
  unfold f_X8_nextStep_L88 at e
  rcases bnd_some e with ⟨h1, r2, ec, rfl⟩ | ⟨h1, r2, ec, e⟩
  · exact y_callS_x (pc := 88) (c_X8_requireElement hl ec) mf_X8_requireElement tw_5_122 lf_X8_233 dX8_nextStep_88 (by decide) rfl rfl (leb rfl) (xx_out0 rfl)
  refine y_callS_v (pc := 88) (c_X8_requireElement hl ec) mf_X8_requireElement tw_5_122 lf_X8_233 dX8_nextStep_88 (by decide) rfl rfl (leb rfl) ?_
  refine x_iload (pc := 91) 0 dX8_nextStep_91 rfl ?_
  cases Option.some.inj e
  exact x_iret (pc := 93) rfl dX8_nextStep_93
noncomputable def f_X8_nextStep_L76 (h : Hp) (i5 : Int32) : Option (Rs Int32) :=
  if (iN 99) < i5 then (
    f_X8_nextStep_L88 h i5 (iN 0)
  ) else (
    f_X8_nextStep_L88 h i5 (iN 1)
  )
theorem p_X8_nextStep_L76 {l : Launch} {K : Ctx} (hl : l.stackTraces = false) {h : Hp} {i5 : Int32} {t : Rs Int32} (e : f_X8_nextStep_L76 h i5 = some t) : X l K mM_X8_nextStep (tgI t) 76 [(5, .int i5)] [] h := by
  unfold f_X8_nextStep_L76 at e
  refine x_iload (pc := 76) 0 dX8_nextStep_76 rfl ?_
  refine x_bipush (pc := 78) (v := iN 99) dX8_nextStep_78 rfl ?_
  rcases ite_some e with ⟨q1, e⟩ | ⟨q1, e⟩
  · refine x_icmp_gt_t (pc := 80) (t := 87) dX8_nextStep_80 (by decide) q1 ?_
    refine x_iconst (pc := 87) dX8_nextStep_87 ?_
    exact p_X8_nextStep_L88 hl e
  · refine x_icmp_gt_f (pc := 80) (t := 87) dX8_nextStep_80 (by decide) q1 ?_
    refine x_iconst (pc := 83) dX8_nextStep_83 ?_
    refine x_goto (pc := 84) (t := 88) dX8_nextStep_84 (by decide) ?_
    exact p_X8_nextStep_L88 hl e
noncomputable def f_X8_nextStep_B48 (k48 : Hp → Nat → Nat → Int32 → Int32 → Option (Rs Int32)) (h : Hp) (a0 : Nat) (a3 : Nat) (i4 : Int32) (i5 : Int32) : Option (Rs Int32) :=
  if (iN 99) < i5 then (
    f_X8_nextStep_L76 h i5
  ) else (
    chk (okr h a0 8) <|
    chk (okr h (qR h a0 0) 7) <|
    bnd (f_X7_heightWithin h (qR h a0 0) a3 i5) fun h4 r5 =>
    if r5 < i4 then (
      f_X8_nextStep_L76 h4 i5
    ) else (
      k48 h4 a0 a3 i4 (i5 + iN 1)
    )
  )
theorem p_X8_nextStep_B48 {l : Launch} {K : Ctx} (hl : l.stackTraces = false) {k48 : Hp → Nat → Nat → Int32 → Int32 → Option (Rs Int32)} (hk48 : ∀ (h : Hp) (a0 : Nat) (a3 : Nat) (i4 : Int32) (i5 : Int32) (t : Rs Int32), k48 h a0 a3 i4 i5 = some t → X l K mM_X8_nextStep (tgI t) 48 [(0, .ref a0), (3, .ref a3), (4, .int i4), (5, .int i5)] [] h) {h : Hp} {a0 : Nat} {a3 : Nat} {i4 : Int32} {i5 : Int32} {t : Rs Int32} (e : f_X8_nextStep_B48 k48 h a0 a3 i4 i5 = some t) : X l K mM_X8_nextStep (tgI t) 48 [(0, .ref a0), (3, .ref a3), (4, .int i4), (5, .int i5)] [] h := by
  unfold f_X8_nextStep_B48 at e
  refine x_iload (pc := 48) 3 dX8_nextStep_48 rfl ?_
  refine x_bipush (pc := 50) (v := iN 99) dX8_nextStep_50 rfl ?_
  rcases ite_some e with ⟨q1, e⟩ | ⟨q1, e⟩
  · refine x_icmp_gt_t (pc := 52) (t := 76) dX8_nextStep_52 (by decide) q1 ?_
    exact x_sub1 (p_X8_nextStep_L76 hl e) [3] rfl
  · refine x_icmp_gt_f (pc := 52) (t := 76) dX8_nextStep_52 (by decide) q1 ?_
    refine x_aload_n (pc := 55) 0 dX8_nextStep_55 rfl ?_
    obtain ⟨q2, e⟩ := chk_some e
    obtain ⟨q3, e⟩ := chk_some e
    refine x_getR (pc := 56) gf_X8_10 rfl dX8_nextStep_56 q2 q3.1 ?_
    refine x_aload_n (pc := 59) 1 dX8_nextStep_59 rfl ?_
    refine x_iload (pc := 60) 3 dX8_nextStep_60 rfl ?_
    rcases bnd_some e with ⟨h4, r5, ec, rfl⟩ | ⟨h4, r5, ec, e⟩
    · exact y_callV_x (pc := 62) (c_X7_heightWithin hl ec) q3 mf_X7_heightWithin tw_3_19 ts_2_8 lf_X8_239 rfl rfl dX8_nextStep_62 (by decide) rfl rfl (leb rfl) (xx_out0 rfl)
    refine y_callV_i (pc := 62) (c_X7_heightWithin hl ec) q3 mf_X7_heightWithin tw_3_19 ts_2_8 lf_X8_239 rfl rfl dX8_nextStep_62 (by decide) rfl rfl (leb rfl) ?_
    refine x_iload (pc := 65) 2 dX8_nextStep_65 rfl ?_
    rcases ite_some e with ⟨q6, e⟩ | ⟨q6, e⟩
    · refine x_icmp_lt_t (pc := 67) (t := 76) dX8_nextStep_67 (by decide) q6 ?_
      exact x_sub1 (p_X8_nextStep_L76 hl e) [3] rfl
    · refine x_icmp_lt_f (pc := 67) (t := 76) dX8_nextStep_67 (by decide) q6 ?_
      refine x_iinc (pc := 70) 3 dX8_nextStep_70 rfl (by decide) rfl ?_
      refine x_goto (pc := 73) (t := 48) dX8_nextStep_73 (by decide) ?_
      exact x_sub1 (hk48 _ _ _ _ _ _ e) [1, 2, 3, 0] rfl
noncomputable def f_X8_nextStep_L48 (n : Nat) : Hp → Nat → Nat → Int32 → Int32 → Option (Rs Int32) := Nat.rec (motive := fun _ => Hp → Nat → Nat → Int32 → Int32 → Option (Rs Int32)) (fun _ _ _ _ _ => none) (fun _ r => f_X8_nextStep_B48 r) n
theorem p_X8_nextStep_L48 {l : Launch} {K : Ctx} (hl : l.stackTraces = false) : ∀ (n : Nat) (h : Hp) (a0 : Nat) (a3 : Nat) (i4 : Int32) (i5 : Int32) (t : Rs Int32) (e : f_X8_nextStep_L48 n h a0 a3 i4 i5 = some t), X l K mM_X8_nextStep (tgI t) 48 [(0, .ref a0), (3, .ref a3), (4, .int i4), (5, .int i5)] [] h := by
  intro n
  induction n with
  | zero => exact fun _ _ _ _ _ _ e => nomatch (show (none : Option (Rs Int32)) = some _ from e)
  | succ n ih => exact fun h a0 a3 i4 i5 t e => p_X8_nextStep_B48 hl (fun h a0 a3 i4 i5 t e => ih h a0 a3 i4 i5 t e) e
noncomputable def f_X8_nextStep (h : Hp) (a0 : Nat) (i1 : Int32) (i2 : Int32) : Option (Rs Int32) :=
  chk (okr h a0 8) <|
  bnd (f_X8_requireCell h a0 i1) fun h2 _ =>
  chk (okr h2 a0 8) <|
  chk (okr h2 (qR h2 a0 0) 7) <|
  chk (okr h2 (qR h2 (qR h2 a0 0) 8) 25) <|
  chk (vp_in i1 (qW h2 (qR h2 (qR h2 a0 0) 8))) <|
  chk (okr h2 (qR h2 (qR h2 (qR h2 a0 0) 8) (Int32.toNatClampNeg i1)) 1) <|
  bnd (f_X7_minimumOf h2 (qR h2 a0 0) (qR h2 (qR h2 (qR h2 a0 0) 8) (Int32.toNatClampNeg i1))) fun h9 r10 =>
  bnd (f_X8_isWithin h9 i2 r10 (iN 99)) fun h11 r12 =>
  bnd (f_X8_requireArgument h11 r12) fun h13 _ =>
  chk (okr h13 a0 8) <|
  chk (okr h13 (qR h13 a0 0) 7) <|
  bnd (f_X7_heightWithin h13 (qR h13 a0 0) (qR h2 (qR h2 (qR h2 a0 0) 8) (Int32.toNatClampNeg i1)) i2) fun h17 r18 =>
  f_X8_nextStep_L48 2000 h17 a0 (qR h2 (qR h2 (qR h2 a0 0) 8) (Int32.toNatClampNeg i1)) r18 (i2 + (iN 1))
theorem p_X8_nextStep {l : Launch} {K : Ctx} (hl : l.stackTraces = false) {h : Hp} {a0 : Nat} {i1 : Int32} {i2 : Int32} {t : Rs Int32} (e : f_X8_nextStep h a0 i1 i2 = some t) : X l K mM_X8_nextStep (tgI t) 0 [(0, .ref a0), (1, .int i1), (2, .int i2)] [] h := by
  unfold f_X8_nextStep at e
  refine x_aload_n (pc := 0) 0 dX8_nextStep_0 rfl ?_
  refine x_iload_n (pc := 1) 1 dX8_nextStep_1 rfl ?_
  obtain ⟨q1, e⟩ := chk_some e
  rcases bnd_some e with ⟨h2, r3, ec, rfl⟩ | ⟨h2, r3, ec, e⟩
  · exact y_callV_x (pc := 2) (c_X8_requireCell hl ec) q1 mf_X8_requireCell tw_4_67 ts_3_14 lf_X8_139 rfl rfl dX8_nextStep_2 (by decide) rfl rfl (leb rfl) (xx_out0 rfl)
  refine y_callV_v (pc := 2) (c_X8_requireCell hl ec) q1 mf_X8_requireCell tw_4_67 ts_3_14 lf_X8_139 rfl rfl dX8_nextStep_2 (by decide) rfl rfl (leb rfl) ?_
  refine x_aload_n (pc := 5) 0 dX8_nextStep_5 rfl ?_
  obtain ⟨q4, e⟩ := chk_some e
  obtain ⟨q5, e⟩ := chk_some e
  refine x_getR (pc := 6) gf_X8_10 rfl dX8_nextStep_6 q4 q5.1 ?_
  obtain ⟨q6, e⟩ := chk_some e
  refine x_getR (pc := 9) gf_X8_159 rfl dX8_nextStep_9 q5 q6.1 ?_
  refine x_iload_n (pc := 12) 1 dX8_nextStep_12 rfl ?_
  obtain ⟨q7, e⟩ := chk_some e
  obtain ⟨q8, e⟩ := chk_some e
  refine x_aald (pc := 13) (t := 1) (by decide) dX8_nextStep_13 q6 q7 q8.1 ?_
  refine x_astore_n (pc := 14) dX8_nextStep_14 (by decide) rfl ?_
  refine x_iload_n (pc := 15) 3 dX8_nextStep_15 rfl ?_
  refine x_aload_n (pc := 16) 1 dX8_nextStep_16 rfl ?_
  refine x_getR (pc := 17) gf_X8_10 rfl dX8_nextStep_17 q4 q5.1 ?_
  refine x_aload_n (pc := 20) 0 dX8_nextStep_20 rfl ?_
  rcases bnd_some e with ⟨h9, r10, ec, rfl⟩ | ⟨h9, r10, ec, e⟩
  · exact y_callV_x (pc := 21) (c_X7_minimumOf hl ec) q5 mf_X7_minimumOf tw_2_112 ts_1_2 lf_X8_214 rfl rfl dX8_nextStep_21 (by decide) rfl rfl (leb rfl) (xx_out0 rfl)
  refine y_callV_i (pc := 21) (c_X7_minimumOf hl ec) q5 mf_X7_minimumOf tw_2_112 ts_1_2 lf_X8_214 rfl rfl dX8_nextStep_21 (by decide) rfl rfl (leb rfl) ?_
  refine x_bipush (pc := 24) (v := iN 99) dX8_nextStep_24 rfl ?_
  rcases bnd_some e with ⟨h11, r12, ec, rfl⟩ | ⟨h11, r12, ec, e⟩
  · exact y_callS_x (pc := 26) (c_X8_isWithin hl ec) mf_X8_isWithin tw_3_26 lf_X8_72 dX8_nextStep_26 (by decide) rfl rfl (leb rfl) (xx_out0 rfl)
  refine y_callS_i (pc := 26) (c_X8_isWithin hl ec) mf_X8_isWithin tw_3_26 lf_X8_72 dX8_nextStep_26 (by decide) rfl rfl (leb rfl) ?_
  rcases bnd_some e with ⟨h13, r14, ec, rfl⟩ | ⟨h13, r14, ec, e⟩
  · exact y_callS_x (pc := 29) (c_X8_requireArgument hl ec) mf_X8_requireArgument tw_3_84 lf_X8_76 dX8_nextStep_29 (by decide) rfl rfl (leb rfl) (xx_out0 rfl)
  refine y_callS_v (pc := 29) (c_X8_requireArgument hl ec) mf_X8_requireArgument tw_3_84 lf_X8_76 dX8_nextStep_29 (by decide) rfl rfl (leb rfl) ?_
  refine x_aload_n (pc := 32) 1 dX8_nextStep_32 rfl ?_
  obtain ⟨q15, e⟩ := chk_some e
  obtain ⟨q16, e⟩ := chk_some e
  refine x_getR (pc := 33) gf_X8_10 rfl dX8_nextStep_33 q15 q16.1 ?_
  refine x_aload_n (pc := 36) 0 dX8_nextStep_36 rfl ?_
  refine x_iload_n (pc := 37) 3 dX8_nextStep_37 rfl ?_
  rcases bnd_some e with ⟨h17, r18, ec, rfl⟩ | ⟨h17, r18, ec, e⟩
  · exact y_callV_x (pc := 38) (c_X7_heightWithin hl ec) q16 mf_X7_heightWithin tw_3_19 ts_2_8 lf_X8_239 rfl rfl dX8_nextStep_38 (by decide) rfl rfl (leb rfl) (xx_out0 rfl)
  refine y_callV_i (pc := 38) (c_X7_heightWithin hl ec) q16 mf_X7_heightWithin tw_3_19 ts_2_8 lf_X8_239 rfl rfl dX8_nextStep_38 (by decide) rfl rfl (leb rfl) ?_
  refine x_istore (pc := 41) dX8_nextStep_41 (by decide) rfl ?_
  refine x_iload_n (pc := 43) 4 dX8_nextStep_43 rfl ?_
  refine x_iconst (pc := 44) dX8_nextStep_44 ?_
  refine x_iadd (pc := 45) dX8_nextStep_45 ?_
  refine x_istore (pc := 46) dX8_nextStep_46 (by decide) rfl ?_
  exact x_sub1 (p_X8_nextStep_L48 hl 2000 _ _ _ _ _ _ e) [3, 2, 1, 0] rfl
abbrev w_X8_nextStep : Cond := (Cond.code yX8_nextStep cX8_nextStep 6 (Option.some Jvm.ClassFile.FieldType.int))
theorem mf_X8_nextStep : MF yX8_nextStep w_X8_nextStep cX8_nextStep 6 (Option.some Jvm.ClassFile.FieldType.int) 2 := ⟨⟨rfl, tw_5_153, by decide⟩, tw_1_1, ⟨by decide, by decide⟩, by decide +kernel⟩
theorem c_X8_nextStep {l : Launch} {K : Ctx} (hl : l.stackTraces = false) {h : Hp} {a0 : Nat} {i1 : Int32} {i2 : Int32} {t : Rs Int32} (e : f_X8_nextStep h a0 i1 i2 = some t) : Ctr l K 11 yX8_nextStep w_X8_nextStep [.ref a0, .int i1, .int i2] h (tgI t) :=
  Ctr.of hl mf_X8_nextStep false (fun q => nomatch q) rfl (leb rfl) (p_X8_nextStep hl e)
/-! ## TableColumnBalancerLaw.nextStep -/
abbrev mM_L_nextStep : Mi := (12, yL_nextStep.cls, cL_nextStep, 5, (Option.some Jvm.ClassFile.FieldType.int), [((0 : Nat), (10 : Nat), (13 : Nat), (21 : Nat)), ((0 : Nat), (10 : Nat), (17 : Nat), (13 : Nat)), ((0 : Nat), (10 : Nat), (21 : Nat), (73 : Nat))], false)
noncomputable def f_L_nextStep (h : Hp) (a0 : Nat) (i1 : Int32) (i2 : Int32) (a3 : Nat) : Option (Rs Int32) :=
  chk (okr h a0 8) <|
  bndX (f_X8_nextStep h a0 i1 i2) (fun h2 r3 => (
    chk (okr h2 a3 21) <|
    chk (vp_in (iN 0) (qW h2 a3)) <|
    lt (putL h2 a3 (Int32.toNatClampNeg (iN 0)) (Int32.toInt64 r3)) fun h6 =>
    some (h6, .inr (iN 0))
  )) fun h2 k =>
  if k = 2 then (
    some (h2, .inr (iN 1))
  ) else
  if k = 1 then (
    some (h2, .inr (iN 2))
  ) else
  if k = 5 then (
    some (h2, .inr (iN 3))
  ) else
  none
theorem p_L_nextStep {l : Launch} {K : Ctx} (hl : l.stackTraces = false) {h : Hp} {a0 : Nat} {i1 : Int32} {i2 : Int32} {a3 : Nat} {t : Rs Int32} (e : f_L_nextStep h a0 i1 i2 a3 = some t) : X l K mM_L_nextStep (tgI t) 0 [(0, .ref a0), (1, .int i1), (2, .int i2), (3, .ref a3)] [] h := by
  unfold f_L_nextStep at e
  refine x_aload_n (pc := 0) 3 dL_nextStep_0 rfl ?_
  refine x_iconst (pc := 1) dL_nextStep_1 ?_
  refine x_aload_n (pc := 2) 0 dL_nextStep_2 rfl ?_
  refine x_iload_n (pc := 3) 1 dL_nextStep_3 rfl ?_
  refine x_iload_n (pc := 4) 2 dL_nextStep_4 rfl ?_
  obtain ⟨q1, e⟩ := chk_some e
  rcases bndX_some e with ⟨h2, k, ec, e⟩ | ⟨h2, r3, ec, e⟩
  · rcases ite_some e with ⟨q7, e⟩ | ⟨q7, e⟩
    · subst q7
      refine y_callV_x (pc := 5) (c_X8_nextStep hl ec) q1 mf_X8_nextStep tw_5_151 tw_5_152 lf_L_78 rfl rfl dL_nextStep_5 (by decide) rfl rfl (leb rfl) (xx_catchA (pc := 5) [] [(0, 10, 17, 13), (0, 10, 21, 73)] (0, 10, 13, 21) rfl (by decide) (fun _ hz => absurd hz List.not_mem_nil) (by decide) (by decide) tw_3_187 tw_3_229 dL_nextStep_13 (by decide) rfl ?_)
      refine x_iconst (pc := 15) dL_nextStep_15 ?_
      cases Option.some.inj e
      exact x_iret (pc := 16) rfl dL_nextStep_16
    rcases ite_some e with ⟨q8, e⟩ | ⟨q8, e⟩
    · subst q8
      refine y_callV_x (pc := 5) (c_X8_nextStep hl ec) q1 mf_X8_nextStep tw_5_151 tw_5_152 lf_L_78 rfl rfl dL_nextStep_5 (by decide) rfl rfl (leb rfl) (xx_catchA (pc := 5) [(0, 10, 13, 21)] [(0, 10, 21, 73)] (0, 10, 17, 13) rfl (by decide) (List.forall_mem_cons.mpr ⟨⟨by decide, 2, by decide, by decide, tw_3_187⟩, fun _ hz => absurd hz List.not_mem_nil⟩) (by decide) (by decide) tw_3_76 tw_3_88 dL_nextStep_17 (by decide) rfl ?_)
      refine x_iconst (pc := 19) dL_nextStep_19 ?_
      cases Option.some.inj e
      exact x_iret (pc := 20) rfl dL_nextStep_20
    rcases ite_some e with ⟨q9, e⟩ | ⟨q9, e⟩
    · subst q9
      refine y_callV_x (pc := 5) (c_X8_nextStep hl ec) q1 mf_X8_nextStep tw_5_151 tw_5_152 lf_L_78 rfl rfl dL_nextStep_5 (by decide) rfl rfl (leb rfl) (xx_catchA (pc := 5) [(0, 10, 13, 21), (0, 10, 17, 13)] [] (0, 10, 21, 73) rfl (by decide) (List.forall_mem_cons.mpr ⟨⟨by decide, 2, by decide, by decide, tw_3_187⟩, List.forall_mem_cons.mpr ⟨⟨by decide, 1, by decide, by decide, tw_3_76⟩, fun _ hz => absurd hz List.not_mem_nil⟩⟩) (by decide) (by decide) tw_5_116 tw_5_126 dL_nextStep_21 (by decide) rfl ?_)
      refine x_iconst (pc := 23) dL_nextStep_23 ?_
      cases Option.some.inj e
      exact x_iret (pc := 24) rfl dL_nextStep_24
    cases e
  refine y_callV_i (pc := 5) (c_X8_nextStep hl ec) q1 mf_X8_nextStep tw_5_151 tw_5_152 lf_L_78 rfl rfl dL_nextStep_5 (by decide) rfl rfl (leb rfl) ?_
  refine x_i2l (pc := 8) dL_nextStep_8 ?_
  obtain ⟨q4, e⟩ := chk_some e
  obtain ⟨q5, e⟩ := chk_some e
  replace e := lt_go e
  refine x_last (pc := 9) dL_nextStep_9 q4 q5 ?_
  refine x_goto (pc := 10) (t := 25) dL_nextStep_10 (by decide) ?_
  refine x_iconst (pc := 25) dL_nextStep_25 ?_
  cases Option.some.inj e
  exact x_iret (pc := 26) rfl dL_nextStep_26
abbrev w_L_nextStep : Cond := (Cond.codeWith yL_nextStep cL_nextStep 5 (Option.some Jvm.ClassFile.FieldType.int) [((0 : Nat), (10 : Nat), (13 : Nat), (21 : Nat)), ((0 : Nat), (10 : Nat), (17 : Nat), (13 : Nat)), ((0 : Nat), (10 : Nat), (21 : Nat), (73 : Nat))])
theorem mf_L_nextStep : MFX yL_nextStep w_L_nextStep cL_nextStep 5 (Option.some Jvm.ClassFile.FieldType.int) 4 [((0 : Nat), (10 : Nat), (13 : Nat), (21 : Nat)), ((0 : Nat), (10 : Nat), (17 : Nat), (13 : Nat)), ((0 : Nat), (10 : Nat), (21 : Nat), (73 : Nat))] := ⟨⟨rfl, tw_5_149, by decide⟩, tw_1_0, ⟨by decide, by decide⟩, by decide +kernel⟩
theorem c_L_nextStep {l : Launch} {K : Ctx} (hl : l.stackTraces = false) {h : Hp} {a0 : Nat} {i1 : Int32} {i2 : Int32} {a3 : Nat} {t : Rs Int32} (e : f_L_nextStep h a0 i1 i2 a3 = some t) : Ctr l K 12 yL_nextStep w_L_nextStep [.ref a0, .int i1, .int i2, .ref a3] h (tgI t) :=
  Ctr.ofX hl mf_L_nextStep rfl (leb rfl) (p_L_nextStep hl e)
/-! ## TableColumnBalancerModel.nextStep -/
abbrev mM_X9_nextStep : Mi := (13, yX9_nextStep.cls, cX9_nextStep, 5, (Option.some Jvm.ClassFile.FieldType.int), [], false)
noncomputable def f_X9_nextStep_B51 (k51 : Hp → Nat → Int32 → Int32 → Int32 → Option (Rs Int32)) (h : Hp) (a0 : Nat) (i1 : Int32) (i3 : Int32) (i4 : Int32) : Option (Rs Int32) :=
  if (iN 99) < i4 then (
    chk (okr h a0 9) <|
    bnd (f_X9_fails h a0 (iN 3)) fun h3 r4 =>
    some (h3, .inr r4)
  ) else (
    chk (okr h a0 9) <|
    bnd (f_X9_heightOf h a0 i1 i4) fun h6 r7 =>
    if i3 ≤ r7 then (
      k51 h6 a0 i1 i3 (i4 + iN 1)
    ) else (
      some (h6, .inr i4)
    )
  )
theorem p_X9_nextStep_B51 {l : Launch} {K : Ctx} (hl : l.stackTraces = false) {k51 : Hp → Nat → Int32 → Int32 → Int32 → Option (Rs Int32)} (hk51 : ∀ (h : Hp) (a0 : Nat) (i1 : Int32) (i3 : Int32) (i4 : Int32) (t : Rs Int32), k51 h a0 i1 i3 i4 = some t → X l K mM_X9_nextStep (tgI t) 51 [(0, .ref a0), (1, .int i1), (3, .int i3), (4, .int i4)] [] h) {h : Hp} {a0 : Nat} {i1 : Int32} {i3 : Int32} {i4 : Int32} {t : Rs Int32} (e : f_X9_nextStep_B51 k51 h a0 i1 i3 i4 = some t) : X l K mM_X9_nextStep (tgI t) 51 [(0, .ref a0), (1, .int i1), (3, .int i3), (4, .int i4)] [] h := by
  unfold f_X9_nextStep_B51 at e
  refine x_iload (pc := 51) 3 dX9_nextStep_51 rfl ?_
  refine x_bipush (pc := 53) (v := iN 99) dX9_nextStep_53 rfl ?_
  rcases ite_some e with ⟨q1, e⟩ | ⟨q1, e⟩
  · refine x_icmp_gt_t (pc := 55) (t := 78) dX9_nextStep_55 (by decide) q1 ?_
    refine x_aload_n (pc := 78) 0 dX9_nextStep_78 rfl ?_
    refine x_iconst (pc := 79) dX9_nextStep_79 ?_
    obtain ⟨q2, e⟩ := chk_some e
    rcases bnd_some e with ⟨h3, r4, ec, rfl⟩ | ⟨h3, r4, ec, e⟩
    · exact y_callV_x (pc := 80) (c_X9_fails hl ec) q2 mf_X9_fails tw_7_24 ts_6_7 lf_X9_95 rfl rfl dX9_nextStep_80 (by decide) rfl rfl (leb rfl) (xx_out0 rfl)
    refine y_callV_i (pc := 80) (c_X9_fails hl ec) q2 mf_X9_fails tw_7_24 ts_6_7 lf_X9_95 rfl rfl dX9_nextStep_80 (by decide) rfl rfl (leb rfl) ?_
    cases Option.some.inj e
    exact x_iret (pc := 83) rfl dX9_nextStep_83
  · refine x_icmp_gt_f (pc := 55) (t := 78) dX9_nextStep_55 (by decide) q1 ?_
    refine x_aload_n (pc := 58) 0 dX9_nextStep_58 rfl ?_
    refine x_iload_n (pc := 59) 1 dX9_nextStep_59 rfl ?_
    refine x_iload (pc := 60) 3 dX9_nextStep_60 rfl ?_
    obtain ⟨q5, e⟩ := chk_some e
    rcases bnd_some e with ⟨h6, r7, ec, rfl⟩ | ⟨h6, r7, ec, e⟩
    · exact y_callV_x (pc := 62) (c_X9_heightOf hl ec) q5 mf_X9_heightOf tw_8_46 ts_9_0 lf_X9_299 rfl rfl dX9_nextStep_62 (by decide) rfl rfl (leb rfl) (xx_out0 rfl)
    refine y_callV_i (pc := 62) (c_X9_heightOf hl ec) q5 mf_X9_heightOf tw_8_46 ts_9_0 lf_X9_299 rfl rfl dX9_nextStep_62 (by decide) rfl rfl (leb rfl) ?_
    refine x_iload_n (pc := 65) 2 dX9_nextStep_65 rfl ?_
    rcases ite_some e with ⟨q8, e⟩ | ⟨q8, e⟩
    · refine x_icmp_ge_t (pc := 66) (t := 72) dX9_nextStep_66 (by decide) q8 ?_
      refine x_iinc (pc := 72) 3 dX9_nextStep_72 rfl (by decide) rfl ?_
      refine x_goto (pc := 75) (t := 51) dX9_nextStep_75 (by decide) ?_
      exact x_sub1 (hk51 _ _ _ _ _ _ e) [1, 2, 3, 0] rfl
    · refine x_icmp_ge_f (pc := 66) (t := 72) dX9_nextStep_66 (by decide) q8 ?_
      refine x_iload (pc := 69) 3 dX9_nextStep_69 rfl ?_
      cases Option.some.inj e
      exact x_iret (pc := 71) rfl dX9_nextStep_71
noncomputable def f_X9_nextStep_L51 (n : Nat) : Hp → Nat → Int32 → Int32 → Int32 → Option (Rs Int32) := Nat.rec (motive := fun _ => Hp → Nat → Int32 → Int32 → Int32 → Option (Rs Int32)) (fun _ _ _ _ _ => none) (fun _ r => f_X9_nextStep_B51 r) n
theorem p_X9_nextStep_L51 {l : Launch} {K : Ctx} (hl : l.stackTraces = false) : ∀ (n : Nat) (h : Hp) (a0 : Nat) (i1 : Int32) (i3 : Int32) (i4 : Int32) (t : Rs Int32) (e : f_X9_nextStep_L51 n h a0 i1 i3 i4 = some t), X l K mM_X9_nextStep (tgI t) 51 [(0, .ref a0), (1, .int i1), (3, .int i3), (4, .int i4)] [] h := by
  intro n
  induction n with
  | zero => exact fun _ _ _ _ _ _ e => nomatch (show (none : Option (Rs Int32)) = some _ from e)
  | succ n ih => exact fun h a0 i1 i3 i4 t e => p_X9_nextStep_B51 hl (fun h a0 i1 i3 i4 t e => ih h a0 i1 i3 i4 t e) e
noncomputable def f_X9_nextStep (h : Hp) (a0 : Nat) (i1 : Int32) (i2 : Int32) : Option (Rs Int32) :=
  chk (okr h a0 9) <|
  lt (putI h a0 0 (iN 0)) fun h2 =>
  bnd (f_X9_isCell h2 a0 i1) fun h3 r4 =>
  if r4 = 0 then (
    chk (okr h3 a0 9) <|
    bnd (f_X9_fails h3 a0 (iN 1)) fun h7 r8 =>
    some (h7, .inr r8)
  ) else (
    chk (okr h3 a0 9) <|
    bnd (f_X9_leastOf h3 a0 i1) fun h10 r11 =>
    bnd (f_X9_in h10 i2 r11 (iN 99)) fun h12 r13 =>
    if r13 = 0 then (
      chk (okr h12 a0 9) <|
      bnd (f_X9_fails h12 a0 (iN 2)) fun h16 r17 =>
      some (h16, .inr r17)
    ) else (
      chk (okr h12 a0 9) <|
      bnd (f_X9_heightOf h12 a0 i1 i2) fun h19 r20 =>
      f_X9_nextStep_L51 2000 h19 a0 i1 r20 (i2 + (iN 1))
    )
  )
theorem p_X9_nextStep {l : Launch} {K : Ctx} (hl : l.stackTraces = false) {h : Hp} {a0 : Nat} {i1 : Int32} {i2 : Int32} {t : Rs Int32} (e : f_X9_nextStep h a0 i1 i2 = some t) : X l K mM_X9_nextStep (tgI t) 0 [(0, .ref a0), (1, .int i1), (2, .int i2)] [] h := by
  unfold f_X9_nextStep at e
  refine x_aload_n (pc := 0) 0 dX9_nextStep_0 rfl ?_
  refine x_iconst (pc := 1) dX9_nextStep_1 ?_
  obtain ⟨q1, e⟩ := chk_some e
  replace e := lt_go e
  refine x_putI (pc := 2) pf_X9_84 rfl rfl rfl dX9_nextStep_2 q1 ?_
  refine x_aload_n (pc := 5) 0 dX9_nextStep_5 rfl ?_
  refine x_iload_n (pc := 6) 1 dX9_nextStep_6 rfl ?_
  rcases bnd_some e with ⟨h3, r4, ec, rfl⟩ | ⟨h3, r4, ec, e⟩
  · exact y_callV_x (pc := 7) (c_X9_isCell hl ec) (okr_pI q1) mf_X9_isCell tw_7_75 ts_6_14 lf_X9_120 rfl rfl dX9_nextStep_7 (by decide) rfl rfl (leb rfl) (xx_out0 rfl)
  refine y_callV_i (pc := 7) (c_X9_isCell hl ec) (okr_pI q1) mf_X9_isCell tw_7_75 ts_6_14 lf_X9_120 rfl rfl dX9_nextStep_7 (by decide) rfl rfl (leb rfl) ?_
  rcases ite_some e with ⟨q5, e⟩ | ⟨q5, e⟩
  · refine x_if_ne_f (pc := 10) (t := 19) dX9_nextStep_10 (by decide) q5 ?_
    refine x_aload_n (pc := 13) 0 dX9_nextStep_13 rfl ?_
    refine x_iconst (pc := 14) dX9_nextStep_14 ?_
    obtain ⟨q6, e⟩ := chk_some e
    rcases bnd_some e with ⟨h7, r8, ec, rfl⟩ | ⟨h7, r8, ec, e⟩
    · exact y_callV_x (pc := 15) (c_X9_fails hl ec) q6 mf_X9_fails tw_7_24 ts_6_7 lf_X9_95 rfl rfl dX9_nextStep_15 (by decide) rfl rfl (leb rfl) (xx_out0 rfl)
    refine y_callV_i (pc := 15) (c_X9_fails hl ec) q6 mf_X9_fails tw_7_24 ts_6_7 lf_X9_95 rfl rfl dX9_nextStep_15 (by decide) rfl rfl (leb rfl) ?_
    cases Option.some.inj e
    exact x_iret (pc := 18) rfl dX9_nextStep_18
  · refine x_if_ne_t (pc := 10) (t := 19) dX9_nextStep_10 (by decide) q5 ?_
    refine x_iload_n (pc := 19) 2 dX9_nextStep_19 rfl ?_
    refine x_aload_n (pc := 20) 0 dX9_nextStep_20 rfl ?_
    refine x_iload_n (pc := 21) 1 dX9_nextStep_21 rfl ?_
    obtain ⟨q9, e⟩ := chk_some e
    rcases bnd_some e with ⟨h10, r11, ec, rfl⟩ | ⟨h10, r11, ec, e⟩
    · exact y_callV_x (pc := 22) (c_X9_leastOf hl ec) q9 mf_X9_leastOf tw_7_235 ts_8_8 lf_X9_293 rfl rfl dX9_nextStep_22 (by decide) rfl rfl (leb rfl) (xx_out0 rfl)
    refine y_callV_i (pc := 22) (c_X9_leastOf hl ec) q9 mf_X9_leastOf tw_7_235 ts_8_8 lf_X9_293 rfl rfl dX9_nextStep_22 (by decide) rfl rfl (leb rfl) ?_
    refine x_bipush (pc := 25) (v := iN 99) dX9_nextStep_25 rfl ?_
    rcases bnd_some e with ⟨h12, r13, ec, rfl⟩ | ⟨h12, r13, ec, e⟩
    · exact y_callS_x (pc := 27) (c_X9_in hl ec) mf_X9_in tw_7_20 lf_X9_87 dX9_nextStep_27 (by decide) rfl rfl (leb rfl) (xx_out0 rfl)
    refine y_callS_i (pc := 27) (c_X9_in hl ec) mf_X9_in tw_7_20 lf_X9_87 dX9_nextStep_27 (by decide) rfl rfl (leb rfl) ?_
    rcases ite_some e with ⟨q14, e⟩ | ⟨q14, e⟩
    · refine x_if_ne_f (pc := 30) (t := 39) dX9_nextStep_30 (by decide) q14 ?_
      refine x_aload_n (pc := 33) 0 dX9_nextStep_33 rfl ?_
      refine x_iconst (pc := 34) dX9_nextStep_34 ?_
      obtain ⟨q15, e⟩ := chk_some e
      rcases bnd_some e with ⟨h16, r17, ec, rfl⟩ | ⟨h16, r17, ec, e⟩
      · exact y_callV_x (pc := 35) (c_X9_fails hl ec) q15 mf_X9_fails tw_7_24 ts_6_7 lf_X9_95 rfl rfl dX9_nextStep_35 (by decide) rfl rfl (leb rfl) (xx_out0 rfl)
      refine y_callV_i (pc := 35) (c_X9_fails hl ec) q15 mf_X9_fails tw_7_24 ts_6_7 lf_X9_95 rfl rfl dX9_nextStep_35 (by decide) rfl rfl (leb rfl) ?_
      cases Option.some.inj e
      exact x_iret (pc := 38) rfl dX9_nextStep_38
    · refine x_if_ne_t (pc := 30) (t := 39) dX9_nextStep_30 (by decide) q14 ?_
      refine x_aload_n (pc := 39) 0 dX9_nextStep_39 rfl ?_
      refine x_iload_n (pc := 40) 1 dX9_nextStep_40 rfl ?_
      refine x_iload_n (pc := 41) 2 dX9_nextStep_41 rfl ?_
      obtain ⟨q18, e⟩ := chk_some e
      rcases bnd_some e with ⟨h19, r20, ec, rfl⟩ | ⟨h19, r20, ec, e⟩
      · exact y_callV_x (pc := 42) (c_X9_heightOf hl ec) q18 mf_X9_heightOf tw_8_46 ts_9_0 lf_X9_299 rfl rfl dX9_nextStep_42 (by decide) rfl rfl (leb rfl) (xx_out0 rfl)
      refine y_callV_i (pc := 42) (c_X9_heightOf hl ec) q18 mf_X9_heightOf tw_8_46 ts_9_0 lf_X9_299 rfl rfl dX9_nextStep_42 (by decide) rfl rfl (leb rfl) ?_
      refine x_istore_n (pc := 45) dX9_nextStep_45 (by decide) rfl ?_
      refine x_iload_n (pc := 46) 3 dX9_nextStep_46 rfl ?_
      refine x_iconst (pc := 47) dX9_nextStep_47 ?_
      refine x_iadd (pc := 48) dX9_nextStep_48 ?_
      refine x_istore (pc := 49) dX9_nextStep_49 (by decide) rfl ?_
      exact x_sub1 (p_X9_nextStep_L51 hl 2000 _ _ _ _ _ _ e) [2, 3, 1, 0] rfl
abbrev w_X9_nextStep : Cond := (Cond.code yX9_nextStep cX9_nextStep 5 (Option.some Jvm.ClassFile.FieldType.int))
theorem mf_X9_nextStep : MF yX9_nextStep w_X9_nextStep cX9_nextStep 5 (Option.some Jvm.ClassFile.FieldType.int) 2 := ⟨⟨rfl, tw_8_55, by decide⟩, tw_1_11, ⟨by decide, by decide⟩, by decide +kernel⟩
theorem c_X9_nextStep {l : Launch} {K : Ctx} (hl : l.stackTraces = false) {h : Hp} {a0 : Nat} {i1 : Int32} {i2 : Int32} {t : Rs Int32} (e : f_X9_nextStep h a0 i1 i2 = some t) : Ctr l K 13 yX9_nextStep w_X9_nextStep [.ref a0, .int i1, .int i2] h (tgI t) :=
  Ctr.of hl mf_X9_nextStep false (fun q => nomatch q) rfl (leb rfl) (p_X9_nextStep hl e)
/-! ## TableColumnBalancer.columnWidth -/
abbrev mM_X8_columnWidth : Mi := (10, yX8_columnWidth.cls, cX8_columnWidth, 3, (Option.some Jvm.ClassFile.FieldType.int), [], false)
noncomputable def f_X8_columnWidth (h : Hp) (a0 : Nat) (i1 : Int32) (i2 : Int32) : Option (Rs Int32) :=
  chk (okr h a0 8) <|
  bnd (f_X8_requireColumn h a0 i1) fun h2 _ =>
  bnd (f_X8_isWithin h2 i2 (iN 0) (iN 2)) fun h4 r5 =>
  bnd (f_X8_requireArgument h4 r5) fun h6 _ =>
  if i2 = 0 then (
    chk (okr h6 a0 8) <|
    chk (okr h6 (qR h6 a0 1) 3) <|
    chk (okr h6 (qR h6 (qR h6 a0 1) 1) 20) <|
    chk (vp_in i1 (qW h6 (qR h6 (qR h6 a0 1) 1))) <|
    some (h6, .inr (qI h6 (qR h6 (qR h6 a0 1) 1) (Int32.toNatClampNeg i1)))
  ) else (
    if i2 = (iN 1) then (
      chk (okr h6 a0 8) <|
      chk (okr h6 (qR h6 a0 1) 3) <|
      chk (okr h6 (qR h6 (qR h6 a0 1) 2) 20) <|
      chk (vp_in i1 (qW h6 (qR h6 (qR h6 a0 1) 2))) <|
      some (h6, .inr (qI h6 (qR h6 (qR h6 a0 1) 2) (Int32.toNatClampNeg i1)))
    ) else (
      chk (okr h6 a0 8) <|
      chk (okr h6 (qR h6 a0 1) 3) <|
      chk (okr h6 (qR h6 (qR h6 a0 1) 3) 20) <|
      chk (vp_in i1 (qW h6 (qR h6 (qR h6 a0 1) 3))) <|
      some (h6, .inr (qI h6 (qR h6 (qR h6 a0 1) 3) (Int32.toNatClampNeg i1)))
    )
  )
theorem p_X8_columnWidth {l : Launch} {K : Ctx} (hl : l.stackTraces = false) {h : Hp} {a0 : Nat} {i1 : Int32} {i2 : Int32} {t : Rs Int32} (e : f_X8_columnWidth h a0 i1 i2 = some t) : X l K mM_X8_columnWidth (tgI t) 0 [(0, .ref a0), (1, .int i1), (2, .int i2)] [] h := by
  unfold f_X8_columnWidth at e
  refine x_aload_n (pc := 0) 0 dX8_columnWidth_0 rfl ?_
  refine x_iload_n (pc := 1) 1 dX8_columnWidth_1 rfl ?_
  obtain ⟨q1, e⟩ := chk_some e
  rcases bnd_some e with ⟨h2, r3, ec, rfl⟩ | ⟨h2, r3, ec, e⟩
  · exact y_callV_x (pc := 2) (c_X8_requireColumn hl ec) q1 mf_X8_requireColumn tw_4_11 ts_3_6 lf_X8_108 rfl rfl dX8_columnWidth_2 (by decide) rfl rfl (leb rfl) (xx_out0 rfl)
  refine y_callV_v (pc := 2) (c_X8_requireColumn hl ec) q1 mf_X8_requireColumn tw_4_11 ts_3_6 lf_X8_108 rfl rfl dX8_columnWidth_2 (by decide) rfl rfl (leb rfl) ?_
  refine x_iload_n (pc := 5) 2 dX8_columnWidth_5 rfl ?_
  refine x_iconst (pc := 6) dX8_columnWidth_6 ?_
  refine x_iconst (pc := 7) dX8_columnWidth_7 ?_
  rcases bnd_some e with ⟨h4, r5, ec, rfl⟩ | ⟨h4, r5, ec, e⟩
  · exact y_callS_x (pc := 8) (c_X8_isWithin hl ec) mf_X8_isWithin tw_3_26 lf_X8_72 dX8_columnWidth_8 (by decide) rfl rfl (leb rfl) (xx_out0 rfl)
  refine y_callS_i (pc := 8) (c_X8_isWithin hl ec) mf_X8_isWithin tw_3_26 lf_X8_72 dX8_columnWidth_8 (by decide) rfl rfl (leb rfl) ?_
  rcases bnd_some e with ⟨h6, r7, ec, rfl⟩ | ⟨h6, r7, ec, e⟩
  · exact y_callS_x (pc := 11) (c_X8_requireArgument hl ec) mf_X8_requireArgument tw_3_84 lf_X8_76 dX8_columnWidth_11 (by decide) rfl rfl (leb rfl) (xx_out0 rfl)
  refine y_callS_v (pc := 11) (c_X8_requireArgument hl ec) mf_X8_requireArgument tw_3_84 lf_X8_76 dX8_columnWidth_11 (by decide) rfl rfl (leb rfl) ?_
  refine x_iload_n (pc := 14) 2 dX8_columnWidth_14 rfl ?_
  rcases ite_some e with ⟨q8, e⟩ | ⟨q8, e⟩
  · refine x_if_ne_f (pc := 15) (t := 28) dX8_columnWidth_15 (by decide) q8 ?_
    refine x_aload_n (pc := 18) 0 dX8_columnWidth_18 rfl ?_
    obtain ⟨q9, e⟩ := chk_some e
    obtain ⟨q10, e⟩ := chk_some e
    refine x_getR (pc := 19) gf_X8_21 rfl dX8_columnWidth_19 q9 q10.1 ?_
    obtain ⟨q11, e⟩ := chk_some e
    refine x_getR (pc := 22) gf_X8_243 rfl dX8_columnWidth_22 q10 q11.1 ?_
    refine x_iload_n (pc := 25) 1 dX8_columnWidth_25 rfl ?_
    obtain ⟨q12, e⟩ := chk_some e
    refine x_iald (pc := 26) dX8_columnWidth_26 q11 q12 ?_
    cases Option.some.inj e
    exact x_iret (pc := 27) rfl dX8_columnWidth_27
  · refine x_if_ne_t (pc := 15) (t := 28) dX8_columnWidth_15 (by decide) q8 ?_
    refine x_iload_n (pc := 28) 2 dX8_columnWidth_28 rfl ?_
    refine x_iconst (pc := 29) dX8_columnWidth_29 ?_
    rcases ite_some e with ⟨q13, e⟩ | ⟨q13, e⟩
    · refine x_icmp_ne_f (pc := 30) (t := 45) dX8_columnWidth_30 (by decide) q13 ?_
      refine x_aload_n (pc := 33) 0 dX8_columnWidth_33 rfl ?_
      obtain ⟨q14, e⟩ := chk_some e
      obtain ⟨q15, e⟩ := chk_some e
      refine x_getR (pc := 34) gf_X8_21 rfl dX8_columnWidth_34 q14 q15.1 ?_
      obtain ⟨q16, e⟩ := chk_some e
      refine x_getR (pc := 37) gf_X8_246 rfl dX8_columnWidth_37 q15 q16.1 ?_
      refine x_iload_n (pc := 40) 1 dX8_columnWidth_40 rfl ?_
      obtain ⟨q17, e⟩ := chk_some e
      refine x_iald (pc := 41) dX8_columnWidth_41 q16 q17 ?_
      refine x_goto (pc := 42) (t := 54) dX8_columnWidth_42 (by decide) ?_
      cases Option.some.inj e
      exact x_iret (pc := 54) rfl dX8_columnWidth_54
    · refine x_icmp_ne_t (pc := 30) (t := 45) dX8_columnWidth_30 (by decide) q13 ?_
      refine x_aload_n (pc := 45) 0 dX8_columnWidth_45 rfl ?_
      obtain ⟨q18, e⟩ := chk_some e
      obtain ⟨q19, e⟩ := chk_some e
      refine x_getR (pc := 46) gf_X8_21 rfl dX8_columnWidth_46 q18 q19.1 ?_
      obtain ⟨q20, e⟩ := chk_some e
      refine x_getR (pc := 49) gf_X8_249 rfl dX8_columnWidth_49 q19 q20.1 ?_
      refine x_iload_n (pc := 52) 1 dX8_columnWidth_52 rfl ?_
      obtain ⟨q21, e⟩ := chk_some e
      refine x_iald (pc := 53) dX8_columnWidth_53 q20 q21 ?_
      cases Option.some.inj e
      exact x_iret (pc := 54) rfl dX8_columnWidth_54
abbrev w_X8_columnWidth : Cond := (Cond.code yX8_columnWidth cX8_columnWidth 3 (Option.some Jvm.ClassFile.FieldType.int))
theorem mf_X8_columnWidth : MF yX8_columnWidth w_X8_columnWidth cX8_columnWidth 3 (Option.some Jvm.ClassFile.FieldType.int) 2 := ⟨⟨rfl, tw_5_160, by decide⟩, tw_1_1, ⟨by decide, by decide⟩, by decide +kernel⟩
theorem c_X8_columnWidth {l : Launch} {K : Ctx} (hl : l.stackTraces = false) {h : Hp} {a0 : Nat} {i1 : Int32} {i2 : Int32} {t : Rs Int32} (e : f_X8_columnWidth h a0 i1 i2 = some t) : Ctr l K 10 yX8_columnWidth w_X8_columnWidth [.ref a0, .int i1, .int i2] h (tgI t) :=
  Ctr.of hl mf_X8_columnWidth false (fun q => nomatch q) rfl (leb rfl) (p_X8_columnWidth hl e)
/-! ## TableColumnBalancerLaw.columnWidth -/
abbrev mM_L_columnWidth : Mi := (11, yL_columnWidth.cls, cL_columnWidth, 5, (Option.some Jvm.ClassFile.FieldType.int), [((0 : Nat), (10 : Nat), (13 : Nat), (21 : Nat)), ((0 : Nat), (10 : Nat), (17 : Nat), (13 : Nat))], false)
noncomputable def f_L_columnWidth (h : Hp) (a0 : Nat) (i1 : Int32) (i2 : Int32) (a3 : Nat) : Option (Rs Int32) :=
  chk (okr h a0 8) <|
  bndX (f_X8_columnWidth h a0 i1 i2) (fun h2 r3 => (
    chk (okr h2 a3 21) <|
    chk (vp_in (iN 0) (qW h2 a3)) <|
    lt (putL h2 a3 (Int32.toNatClampNeg (iN 0)) (Int32.toInt64 r3)) fun h6 =>
    some (h6, .inr (iN 0))
  )) fun h2 k =>
  if k = 2 then (
    some (h2, .inr (iN 1))
  ) else
  if k = 1 then (
    some (h2, .inr (iN 2))
  ) else
  none
theorem p_L_columnWidth {l : Launch} {K : Ctx} (hl : l.stackTraces = false) {h : Hp} {a0 : Nat} {i1 : Int32} {i2 : Int32} {a3 : Nat} {t : Rs Int32} (e : f_L_columnWidth h a0 i1 i2 a3 = some t) : X l K mM_L_columnWidth (tgI t) 0 [(0, .ref a0), (1, .int i1), (2, .int i2), (3, .ref a3)] [] h := by
  unfold f_L_columnWidth at e
  refine x_aload_n (pc := 0) 3 dL_columnWidth_0 rfl ?_
  refine x_iconst (pc := 1) dL_columnWidth_1 ?_
  refine x_aload_n (pc := 2) 0 dL_columnWidth_2 rfl ?_
  refine x_iload_n (pc := 3) 1 dL_columnWidth_3 rfl ?_
  refine x_iload_n (pc := 4) 2 dL_columnWidth_4 rfl ?_
  obtain ⟨q1, e⟩ := chk_some e
  rcases bndX_some e with ⟨h2, k, ec, e⟩ | ⟨h2, r3, ec, e⟩
  · rcases ite_some e with ⟨q7, e⟩ | ⟨q7, e⟩
    · subst q7
      refine y_callV_x (pc := 5) (c_X8_columnWidth hl ec) q1 mf_X8_columnWidth tw_5_158 tw_5_159 lf_L_81 rfl rfl dL_columnWidth_5 (by decide) rfl rfl (leb rfl) (xx_catchA (pc := 5) [] [(0, 10, 17, 13)] (0, 10, 13, 21) rfl (by decide) (fun _ hz => absurd hz List.not_mem_nil) (by decide) (by decide) tw_3_187 tw_3_229 dL_columnWidth_13 (by decide) rfl ?_)
      refine x_iconst (pc := 15) dL_columnWidth_15 ?_
      cases Option.some.inj e
      exact x_iret (pc := 16) rfl dL_columnWidth_16
    rcases ite_some e with ⟨q8, e⟩ | ⟨q8, e⟩
    · subst q8
      refine y_callV_x (pc := 5) (c_X8_columnWidth hl ec) q1 mf_X8_columnWidth tw_5_158 tw_5_159 lf_L_81 rfl rfl dL_columnWidth_5 (by decide) rfl rfl (leb rfl) (xx_catchA (pc := 5) [(0, 10, 13, 21)] [] (0, 10, 17, 13) rfl (by decide) (List.forall_mem_cons.mpr ⟨⟨by decide, 2, by decide, by decide, tw_3_187⟩, fun _ hz => absurd hz List.not_mem_nil⟩) (by decide) (by decide) tw_3_76 tw_3_88 dL_columnWidth_17 (by decide) rfl ?_)
      refine x_iconst (pc := 19) dL_columnWidth_19 ?_
      cases Option.some.inj e
      exact x_iret (pc := 20) rfl dL_columnWidth_20
    cases e
  refine y_callV_i (pc := 5) (c_X8_columnWidth hl ec) q1 mf_X8_columnWidth tw_5_158 tw_5_159 lf_L_81 rfl rfl dL_columnWidth_5 (by decide) rfl rfl (leb rfl) ?_
  refine x_i2l (pc := 8) dL_columnWidth_8 ?_
  obtain ⟨q4, e⟩ := chk_some e
  obtain ⟨q5, e⟩ := chk_some e
  replace e := lt_go e
  refine x_last (pc := 9) dL_columnWidth_9 q4 q5 ?_
  refine x_goto (pc := 10) (t := 21) dL_columnWidth_10 (by decide) ?_
  refine x_iconst (pc := 21) dL_columnWidth_21 ?_
  cases Option.some.inj e
  exact x_iret (pc := 22) rfl dL_columnWidth_22
abbrev w_L_columnWidth : Cond := (Cond.codeWith yL_columnWidth cL_columnWidth 5 (Option.some Jvm.ClassFile.FieldType.int) [((0 : Nat), (10 : Nat), (13 : Nat), (21 : Nat)), ((0 : Nat), (10 : Nat), (17 : Nat), (13 : Nat))])
theorem mf_L_columnWidth : MFX yL_columnWidth w_L_columnWidth cL_columnWidth 5 (Option.some Jvm.ClassFile.FieldType.int) 4 [((0 : Nat), (10 : Nat), (13 : Nat), (21 : Nat)), ((0 : Nat), (10 : Nat), (17 : Nat), (13 : Nat))] := ⟨⟨rfl, tw_5_156, by decide⟩, tw_1_0, ⟨by decide, by decide⟩, by decide +kernel⟩
theorem c_L_columnWidth {l : Launch} {K : Ctx} (hl : l.stackTraces = false) {h : Hp} {a0 : Nat} {i1 : Int32} {i2 : Int32} {a3 : Nat} {t : Rs Int32} (e : f_L_columnWidth h a0 i1 i2 a3 = some t) : Ctr l K 11 yL_columnWidth w_L_columnWidth [.ref a0, .int i1, .int i2, .ref a3] h (tgI t) :=
  Ctr.ofX hl mf_L_columnWidth rfl (leb rfl) (p_L_columnWidth hl e)
/-! ## TableColumnBalancerModel.isFixed -/
abbrev mM_X9_isFixed : Mi := (9, yX9_isFixed.cls, cX9_isFixed, 2, (Option.some Jvm.ClassFile.FieldType.boolean), [], false)
noncomputable def f_X9_isFixed (h : Hp) (a0 : Nat) (i1 : Int32) : Option (Rs Int32) :=
  chk (okr h a0 9) <|
  chk (okr h (qR h a0 1) 20) <|
  chk (vp_in ((iN 6) + i1) (qW h (qR h a0 1))) <|
  bnd (f_X9_in h (qI h (qR h a0 1) (Int32.toNatClampNeg ((iN 6) + i1))) (iN 100) (iN 199)) fun h4 r5 =>
  chk (r5 = 0 ∨ r5 = 1) <|
  some (h4, .inr r5)
theorem p_X9_isFixed {l : Launch} {K : Ctx} (hl : l.stackTraces = false) {h : Hp} {a0 : Nat} {i1 : Int32} {t : Rs Int32} (e : f_X9_isFixed h a0 i1 = some t) : X l K mM_X9_isFixed (tgI t) 0 [(0, .ref a0), (1, .int i1)] [] h := by
  unfold f_X9_isFixed at e
  refine x_aload_n (pc := 0) 0 dX9_isFixed_0 rfl ?_
  obtain ⟨q1, e⟩ := chk_some e
  obtain ⟨q2, e⟩ := chk_some e
  refine x_getR (pc := 1) gf_X9_9 rfl dX9_isFixed_1 q1 q2.1 ?_
  refine x_bipush (pc := 4) (v := iN 6) dX9_isFixed_4 rfl ?_
  refine x_iload_n (pc := 6) 1 dX9_isFixed_6 rfl ?_
  refine x_iadd (pc := 7) dX9_isFixed_7 ?_
  obtain ⟨q3, e⟩ := chk_some e
  refine x_iald (pc := 8) dX9_isFixed_8 q2 q3 ?_
  refine x_bipush (pc := 9) (v := iN 100) dX9_isFixed_9 rfl ?_
  refine x_sipush (pc := 11) (v := iN 199) dX9_isFixed_11 rfl ?_
  rcases bnd_some e with ⟨h4, r5, ec, rfl⟩ | ⟨h4, r5, ec, e⟩
  · exact y_callS_x (pc := 14) (c_X9_in hl ec) mf_X9_in tw_7_20 lf_X9_87 dX9_isFixed_14 (by decide) rfl rfl (leb rfl) (xx_out0 rfl)
  refine y_callS_i (pc := 14) (c_X9_in hl ec) mf_X9_in tw_7_20 lf_X9_87 dX9_isFixed_14 (by decide) rfl rfl (leb rfl) ?_
  obtain ⟨q6, e⟩ := chk_some e
  cases Option.some.inj e
  exact x_zret (pc := 17) rfl q6 dX9_isFixed_17
abbrev w_X9_isFixed : Cond := (Cond.code yX9_isFixed cX9_isFixed 2 (Option.some Jvm.ClassFile.FieldType.boolean))
theorem mf_X9_isFixed : MF yX9_isFixed w_X9_isFixed cX9_isFixed 2 (Option.some Jvm.ClassFile.FieldType.boolean) 1 := ⟨⟨rfl, tw_8_67, by decide⟩, tw_1_11, ⟨by decide, by decide⟩, by decide +kernel⟩
theorem c_X9_isFixed {l : Launch} {K : Ctx} (hl : l.stackTraces = false) {h : Hp} {a0 : Nat} {i1 : Int32} {t : Rs Int32} (e : f_X9_isFixed h a0 i1 = some t) : Ctr l K 9 yX9_isFixed w_X9_isFixed [.ref a0, .int i1] h (tgI t) :=
  Ctr.of hl mf_X9_isFixed false (fun q => nomatch q) rfl (leb rfl) (p_X9_isFixed hl e)
