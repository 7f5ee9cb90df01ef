/-! ===== the methods as functions, each with its proof: made by program (gen_fun.py) ===== -/
theorem lk_hit {ps : List (Int × Int)} {d off : Int} {x k : Int32} (h : x = k) (e : Op.lookupswitch.offset ps d k.toInt = off) : Op.lookupswitch.offset ps d x.toInt = off := by rw [h]; exact e
theorem lk_no {x k : Int32} {a o d off : Int} {r : List (Int × Int)} (h : ¬ x = k) (hk : k.toInt = a) (e : Op.lookupswitch.offset r d x.toInt = off) : Op.lookupswitch.offset ((a, o) :: r) d x.toInt = off := (lv_osw h hk).trans e
/-! ## TableColumnBalancer.requireSupport -/
abbrev mM_X8_requireSupport : Mi := (8, yX8_requireSupport.cls, cX8_requireSupport, 1, (Option.none : Option Jvm.ClassFile.FieldType), [], false)
noncomputable def f_X8_requireSupport (h : Hp) (i0 : Int32) : Option (Rs Unit) :=
  if i0 = 0 then (
    some (bump h, .inl 4)
  ) else (
    some (h, .inr ())
  )
theorem p_X8_requireSupport {l : Launch} {K : Ctx} (hl : l.stackTraces = false) {h : Hp} {i0 : Int32} {t : Rs Unit} (e : f_X8_requireSupport h i0 = some t) : X l K mM_X8_requireSupport (tgV t) 0 [(0, .int i0)] [] h := by
  unfold f_X8_requireSupport at e
  refine x_iload_n (pc := 0) 0 dX8_requireSupport_0 rfl ?_
  rcases ite_some e with ⟨q1, e⟩ | ⟨q1, e⟩
  · refine x_if_ne_f (pc := 1) (t := 12) dX8_requireSupport_1 (by decide) q1 ?_
    cases Option.some.inj e
    exact x_throw (pc := 4) (ic := 364) rfl tw_4_89 tw_1_20 th_X8_364 (by decide) tg_X8_364 dX8_requireSupport_4 dX8_requireSupport_7 dX8_requireSupport_8 dX8_requireSupport_11 (by decide) (leb rfl)
  · refine x_if_ne_t (pc := 1) (t := 12) dX8_requireSupport_1 (by decide) q1 ?_
    cases Option.some.inj e
    exact x_vret (pc := 12) rfl dX8_requireSupport_12
abbrev w_X8_requireSupport : Cond := (Cond.code yX8_requireSupport cX8_requireSupport 1 (Option.none : Option Jvm.ClassFile.FieldType))
theorem mf_X8_requireSupport : MF yX8_requireSupport w_X8_requireSupport cX8_requireSupport 1 (Option.none : Option Jvm.ClassFile.FieldType) 1 := ⟨⟨rfl, tw_4_88, by decide⟩, tw_1_1, ⟨by decide, by decide⟩, by decide +kernel⟩
theorem c_X8_requireSupport {l : Launch} {K : Ctx} (hl : l.stackTraces = false) {h : Hp} {i0 : Int32} {t : Rs Unit} (e : f_X8_requireSupport h i0 = some t) : Ctr l K 8 yX8_requireSupport w_X8_requireSupport [.int i0] h (tgV t) :=
  Ctr.of hl mf_X8_requireSupport false (fun q => nomatch q) rfl (leb rfl) (p_X8_requireSupport hl e)
/-! ## TableColumnBalancer.textOf -/
abbrev mM_X8_textOf : Mi := (10, yX8_textOf.cls, cX8_textOf, 3, (Option.some (Jvm.ClassFile.FieldType.object "TableColumnBalancer$Content")), [], false)
noncomputable def f_X8_textOf (h : Hp) (a0 : Nat) (i1 : Int32) : Option (Rs Nat) :=
  chk (okr h a0 8) <|
  bnd (f_X8_requireCell h a0 i1) fun h2 _ =>
  chk (okr h2 a0 8) <|
  chk (okr h2 (qR h2 a0 0) 7) <|
  chk (okr h2 (qR h2 (qR h2 a0 0) 8) 25) <|
  chk (vp_in i1 (qW h2 (qR h2 (qR h2 a0 0) 8))) <|
  chk (okr h2 (qR h2 (qR h2 (qR h2 a0 0) 8) (Int32.toNatClampNeg i1)) 1) <|
  chk (okr h2 (qR h2 (qR h2 (qR h2 (qR h2 a0 0) 8) (Int32.toNatClampNeg i1)) 3) 4) <|
  bnd (f_X4_isText h2 (qR h2 (qR h2 (qR h2 (qR h2 a0 0) 8) (Int32.toNatClampNeg i1)) 3)) fun h10 r11 =>
  bnd (f_X8_requireSupport h10 r11) fun h12 _ =>
  some (h12, .inr (qR h2 (qR h2 (qR h2 (qR h2 a0 0) 8) (Int32.toNatClampNeg i1)) 3))
theorem p_X8_textOf {l : Launch} {K : Ctx} (hl : l.stackTraces = false) {h : Hp} {a0 : Nat} {i1 : Int32} {t : Rs Nat} (e : f_X8_textOf h a0 i1 = some t) : X l K mM_X8_textOf (tgR t) 0 [(0, .ref a0), (1, .int i1)] [] h := by
  unfold f_X8_textOf at e
  refine x_aload_n (pc := 0) 0 dX8_textOf_0 rfl ?_
  refine x_iload_n (pc := 1) 1 dX8_textOf_1 rfl ?_
  obtain ⟨q1, e⟩ := chk_some e
  rcases bnd_some e with ⟨h2, r3, ec, rfl⟩ | ⟨h2, r3, ec, e⟩
  · exact y_callV_x (pc := 2) (c_X8_requireCell hl ec) q1 mf_X8_requireCell tw_4_67 ts_3_14 lf_X8_139 rfl rfl dX8_textOf_2 (by decide) rfl rfl (leb rfl) (xx_out0 rfl)
  refine y_callV_v (pc := 2) (c_X8_requireCell hl ec) q1 mf_X8_requireCell tw_4_67 ts_3_14 lf_X8_139 rfl rfl dX8_textOf_2 (by decide) rfl rfl (leb rfl) ?_
  refine x_aload_n (pc := 5) 0 dX8_textOf_5 rfl ?_
  obtain ⟨q4, e⟩ := chk_some e
  obtain ⟨q5, e⟩ := chk_some e
  refine x_getR (pc := 6) gf_X8_10 rfl dX8_textOf_6 q4 q5.1 ?_
  obtain ⟨q6, e⟩ := chk_some e
  refine x_getR (pc := 9) gf_X8_159 rfl dX8_textOf_9 q5 q6.1 ?_
  refine x_iload_n (pc := 12) 1 dX8_textOf_12 rfl ?_
  obtain ⟨q7, e⟩ := chk_some e
  obtain ⟨q8, e⟩ := chk_some e
  refine x_aald (pc := 13) (t := 1) (by decide) dX8_textOf_13 q6 q7 q8.1 ?_
  obtain ⟨q9, e⟩ := chk_some e
  refine x_getR (pc := 14) gf_X8_163 rfl dX8_textOf_14 q8 q9.1 ?_
  refine x_astore_n (pc := 17) dX8_textOf_17 (by decide) rfl ?_
  refine x_aload_n (pc := 18) 0 dX8_textOf_18 rfl ?_
  rcases bnd_some e with ⟨h10, r11, ec, rfl⟩ | ⟨h10, r11, ec, e⟩
  · exact y_callV_x (pc := 19) (c_X4_isText hl ec) q9 mf_X4_isText tw_2_120 ts_1_4 lf_X8_169 rfl rfl dX8_textOf_19 (by decide) rfl rfl (leb rfl) (xx_out0 rfl)
  refine y_callV_i (pc := 19) (c_X4_isText hl ec) q9 mf_X4_isText tw_2_120 ts_1_4 lf_X8_169 rfl rfl dX8_textOf_19 (by decide) rfl rfl (leb rfl) ?_
  rcases bnd_some e with ⟨h12, r13, ec, rfl⟩ | ⟨h12, r13, ec, e⟩
  · exact y_callS_x (pc := 22) (c_X8_requireSupport hl ec) mf_X8_requireSupport tw_4_87 lf_X8_173 dX8_textOf_22 (by decide) rfl rfl (leb rfl) (xx_out0 rfl)
  refine y_callS_v (pc := 22) (c_X8_requireSupport hl ec) mf_X8_requireSupport tw_4_87 lf_X8_173 dX8_textOf_22 (by decide) rfl rfl (leb rfl) ?_
  refine x_aload_n (pc := 25) 0 dX8_textOf_25 rfl ?_
  cases Option.some.inj e
  exact x_aret (pc := 26) rfl (Or.inl ⟨_, rfl⟩) dX8_textOf_26
abbrev w_X8_textOf : Cond := (Cond.code yX8_textOf cX8_textOf 3 (Option.some (Jvm.ClassFile.FieldType.object "TableColumnBalancer$Content")))
theorem mf_X8_textOf : MF yX8_textOf w_X8_textOf cX8_textOf 3 (Option.some (Jvm.ClassFile.FieldType.object "TableColumnBalancer$Content")) 1 := ⟨⟨rfl, tw_4_84, by decide⟩, tw_1_1, ⟨by decide, by decide⟩, by decide +kernel⟩
theorem c_X8_textOf {l : Launch} {K : Ctx} (hl : l.stackTraces = false) {h : Hp} {a0 : Nat} {i1 : Int32} {t : Rs Nat} (e : f_X8_textOf h a0 i1 = some t) : Ctr l K 10 yX8_textOf w_X8_textOf [.ref a0, .int i1] h (tgR t) :=
  Ctr.of hl mf_X8_textOf false (fun q => nomatch q) rfl (leb rfl) (p_X8_textOf hl e)
/-! ## TableColumnBalancer$Content.push -/
abbrev mM_X4_push : Mi := (10, yX4_push.cls, cX4_push, 3, (Option.none : Option Jvm.ClassFile.FieldType), [], false)
noncomputable def f_X4_push_L39 (h : Hp) (a0 : Nat) : Option (Rs Unit) :=
  chk (okr h a0 4) <|
  bnd (f_X4_settle h a0) fun h2 _ =>
  some (h2, .inr ())
theorem p_X4_push_L39 {l : Launch} {K : Ctx} (hl : l.stackTraces = false) {h : Hp} {a0 : Nat} {t : Rs Unit} (e : f_X4_push_L39 h a0 = some t) : X l K mM_X4_push (tgV t) 39 [(0, .ref a0)] [] h := by
  unfold f_X4_push_L39 at e
  refine x_aload_n (pc := 39) 0 dX4_push_39 rfl ?_
  obtain ⟨q1, e⟩ := chk_some e
  rcases bnd_some e with ⟨h2, r3, ec, rfl⟩ | ⟨h2, r3, ec, e⟩
  · exact y_callV_x (pc := 40) (c_X4_settle hl ec) q1 mf_X4_settle tw_4_47 ts_3_11 lf_X4_47 rfl rfl dX4_push_40 (by decide) rfl rfl (leb rfl) (xx_out0 rfl)
  refine y_callV_v (pc := 40) (c_X4_settle hl ec) q1 mf_X4_settle tw_4_47 ts_3_11 lf_X4_47 rfl rfl dX4_push_40 (by decide) rfl rfl (leb rfl) ?_
  cases Option.some.inj e
  exact x_vret (pc := 43) rfl dX4_push_43
noncomputable def f_X4_push (h : Hp) (a0 : Nat) (i1 : Int32) (i2 : Int32) : Option (Rs Unit) :=
  chk (okr h a0 4) <|
  if (iN 12) ≤ (qI h a0 3) then (
    f_X4_push_L39 h a0
  ) else (
    chk (okr h (qR h a0 5) 20) <|
    chk (vp_in (qI h a0 3) (qW h (qR h a0 5))) <|
    lt (putI h (qR h a0 5) (Int32.toNatClampNeg (qI h a0 3)) i1) fun h5 =>
    chk (okr h5 (qR h5 a0 6) 20) <|
    chk (vp_in (qI h5 a0 3) (qW h5 (qR h5 a0 6))) <|
    lt (putI h5 (qR h5 a0 6) (Int32.toNatClampNeg (qI h5 a0 3)) i2) fun h8 =>
    lt (putI h8 a0 3 ((qI h8 a0 3) + (iN 1))) fun h9 =>
    f_X4_push_L39 h9 a0
  )
theorem p_X4_push {l : Launch} {K : Ctx} (hl : l.stackTraces = false) {h : Hp} {a0 : Nat} {i1 : Int32} {i2 : Int32} {t : Rs Unit} (e : f_X4_push h a0 i1 i2 = some t) : X l K mM_X4_push (tgV t) 0 [(0, .ref a0), (1, .int i1), (2, .int i2)] [] h := by
  unfold f_X4_push at e
  refine x_aload_n (pc := 0) 0 dX4_push_0 rfl ?_
  obtain ⟨q1, e⟩ := chk_some e
  refine x_getI (pc := 1) gf_X4_44 rfl dX4_push_1 q1 ?_
  refine x_bipush (pc := 4) (v := iN 12) dX4_push_4 rfl ?_
  rcases ite_some e with ⟨q2, e⟩ | ⟨q2, e⟩
  · refine x_icmp_ge_t (pc := 6) (t := 39) dX4_push_6 (by decide) q2 ?_
    exact x_sub1 (p_X4_push_L39 hl e) [0] rfl
  · refine x_icmp_ge_f (pc := 6) (t := 39) dX4_push_6 (by decide) q2 ?_
    refine x_aload_n (pc := 9) 0 dX4_push_9 rfl ?_
    obtain ⟨q3, e⟩ := chk_some e
    refine x_getR (pc := 10) gf_X4_9 rfl dX4_push_10 q1 q3.1 ?_
    refine x_aload_n (pc := 13) 0 dX4_push_13 rfl ?_
    refine x_getI (pc := 14) gf_X4_44 rfl dX4_push_14 q1 ?_
    refine x_iload_n (pc := 17) 1 dX4_push_17 rfl ?_
    obtain ⟨q4, e⟩ := chk_some e
    replace e := lt_go e
    refine x_iast (pc := 18) dX4_push_18 q3 q4 ?_
    refine x_aload_n (pc := 19) 0 dX4_push_19 rfl ?_
    obtain ⟨q6, e⟩ := chk_some e
    refine x_getR (pc := 20) gf_X4_15 rfl dX4_push_20 (okr_pI q1) q6.1 ?_
    refine x_aload_n (pc := 23) 0 dX4_push_23 rfl ?_
    refine x_getI (pc := 24) gf_X4_44 rfl dX4_push_24 (okr_pI q1) ?_
    refine x_iload_n (pc := 27) 2 dX4_push_27 rfl ?_
    obtain ⟨q7, e⟩ := chk_some e
    replace e := lt_go e
    refine x_iast (pc := 28) dX4_push_28 q6 q7 ?_
    refine x_aload_n (pc := 29) 0 dX4_push_29 rfl ?_
    refine x_dup (pc := 30) dX4_push_30 rfl ?_
    refine x_getI (pc := 31) gf_X4_44 rfl dX4_push_31 (okr_pI (okr_pI q1)) ?_
    refine x_iconst (pc := 34) dX4_push_34 ?_
    refine x_iadd (pc := 35) dX4_push_35 ?_
    replace e := lt_go e
    refine x_putI (pc := 36) pf_X4_44 rfl rfl rfl dX4_push_36 (okr_pI (okr_pI q1)) ?_
    exact x_sub1 (p_X4_push_L39 hl e) [0] rfl
abbrev w_X4_push : Cond := (Cond.code yX4_push cX4_push 3 (Option.none : Option Jvm.ClassFile.FieldType))
theorem mf_X4_push : MF yX4_push w_X4_push cX4_push 3 (Option.none : Option Jvm.ClassFile.FieldType) 2 := ⟨⟨rfl, tw_4_107, by decide⟩, tw_1_4, ⟨by decide, by decide⟩, by decide +kernel⟩
theorem c_X4_push {l : Launch} {K : Ctx} (hl : l.stackTraces = false) {h : Hp} {a0 : Nat} {i1 : Int32} {i2 : Int32} {t : Rs Unit} (e : f_X4_push h a0 i1 i2 = some t) : Ctr l K 10 yX4_push w_X4_push [.ref a0, .int i1, .int i2] h (tgV t) :=
  Ctr.of hl mf_X4_push false (fun q => nomatch q) rfl (leb rfl) (p_X4_push hl e)
/-! ## TableColumnBalancer.addWord -/
abbrev mM_X8_addWord : Mi := (14, yX8_addWord.cls, cX8_addWord, 5, (Option.some Jvm.ClassFile.FieldType.int), [], false)
noncomputable def f_X8_addWord_L41 (h : Hp) (a0 : Nat) (i2 : Int32) (i3 : Int32) (a4 : Nat) (s0 : Int32) : Option (Rs Int32) :=
  bnd (f_X8_requireState h s0) fun h1 _ =>
  chk (okr h1 a4 4) <|
  bnd (f_X4_push h1 a4 i2 i3) fun h4 _ =>
  chk (okr h4 a0 8) <|
  bnd (f_X8_changed h4 a0) fun h7 _ =>
  chk (okr h7 a4 4) <|
  some (h7, .inr (qI h7 a4 3))
theorem p_X8_addWord_L41 {l : Launch} {K : Ctx} (hl : l.stackTraces = false) {h : Hp} {a0 : Nat} {i2 : Int32} {i3 : Int32} {a4 : Nat} {s0 : Int32} {t : Rs Int32} (e : f_X8_addWord_L41 h a0 i2 i3 a4 s0 = some t) : X l K mM_X8_addWord (tgI t) 41 [(0, .ref a0), (2, .int i2), (3, .int i3), (4, .ref a4)] [.int s0] h := by
  unfold f_X8_addWord_L41 at e
  rcases bnd_some e with ⟨h1, r2, ec, rfl⟩ | ⟨h1, r2, ec, e⟩
  · exact y_callS_x (pc := 41) (c_X8_requireState hl ec) mf_X8_requireState tw_3_155 lf_X8_84 dX8_addWord_41 (by decide) rfl rfl (leb rfl) (xx_out0 rfl)
  refine y_callS_v (pc := 41) (c_X8_requireState hl ec) mf_X8_requireState tw_3_155 lf_X8_84 dX8_addWord_41 (by decide) rfl rfl (leb rfl) ?_
  refine x_aload (pc := 44) 3 dX8_addWord_44 rfl ?_
  refine x_iload_n (pc := 46) 1 dX8_addWord_46 rfl ?_
  refine x_iload_n (pc := 47) 2 dX8_addWord_47 rfl ?_
  obtain ⟨q3, e⟩ := chk_some e
  rcases bnd_some e with ⟨h4, r5, ec, rfl⟩ | ⟨h4, r5, ec, e⟩
  · exact y_callV_x (pc := 48) (c_X4_push hl ec) q3 mf_X4_push tw_4_106 ts_4_1 lf_X8_152 rfl rfl dX8_addWord_48 (by decide) rfl rfl (leb rfl) (xx_out0 rfl)
  refine y_callV_v (pc := 48) (c_X4_push hl ec) q3 mf_X4_push tw_4_106 ts_4_1 lf_X8_152 rfl rfl dX8_addWord_48 (by decide) rfl rfl (leb rfl) ?_
  refine x_aload_n (pc := 51) 0 dX8_addWord_51 rfl ?_
  obtain ⟨q6, e⟩ := chk_some e
  rcases bnd_some e with ⟨h7, r8, ec, rfl⟩ | ⟨h7, r8, ec, e⟩
  · exact y_callV_x (pc := 52) (c_X8_changed hl ec) q6 mf_X8_changed tw_3_182 ts_3_5 lf_X8_93 rfl rfl dX8_addWord_52 (by decide) rfl rfl (leb rfl) (xx_out0 rfl)
  refine y_callV_v (pc := 52) (c_X8_changed hl ec) q6 mf_X8_changed tw_3_182 ts_3_5 lf_X8_93 rfl rfl dX8_addWord_52 (by decide) rfl rfl (leb rfl) ?_
  refine x_aload (pc := 55) 3 dX8_addWord_55 rfl ?_
  obtain ⟨q9, e⟩ := chk_some e
  refine x_getI (pc := 57) gf_X8_149 rfl dX8_addWord_57 q9 ?_
  cases Option.some.inj e
  exact x_iret (pc := 60) rfl dX8_addWord_60
noncomputable def f_X8_addWord (h : Hp) (a0 : Nat) (i1 : Int32) (i2 : Int32) (i3 : Int32) : Option (Rs Int32) :=
  chk (okr h a0 8) <|
  bnd (f_X8_textOf h a0 i1) fun h2 r3 =>
  bnd (f_X8_isWithin h2 i2 (iN 1) (iN 12)) fun h4 r5 =>
  bnd (f_X8_requireArgument h4 r5) fun h6 _ =>
  bnd (f_X8_isWithin h6 i3 (iN 0) (iN 3)) fun h8 r9 =>
  bnd (f_X8_requireArgument h8 r9) fun h10 _ =>
  chk (okr h10 r3 4) <|
  if (iN 12) ≤ (qI h10 r3 3) then (
    f_X8_addWord_L41 h10 a0 i2 i3 r3 (iN 0)
  ) else (
    f_X8_addWord_L41 h10 a0 i2 i3 r3 (iN 1)
  )
theorem p_X8_addWord {l : Launch} {K : Ctx} (hl : l.stackTraces = false) {h : Hp} {a0 : Nat} {i1 : Int32} {i2 : Int32} {i3 : Int32} {t : Rs Int32} (e : f_X8_addWord h a0 i1 i2 i3 = some t) : X l K mM_X8_addWord (tgI t) 0 [(0, .ref a0), (1, .int i1), (2, .int i2), (3, .int i3)] [] h := by
  unfold f_X8_addWord at e
  refine x_aload_n (pc := 0) 0 dX8_addWord_0 rfl ?_
  refine x_iload_n (pc := 1) 1 dX8_addWord_1 rfl ?_
  obtain ⟨q1, e⟩ := chk_some e
  rcases bnd_some e with ⟨h2, r3, ec, rfl⟩ | ⟨h2, r3, ec, e⟩
  · exact y_callV_x (pc := 2) (c_X8_textOf hl ec) q1 mf_X8_textOf tw_4_83 ts_4_0 lf_X8_145 rfl rfl dX8_addWord_2 (by decide) rfl rfl (leb rfl) (xx_out0 rfl)
  refine y_callV_i (pc := 2) (c_X8_textOf hl ec) q1 mf_X8_textOf tw_4_83 ts_4_0 lf_X8_145 rfl rfl dX8_addWord_2 (by decide) rfl rfl (leb rfl) ?_
  refine x_astore (pc := 5) dX8_addWord_5 (by decide) rfl ?_
  refine x_iload_n (pc := 7) 3 dX8_addWord_7 rfl ?_
  refine x_iconst (pc := 8) dX8_addWord_8 ?_
  refine x_bipush (pc := 9) (v := iN 12) dX8_addWord_9 rfl ?_
  rcases bnd_some e with ⟨h4, r5, ec, rfl⟩ | ⟨h4, r5, ec, e⟩
  · exact y_callS_x (pc := 11) (c_X8_isWithin hl ec) mf_X8_isWithin tw_3_26 lf_X8_72 dX8_addWord_11 (by decide) rfl rfl (leb rfl) (xx_out0 rfl)
  refine y_callS_i (pc := 11) (c_X8_isWithin hl ec) mf_X8_isWithin tw_3_26 lf_X8_72 dX8_addWord_11 (by decide) rfl rfl (leb rfl) ?_
  rcases bnd_some e with ⟨h6, r7, ec, rfl⟩ | ⟨h6, r7, ec, e⟩
  · exact y_callS_x (pc := 14) (c_X8_requireArgument hl ec) mf_X8_requireArgument tw_3_84 lf_X8_76 dX8_addWord_14 (by decide) rfl rfl (leb rfl) (xx_out0 rfl)
  refine y_callS_v (pc := 14) (c_X8_requireArgument hl ec) mf_X8_requireArgument tw_3_84 lf_X8_76 dX8_addWord_14 (by decide) rfl rfl (leb rfl) ?_
  refine x_iload_n (pc := 17) 4 dX8_addWord_17 rfl ?_
  refine x_iconst (pc := 18) dX8_addWord_18 ?_
  refine x_iconst (pc := 19) dX8_addWord_19 ?_
  rcases bnd_some e with ⟨h8, r9, ec, rfl⟩ | ⟨h8, r9, ec, e⟩
  · exact y_callS_x (pc := 20) (c_X8_isWithin hl ec) mf_X8_isWithin tw_3_26 lf_X8_72 dX8_addWord_20 (by decide) rfl rfl (leb rfl) (xx_out0 rfl)
  refine y_callS_i (pc := 20) (c_X8_isWithin hl ec) mf_X8_isWithin tw_3_26 lf_X8_72 dX8_addWord_20 (by decide) rfl rfl (leb rfl) ?_
  rcases bnd_some e with ⟨h10, r11, ec, rfl⟩ | ⟨h10, r11, ec, e⟩
  · exact y_callS_x (pc := 23) (c_X8_requireArgument hl ec) mf_X8_requireArgument tw_3_84 lf_X8_76 dX8_addWord_23 (by decide) rfl rfl (leb rfl) (xx_out0 rfl)
  refine y_callS_v (pc := 23) (c_X8_requireArgument hl ec) mf_X8_requireArgument tw_3_84 lf_X8_76 dX8_addWord_23 (by decide) rfl rfl (leb rfl) ?_
  refine x_aload (pc := 26) 0 dX8_addWord_26 rfl ?_
  obtain ⟨q12, e⟩ := chk_some e
  refine x_getI (pc := 28) gf_X8_149 rfl dX8_addWord_28 q12 ?_
  refine x_bipush (pc := 31) (v := iN 12) dX8_addWord_31 rfl ?_
  rcases ite_some e with ⟨q13, e⟩ | ⟨q13, e⟩
  · refine x_icmp_ge_t (pc := 33) (t := 40) dX8_addWord_33 (by decide) q13 ?_
    refine x_iconst (pc := 40) dX8_addWord_40 ?_
    exact x_sub1 (p_X8_addWord_L41 hl e) [1, 3, 4, 0] rfl
  · refine x_icmp_ge_f (pc := 33) (t := 40) dX8_addWord_33 (by decide) q13 ?_
    refine x_iconst (pc := 36) dX8_addWord_36 ?_
    refine x_goto (pc := 37) (t := 41) dX8_addWord_37 (by decide) ?_
    exact x_sub1 (p_X8_addWord_L41 hl e) [1, 3, 4, 0] rfl
abbrev w_X8_addWord : Cond := (Cond.code yX8_addWord cX8_addWord 5 (Option.some Jvm.ClassFile.FieldType.int))
theorem mf_X8_addWord : MF yX8_addWord w_X8_addWord cX8_addWord 5 (Option.some Jvm.ClassFile.FieldType.int) 3 := ⟨⟨rfl, tw_4_80, by decide⟩, tw_1_1, ⟨by decide, by decide⟩, by decide +kernel⟩
theorem c_X8_addWord {l : Launch} {K : Ctx} (hl : l.stackTraces = false) {h : Hp} {a0 : Nat} {i1 : Int32} {i2 : Int32} {i3 : Int32} {t : Rs Int32} (e : f_X8_addWord h a0 i1 i2 i3 = some t) : Ctr l K 14 yX8_addWord w_X8_addWord [.ref a0, .int i1, .int i2, .int i3] h (tgI t) :=
  Ctr.of hl mf_X8_addWord false (fun q => nomatch q) rfl (leb rfl) (p_X8_addWord hl e)
/-! ## TableColumnBalancerLaw.addWord -/
abbrev mM_L_addWord : Mi := (15, yL_addWord.cls, cL_addWord, 6, (Option.some Jvm.ClassFile.FieldType.int), [((0 : Nat), (12 : Nat), (15 : Nat), (21 : Nat)), ((0 : Nat), (12 : Nat), (19 : Nat), (41 : Nat)), ((0 : Nat), (12 : Nat), (23 : Nat), (13 : Nat)), ((0 : Nat), (12 : Nat), (27 : Nat), (15 : Nat))], false)
noncomputable def f_L_addWord (h : Hp) (a0 : Nat) (i1 : Int32) (i2 : Int32) (i3 : Int32) (a4 : Nat) : Option (Rs Int32) :=
  chk (okr h a0 8) <|
  bndX (f_X8_addWord h a0 i1 i2 i3) (fun h2 r3 => (
    chk (okr h2 a4 21) <|
    chk (vp_in (iN 0) (qW h2 a4)) <|
    lt (putL h2 a4 (Int32.toNatClampNeg (iN 0)) (Int32.toInt64 r3)) fun h6 =>
    some (h6, .inr (iN 0))
  )) fun h2 k =>
  if k = 2 then (
    some (h2, .inr (iN 1))
  ) else
  if k = 4 then (
    some (h2, .inr (iN 2))
  ) else
  if k = 1 then (
    some (h2, .inr (iN 3))
  ) else
  if k = 0 then (
    some (h2, .inr (iN 4))
  ) else
  none
theorem p_L_addWord {l : Launch} {K : Ctx} (hl : l.stackTraces = false) {h : Hp} {a0 : Nat} {i1 : Int32} {i2 : Int32} {i3 : Int32} {a4 : Nat} {t : Rs Int32} (e : f_L_addWord h a0 i1 i2 i3 a4 = some t) : X l K mM_L_addWord (tgI t) 0 [(0, .ref a0), (1, .int i1), (2, .int i2), (3, .int i3), (4, .ref a4)] [] h := by
  unfold f_L_addWord at e
  refine x_aload (pc := 0) 4 dL_addWord_0 rfl ?_
  refine x_iconst (pc := 2) dL_addWord_2 ?_
  refine x_aload_n (pc := 3) 0 dL_addWord_3 rfl ?_
  refine x_iload_n (pc := 4) 1 dL_addWord_4 rfl ?_
  refine x_iload_n (pc := 5) 2 dL_addWord_5 rfl ?_
  refine x_iload_n (pc := 6) 3 dL_addWord_6 rfl ?_
  obtain ⟨q1, e⟩ := chk_some e
  rcases bndX_some e with ⟨h2, k, ec, e⟩ | ⟨h2, r3, ec, e⟩
  · rcases ite_some e with ⟨q7, e⟩ | ⟨q7, e⟩
    · subst q7
      refine y_callV_x (pc := 7) (c_X8_addWord hl ec) q1 mf_X8_addWord tw_4_78 tw_4_79 lf_L_38 rfl rfl dL_addWord_7 (by decide) rfl rfl (leb rfl) (xx_catchA (pc := 7) [] [(0, 12, 19, 41), (0, 12, 23, 13), (0, 12, 27, 15)] (0, 12, 15, 21) rfl (by decide) (fun _ hz => absurd hz List.not_mem_nil) (by decide) (by decide) tw_3_187 tw_3_229 dL_addWord_15 (by decide) rfl ?_)
      refine x_iconst (pc := 17) dL_addWord_17 ?_
      cases Option.some.inj e
      exact x_iret (pc := 18) rfl dL_addWord_18
    rcases ite_some e with ⟨q8, e⟩ | ⟨q8, e⟩
    · subst q8
      refine y_callV_x (pc := 7) (c_X8_addWord hl ec) q1 mf_X8_addWord tw_4_78 tw_4_79 lf_L_38 rfl rfl dL_addWord_7 (by decide) rfl rfl (leb rfl) (xx_catchA (pc := 7) [(0, 12, 15, 21)] [(0, 12, 23, 13), (0, 12, 27, 15)] (0, 12, 19, 41) rfl (by decide) (List.forall_mem_cons.mpr ⟨⟨by decide, 2, by decide, by decide, tw_3_187⟩, fun _ hz => absurd hz List.not_mem_nil⟩) (by decide) (by decide) tw_4_76 tw_4_91 dL_addWord_19 (by decide) rfl ?_)
      refine x_iconst (pc := 21) dL_addWord_21 ?_
      cases Option.some.inj e
      exact x_iret (pc := 22) rfl dL_addWord_22
    rcases ite_some e with ⟨q9, e⟩ | ⟨q9, e⟩
    · subst q9
      refine y_callV_x (pc := 7) (c_X8_addWord hl ec) q1 mf_X8_addWord tw_4_78 tw_4_79 lf_L_38 rfl rfl dL_addWord_7 (by decide) rfl rfl (leb rfl) (xx_catchA (pc := 7) [(0, 12, 15, 21), (0, 12, 19, 41)] [(0, 12, 27, 15)] (0, 12, 23, 13) rfl (by decide) (List.forall_mem_cons.mpr ⟨⟨by decide, 2, by decide, by decide, tw_3_187⟩, List.forall_mem_cons.mpr ⟨⟨by decide, 4, by decide, by decide, tw_4_76⟩, fun _ hz => absurd hz List.not_mem_nil⟩⟩) (by decide) (by decide) tw_3_76 tw_3_88 dL_addWord_23 (by decide) rfl ?_)
      refine x_iconst (pc := 25) dL_addWord_25 ?_
      cases Option.some.inj e
      exact x_iret (pc := 26) rfl dL_addWord_26
    rcases ite_some e with ⟨q10, e⟩ | ⟨q10, e⟩
    · subst q10
      refine y_callV_x (pc := 7) (c_X8_addWord hl ec) q1 mf_X8_addWord tw_4_78 tw_4_79 lf_L_38 rfl rfl dL_addWord_7 (by decide) rfl rfl (leb rfl) (xx_catchA (pc := 7) [(0, 12, 15, 21), (0, 12, 19, 41), (0, 12, 23, 13)] [] (0, 12, 27, 15) rfl (by decide) (List.forall_mem_cons.mpr ⟨⟨by decide, 2, by decide, by decide, tw_3_187⟩, List.forall_mem_cons.mpr ⟨⟨by decide, 4, by decide, by decide, tw_4_76⟩, List.forall_mem_cons.mpr ⟨⟨by decide, 1, by decide, by decide, tw_3_76⟩, fun _ hz => absurd hz List.not_mem_nil⟩⟩⟩) (by decide) (by decide) tw_3_77 tw_3_159 dL_addWord_27 (by decide) rfl ?_)
      refine x_iconst (pc := 29) dL_addWord_29 ?_
      cases Option.some.inj e
      exact x_iret (pc := 30) rfl dL_addWord_30
    cases e
  refine y_callV_i (pc := 7) (c_X8_addWord hl ec) q1 mf_X8_addWord tw_4_78 tw_4_79 lf_L_38 rfl rfl dL_addWord_7 (by decide) rfl rfl (leb rfl) ?_
  refine x_i2l (pc := 10) dL_addWord_10 ?_
  obtain ⟨q4, e⟩ := chk_some e
  obtain ⟨q5, e⟩ := chk_some e
  replace e := lt_go e
  refine x_last (pc := 11) dL_addWord_11 q4 q5 ?_
  refine x_goto (pc := 12) (t := 31) dL_addWord_12 (by decide) ?_
  refine x_iconst (pc := 31) dL_addWord_31 ?_
  cases Option.some.inj e
  exact x_iret (pc := 32) rfl dL_addWord_32
abbrev w_L_addWord : Cond := (Cond.codeWith yL_addWord cL_addWord 6 (Option.some Jvm.ClassFile.FieldType.int) [((0 : Nat), (12 : Nat), (15 : Nat), (21 : Nat)), ((0 : Nat), (12 : Nat), (19 : Nat), (41 : Nat)), ((0 : Nat), (12 : Nat), (23 : Nat), (13 : Nat)), ((0 : Nat), (12 : Nat), (27 : Nat), (15 : Nat))])
theorem mf_L_addWord : MFX yL_addWord w_L_addWord cL_addWord 6 (Option.some Jvm.ClassFile.FieldType.int) 5 [((0 : Nat), (12 : Nat), (15 : Nat), (21 : Nat)), ((0 : Nat), (12 : Nat), (19 : Nat), (41 : Nat)), ((0 : Nat), (12 : Nat), (23 : Nat), (13 : Nat)), ((0 : Nat), (12 : Nat), (27 : Nat), (15 : Nat))] := ⟨⟨rfl, tw_4_75, by decide⟩, tw_1_0, ⟨by decide, by decide⟩, by decide +kernel⟩
theorem c_L_addWord {l : Launch} {K : Ctx} (hl : l.stackTraces = false) {h : Hp} {a0 : Nat} {i1 : Int32} {i2 : Int32} {i3 : Int32} {a4 : Nat} {t : Rs Int32} (e : f_L_addWord h a0 i1 i2 i3 a4 = some t) : Ctr l K 15 yL_addWord w_L_addWord [.ref a0, .int i1, .int i2, .int i3, .ref a4] h (tgI t) :=
  Ctr.ofX hl mf_L_addWord rfl (leb rfl) (p_L_addWord hl e)
/-! ## TableColumnBalancerModel.isText -/
abbrev mM_X9_isText : Mi := (9, yX9_isText.cls, cX9_isText, 2, (Option.some Jvm.ClassFile.FieldType.boolean), [], false)
noncomputable def f_X9_isText (h : Hp) (a0 : Nat) (i1 : Int32) : Option (Rs Int32) :=
  chk (okr h a0 9) <|
  bnd (f_X9_of h a0 i1 (iN 3)) fun h2 r3 =>
  if (iN 4) ≤ r3 then (
    some (h2, .inr (iN 0))
  ) else (
    some (h2, .inr (iN 1))
  )
theorem p_X9_isText {l : Launch} {K : Ctx} (hl : l.stackTraces = false) {h : Hp} {a0 : Nat} {i1 : Int32} {t : Rs Int32} (e : f_X9_isText h a0 i1 = some t) : X l K mM_X9_isText (tgI t) 0 [(0, .ref a0), (1, .int i1)] [] h := by
  unfold f_X9_isText at e
  refine x_aload_n (pc := 0) 0 dX9_isText_0 rfl ?_
  refine x_iload_n (pc := 1) 1 dX9_isText_1 rfl ?_
  refine x_iconst (pc := 2) dX9_isText_2 ?_
  obtain ⟨q1, e⟩ := chk_some e
  rcases bnd_some e with ⟨h2, r3, ec, rfl⟩ | ⟨h2, r3, ec, e⟩
  · exact y_callV_x (pc := 3) (c_X9_of hl ec) q1 mf_X9_of tw_7_63 ts_6_12 lf_X9_91 rfl rfl dX9_isText_3 (by decide) rfl rfl (leb rfl) (xx_out0 rfl)
  refine y_callV_i (pc := 3) (c_X9_of hl ec) q1 mf_X9_of tw_7_63 ts_6_12 lf_X9_91 rfl rfl dX9_isText_3 (by decide) rfl rfl (leb rfl) ?_
  refine x_iconst (pc := 6) dX9_isText_6 ?_
  rcases ite_some e with ⟨q4, e⟩ | ⟨q4, e⟩
  · refine x_icmp_ge_t (pc := 7) (t := 14) dX9_isText_7 (by decide) q4 ?_
    refine x_iconst (pc := 14) dX9_isText_14 ?_
    cases Option.some.inj e
    exact x_zret (pc := 15) rfl (Or.inl rfl) dX9_isText_15
  · refine x_icmp_ge_f (pc := 7) (t := 14) dX9_isText_7 (by decide) q4 ?_
    refine x_iconst (pc := 10) dX9_isText_10 ?_
    refine x_goto (pc := 11) (t := 15) dX9_isText_11 (by decide) ?_
    cases Option.some.inj e
    exact x_zret (pc := 15) rfl (Or.inr rfl) dX9_isText_15
abbrev w_X9_isText : Cond := (Cond.code yX9_isText cX9_isText 2 (Option.some Jvm.ClassFile.FieldType.boolean))
theorem mf_X9_isText : MF yX9_isText w_X9_isText cX9_isText 2 (Option.some Jvm.ClassFile.FieldType.boolean) 1 := ⟨⟨rfl, tw_7_88, by decide⟩, tw_1_11, ⟨by decide, by decide⟩, by decide +kernel⟩
theorem c_X9_isText {l : Launch} {K : Ctx} (hl : l.stackTraces = false) {h : Hp} {a0 : Nat} {i1 : Int32} {t : Rs Int32} (e : f_X9_isText h a0 i1 = some t) : Ctr l K 9 yX9_isText w_X9_isText [.ref a0, .int i1] h (tgI t) :=
  Ctr.of hl mf_X9_isText false (fun q => nomatch q) rfl (leb rfl) (p_X9_isText hl e)
/-! ## TableColumnBalancerModel.puts -/
abbrev mM_X9_puts : Mi := (8, yX9_puts.cls, cX9_puts, 5, (Option.none : Option Jvm.ClassFile.FieldType), [], false)
noncomputable def f_X9_puts (h : Hp) (a0 : Nat) (i1 : Int32) (i2 : Int32) (i3 : Int32) : Option (Rs Unit) :=
  chk (okr h a0 9) <|
  chk (okr h (qR h a0 1) 20) <|
  chk (vp_in (((iN 10) + ((iN 31) * i1)) + (iN 4)) (qW h (qR h a0 1))) <|
  chk (vp_in ((((iN 10) + ((iN 31) * i1)) + (iN 7)) + (qI h (qR h a0 1) (Int32.toNatClampNeg (((iN 10) + ((iN 31) * i1)) + (iN 4))))) (qW h (qR h a0 1))) <|
  lt (putI h (qR h a0 1) (Int32.toNatClampNeg ((((iN 10) + ((iN 31) * i1)) + (iN 7)) + (qI h (qR h a0 1) (Int32.toNatClampNeg (((iN 10) + ((iN 31) * i1)) + (iN 4)))))) i2) fun h5 =>
  chk (okr h5 (qR h5 a0 1) 20) <|
  chk (vp_in (((iN 10) + ((iN 31) * i1)) + (iN 4)) (qW h5 (qR h5 a0 1))) <|
  chk (vp_in ((((iN 10) + ((iN 31) * i1)) + (iN 19)) + (qI h5 (qR h5 a0 1) (Int32.toNatClampNeg (((iN 10) + ((iN 31) * i1)) + (iN 4))))) (qW h5 (qR h5 a0 1))) <|
  lt (putI h5 (qR h5 a0 1) (Int32.toNatClampNeg ((((iN 10) + ((iN 31) * i1)) + (iN 19)) + (qI h5 (qR h5 a0 1) (Int32.toNatClampNeg (((iN 10) + ((iN 31) * i1)) + (iN 4)))))) i3) fun h9 =>
  chk (okr h9 (qR h9 a0 1) 20) <|
  chk (vp_in (((iN 10) + ((iN 31) * i1)) + (iN 4)) (qW h9 (qR h9 a0 1))) <|
  lt (putI h9 (qR h9 a0 1) (Int32.toNatClampNeg (((iN 10) + ((iN 31) * i1)) + (iN 4))) ((qI h9 (qR h9 a0 1) (Int32.toNatClampNeg (((iN 10) + ((iN 31) * i1)) + (iN 4)))) + (iN 1))) fun h12 =>
  some (h12, .inr ())
theorem p_X9_puts {l : Launch} {K : Ctx} (hl : l.stackTraces = false) {h : Hp} {a0 : Nat} {i1 : Int32} {i2 : Int32} {i3 : Int32} {t : Rs Unit} (e : f_X9_puts h a0 i1 i2 i3 = some t) : X l K mM_X9_puts (tgV t) 0 [(0, .ref a0), (1, .int i1), (2, .int i2), (3, .int i3)] [] h := by
  unfold f_X9_puts at e
  refine x_bipush (pc := 0) (v := iN 10) dX9_puts_0 rfl ?_
  refine x_bipush (pc := 2) (v := iN 31) dX9_puts_2 rfl ?_
  refine x_iload_n (pc := 4) 1 dX9_puts_4 rfl ?_
  refine x_imul (pc := 5) dX9_puts_5 ?_
  refine x_iadd (pc := 6) dX9_puts_6 ?_
  refine x_istore (pc := 7) dX9_puts_7 (by decide) rfl ?_
  refine x_aload_n (pc := 9) 1 dX9_puts_9 rfl ?_
  obtain ⟨q1, e⟩ := chk_some e
  obtain ⟨q2, e⟩ := chk_some e
  refine x_getR (pc := 10) gf_X9_9 rfl dX9_puts_10 q1 q2.1 ?_
  refine x_iload (pc := 13) 0 dX9_puts_13 rfl ?_
  refine x_bipush (pc := 15) (v := iN 7) dX9_puts_15 rfl ?_
  refine x_iadd (pc := 17) dX9_puts_17 ?_
  refine x_aload_n (pc := 18) 1 dX9_puts_18 rfl ?_
  refine x_getR (pc := 19) gf_X9_9 rfl dX9_puts_19 q1 q2.1 ?_
  refine x_iload (pc := 22) 0 dX9_puts_22 rfl ?_
  refine x_iconst (pc := 24) dX9_puts_24 ?_
  refine x_iadd (pc := 25) dX9_puts_25 ?_
  obtain ⟨q3, e⟩ := chk_some e
  refine x_iald (pc := 26) dX9_puts_26 q2 q3 ?_
  refine x_iadd (pc := 27) dX9_puts_27 ?_
  refine x_iload_n (pc := 28) 3 dX9_puts_28 rfl ?_
  obtain ⟨q4, e⟩ := chk_some e
  replace e := lt_go e
  refine x_iast (pc := 29) dX9_puts_29 q2 q4 ?_
  refine x_aload_n (pc := 30) 1 dX9_puts_30 rfl ?_
  obtain ⟨q6, e⟩ := chk_some e
  refine x_getR (pc := 31) gf_X9_9 rfl dX9_puts_31 (okr_pI q1) q6.1 ?_
  refine x_iload (pc := 34) 0 dX9_puts_34 rfl ?_
  refine x_bipush (pc := 36) (v := iN 19) dX9_puts_36 rfl ?_
  refine x_iadd (pc := 38) dX9_puts_38 ?_
  refine x_aload_n (pc := 39) 1 dX9_puts_39 rfl ?_
  refine x_getR (pc := 40) gf_X9_9 rfl dX9_puts_40 (okr_pI q1) q6.1 ?_
  refine x_iload (pc := 43) 0 dX9_puts_43 rfl ?_
  refine x_iconst (pc := 45) dX9_puts_45 ?_
  refine x_iadd (pc := 46) dX9_puts_46 ?_
  obtain ⟨q7, e⟩ := chk_some e
  refine x_iald (pc := 47) dX9_puts_47 q6 q7 ?_
  refine x_iadd (pc := 48) dX9_puts_48 ?_
  refine x_iload_n (pc := 49) 4 dX9_puts_49 rfl ?_
  obtain ⟨q8, e⟩ := chk_some e
  replace e := lt_go e
  refine x_iast (pc := 50) dX9_puts_50 q6 q8 ?_
  refine x_aload_n (pc := 51) 1 dX9_puts_51 rfl ?_
  obtain ⟨q10, e⟩ := chk_some e
  refine x_getR (pc := 52) gf_X9_9 rfl dX9_puts_52 (okr_pI (okr_pI q1)) q10.1 ?_
  refine x_iload (pc := 55) 0 dX9_puts_55 rfl ?_
  refine x_iconst (pc := 57) dX9_puts_57 ?_
  refine x_iadd (pc := 58) dX9_puts_58 ?_
  refine x_dup2 (pc := 59) dX9_puts_59 rfl rfl ?_
  obtain ⟨q11, e⟩ := chk_some e
  refine x_iald (pc := 60) dX9_puts_60 q10 q11 ?_
  refine x_iconst (pc := 61) dX9_puts_61 ?_
  refine x_iadd (pc := 62) dX9_puts_62 ?_
  replace e := lt_go e
  refine x_iast (pc := 63) dX9_puts_63 q10 q11 ?_
  cases Option.some.inj e
  exact x_vret (pc := 64) rfl dX9_puts_64
abbrev w_X9_puts : Cond := (Cond.code yX9_puts cX9_puts 5 (Option.none : Option Jvm.ClassFile.FieldType))
theorem mf_X9_puts : MF yX9_puts w_X9_puts cX9_puts 5 (Option.none : Option Jvm.ClassFile.FieldType) 3 := ⟨⟨rfl, tw_7_92, by decide⟩, tw_1_11, ⟨by decide, by decide⟩, by decide +kernel⟩
theorem c_X9_puts {l : Launch} {K : Ctx} (hl : l.stackTraces = false) {h : Hp} {a0 : Nat} {i1 : Int32} {i2 : Int32} {i3 : Int32} {t : Rs Unit} (e : f_X9_puts h a0 i1 i2 i3 = some t) : Ctr l K 8 yX9_puts w_X9_puts [.ref a0, .int i1, .int i2, .int i3] h (tgV t) :=
  Ctr.of hl mf_X9_puts false (fun q => nomatch q) rfl (leb rfl) (p_X9_puts hl e)
/-! ## TableColumnBalancerModel.addWord -/
abbrev mM_X9_addWord : Mi := (10, yX9_addWord.cls, cX9_addWord, 4, (Option.some Jvm.ClassFile.FieldType.int), [], false)
noncomputable def f_X9_addWord_L52 (h : Hp) (a0 : Nat) : Option (Rs Int32) :=
  chk (okr h a0 9) <|
  bnd (f_X9_fails h a0 (iN 3)) fun h2 r3 =>
  some (h2, .inr r3)
theorem p_X9_addWord_L52 {l : Launch} {K : Ctx} (hl : l.stackTraces = false) {h : Hp} {a0 : Nat} {t : Rs Int32} (e : f_X9_addWord_L52 h a0 = some t) : X l K mM_X9_addWord (tgI t) 52 [(0, .ref a0)] [] h := by
  unfold f_X9_addWord_L52 at e
  refine x_aload_n (pc := 52) 0 dX9_addWord_52 rfl ?_
  refine x_iconst (pc := 53) dX9_addWord_53 ?_
  obtain ⟨q1, e⟩ := chk_some e
  rcases bnd_some e with ⟨h2, r3, ec, rfl⟩ | ⟨h2, r3, ec, e⟩
  · exact y_callV_x (pc := 54) (c_X9_fails hl ec) q1 mf_X9_fails tw_7_24 ts_6_7 lf_X9_95 rfl rfl dX9_addWord_54 (by decide) rfl rfl (leb rfl) (xx_out0 rfl)
  refine y_callV_i (pc := 54) (c_X9_fails hl ec) q1 mf_X9_fails tw_7_24 ts_6_7 lf_X9_95 rfl rfl dX9_addWord_54 (by decide) rfl rfl (leb rfl) ?_
  cases Option.some.inj e
  exact x_iret (pc := 57) rfl dX9_addWord_57
noncomputable def f_X9_addWord (h : Hp) (a0 : Nat) (i1 : Int32) (i2 : Int32) (i3 : Int32) : Option (Rs Int32) :=
  chk (okr h a0 9) <|
  lt (putI h a0 0 (iN 0)) fun h2 =>
  bnd (f_X9_isCell h2 a0 i1) fun h3 r4 =>
  if r4 = 0 then (
    chk (okr h3 a0 9) <|
    bnd (f_X9_fails h3 a0 (iN 1)) fun h7 r8 =>
    some (h7, .inr r8)
  ) else (
    chk (okr h3 a0 9) <|
    bnd (f_X9_isText h3 a0 i1) fun h10 r11 =>
    if r11 = 0 then (
      chk (okr h10 a0 9) <|
      bnd (f_X9_fails h10 a0 (iN 2)) fun h14 r15 =>
      some (h14, .inr r15)
    ) else (
      bnd (f_X9_in h10 i2 (iN 1) (iN 12)) fun h16 r17 =>
      if r17 = 0 then (
        f_X9_addWord_L52 h16 a0
      ) else (
        bnd (f_X9_in h16 i3 (iN 0) (iN 3)) fun h19 r20 =>
        if r20 = 0 then (
          f_X9_addWord_L52 h19 a0
        ) else (
          chk (okr h19 a0 9) <|
          bnd (f_X9_of h19 a0 i1 (iN 4)) fun h23 r24 =>
          if r24 = (iN 12) then (
            chk (okr h23 a0 9) <|
            bnd (f_X9_fails h23 a0 (iN 4)) fun h27 r28 =>
            some (h27, .inr r28)
          ) else (
            chk (okr h23 a0 9) <|
            bnd (f_X9_puts h23 a0 i1 i2 i3) fun h30 _ =>
            chk (okr h30 a0 9) <|
            bnd (f_X9_of h30 a0 i1 (iN 4)) fun h33 r34 =>
            some (h33, .inr r34)
          )
        )
      )
    )
  )
theorem p_X9_addWord {l : Launch} {K : Ctx} (hl : l.stackTraces = false) {h : Hp} {a0 : Nat} {i1 : Int32} {i2 : Int32} {i3 : Int32} {t : Rs Int32} (e : f_X9_addWord h a0 i1 i2 i3 = some t) : X l K mM_X9_addWord (tgI t) 0 [(0, .ref a0), (1, .int i1), (2, .int i2), (3, .int i3)] [] h := by
  unfold f_X9_addWord at e
  refine x_aload_n (pc := 0) 0 dX9_addWord_0 rfl ?_
  refine x_iconst (pc := 1) dX9_addWord_1 ?_
  obtain ⟨q1, e⟩ := chk_some e
  replace e := lt_go e
  refine x_putI (pc := 2) pf_X9_84 rfl rfl rfl dX9_addWord_2 q1 ?_
  refine x_aload_n (pc := 5) 0 dX9_addWord_5 rfl ?_
  refine x_iload_n (pc := 6) 1 dX9_addWord_6 rfl ?_
  rcases bnd_some e with ⟨h3, r4, ec, rfl⟩ | ⟨h3, r4, ec, e⟩
  · exact y_callV_x (pc := 7) (c_X9_isCell hl ec) (okr_pI q1) mf_X9_isCell tw_7_75 ts_6_14 lf_X9_120 rfl rfl dX9_addWord_7 (by decide) rfl rfl (leb rfl) (xx_out0 rfl)
  refine y_callV_i (pc := 7) (c_X9_isCell hl ec) (okr_pI q1) mf_X9_isCell tw_7_75 ts_6_14 lf_X9_120 rfl rfl dX9_addWord_7 (by decide) rfl rfl (leb rfl) ?_
  rcases ite_some e with ⟨q5, e⟩ | ⟨q5, e⟩
  · refine x_if_ne_f (pc := 10) (t := 19) dX9_addWord_10 (by decide) q5 ?_
    refine x_aload_n (pc := 13) 0 dX9_addWord_13 rfl ?_
    refine x_iconst (pc := 14) dX9_addWord_14 ?_
    obtain ⟨q6, e⟩ := chk_some e
    rcases bnd_some e with ⟨h7, r8, ec, rfl⟩ | ⟨h7, r8, ec, e⟩
    · exact y_callV_x (pc := 15) (c_X9_fails hl ec) q6 mf_X9_fails tw_7_24 ts_6_7 lf_X9_95 rfl rfl dX9_addWord_15 (by decide) rfl rfl (leb rfl) (xx_out0 rfl)
    refine y_callV_i (pc := 15) (c_X9_fails hl ec) q6 mf_X9_fails tw_7_24 ts_6_7 lf_X9_95 rfl rfl dX9_addWord_15 (by decide) rfl rfl (leb rfl) ?_
    cases Option.some.inj e
    exact x_iret (pc := 18) rfl dX9_addWord_18
  · refine x_if_ne_t (pc := 10) (t := 19) dX9_addWord_10 (by decide) q5 ?_
    refine x_aload_n (pc := 19) 0 dX9_addWord_19 rfl ?_
    refine x_iload_n (pc := 20) 1 dX9_addWord_20 rfl ?_
    obtain ⟨q9, e⟩ := chk_some e
    rcases bnd_some e with ⟨h10, r11, ec, rfl⟩ | ⟨h10, r11, ec, e⟩
    · exact y_callV_x (pc := 21) (c_X9_isText hl ec) q9 mf_X9_isText tw_7_87 ts_7_0 lf_X9_127 rfl rfl dX9_addWord_21 (by decide) rfl rfl (leb rfl) (xx_out0 rfl)
    refine y_callV_i (pc := 21) (c_X9_isText hl ec) q9 mf_X9_isText tw_7_87 ts_7_0 lf_X9_127 rfl rfl dX9_addWord_21 (by decide) rfl rfl (leb rfl) ?_
    rcases ite_some e with ⟨q12, e⟩ | ⟨q12, e⟩
    · refine x_if_ne_f (pc := 24) (t := 33) dX9_addWord_24 (by decide) q12 ?_
      refine x_aload_n (pc := 27) 0 dX9_addWord_27 rfl ?_
      refine x_iconst (pc := 28) dX9_addWord_28 ?_
      obtain ⟨q13, e⟩ := chk_some e
      rcases bnd_some e with ⟨h14, r15, ec, rfl⟩ | ⟨h14, r15, ec, e⟩
      · exact y_callV_x (pc := 29) (c_X9_fails hl ec) q13 mf_X9_fails tw_7_24 ts_6_7 lf_X9_95 rfl rfl dX9_addWord_29 (by decide) rfl rfl (leb rfl) (xx_out0 rfl)
      refine y_callV_i (pc := 29) (c_X9_fails hl ec) q13 mf_X9_fails tw_7_24 ts_6_7 lf_X9_95 rfl rfl dX9_addWord_29 (by decide) rfl rfl (leb rfl) ?_
      cases Option.some.inj e
      exact x_iret (pc := 32) rfl dX9_addWord_32
    · refine x_if_ne_t (pc := 24) (t := 33) dX9_addWord_24 (by decide) q12 ?_
      refine x_iload_n (pc := 33) 2 dX9_addWord_33 rfl ?_
      refine x_iconst (pc := 34) dX9_addWord_34 ?_
      refine x_bipush (pc := 35) (v := iN 12) dX9_addWord_35 rfl ?_
      rcases bnd_some e with ⟨h16, r17, ec, rfl⟩ | ⟨h16, r17, ec, e⟩
      · exact y_callS_x (pc := 37) (c_X9_in hl ec) mf_X9_in tw_7_20 lf_X9_87 dX9_addWord_37 (by decide) rfl rfl (leb rfl) (xx_out0 rfl)
      refine y_callS_i (pc := 37) (c_X9_in hl ec) mf_X9_in tw_7_20 lf_X9_87 dX9_addWord_37 (by decide) rfl rfl (leb rfl) ?_
      rcases ite_some e with ⟨q18, e⟩ | ⟨q18, e⟩
      · refine x_if_eq_t (pc := 40) (t := 52) dX9_addWord_40 (by decide) q18 ?_
        exact x_sub1 (p_X9_addWord_L52 hl e) [0] rfl
      · refine x_if_eq_f (pc := 40) (t := 52) dX9_addWord_40 (by decide) q18 ?_
        refine x_iload_n (pc := 43) 3 dX9_addWord_43 rfl ?_
        refine x_iconst (pc := 44) dX9_addWord_44 ?_
        refine x_iconst (pc := 45) dX9_addWord_45 ?_
        rcases bnd_some e with ⟨h19, r20, ec, rfl⟩ | ⟨h19, r20, ec, e⟩
        · exact y_callS_x (pc := 46) (c_X9_in hl ec) mf_X9_in tw_7_20 lf_X9_87 dX9_addWord_46 (by decide) rfl rfl (leb rfl) (xx_out0 rfl)
        refine y_callS_i (pc := 46) (c_X9_in hl ec) mf_X9_in tw_7_20 lf_X9_87 dX9_addWord_46 (by decide) rfl rfl (leb rfl) ?_
        rcases ite_some e with ⟨q21, e⟩ | ⟨q21, e⟩
        · refine x_if_ne_f (pc := 49) (t := 58) dX9_addWord_49 (by decide) q21 ?_
          exact x_sub1 (p_X9_addWord_L52 hl e) [0] rfl
        · refine x_if_ne_t (pc := 49) (t := 58) dX9_addWord_49 (by decide) q21 ?_
          refine x_aload_n (pc := 58) 0 dX9_addWord_58 rfl ?_
          refine x_iload_n (pc := 59) 1 dX9_addWord_59 rfl ?_
          refine x_iconst (pc := 60) dX9_addWord_60 ?_
          obtain ⟨q22, e⟩ := chk_some e
          rcases bnd_some e with ⟨h23, r24, ec, rfl⟩ | ⟨h23, r24, ec, e⟩
          · exact y_callV_x (pc := 61) (c_X9_of hl ec) q22 mf_X9_of tw_7_63 ts_6_12 lf_X9_91 rfl rfl dX9_addWord_61 (by decide) rfl rfl (leb rfl) (xx_out0 rfl)
          refine y_callV_i (pc := 61) (c_X9_of hl ec) q22 mf_X9_of tw_7_63 ts_6_12 lf_X9_91 rfl rfl dX9_addWord_61 (by decide) rfl rfl (leb rfl) ?_
          refine x_bipush (pc := 64) (v := iN 12) dX9_addWord_64 rfl ?_
          rcases ite_some e with ⟨q25, e⟩ | ⟨q25, e⟩
          · refine x_icmp_ne_f (pc := 66) (t := 75) dX9_addWord_66 (by decide) q25 ?_
            refine x_aload_n (pc := 69) 0 dX9_addWord_69 rfl ?_
            refine x_iconst (pc := 70) dX9_addWord_70 ?_
            obtain ⟨q26, e⟩ := chk_some e
            rcases bnd_some e with ⟨h27, r28, ec, rfl⟩ | ⟨h27, r28, ec, e⟩
            · exact y_callV_x (pc := 71) (c_X9_fails hl ec) q26 mf_X9_fails tw_7_24 ts_6_7 lf_X9_95 rfl rfl dX9_addWord_71 (by decide) rfl rfl (leb rfl) (xx_out0 rfl)
            refine y_callV_i (pc := 71) (c_X9_fails hl ec) q26 mf_X9_fails tw_7_24 ts_6_7 lf_X9_95 rfl rfl dX9_addWord_71 (by decide) rfl rfl (leb rfl) ?_
            cases Option.some.inj e
            exact x_iret (pc := 74) rfl dX9_addWord_74
          · refine x_icmp_ne_t (pc := 66) (t := 75) dX9_addWord_66 (by decide) q25 ?_
            refine x_aload_n (pc := 75) 0 dX9_addWord_75 rfl ?_
            refine x_iload_n (pc := 76) 1 dX9_addWord_76 rfl ?_
            refine x_iload_n (pc := 77) 2 dX9_addWord_77 rfl ?_
            refine x_iload_n (pc := 78) 3 dX9_addWord_78 rfl ?_
            obtain ⟨q29, e⟩ := chk_some e
            rcases bnd_some e with ⟨h30, r31, ec, rfl⟩ | ⟨h30, r31, ec, e⟩
            · exact y_callV_x (pc := 79) (c_X9_puts hl ec) q29 mf_X9_puts tw_7_91 ts_7_1 lf_X9_130 rfl rfl dX9_addWord_79 (by decide) rfl rfl (leb rfl) (xx_out0 rfl)
            refine y_callV_v (pc := 79) (c_X9_puts hl ec) q29 mf_X9_puts tw_7_91 ts_7_1 lf_X9_130 rfl rfl dX9_addWord_79 (by decide) rfl rfl (leb rfl) ?_
            refine x_aload_n (pc := 82) 0 dX9_addWord_82 rfl ?_
            refine x_iload_n (pc := 83) 1 dX9_addWord_83 rfl ?_
            refine x_iconst (pc := 84) dX9_addWord_84 ?_
            obtain ⟨q32, e⟩ := chk_some e
            rcases bnd_some e with ⟨h33, r34, ec, rfl⟩ | ⟨h33, r34, ec, e⟩
            · exact y_callV_x (pc := 85) (c_X9_of hl ec) q32 mf_X9_of tw_7_63 ts_6_12 lf_X9_91 rfl rfl dX9_addWord_85 (by decide) rfl rfl (leb rfl) (xx_out0 rfl)
            refine y_callV_i (pc := 85) (c_X9_of hl ec) q32 mf_X9_of tw_7_63 ts_6_12 lf_X9_91 rfl rfl dX9_addWord_85 (by decide) rfl rfl (leb rfl) ?_
            cases Option.some.inj e
            exact x_iret (pc := 88) rfl dX9_addWord_88
abbrev w_X9_addWord : Cond := (Cond.code yX9_addWord cX9_addWord 4 (Option.some Jvm.ClassFile.FieldType.int))
theorem mf_X9_addWord : MF yX9_addWord w_X9_addWord cX9_addWord 4 (Option.some Jvm.ClassFile.FieldType.int) 3 := ⟨⟨rfl, tw_7_84, by decide⟩, tw_1_11, ⟨by decide, by decide⟩, by decide +kernel⟩
theorem c_X9_addWord {l : Launch} {K : Ctx} (hl : l.stackTraces = false) {h : Hp} {a0 : Nat} {i1 : Int32} {i2 : Int32} {i3 : Int32} {t : Rs Int32} (e : f_X9_addWord h a0 i1 i2 i3 = some t) : Ctr l K 10 yX9_addWord w_X9_addWord [.ref a0, .int i1, .int i2, .int i3] h (tgI t) :=
  Ctr.of hl mf_X9_addWord false (fun q => nomatch q) rfl (leb rfl) (p_X9_addWord hl e)
/-! ## TableColumnBalancer.clearWords -/
abbrev mM_X8_clearWords : Mi := (14, yX8_clearWords.cls, cX8_clearWords, 4, (Option.some Jvm.ClassFile.FieldType.int), [], false)
noncomputable def f_X8_clearWords (h : Hp) (a0 : Nat) (i1 : Int32) : Option (Rs Int32) :=
  chk (okr h a0 8) <|
  bnd (f_X8_textOf h a0 i1) fun h2 r3 =>
  chk (okr h2 r3 4) <|
  bnd (f_X4_begin h2 r3 (qI h2 r3 0)) fun h5 _ =>
  chk (okr h5 a0 8) <|
  bnd (f_X8_changed h5 a0) fun h8 _ =>
  some (h8, .inr (qI h2 r3 3))
theorem p_X8_clearWords {l : Launch} {K : Ctx} (hl : l.stackTraces = false) {h : Hp} {a0 : Nat} {i1 : Int32} {t : Rs Int32} (e : f_X8_clearWords h a0 i1 = some t) : X l K mM_X8_clearWords (tgI t) 0 [(0, .ref a0), (1, .int i1)] [] h := by
  unfold f_X8_clearWords at e
  refine x_aload_n (pc := 0) 0 dX8_clearWords_0 rfl ?_
  refine x_iload_n (pc := 1) 1 dX8_clearWords_1 rfl ?_
  obtain ⟨q1, e⟩ := chk_some e
  rcases bnd_some e with ⟨h2, r3, ec, rfl⟩ | ⟨h2, r3, ec, e⟩
  · exact y_callV_x (pc := 2) (c_X8_textOf hl ec) q1 mf_X8_textOf tw_4_83 ts_4_0 lf_X8_145 rfl rfl dX8_clearWords_2 (by decide) rfl rfl (leb rfl) (xx_out0 rfl)
  refine y_callV_i (pc := 2) (c_X8_textOf hl ec) q1 mf_X8_textOf tw_4_83 ts_4_0 lf_X8_145 rfl rfl dX8_clearWords_2 (by decide) rfl rfl (leb rfl) ?_
  refine x_astore_n (pc := 5) dX8_clearWords_5 (by decide) rfl ?_
  refine x_aload_n (pc := 6) 0 dX8_clearWords_6 rfl ?_
  obtain ⟨q4, e⟩ := chk_some e
  refine x_getI (pc := 7) gf_X8_149 rfl dX8_clearWords_7 q4 ?_
  refine x_istore_n (pc := 10) dX8_clearWords_10 (by decide) rfl ?_
  refine x_aload_n (pc := 11) 1 dX8_clearWords_11 rfl ?_
  refine x_aload_n (pc := 12) 1 dX8_clearWords_12 rfl ?_
  refine x_getI (pc := 13) gf_X8_156 rfl dX8_clearWords_13 q4 ?_
  rcases bnd_some e with ⟨h5, r6, ec, rfl⟩ | ⟨h5, r6, ec, e⟩
  · exact y_callV_x (pc := 16) (c_X4_begin hl ec) q4 mf_X4_begin tw_4_43 ts_3_10 lf_X8_134 rfl rfl dX8_clearWords_16 (by decide) rfl rfl (leb rfl) (xx_out0 rfl)
  refine y_callV_v (pc := 16) (c_X4_begin hl ec) q4 mf_X4_begin tw_4_43 ts_3_10 lf_X8_134 rfl rfl dX8_clearWords_16 (by decide) rfl rfl (leb rfl) ?_
  refine x_aload_n (pc := 19) 2 dX8_clearWords_19 rfl ?_
  obtain ⟨q7, e⟩ := chk_some e
  rcases bnd_some e with ⟨h8, r9, ec, rfl⟩ | ⟨h8, r9, ec, e⟩
  · exact y_callV_x (pc := 20) (c_X8_changed hl ec) q7 mf_X8_changed tw_3_182 ts_3_5 lf_X8_93 rfl rfl dX8_clearWords_20 (by decide) rfl rfl (leb rfl) (xx_out0 rfl)
  refine y_callV_v (pc := 20) (c_X8_changed hl ec) q7 mf_X8_changed tw_3_182 ts_3_5 lf_X8_93 rfl rfl dX8_clearWords_20 (by decide) rfl rfl (leb rfl) ?_
  refine x_iload_n (pc := 23) 0 dX8_clearWords_23 rfl ?_
  cases Option.some.inj e
  exact x_iret (pc := 24) rfl dX8_clearWords_24
abbrev w_X8_clearWords : Cond := (Cond.code yX8_clearWords cX8_clearWords 4 (Option.some Jvm.ClassFile.FieldType.int))
theorem mf_X8_clearWords : MF yX8_clearWords w_X8_clearWords cX8_clearWords 4 (Option.some Jvm.ClassFile.FieldType.int) 1 := ⟨⟨rfl, tw_4_114, by decide⟩, tw_1_1, ⟨by decide, by decide⟩, by decide +kernel⟩
theorem c_X8_clearWords {l : Launch} {K : Ctx} (hl : l.stackTraces = false) {h : Hp} {a0 : Nat} {i1 : Int32} {t : Rs Int32} (e : f_X8_clearWords h a0 i1 = some t) : Ctr l K 14 yX8_clearWords w_X8_clearWords [.ref a0, .int i1] h (tgI t) :=
  Ctr.of hl mf_X8_clearWords false (fun q => nomatch q) rfl (leb rfl) (p_X8_clearWords hl e)
/-! ## TableColumnBalancerLaw.clearWords -/
abbrev mM_L_clearWords : Mi := (15, yL_clearWords.cls, cL_clearWords, 4, (Option.some Jvm.ClassFile.FieldType.int), [((0 : Nat), (9 : Nat), (12 : Nat), (21 : Nat)), ((0 : Nat), (9 : Nat), (15 : Nat), (41 : Nat))], false)
noncomputable def f_L_clearWords (h : Hp) (a0 : Nat) (i1 : Int32) (a2 : Nat) : Option (Rs Int32) :=
  chk (okr h a0 8) <|
  bndX (f_X8_clearWords h a0 i1) (fun h2 r3 => (
    chk (okr h2 a2 21) <|
    chk (vp_in (iN 0) (qW h2 a2)) <|
    lt (putL h2 a2 (Int32.toNatClampNeg (iN 0)) (Int32.toInt64 r3)) fun h6 =>
    some (h6, .inr (iN 0))
  )) fun h2 k =>
  if k = 2 then (
    some (h2, .inr (iN 1))
  ) else
  if k = 4 then (
    some (h2, .inr (iN 2))
  ) else
  none
theorem p_L_clearWords {l : Launch} {K : Ctx} (hl : l.stackTraces = false) {h : Hp} {a0 : Nat} {i1 : Int32} {a2 : Nat} {t : Rs Int32} (e : f_L_clearWords h a0 i1 a2 = some t) : X l K mM_L_clearWords (tgI t) 0 [(0, .ref a0), (1, .int i1), (2, .ref a2)] [] h := by
  unfold f_L_clearWords at e
  refine x_aload_n (pc := 0) 2 dL_clearWords_0 rfl ?_
  refine x_iconst (pc := 1) dL_clearWords_1 ?_
  refine x_aload_n (pc := 2) 0 dL_clearWords_2 rfl ?_
  refine x_iload_n (pc := 3) 1 dL_clearWords_3 rfl ?_
  obtain ⟨q1, e⟩ := chk_some e
  rcases bndX_some e with ⟨h2, k, ec, e⟩ | ⟨h2, r3, ec, e⟩
  · rcases ite_some e with ⟨q7, e⟩ | ⟨q7, e⟩
    · subst q7
      refine y_callV_x (pc := 4) (c_X8_clearWords hl ec) q1 mf_X8_clearWords tw_4_112 tw_4_113 lf_L_43 rfl rfl dL_clearWords_4 (by decide) rfl rfl (leb rfl) (xx_catch (pc := 4) [] [(0, 9, 15, 41)] (0, 9, 12, 21) rfl (by decide) (fun _ hz => absurd hz List.not_mem_nil) (by decide) (by decide) tw_3_187 tw_3_229 dL_clearWords_12 (by decide) rfl ?_)
      refine x_iconst (pc := 13) dL_clearWords_13 ?_
      cases Option.some.inj e
      exact x_iret (pc := 14) rfl dL_clearWords_14
    rcases ite_some e with ⟨q8, e⟩ | ⟨q8, e⟩
    · subst q8
      refine y_callV_x (pc := 4) (c_X8_clearWords hl ec) q1 mf_X8_clearWords tw_4_112 tw_4_113 lf_L_43 rfl rfl dL_clearWords_4 (by decide) rfl rfl (leb rfl) (xx_catch (pc := 4) [(0, 9, 12, 21)] [] (0, 9, 15, 41) rfl (by decide) (List.forall_mem_cons.mpr ⟨⟨by decide, 2, by decide, by decide, tw_3_187⟩, fun _ hz => absurd hz List.not_mem_nil⟩) (by decide) (by decide) tw_4_76 tw_4_91 dL_clearWords_15 (by decide) rfl ?_)
      refine x_iconst (pc := 16) dL_clearWords_16 ?_
      cases Option.some.inj e
      exact x_iret (pc := 17) rfl dL_clearWords_17
    cases e
  refine y_callV_i (pc := 4) (c_X8_clearWords hl ec) q1 mf_X8_clearWords tw_4_112 tw_4_113 lf_L_43 rfl rfl dL_clearWords_4 (by decide) rfl rfl (leb rfl) ?_
  refine x_i2l (pc := 7) dL_clearWords_7 ?_
  obtain ⟨q4, e⟩ := chk_some e
  obtain ⟨q5, e⟩ := chk_some e
  replace e := lt_go e
  refine x_last (pc := 8) dL_clearWords_8 q4 q5 ?_
  refine x_goto (pc := 9) (t := 18) dL_clearWords_9 (by decide) ?_
  refine x_iconst (pc := 18) dL_clearWords_18 ?_
  cases Option.some.inj e
  exact x_iret (pc := 19) rfl dL_clearWords_19
abbrev w_L_clearWords : Cond := (Cond.codeWith yL_clearWords cL_clearWords 4 (Option.some Jvm.ClassFile.FieldType.int) [((0 : Nat), (9 : Nat), (12 : Nat), (21 : Nat)), ((0 : Nat), (9 : Nat), (15 : Nat), (41 : Nat))])
theorem mf_L_clearWords : MFX yL_clearWords w_L_clearWords cL_clearWords 4 (Option.some Jvm.ClassFile.FieldType.int) 3 [((0 : Nat), (9 : Nat), (12 : Nat), (21 : Nat)), ((0 : Nat), (9 : Nat), (15 : Nat), (41 : Nat))] := ⟨⟨rfl, tw_4_110, by decide⟩, tw_1_0, ⟨by decide, by decide⟩, by decide +kernel⟩
theorem c_L_clearWords {l : Launch} {K : Ctx} (hl : l.stackTraces = false) {h : Hp} {a0 : Nat} {i1 : Int32} {a2 : Nat} {t : Rs Int32} (e : f_L_clearWords h a0 i1 a2 = some t) : Ctr l K 15 yL_clearWords w_L_clearWords [.ref a0, .int i1, .ref a2] h (tgI t) :=
  Ctr.ofX hl mf_L_clearWords rfl (leb rfl) (p_L_clearWords hl e)
/-! ## TableColumnBalancerModel.clearWords -/
abbrev mM_X9_clearWords : Mi := (10, yX9_clearWords.cls, cX9_clearWords, 3, (Option.some Jvm.ClassFile.FieldType.int), [], false)
noncomputable def f_X9_clearWords (h : Hp) (a0 : Nat) (i1 : Int32) : Option (Rs Int32) :=
  chk (okr h a0 9) <|
  lt (putI h a0 0 (iN 0)) fun h2 =>
  bnd (f_X9_isCell h2 a0 i1) fun h3 r4 =>
  if r4 = 0 then (
    chk (okr h3 a0 9) <|
    bnd (f_X9_fails h3 a0 (iN 1)) fun h7 r8 =>
    some (h7, .inr r8)
  ) else (
    chk (okr h3 a0 9) <|
    bnd (f_X9_isText h3 a0 i1) fun h10 r11 =>
    if r11 = 0 then (
      chk (okr h10 a0 9) <|
      bnd (f_X9_fails h10 a0 (iN 2)) fun h14 r15 =>
      some (h14, .inr r15)
    ) else (
      chk (okr h10 a0 9) <|
      bnd (f_X9_of h10 a0 i1 (iN 4)) fun h17 r18 =>
      chk (okr h17 a0 9) <|
      chk (okr h17 (qR h17 a0 1) 20) <|
      chk (vp_in (((iN 10) + ((iN 31) * i1)) + (iN 4)) (qW h17 (qR h17 a0 1))) <|
      lt (putI h17 (qR h17 a0 1) (Int32.toNatClampNeg (((iN 10) + ((iN 31) * i1)) + (iN 4))) (iN 0)) fun h22 =>
      some (h22, .inr r18)
    )
  )
theorem p_X9_clearWords {l : Launch} {K : Ctx} (hl : l.stackTraces = false) {h : Hp} {a0 : Nat} {i1 : Int32} {t : Rs Int32} (e : f_X9_clearWords h a0 i1 = some t) : X l K mM_X9_clearWords (tgI t) 0 [(0, .ref a0), (1, .int i1)] [] h := by
  unfold f_X9_clearWords at e
  refine x_aload_n (pc := 0) 0 dX9_clearWords_0 rfl ?_
  refine x_iconst (pc := 1) dX9_clearWords_1 ?_
  obtain ⟨q1, e⟩ := chk_some e
  replace e := lt_go e
  refine x_putI (pc := 2) pf_X9_84 rfl rfl rfl dX9_clearWords_2 q1 ?_
  refine x_aload_n (pc := 5) 0 dX9_clearWords_5 rfl ?_
  refine x_iload_n (pc := 6) 1 dX9_clearWords_6 rfl ?_
  rcases bnd_some e with ⟨h3, r4, ec, rfl⟩ | ⟨h3, r4, ec, e⟩
  · exact y_callV_x (pc := 7) (c_X9_isCell hl ec) (okr_pI q1) mf_X9_isCell tw_7_75 ts_6_14 lf_X9_120 rfl rfl dX9_clearWords_7 (by decide) rfl rfl (leb rfl) (xx_out0 rfl)
  refine y_callV_i (pc := 7) (c_X9_isCell hl ec) (okr_pI q1) mf_X9_isCell tw_7_75 ts_6_14 lf_X9_120 rfl rfl dX9_clearWords_7 (by decide) rfl rfl (leb rfl) ?_
  rcases ite_some e with ⟨q5, e⟩ | ⟨q5, e⟩
  · refine x_if_ne_f (pc := 10) (t := 19) dX9_clearWords_10 (by decide) q5 ?_
    refine x_aload_n (pc := 13) 0 dX9_clearWords_13 rfl ?_
    refine x_iconst (pc := 14) dX9_clearWords_14 ?_
    obtain ⟨q6, e⟩ := chk_some e
    rcases bnd_some e with ⟨h7, r8, ec, rfl⟩ | ⟨h7, r8, ec, e⟩
    · exact y_callV_x (pc := 15) (c_X9_fails hl ec) q6 mf_X9_fails tw_7_24 ts_6_7 lf_X9_95 rfl rfl dX9_clearWords_15 (by decide) rfl rfl (leb rfl) (xx_out0 rfl)
    refine y_callV_i (pc := 15) (c_X9_fails hl ec) q6 mf_X9_fails tw_7_24 ts_6_7 lf_X9_95 rfl rfl dX9_clearWords_15 (by decide) rfl rfl (leb rfl) ?_
    cases Option.some.inj e
    exact x_iret (pc := 18) rfl dX9_clearWords_18
  · refine x_if_ne_t (pc := 10) (t := 19) dX9_clearWords_10 (by decide) q5 ?_
    refine x_aload_n (pc := 19) 0 dX9_clearWords_19 rfl ?_
    refine x_iload_n (pc := 20) 1 dX9_clearWords_20 rfl ?_
    obtain ⟨q9, e⟩ := chk_some e
    rcases bnd_some e with ⟨h10, r11, ec, rfl⟩ | ⟨h10, r11, ec, e⟩
    · exact y_callV_x (pc := 21) (c_X9_isText hl ec) q9 mf_X9_isText tw_7_87 ts_7_0 lf_X9_127 rfl rfl dX9_clearWords_21 (by decide) rfl rfl (leb rfl) (xx_out0 rfl)
    refine y_callV_i (pc := 21) (c_X9_isText hl ec) q9 mf_X9_isText tw_7_87 ts_7_0 lf_X9_127 rfl rfl dX9_clearWords_21 (by decide) rfl rfl (leb rfl) ?_
    rcases ite_some e with ⟨q12, e⟩ | ⟨q12, e⟩
    · refine x_if_ne_f (pc := 24) (t := 33) dX9_clearWords_24 (by decide) q12 ?_
      refine x_aload_n (pc := 27) 0 dX9_clearWords_27 rfl ?_
      refine x_iconst (pc := 28) dX9_clearWords_28 ?_
      obtain ⟨q13, e⟩ := chk_some e
      rcases bnd_some e with ⟨h14, r15, ec, rfl⟩ | ⟨h14, r15, ec, e⟩
      · exact y_callV_x (pc := 29) (c_X9_fails hl ec) q13 mf_X9_fails tw_7_24 ts_6_7 lf_X9_95 rfl rfl dX9_clearWords_29 (by decide) rfl rfl (leb rfl) (xx_out0 rfl)
      refine y_callV_i (pc := 29) (c_X9_fails hl ec) q13 mf_X9_fails tw_7_24 ts_6_7 lf_X9_95 rfl rfl dX9_clearWords_29 (by decide) rfl rfl (leb rfl) ?_
      cases Option.some.inj e
      exact x_iret (pc := 32) rfl dX9_clearWords_32
    · refine x_if_ne_t (pc := 24) (t := 33) dX9_clearWords_24 (by decide) q12 ?_
      refine x_aload_n (pc := 33) 0 dX9_clearWords_33 rfl ?_
      refine x_iload_n (pc := 34) 1 dX9_clearWords_34 rfl ?_
      refine x_iconst (pc := 35) dX9_clearWords_35 ?_
      obtain ⟨q16, e⟩ := chk_some e
      rcases bnd_some e with ⟨h17, r18, ec, rfl⟩ | ⟨h17, r18, ec, e⟩
      · exact y_callV_x (pc := 36) (c_X9_of hl ec) q16 mf_X9_of tw_7_63 ts_6_12 lf_X9_91 rfl rfl dX9_clearWords_36 (by decide) rfl rfl (leb rfl) (xx_out0 rfl)
      refine y_callV_i (pc := 36) (c_X9_of hl ec) q16 mf_X9_of tw_7_63 ts_6_12 lf_X9_91 rfl rfl dX9_clearWords_36 (by decide) rfl rfl (leb rfl) ?_
      refine x_istore_n (pc := 39) dX9_clearWords_39 (by decide) rfl ?_
      refine x_aload_n (pc := 40) 1 dX9_clearWords_40 rfl ?_
      obtain ⟨q19, e⟩ := chk_some e
      obtain ⟨q20, e⟩ := chk_some e
      refine x_getR (pc := 41) gf_X9_9 rfl dX9_clearWords_41 q19 q20.1 ?_
      refine x_bipush (pc := 44) (v := iN 10) dX9_clearWords_44 rfl ?_
      refine x_bipush (pc := 46) (v := iN 31) dX9_clearWords_46 rfl ?_
      refine x_iload_n (pc := 48) 2 dX9_clearWords_48 rfl ?_
      refine x_imul (pc := 49) dX9_clearWords_49 ?_
      refine x_iadd (pc := 50) dX9_clearWords_50 ?_
      refine x_iconst (pc := 51) dX9_clearWords_51 ?_
      refine x_iadd (pc := 52) dX9_clearWords_52 ?_
      refine x_iconst (pc := 53) dX9_clearWords_53 ?_
      obtain ⟨q21, e⟩ := chk_some e
      replace e := lt_go e
      refine x_iast (pc := 54) dX9_clearWords_54 q20 q21 ?_
      refine x_iload_n (pc := 55) 0 dX9_clearWords_55 rfl ?_
      cases Option.some.inj e
      exact x_iret (pc := 56) rfl dX9_clearWords_56
abbrev w_X9_clearWords : Cond := (Cond.code yX9_clearWords cX9_clearWords 3 (Option.some Jvm.ClassFile.FieldType.int))
theorem mf_X9_clearWords : MF yX9_clearWords w_X9_clearWords cX9_clearWords 3 (Option.some Jvm.ClassFile.FieldType.int) 1 := ⟨⟨rfl, tw_7_96, by decide⟩, tw_1_11, ⟨by decide, by decide⟩, by decide +kernel⟩
theorem c_X9_clearWords {l : Launch} {K : Ctx} (hl : l.stackTraces = false) {h : Hp} {a0 : Nat} {i1 : Int32} {t : Rs Int32} (e : f_X9_clearWords h a0 i1 = some t) : Ctr l K 10 yX9_clearWords w_X9_clearWords [.ref a0, .int i1] h (tgI t) :=
  Ctr.of hl mf_X9_clearWords false (fun q => nomatch q) rfl (leb rfl) (p_X9_clearWords hl e)
/-! ## TableColumnBalancer$Content.resize -/
abbrev mM_X4_resize : Mi := (10, yX4_resize.cls, cX4_resize, 3, (Option.none : Option Jvm.ClassFile.FieldType), [], false)
noncomputable def f_X4_resize (h : Hp) (a0 : Nat) (i1 : Int32) (i2 : Int32) : Option (Rs Unit) :=
  chk (okr h a0 4) <|
  lt (putI h a0 1 i1) fun h2 =>
  lt (putI h2 a0 2 i2) fun h3 =>
  bnd (f_X4_settle h3 a0) fun h4 _ =>
  some (h4, .inr ())
theorem p_X4_resize {l : Launch} {K : Ctx} (hl : l.stackTraces = false) {h : Hp} {a0 : Nat} {i1 : Int32} {i2 : Int32} {t : Rs Unit} (e : f_X4_resize h a0 i1 i2 = some t) : X l K mM_X4_resize (tgV t) 0 [(0, .ref a0), (1, .int i1), (2, .int i2)] [] h := by
  unfold f_X4_resize at e
  refine x_aload_n (pc := 0) 0 dX4_resize_0 rfl ?_
  refine x_iload_n (pc := 1) 1 dX4_resize_1 rfl ?_
  obtain ⟨q1, e⟩ := chk_some e
  replace e := lt_go e
  refine x_putI (pc := 2) pf_X4_38 rfl rfl rfl dX4_resize_2 q1 ?_
  refine x_aload_n (pc := 5) 0 dX4_resize_5 rfl ?_
  refine x_iload_n (pc := 6) 2 dX4_resize_6 rfl ?_
  replace e := lt_go e
  refine x_putI (pc := 7) pf_X4_41 rfl rfl rfl dX4_resize_7 (okr_pI q1) ?_
  refine x_aload_n (pc := 10) 0 dX4_resize_10 rfl ?_
  rcases bnd_some e with ⟨h4, r5, ec, rfl⟩ | ⟨h4, r5, ec, e⟩
  · exact y_callV_x (pc := 11) (c_X4_settle hl ec) (okr_pI (okr_pI q1)) mf_X4_settle tw_4_47 ts_3_11 lf_X4_47 rfl rfl dX4_resize_11 (by decide) rfl rfl (leb rfl) (xx_out0 rfl)
  refine y_callV_v (pc := 11) (c_X4_settle hl ec) (okr_pI (okr_pI q1)) mf_X4_settle tw_4_47 ts_3_11 lf_X4_47 rfl rfl dX4_resize_11 (by decide) rfl rfl (leb rfl) ?_
  cases Option.some.inj e
  exact x_vret (pc := 14) rfl dX4_resize_14
abbrev w_X4_resize : Cond := (Cond.code yX4_resize cX4_resize 3 (Option.none : Option Jvm.ClassFile.FieldType))
theorem mf_X4_resize : MF yX4_resize w_X4_resize cX4_resize 3 (Option.none : Option Jvm.ClassFile.FieldType) 2 := ⟨⟨rfl, tw_4_125, by decide⟩, tw_1_4, ⟨by decide, by decide⟩, by decide +kernel⟩
theorem c_X4_resize {l : Launch} {K : Ctx} (hl : l.stackTraces = false) {h : Hp} {a0 : Nat} {i1 : Int32} {i2 : Int32} {t : Rs Unit} (e : f_X4_resize h a0 i1 i2 = some t) : Ctr l K 10 yX4_resize w_X4_resize [.ref a0, .int i1, .int i2] h (tgV t) :=
  Ctr.of hl mf_X4_resize false (fun q => nomatch q) rfl (leb rfl) (p_X4_resize hl e)
/-! ## TableColumnBalancer.setSize -/
abbrev mM_X8_setSize : Mi := (14, yX8_setSize.cls, cX8_setSize, 6, (Option.some Jvm.ClassFile.FieldType.int), [], false)
noncomputable def f_X8_setSize_L32 (h : Hp) (a0 : Nat) (i2 : Int32) (i3 : Int32) (a4 : Nat) (s0 : Int32) : Option (Rs Int32) :=
  bnd (f_X8_requireSupport h s0) fun h1 _ =>
  bnd (f_X8_isWithin h1 i2 (iN 1) (iN 20)) fun h3 r4 =>
  bnd (f_X8_requireArgument h3 r4) fun h5 _ =>
  bnd (f_X8_isWithin h5 i3 (iN 1) (iN 20)) fun h7 r8 =>
  bnd (f_X8_requireArgument h7 r8) fun h9 _ =>
  chk (okr h9 a4 4) <|
  bnd (f_X4_resize h9 a4 i2 i3) fun h12 _ =>
  chk (okr h12 a0 8) <|
  bnd (f_X8_changed h12 a0) fun h15 _ =>
  some (h15, .inr (((iN 100) * (qI h9 a4 1)) + (qI h9 a4 2)))
theorem p_X8_setSize_L32 {l : Launch} {K : Ctx} (hl : l.stackTraces = false) {h : Hp} {a0 : Nat} {i2 : Int32} {i3 : Int32} {a4 : Nat} {s0 : Int32} {t : Rs Int32} (e : f_X8_setSize_L32 h a0 i2 i3 a4 s0 = some t) : X l K mM_X8_setSize (tgI t) 32 [(0, .ref a0), (2, .int i2), (3, .int i3), (4, .ref a4)] [.int s0] h := by
  unfold f_X8_setSize_L32 at e
  rcases bnd_some e with ⟨h1, r2, ec, rfl⟩ | ⟨h1, r2, ec, e⟩
  · exact y_callS_x (pc := 32) (c_X8_requireSupport hl ec) mf_X8_requireSupport tw_4_87 lf_X8_173 dX8_setSize_32 (by decide) rfl rfl (leb rfl) (xx_out0 rfl)
  refine y_callS_v (pc := 32) (c_X8_requireSupport hl ec) mf_X8_requireSupport tw_4_87 lf_X8_173 dX8_setSize_32 (by decide) rfl rfl (leb rfl) ?_
  refine x_iload_n (pc := 35) 1 dX8_setSize_35 rfl ?_
  refine x_iconst (pc := 36) dX8_setSize_36 ?_
  refine x_bipush (pc := 37) (v := iN 20) dX8_setSize_37 rfl ?_
  rcases bnd_some e with ⟨h3, r4, ec, rfl⟩ | ⟨h3, r4, ec, e⟩
  · exact y_callS_x (pc := 39) (c_X8_isWithin hl ec) mf_X8_isWithin tw_3_26 lf_X8_72 dX8_setSize_39 (by decide) rfl rfl (leb rfl) (xx_out0 rfl)
  refine y_callS_i (pc := 39) (c_X8_isWithin hl ec) mf_X8_isWithin tw_3_26 lf_X8_72 dX8_setSize_39 (by decide) rfl rfl (leb rfl) ?_
  rcases bnd_some e with ⟨h5, r6, ec, rfl⟩ | ⟨h5, r6, ec, e⟩
  · exact y_callS_x (pc := 42) (c_X8_requireArgument hl ec) mf_X8_requireArgument tw_3_84 lf_X8_76 dX8_setSize_42 (by decide) rfl rfl (leb rfl) (xx_out0 rfl)
  refine y_callS_v (pc := 42) (c_X8_requireArgument hl ec) mf_X8_requireArgument tw_3_84 lf_X8_76 dX8_setSize_42 (by decide) rfl rfl (leb rfl) ?_
  refine x_iload_n (pc := 45) 2 dX8_setSize_45 rfl ?_
  refine x_iconst (pc := 46) dX8_setSize_46 ?_
  refine x_bipush (pc := 47) (v := iN 20) dX8_setSize_47 rfl ?_
  rcases bnd_some e with ⟨h7, r8, ec, rfl⟩ | ⟨h7, r8, ec, e⟩
  · exact y_callS_x (pc := 49) (c_X8_isWithin hl ec) mf_X8_isWithin tw_3_26 lf_X8_72 dX8_setSize_49 (by decide) rfl rfl (leb rfl) (xx_out0 rfl)
  refine y_callS_i (pc := 49) (c_X8_isWithin hl ec) mf_X8_isWithin tw_3_26 lf_X8_72 dX8_setSize_49 (by decide) rfl rfl (leb rfl) ?_
  rcases bnd_some e with ⟨h9, r10, ec, rfl⟩ | ⟨h9, r10, ec, e⟩
  · exact y_callS_x (pc := 52) (c_X8_requireArgument hl ec) mf_X8_requireArgument tw_3_84 lf_X8_76 dX8_setSize_52 (by decide) rfl rfl (leb rfl) (xx_out0 rfl)
  refine y_callS_v (pc := 52) (c_X8_requireArgument hl ec) mf_X8_requireArgument tw_3_84 lf_X8_76 dX8_setSize_52 (by decide) rfl rfl (leb rfl) ?_
  refine x_bipush (pc := 55) (v := iN 100) dX8_setSize_55 rfl ?_
  refine x_aload (pc := 57) 3 dX8_setSize_57 rfl ?_
  obtain ⟨q11, e⟩ := chk_some e
  refine x_getI (pc := 59) gf_X8_176 rfl dX8_setSize_59 q11 ?_
  refine x_imul (pc := 62) dX8_setSize_62 ?_
  refine x_aload (pc := 63) 3 dX8_setSize_63 rfl ?_
  refine x_getI (pc := 65) gf_X8_177 rfl dX8_setSize_65 q11 ?_
  refine x_iadd (pc := 68) dX8_setSize_68 ?_
  refine x_istore (pc := 69) dX8_setSize_69 (by decide) rfl ?_
  refine x_aload (pc := 71) 4 dX8_setSize_71 rfl ?_
  refine x_iload_n (pc := 73) 2 dX8_setSize_73 rfl ?_
  refine x_iload_n (pc := 74) 3 dX8_setSize_74 rfl ?_
  rcases bnd_some e with ⟨h12, r13, ec, rfl⟩ | ⟨h12, r13, ec, e⟩
  · exact y_callV_x (pc := 75) (c_X4_resize hl ec) q11 mf_X4_resize tw_4_124 ts_4_2 lf_X8_180 rfl rfl dX8_setSize_75 (by decide) rfl rfl (leb rfl) (xx_out0 rfl)
  refine y_callV_v (pc := 75) (c_X4_resize hl ec) q11 mf_X4_resize tw_4_124 ts_4_2 lf_X8_180 rfl rfl dX8_setSize_75 (by decide) rfl rfl (leb rfl) ?_
  refine x_aload_n (pc := 78) 1 dX8_setSize_78 rfl ?_
  obtain ⟨q14, e⟩ := chk_some e
  rcases bnd_some e with ⟨h15, r16, ec, rfl⟩ | ⟨h15, r16, ec, e⟩
  · exact y_callV_x (pc := 79) (c_X8_changed hl ec) q14 mf_X8_changed tw_3_182 ts_3_5 lf_X8_93 rfl rfl dX8_setSize_79 (by decide) rfl rfl (leb rfl) (xx_out0 rfl)
  refine y_callV_v (pc := 79) (c_X8_changed hl ec) q14 mf_X8_changed tw_3_182 ts_3_5 lf_X8_93 rfl rfl dX8_setSize_79 (by decide) rfl rfl (leb rfl) ?_
  refine x_iload (pc := 82) 0 dX8_setSize_82 rfl ?_
  cases Option.some.inj e
  exact x_iret (pc := 84) rfl dX8_setSize_84
noncomputable def f_X8_setSize (h : Hp) (a0 : Nat) (i1 : Int32) (i2 : Int32) (i3 : Int32) : Option (Rs Int32) :=
  chk (okr h a0 8) <|
  bnd (f_X8_requireCell h a0 i1) fun h2 _ =>
  chk (okr h2 a0 8) <|
  chk (okr h2 (qR h2 a0 0) 7) <|
  chk (okr h2 (qR h2 (qR h2 a0 0) 8) 25) <|
  chk (vp_in i1 (qW h2 (qR h2 (qR h2 a0 0) 8))) <|
  chk (okr h2 (qR h2 (qR h2 (qR h2 a0 0) 8) (Int32.toNatClampNeg i1)) 1) <|
  chk (okr h2 (qR h2 (qR h2 (qR h2 (qR h2 a0 0) 8) (Int32.toNatClampNeg i1)) 3) 4) <|
  bnd (f_X4_isText h2 (qR h2 (qR h2 (qR h2 (qR h2 a0 0) 8) (Int32.toNatClampNeg i1)) 3)) fun h10 r11 =>
  if r11 = 0 then (
    f_X8_setSize_L32 h10 a0 i2 i3 (qR h2 (qR h2 (qR h2 (qR h2 a0 0) 8) (Int32.toNatClampNeg i1)) 3) (iN 1)
  ) else (
    f_X8_setSize_L32 h10 a0 i2 i3 (qR h2 (qR h2 (qR h2 (qR h2 a0 0) 8) (Int32.toNatClampNeg i1)) 3) (iN 0)
  )
theorem p_X8_setSize {l : Launch} {K : Ctx} (hl : l.stackTraces = false) {h : Hp} {a0 : Nat} {i1 : Int32} {i2 : Int32} {i3 : Int32} {t : Rs Int32} (e : f_X8_setSize h a0 i1 i2 i3 = some t) : X l K mM_X8_setSize (tgI t) 0 [(0, .ref a0), (1, .int i1), (2, .int i2), (3, .int i3)] [] h := by
  unfold f_X8_setSize at e
  refine x_aload_n (pc := 0) 0 dX8_setSize_0 rfl ?_
  refine x_iload_n (pc := 1) 1 dX8_setSize_1 rfl ?_
  obtain ⟨q1, e⟩ := chk_some e
  rcases bnd_some e with ⟨h2, r3, ec, rfl⟩ | ⟨h2, r3, ec, e⟩
  · exact y_callV_x (pc := 2) (c_X8_requireCell hl ec) q1 mf_X8_requireCell tw_4_67 ts_3_14 lf_X8_139 rfl rfl dX8_setSize_2 (by decide) rfl rfl (leb rfl) (xx_out0 rfl)
  refine y_callV_v (pc := 2) (c_X8_requireCell hl ec) q1 mf_X8_requireCell tw_4_67 ts_3_14 lf_X8_139 rfl rfl dX8_setSize_2 (by decide) rfl rfl (leb rfl) ?_
  refine x_aload_n (pc := 5) 0 dX8_setSize_5 rfl ?_
  obtain ⟨q4, e⟩ := chk_some e
  obtain ⟨q5, e⟩ := chk_some e
  refine x_getR (pc := 6) gf_X8_10 rfl dX8_setSize_6 q4 q5.1 ?_
  obtain ⟨q6, e⟩ := chk_some e
  refine x_getR (pc := 9) gf_X8_159 rfl dX8_setSize_9 q5 q6.1 ?_
  refine x_iload_n (pc := 12) 1 dX8_setSize_12 rfl ?_
  obtain ⟨q7, e⟩ := chk_some e
  obtain ⟨q8, e⟩ := chk_some e
  refine x_aald (pc := 13) (t := 1) (by decide) dX8_setSize_13 q6 q7 q8.1 ?_
  obtain ⟨q9, e⟩ := chk_some e
  refine x_getR (pc := 14) gf_X8_163 rfl dX8_setSize_14 q8 q9.1 ?_
  refine x_astore (pc := 17) dX8_setSize_17 (by decide) rfl ?_
  refine x_aload (pc := 19) 0 dX8_setSize_19 rfl ?_
  rcases bnd_some e with ⟨h10, r11, ec, rfl⟩ | ⟨h10, r11, ec, e⟩
  · exact y_callV_x (pc := 21) (c_X4_isText hl ec) q9 mf_X4_isText tw_2_120 ts_1_4 lf_X8_169 rfl rfl dX8_setSize_21 (by decide) rfl rfl (leb rfl) (xx_out0 rfl)
  refine y_callV_i (pc := 21) (c_X4_isText hl ec) q9 mf_X4_isText tw_2_120 ts_1_4 lf_X8_169 rfl rfl dX8_setSize_21 (by decide) rfl rfl (leb rfl) ?_
  rcases ite_some e with ⟨q12, e⟩ | ⟨q12, e⟩
  · refine x_if_ne_f (pc := 24) (t := 31) dX8_setSize_24 (by decide) q12 ?_
    refine x_iconst (pc := 27) dX8_setSize_27 ?_
    refine x_goto (pc := 28) (t := 32) dX8_setSize_28 (by decide) ?_
    exact x_sub1 (p_X8_setSize_L32 hl e) [1, 3, 4, 0] rfl
  · refine x_if_ne_t (pc := 24) (t := 31) dX8_setSize_24 (by decide) q12 ?_
    refine x_iconst (pc := 31) dX8_setSize_31 ?_
    exact x_sub1 (p_X8_setSize_L32 hl e) [1, 3, 4, 0] rfl
abbrev w_X8_setSize : Cond := (Cond.code yX8_setSize cX8_setSize 6 (Option.some Jvm.ClassFile.FieldType.int))
theorem mf_X8_setSize : MF yX8_setSize w_X8_setSize cX8_setSize 6 (Option.some Jvm.ClassFile.FieldType.int) 3 := ⟨⟨rfl, tw_4_121, by decide⟩, tw_1_1, ⟨by decide, by decide⟩, by decide +kernel⟩
theorem c_X8_setSize {l : Launch} {K : Ctx} (hl : l.stackTraces = false) {h : Hp} {a0 : Nat} {i1 : Int32} {i2 : Int32} {i3 : Int32} {t : Rs Int32} (e : f_X8_setSize h a0 i1 i2 i3 = some t) : Ctr l K 14 yX8_setSize w_X8_setSize [.ref a0, .int i1, .int i2, .int i3] h (tgI t) :=
  Ctr.of hl mf_X8_setSize false (fun q => nomatch q) rfl (leb rfl) (p_X8_setSize hl e)
/-! ## TableColumnBalancerLaw.setSize -/
abbrev mM_L_setSize : Mi := (15, yL_setSize.cls, cL_setSize, 6, (Option.some Jvm.ClassFile.FieldType.int), [((0 : Nat), (12 : Nat), (15 : Nat), (21 : Nat)), ((0 : Nat), (12 : Nat), (19 : Nat), (41 : Nat)), ((0 : Nat), (12 : Nat), (23 : Nat), (13 : Nat))], false)
noncomputable def f_L_setSize (h : Hp) (a0 : Nat) (i1 : Int32) (i2 : Int32) (i3 : Int32) (a4 : Nat) : Option (Rs Int32) :=
  chk (okr h a0 8) <|
  bndX (f_X8_setSize h a0 i1 i2 i3) (fun h2 r3 => (
    chk (okr h2 a4 21) <|
    chk (vp_in (iN 0) (qW h2 a4)) <|
    lt (putL h2 a4 (Int32.toNatClampNeg (iN 0)) (Int32.toInt64 r3)) fun h6 =>
    some (h6, .inr (iN 0))
  )) fun h2 k =>
  if k = 2 then (
    some (h2, .inr (iN 1))
  ) else
  if k = 4 then (
    some (h2, .inr (iN 2))
  ) else
  if k = 1 then (
    some (h2, .inr (iN 3))
  ) else
  none
theorem p_L_setSize {l : Launch} {K : Ctx} (hl : l.stackTraces = false) {h : Hp} {a0 : Nat} {i1 : Int32} {i2 : Int32} {i3 : Int32} {a4 : Nat} {t : Rs Int32} (e : f_L_setSize h a0 i1 i2 i3 a4 = some t) : X l K mM_L_setSize (tgI t) 0 [(0, .ref a0), (1, .int i1), (2, .int i2), (3, .int i3), (4, .ref a4)] [] h := by
  unfold f_L_setSize at e
  refine x_aload (pc := 0) 4 dL_setSize_0 rfl ?_
  refine x_iconst (pc := 2) dL_setSize_2 ?_
  refine x_aload_n (pc := 3) 0 dL_setSize_3 rfl ?_
  refine x_iload_n (pc := 4) 1 dL_setSize_4 rfl ?_
  refine x_iload_n (pc := 5) 2 dL_setSize_5 rfl ?_
  refine x_iload_n (pc := 6) 3 dL_setSize_6 rfl ?_
  obtain ⟨q1, e⟩ := chk_some e
  rcases bndX_some e with ⟨h2, k, ec, e⟩ | ⟨h2, r3, ec, e⟩
  · rcases ite_some e with ⟨q7, e⟩ | ⟨q7, e⟩
    · subst q7
      refine y_callV_x (pc := 7) (c_X8_setSize hl ec) q1 mf_X8_setSize tw_4_119 tw_4_120 lf_L_46 rfl rfl dL_setSize_7 (by decide) rfl rfl (leb rfl) (xx_catchA (pc := 7) [] [(0, 12, 19, 41), (0, 12, 23, 13)] (0, 12, 15, 21) rfl (by decide) (fun _ hz => absurd hz List.not_mem_nil) (by decide) (by decide) tw_3_187 tw_3_229 dL_setSize_15 (by decide) rfl ?_)
      refine x_iconst (pc := 17) dL_setSize_17 ?_
      cases Option.some.inj e
      exact x_iret (pc := 18) rfl dL_setSize_18
    rcases ite_some e with ⟨q8, e⟩ | ⟨q8, e⟩
    · subst q8
      refine y_callV_x (pc := 7) (c_X8_setSize hl ec) q1 mf_X8_setSize tw_4_119 tw_4_120 lf_L_46 rfl rfl dL_setSize_7 (by decide) rfl rfl (leb rfl) (xx_catchA (pc := 7) [(0, 12, 15, 21)] [(0, 12, 23, 13)] (0, 12, 19, 41) rfl (by decide) (List.forall_mem_cons.mpr ⟨⟨by decide, 2, by decide, by decide, tw_3_187⟩, fun _ hz => absurd hz List.not_mem_nil⟩) (by decide) (by decide) tw_4_76 tw_4_91 dL_setSize_19 (by decide) rfl ?_)
      refine x_iconst (pc := 21) dL_setSize_21 ?_
      cases Option.some.inj e
      exact x_iret (pc := 22) rfl dL_setSize_22
    rcases ite_some e with ⟨q9, e⟩ | ⟨q9, e⟩
    · subst q9
      refine y_callV_x (pc := 7) (c_X8_setSize hl ec) q1 mf_X8_setSize tw_4_119 tw_4_120 lf_L_46 rfl rfl dL_setSize_7 (by decide) rfl rfl (leb rfl) (xx_catchA (pc := 7) [(0, 12, 15, 21), (0, 12, 19, 41)] [] (0, 12, 23, 13) rfl (by decide) (List.forall_mem_cons.mpr ⟨⟨by decide, 2, by decide, by decide, tw_3_187⟩, List.forall_mem_cons.mpr ⟨⟨by decide, 4, by decide, by decide, tw_4_76⟩, fun _ hz => absurd hz List.not_mem_nil⟩⟩) (by decide) (by decide) tw_3_76 tw_3_88 dL_setSize_23 (by decide) rfl ?_)
      refine x_iconst (pc := 25) dL_setSize_25 ?_
      cases Option.some.inj e
      exact x_iret (pc := 26) rfl dL_setSize_26
    cases e
  refine y_callV_i (pc := 7) (c_X8_setSize hl ec) q1 mf_X8_setSize tw_4_119 tw_4_120 lf_L_46 rfl rfl dL_setSize_7 (by decide) rfl rfl (leb rfl) ?_
  refine x_i2l (pc := 10) dL_setSize_10 ?_
  obtain ⟨q4, e⟩ := chk_some e
  obtain ⟨q5, e⟩ := chk_some e
  replace e := lt_go e
  refine x_last (pc := 11) dL_setSize_11 q4 q5 ?_
  refine x_goto (pc := 12) (t := 27) dL_setSize_12 (by decide) ?_
  refine x_iconst (pc := 27) dL_setSize_27 ?_
  cases Option.some.inj e
  exact x_iret (pc := 28) rfl dL_setSize_28
abbrev w_L_setSize : Cond := (Cond.codeWith yL_setSize cL_setSize 6 (Option.some Jvm.ClassFile.FieldType.int) [((0 : Nat), (12 : Nat), (15 : Nat), (21 : Nat)), ((0 : Nat), (12 : Nat), (19 : Nat), (41 : Nat)), ((0 : Nat), (12 : Nat), (23 : Nat), (13 : Nat))])
theorem mf_L_setSize : MFX yL_setSize w_L_setSize cL_setSize 6 (Option.some Jvm.ClassFile.FieldType.int) 5 [((0 : Nat), (12 : Nat), (15 : Nat), (21 : Nat)), ((0 : Nat), (12 : Nat), (19 : Nat), (41 : Nat)), ((0 : Nat), (12 : Nat), (23 : Nat), (13 : Nat))] := ⟨⟨rfl, tw_4_117, by decide⟩, tw_1_0, ⟨by decide, by decide⟩, by decide +kernel⟩
theorem c_L_setSize {l : Launch} {K : Ctx} (hl : l.stackTraces = false) {h : Hp} {a0 : Nat} {i1 : Int32} {i2 : Int32} {i3 : Int32} {a4 : Nat} {t : Rs Int32} (e : f_L_setSize h a0 i1 i2 i3 a4 = some t) : Ctr l K 15 yL_setSize w_L_setSize [.ref a0, .int i1, .int i2, .int i3, .ref a4] h (tgI t) :=
  Ctr.ofX hl mf_L_setSize rfl (leb rfl) (p_L_setSize hl e)
/-! ## TableColumnBalancerModel.setSize -/
abbrev mM_X9_setSize : Mi := (10, yX9_setSize.cls, cX9_setSize, 5, (Option.some Jvm.ClassFile.FieldType.int), [], false)
noncomputable def f_X9_setSize_L53 (h : Hp) (a0 : Nat) : Option (Rs Int32) :=
  chk (okr h a0 9) <|
  bnd (f_X9_fails h a0 (iN 3)) fun h2 r3 =>
  some (h2, .inr r3)
theorem p_X9_setSize_L53 {l : Launch} {K : Ctx} (hl : l.stackTraces = false) {h : Hp} {a0 : Nat} {t : Rs Int32} (e : f_X9_setSize_L53 h a0 = some t) : X l K mM_X9_setSize (tgI t) 53 [(0, .ref a0)] [] h := by
  unfold f_X9_setSize_L53 at e
  refine x_aload_n (pc := 53) 0 dX9_setSize_53 rfl ?_
  refine x_iconst (pc := 54) dX9_setSize_54 ?_
  obtain ⟨q1, e⟩ := chk_some e
  rcases bnd_some e with ⟨h2, r3, ec, rfl⟩ | ⟨h2, r3, ec, e⟩
  · exact y_callV_x (pc := 55) (c_X9_fails hl ec) q1 mf_X9_fails tw_7_24 ts_6_7 lf_X9_95 rfl rfl dX9_setSize_55 (by decide) rfl rfl (leb rfl) (xx_out0 rfl)
  refine y_callV_i (pc := 55) (c_X9_fails hl ec) q1 mf_X9_fails tw_7_24 ts_6_7 lf_X9_95 rfl rfl dX9_setSize_55 (by decide) rfl rfl (leb rfl) ?_
  cases Option.some.inj e
  exact x_iret (pc := 58) rfl dX9_setSize_58
noncomputable def f_X9_setSize (h : Hp) (a0 : Nat) (i1 : Int32) (i2 : Int32) (i3 : Int32) : Option (Rs Int32) :=
  chk (okr h a0 9) <|
  lt (putI h a0 0 (iN 0)) fun h2 =>
  bnd (f_X9_isCell h2 a0 i1) fun h3 r4 =>
  if r4 = 0 then (
    chk (okr h3 a0 9) <|
    bnd (f_X9_fails h3 a0 (iN 1)) fun h7 r8 =>
    some (h7, .inr r8)
  ) else (
    chk (okr h3 a0 9) <|
    bnd (f_X9_isText h3 a0 i1) fun h10 r11 =>
    if r11 = 0 then (
      bnd (f_X9_in h10 i2 (iN 1) (iN 20)) fun h13 r14 =>
      if r14 = 0 then (
        f_X9_setSize_L53 h13 a0
      ) else (
        bnd (f_X9_in h13 i3 (iN 1) (iN 20)) fun h16 r17 =>
        if r17 = 0 then (
          f_X9_setSize_L53 h16 a0
        ) else (
          chk (okr h16 a0 9) <|
          bnd (f_X9_of h16 a0 i1 (iN 5)) fun h20 r21 =>
          chk (okr h20 a0 9) <|
          bnd (f_X9_of h20 a0 i1 (iN 6)) fun h23 r24 =>
          chk (okr h23 a0 9) <|
          chk (okr h23 (qR h23 a0 1) 20) <|
          chk (vp_in (((iN 10) + ((iN 31) * i1)) + (iN 5)) (qW h23 (qR h23 a0 1))) <|
          lt (putI h23 (qR h23 a0 1) (Int32.toNatClampNeg (((iN 10) + ((iN 31) * i1)) + (iN 5))) i2) fun h28 =>
          chk (okr h28 (qR h28 a0 1) 20) <|
          chk (vp_in (((iN 10) + ((iN 31) * i1)) + (iN 6)) (qW h28 (qR h28 a0 1))) <|
          lt (putI h28 (qR h28 a0 1) (Int32.toNatClampNeg (((iN 10) + ((iN 31) * i1)) + (iN 6))) i3) fun h31 =>
          some (h31, .inr (((iN 100) * r21) + r24))
        )
      )
    ) else (
      chk (okr h10 a0 9) <|
      bnd (f_X9_fails h10 a0 (iN 2)) fun h33 r34 =>
      some (h33, .inr r34)
    )
  )
theorem p_X9_setSize {l : Launch} {K : Ctx} (hl : l.stackTraces = false) {h : Hp} {a0 : Nat} {i1 : Int32} {i2 : Int32} {i3 : Int32} {t : Rs Int32} (e : f_X9_setSize h a0 i1 i2 i3 = some t) : X l K mM_X9_setSize (tgI t) 0 [(0, .ref a0), (1, .int i1), (2, .int i2), (3, .int i3)] [] h := by
  unfold f_X9_setSize at e
  refine x_aload_n (pc := 0) 0 dX9_setSize_0 rfl ?_
  refine x_iconst (pc := 1) dX9_setSize_1 ?_
  obtain ⟨q1, e⟩ := chk_some e
  replace e := lt_go e
  refine x_putI (pc := 2) pf_X9_84 rfl rfl rfl dX9_setSize_2 q1 ?_
  refine x_aload_n (pc := 5) 0 dX9_setSize_5 rfl ?_
  refine x_iload_n (pc := 6) 1 dX9_setSize_6 rfl ?_
  rcases bnd_some e with ⟨h3, r4, ec, rfl⟩ | ⟨h3, r4, ec, e⟩
  · exact y_callV_x (pc := 7) (c_X9_isCell hl ec) (okr_pI q1) mf_X9_isCell tw_7_75 ts_6_14 lf_X9_120 rfl rfl dX9_setSize_7 (by decide) rfl rfl (leb rfl) (xx_out0 rfl)
  refine y_callV_i (pc := 7) (c_X9_isCell hl ec) (okr_pI q1) mf_X9_isCell tw_7_75 ts_6_14 lf_X9_120 rfl rfl dX9_setSize_7 (by decide) rfl rfl (leb rfl) ?_
  rcases ite_some e with ⟨q5, e⟩ | ⟨q5, e⟩
  · refine x_if_ne_f (pc := 10) (t := 19) dX9_setSize_10 (by decide) q5 ?_
    refine x_aload_n (pc := 13) 0 dX9_setSize_13 rfl ?_
    refine x_iconst (pc := 14) dX9_setSize_14 ?_
    obtain ⟨q6, e⟩ := chk_some e
    rcases bnd_some e with ⟨h7, r8, ec, rfl⟩ | ⟨h7, r8, ec, e⟩
    · exact y_callV_x (pc := 15) (c_X9_fails hl ec) q6 mf_X9_fails tw_7_24 ts_6_7 lf_X9_95 rfl rfl dX9_setSize_15 (by decide) rfl rfl (leb rfl) (xx_out0 rfl)
    refine y_callV_i (pc := 15) (c_X9_fails hl ec) q6 mf_X9_fails tw_7_24 ts_6_7 lf_X9_95 rfl rfl dX9_setSize_15 (by decide) rfl rfl (leb rfl) ?_
    cases Option.some.inj e
    exact x_iret (pc := 18) rfl dX9_setSize_18
  · refine x_if_ne_t (pc := 10) (t := 19) dX9_setSize_10 (by decide) q5 ?_
    refine x_aload_n (pc := 19) 0 dX9_setSize_19 rfl ?_
    refine x_iload_n (pc := 20) 1 dX9_setSize_20 rfl ?_
    obtain ⟨q9, e⟩ := chk_some e
    rcases bnd_some e with ⟨h10, r11, ec, rfl⟩ | ⟨h10, r11, ec, e⟩
    · exact y_callV_x (pc := 21) (c_X9_isText hl ec) q9 mf_X9_isText tw_7_87 ts_7_0 lf_X9_127 rfl rfl dX9_setSize_21 (by decide) rfl rfl (leb rfl) (xx_out0 rfl)
    refine y_callV_i (pc := 21) (c_X9_isText hl ec) q9 mf_X9_isText tw_7_87 ts_7_0 lf_X9_127 rfl rfl dX9_setSize_21 (by decide) rfl rfl (leb rfl) ?_
    rcases ite_some e with ⟨q12, e⟩ | ⟨q12, e⟩
    · refine x_if_eq_t (pc := 24) (t := 33) dX9_setSize_24 (by decide) q12 ?_
      refine x_iload_n (pc := 33) 2 dX9_setSize_33 rfl ?_
      refine x_iconst (pc := 34) dX9_setSize_34 ?_
      refine x_bipush (pc := 35) (v := iN 20) dX9_setSize_35 rfl ?_
      rcases bnd_some e with ⟨h13, r14, ec, rfl⟩ | ⟨h13, r14, ec, e⟩
      · exact y_callS_x (pc := 37) (c_X9_in hl ec) mf_X9_in tw_7_20 lf_X9_87 dX9_setSize_37 (by decide) rfl rfl (leb rfl) (xx_out0 rfl)
      refine y_callS_i (pc := 37) (c_X9_in hl ec) mf_X9_in tw_7_20 lf_X9_87 dX9_setSize_37 (by decide) rfl rfl (leb rfl) ?_
      rcases ite_some e with ⟨q15, e⟩ | ⟨q15, e⟩
      · refine x_if_eq_t (pc := 40) (t := 53) dX9_setSize_40 (by decide) q15 ?_
        exact x_sub1 (p_X9_setSize_L53 hl e) [0] rfl
      · refine x_if_eq_f (pc := 40) (t := 53) dX9_setSize_40 (by decide) q15 ?_
        refine x_iload_n (pc := 43) 3 dX9_setSize_43 rfl ?_
        refine x_iconst (pc := 44) dX9_setSize_44 ?_
        refine x_bipush (pc := 45) (v := iN 20) dX9_setSize_45 rfl ?_
        rcases bnd_some e with ⟨h16, r17, ec, rfl⟩ | ⟨h16, r17, ec, e⟩
        · exact y_callS_x (pc := 47) (c_X9_in hl ec) mf_X9_in tw_7_20 lf_X9_87 dX9_setSize_47 (by decide) rfl rfl (leb rfl) (xx_out0 rfl)
        refine y_callS_i (pc := 47) (c_X9_in hl ec) mf_X9_in tw_7_20 lf_X9_87 dX9_setSize_47 (by decide) rfl rfl (leb rfl) ?_
        rcases ite_some e with ⟨q18, e⟩ | ⟨q18, e⟩
        · refine x_if_ne_f (pc := 50) (t := 59) dX9_setSize_50 (by decide) q18 ?_
          exact x_sub1 (p_X9_setSize_L53 hl e) [0] rfl
        · refine x_if_ne_t (pc := 50) (t := 59) dX9_setSize_50 (by decide) q18 ?_
          refine x_bipush (pc := 59) (v := iN 100) dX9_setSize_59 rfl ?_
          refine x_aload_n (pc := 61) 0 dX9_setSize_61 rfl ?_
          refine x_iload_n (pc := 62) 1 dX9_setSize_62 rfl ?_
          refine x_iconst (pc := 63) dX9_setSize_63 ?_
          obtain ⟨q19, e⟩ := chk_some e
          rcases bnd_some e with ⟨h20, r21, ec, rfl⟩ | ⟨h20, r21, ec, e⟩
          · exact y_callV_x (pc := 64) (c_X9_of hl ec) q19 mf_X9_of tw_7_63 ts_6_12 lf_X9_91 rfl rfl dX9_setSize_64 (by decide) rfl rfl (leb rfl) (xx_out0 rfl)
          refine y_callV_i (pc := 64) (c_X9_of hl ec) q19 mf_X9_of tw_7_63 ts_6_12 lf_X9_91 rfl rfl dX9_setSize_64 (by decide) rfl rfl (leb rfl) ?_
          refine x_imul (pc := 67) dX9_setSize_67 ?_
          refine x_aload_n (pc := 68) 0 dX9_setSize_68 rfl ?_
          refine x_iload_n (pc := 69) 1 dX9_setSize_69 rfl ?_
          refine x_bipush (pc := 70) (v := iN 6) dX9_setSize_70 rfl ?_
          obtain ⟨q22, e⟩ := chk_some e
          rcases bnd_some e with ⟨h23, r24, ec, rfl⟩ | ⟨h23, r24, ec, e⟩
          · exact y_callV_x (pc := 72) (c_X9_of hl ec) q22 mf_X9_of tw_7_63 ts_6_12 lf_X9_91 rfl rfl dX9_setSize_72 (by decide) rfl rfl (leb rfl) (xx_out0 rfl)
          refine y_callV_i (pc := 72) (c_X9_of hl ec) q22 mf_X9_of tw_7_63 ts_6_12 lf_X9_91 rfl rfl dX9_setSize_72 (by decide) rfl rfl (leb rfl) ?_
          refine x_iadd (pc := 75) dX9_setSize_75 ?_
          refine x_istore (pc := 76) dX9_setSize_76 (by decide) rfl ?_
          refine x_aload_n (pc := 78) 1 dX9_setSize_78 rfl ?_
          obtain ⟨q25, e⟩ := chk_some e
          obtain ⟨q26, e⟩ := chk_some e
          refine x_getR (pc := 79) gf_X9_9 rfl dX9_setSize_79 q25 q26.1 ?_
          refine x_bipush (pc := 82) (v := iN 10) dX9_setSize_82 rfl ?_
          refine x_bipush (pc := 84) (v := iN 31) dX9_setSize_84 rfl ?_
          refine x_iload_n (pc := 86) 2 dX9_setSize_86 rfl ?_
          refine x_imul (pc := 87) dX9_setSize_87 ?_
          refine x_iadd (pc := 88) dX9_setSize_88 ?_
          refine x_iconst (pc := 89) dX9_setSize_89 ?_
          refine x_iadd (pc := 90) dX9_setSize_90 ?_
          refine x_iload_n (pc := 91) 3 dX9_setSize_91 rfl ?_
          obtain ⟨q27, e⟩ := chk_some e
          replace e := lt_go e
          refine x_iast (pc := 92) dX9_setSize_92 q26 q27 ?_
          refine x_aload_n (pc := 93) 1 dX9_setSize_93 rfl ?_
          obtain ⟨q29, e⟩ := chk_some e
          refine x_getR (pc := 94) gf_X9_9 rfl dX9_setSize_94 (okr_pI q25) q29.1 ?_
          refine x_bipush (pc := 97) (v := iN 10) dX9_setSize_97 rfl ?_
          refine x_bipush (pc := 99) (v := iN 31) dX9_setSize_99 rfl ?_
          refine x_iload_n (pc := 101) 2 dX9_setSize_101 rfl ?_
          refine x_imul (pc := 102) dX9_setSize_102 ?_
          refine x_iadd (pc := 103) dX9_setSize_103 ?_
          refine x_bipush (pc := 104) (v := iN 6) dX9_setSize_104 rfl ?_
          refine x_iadd (pc := 106) dX9_setSize_106 ?_
          refine x_iload_n (pc := 107) 4 dX9_setSize_107 rfl ?_
          obtain ⟨q30, e⟩ := chk_some e
          replace e := lt_go e
          refine x_iast (pc := 108) dX9_setSize_108 q29 q30 ?_
          refine x_iload (pc := 109) 0 dX9_setSize_109 rfl ?_
          cases Option.some.inj e
          exact x_iret (pc := 111) rfl dX9_setSize_111
    · refine x_if_eq_f (pc := 24) (t := 33) dX9_setSize_24 (by decide) q12 ?_
      refine x_aload_n (pc := 27) 0 dX9_setSize_27 rfl ?_
      refine x_iconst (pc := 28) dX9_setSize_28 ?_
      obtain ⟨q32, e⟩ := chk_some e
      rcases bnd_some e with ⟨h33, r34, ec, rfl⟩ | ⟨h33, r34, ec, e⟩
      · exact y_callV_x (pc := 29) (c_X9_fails hl ec) q32 mf_X9_fails tw_7_24 ts_6_7 lf_X9_95 rfl rfl dX9_setSize_29 (by decide) rfl rfl (leb rfl) (xx_out0 rfl)
      refine y_callV_i (pc := 29) (c_X9_fails hl ec) q32 mf_X9_fails tw_7_24 ts_6_7 lf_X9_95 rfl rfl dX9_setSize_29 (by decide) rfl rfl (leb rfl) ?_
      cases Option.some.inj e
      exact x_iret (pc := 32) rfl dX9_setSize_32
abbrev w_X9_setSize : Cond := (Cond.code yX9_setSize cX9_setSize 5 (Option.some Jvm.ClassFile.FieldType.int))
theorem mf_X9_setSize : MF yX9_setSize w_X9_setSize cX9_setSize 5 (Option.some Jvm.ClassFile.FieldType.int) 3 := ⟨⟨rfl, tw_7_100, by decide⟩, tw_1_11, ⟨by decide, by decide⟩, by decide +kernel⟩
theorem c_X9_setSize {l : Launch} {K : Ctx} (hl : l.stackTraces = false) {h : Hp} {a0 : Nat} {i1 : Int32} {i2 : Int32} {i3 : Int32} {t : Rs Int32} (e : f_X9_setSize h a0 i1 i2 i3 = some t) : Ctr l K 10 yX9_setSize w_X9_setSize [.ref a0, .int i1, .int i2, .int i3] h (tgI t) :=
  Ctr.of hl mf_X9_setSize false (fun q => nomatch q) rfl (leb rfl) (p_X9_setSize hl e)
/-! ## TableColumnBalancer.isTextKind -/
abbrev mM_X8_isTextKind : Mi := (8, yX8_isTextKind.cls, cX8_isTextKind, 1, (Option.some Jvm.ClassFile.FieldType.boolean), [], false)
noncomputable def f_X8_isTextKind (h : Hp) (i0 : Int32) : Option (Rs Int32) :=
  if (iN 3) < i0 then (
    some (h, .inr (iN 0))
  ) else (
    some (h, .inr (iN 1))
  )
theorem p_X8_isTextKind {l : Launch} {K : Ctx} (hl : l.stackTraces = false) {h : Hp} {i0 : Int32} {t : Rs Int32} (e : f_X8_isTextKind h i0 = some t) : X l K mM_X8_isTextKind (tgI t) 0 [(0, .int i0)] [] h := by
  unfold f_X8_isTextKind at e
  refine x_iload_n (pc := 0) 0 dX8_isTextKind_0 rfl ?_
  refine x_iconst (pc := 1) dX8_isTextKind_1 ?_
  rcases ite_some e with ⟨q1, e⟩ | ⟨q1, e⟩
  · refine x_icmp_gt_t (pc := 2) (t := 9) dX8_isTextKind_2 (by decide) q1 ?_
    refine x_iconst (pc := 9) dX8_isTextKind_9 ?_
    cases Option.some.inj e
    exact x_zret (pc := 10) rfl (Or.inl rfl) dX8_isTextKind_10
  · refine x_icmp_gt_f (pc := 2) (t := 9) dX8_isTextKind_2 (by decide) q1 ?_
    refine x_iconst (pc := 5) dX8_isTextKind_5 ?_
    refine x_goto (pc := 6) (t := 10) dX8_isTextKind_6 (by decide) ?_
    cases Option.some.inj e
    exact x_zret (pc := 10) rfl (Or.inr rfl) dX8_isTextKind_10
abbrev w_X8_isTextKind : Cond := (Cond.code yX8_isTextKind cX8_isTextKind 1 (Option.some Jvm.ClassFile.FieldType.boolean))
theorem mf_X8_isTextKind : MF yX8_isTextKind w_X8_isTextKind cX8_isTextKind 1 (Option.some Jvm.ClassFile.FieldType.boolean) 1 := ⟨⟨rfl, tw_4_135, by decide⟩, tw_1_1, ⟨by decide, by decide⟩, by decide +kernel⟩
theorem c_X8_isTextKind {l : Launch} {K : Ctx} (hl : l.stackTraces = false) {h : Hp} {i0 : Int32} {t : Rs Int32} (e : f_X8_isTextKind h i0 = some t) : Ctr l K 8 yX8_isTextKind w_X8_isTextKind [.int i0] h (tgI t) :=
  Ctr.of hl mf_X8_isTextKind false (fun q => nomatch q) rfl (leb rfl) (p_X8_isTextKind hl e)
/-! ## TableColumnBalancer$Content.turnInto -/
abbrev mM_X4_turnInto : Mi := (10, yX4_turnInto.cls, cX4_turnInto, 2, (Option.none : Option Jvm.ClassFile.FieldType), [], false)
noncomputable def f_X4_turnInto (h : Hp) (a0 : Nat) (i1 : Int32) : Option (Rs Unit) :=
  chk (okr h a0 4) <|
  lt (putI h a0 0 i1) fun h2 =>
  bnd (f_X4_settle h2 a0) fun h3 _ =>
  some (h3, .inr ())
theorem p_X4_turnInto {l : Launch} {K : Ctx} (hl : l.stackTraces = false) {h : Hp} {a0 : Nat} {i1 : Int32} {t : Rs Unit} (e : f_X4_turnInto h a0 i1 = some t) : X l K mM_X4_turnInto (tgV t) 0 [(0, .ref a0), (1, .int i1)] [] h := by
  unfold f_X4_turnInto at e
  refine x_aload_n (pc := 0) 0 dX4_turnInto_0 rfl ?_
  refine x_iload_n (pc := 1) 1 dX4_turnInto_1 rfl ?_
  obtain ⟨q1, e⟩ := chk_some e
  replace e := lt_go e
  refine x_putI (pc := 2) pf_X4_34 rfl rfl rfl dX4_turnInto_2 q1 ?_
  refine x_aload_n (pc := 5) 0 dX4_turnInto_5 rfl ?_
  rcases bnd_some e with ⟨h3, r4, ec, rfl⟩ | ⟨h3, r4, ec, e⟩
  · exact y_callV_x (pc := 6) (c_X4_settle hl ec) (okr_pI q1) mf_X4_settle tw_4_47 ts_3_11 lf_X4_47 rfl rfl dX4_turnInto_6 (by decide) rfl rfl (leb rfl) (xx_out0 rfl)
  refine y_callV_v (pc := 6) (c_X4_settle hl ec) (okr_pI q1) mf_X4_settle tw_4_47 ts_3_11 lf_X4_47 rfl rfl dX4_turnInto_6 (by decide) rfl rfl (leb rfl) ?_
  cases Option.some.inj e
  exact x_vret (pc := 9) rfl dX4_turnInto_9
abbrev w_X4_turnInto : Cond := (Cond.code yX4_turnInto cX4_turnInto 2 (Option.none : Option Jvm.ClassFile.FieldType))
theorem mf_X4_turnInto : MF yX4_turnInto w_X4_turnInto cX4_turnInto 2 (Option.none : Option Jvm.ClassFile.FieldType) 1 := ⟨⟨rfl, tw_4_139, by decide⟩, tw_1_4, ⟨by decide, by decide⟩, by decide +kernel⟩
theorem c_X4_turnInto {l : Launch} {K : Ctx} (hl : l.stackTraces = false) {h : Hp} {a0 : Nat} {i1 : Int32} {t : Rs Unit} (e : f_X4_turnInto h a0 i1 = some t) : Ctr l K 10 yX4_turnInto w_X4_turnInto [.ref a0, .int i1] h (tgV t) :=
  Ctr.of hl mf_X4_turnInto false (fun q => nomatch q) rfl (leb rfl) (p_X4_turnInto hl e)
/-! ## TableColumnBalancer.setKind -/
abbrev mM_X8_setKind : Mi := (14, yX8_setKind.cls, cX8_setKind, 5, (Option.some Jvm.ClassFile.FieldType.int), [], false)
noncomputable def f_X8_setKind_L43 (h : Hp) (a0 : Nat) (i2 : Int32) (a3 : Nat) (s0 : Int32) : Option (Rs Int32) :=
  bnd (f_X8_requireSupport h s0) fun h1 _ =>
  chk (okr h1 a3 4) <|
  bnd (f_X4_turnInto h1 a3 i2) fun h4 _ =>
  chk (okr h4 a0 8) <|
  bnd (f_X8_changed h4 a0) fun h7 _ =>
  some (h7, .inr (qI h1 a3 0))
theorem p_X8_setKind_L43 {l : Launch} {K : Ctx} (hl : l.stackTraces = false) {h : Hp} {a0 : Nat} {i2 : Int32} {a3 : Nat} {s0 : Int32} {t : Rs Int32} (e : f_X8_setKind_L43 h a0 i2 a3 s0 = some t) : X l K mM_X8_setKind (tgI t) 43 [(0, .ref a0), (2, .int i2), (3, .ref a3)] [.int s0] h := by
  unfold f_X8_setKind_L43 at e
  rcases bnd_some e with ⟨h1, r2, ec, rfl⟩ | ⟨h1, r2, ec, e⟩
  · exact y_callS_x (pc := 43) (c_X8_requireSupport hl ec) mf_X8_requireSupport tw_4_87 lf_X8_173 dX8_setKind_43 (by decide) rfl rfl (leb rfl) (xx_out0 rfl)
  refine y_callS_v (pc := 43) (c_X8_requireSupport hl ec) mf_X8_requireSupport tw_4_87 lf_X8_173 dX8_setKind_43 (by decide) rfl rfl (leb rfl) ?_
  refine x_aload_n (pc := 46) 2 dX8_setKind_46 rfl ?_
  obtain ⟨q3, e⟩ := chk_some e
  refine x_getI (pc := 47) gf_X8_156 rfl dX8_setKind_47 q3 ?_
  refine x_istore (pc := 50) dX8_setKind_50 (by decide) rfl ?_
  refine x_aload_n (pc := 52) 3 dX8_setKind_52 rfl ?_
  refine x_iload_n (pc := 53) 2 dX8_setKind_53 rfl ?_
  rcases bnd_some e with ⟨h4, r5, ec, rfl⟩ | ⟨h4, r5, ec, e⟩
  · exact y_callV_x (pc := 54) (c_X4_turnInto hl ec) q3 mf_X4_turnInto tw_4_138 ts_4_3 lf_X8_187 rfl rfl dX8_setKind_54 (by decide) rfl rfl (leb rfl) (xx_out0 rfl)
  refine y_callV_v (pc := 54) (c_X4_turnInto hl ec) q3 mf_X4_turnInto tw_4_138 ts_4_3 lf_X8_187 rfl rfl dX8_setKind_54 (by decide) rfl rfl (leb rfl) ?_
  refine x_aload_n (pc := 57) 1 dX8_setKind_57 rfl ?_
  obtain ⟨q6, e⟩ := chk_some e
  rcases bnd_some e with ⟨h7, r8, ec, rfl⟩ | ⟨h7, r8, ec, e⟩
  · exact y_callV_x (pc := 58) (c_X8_changed hl ec) q6 mf_X8_changed tw_3_182 ts_3_5 lf_X8_93 rfl rfl dX8_setKind_58 (by decide) rfl rfl (leb rfl) (xx_out0 rfl)
  refine y_callV_v (pc := 58) (c_X8_changed hl ec) q6 mf_X8_changed tw_3_182 ts_3_5 lf_X8_93 rfl rfl dX8_setKind_58 (by decide) rfl rfl (leb rfl) ?_
  refine x_iload (pc := 61) 0 dX8_setKind_61 rfl ?_
  cases Option.some.inj e
  exact x_iret (pc := 63) rfl dX8_setKind_63
noncomputable def f_X8_setKind (h : Hp) (a0 : Nat) (i1 : Int32) (i2 : Int32) : Option (Rs Int32) :=
  chk (okr h a0 8) <|
  bnd (f_X8_requireCell h a0 i1) fun h2 _ =>
  bnd (f_X8_isWithin h2 i2 (iN 0) (iN 5)) fun h4 r5 =>
  bnd (f_X8_requireArgument h4 r5) fun h6 _ =>
  chk (okr h6 a0 8) <|
  chk (okr h6 (qR h6 a0 0) 7) <|
  chk (okr h6 (qR h6 (qR h6 a0 0) 8) 25) <|
  chk (vp_in i1 (qW h6 (qR h6 (qR h6 a0 0) 8))) <|
  chk (okr h6 (qR h6 (qR h6 (qR h6 a0 0) 8) (Int32.toNatClampNeg i1)) 1) <|
  chk (okr h6 (qR h6 (qR h6 (qR h6 (qR h6 a0 0) 8) (Int32.toNatClampNeg i1)) 3) 4) <|
  bnd (f_X4_isText h6 (qR h6 (qR h6 (qR h6 (qR h6 a0 0) 8) (Int32.toNatClampNeg i1)) 3)) fun h14 r15 =>
  bnd (f_X8_isTextKind h14 i2) fun h16 r17 =>
  if r15 = r17 then (
    f_X8_setKind_L43 h16 a0 i2 (qR h6 (qR h6 (qR h6 (qR h6 a0 0) 8) (Int32.toNatClampNeg i1)) 3) (iN 1)
  ) else (
    f_X8_setKind_L43 h16 a0 i2 (qR h6 (qR h6 (qR h6 (qR h6 a0 0) 8) (Int32.toNatClampNeg i1)) 3) (iN 0)
  )
theorem p_X8_setKind {l : Launch} {K : Ctx} (hl : l.stackTraces = false) {h : Hp} {a0 : Nat} {i1 : Int32} {i2 : Int32} {t : Rs Int32} (e : f_X8_setKind h a0 i1 i2 = some t) : X l K mM_X8_setKind (tgI t) 0 [(0, .ref a0), (1, .int i1), (2, .int i2)] [] h := by
  unfold f_X8_setKind at e
  refine x_aload_n (pc := 0) 0 dX8_setKind_0 rfl ?_
  refine x_iload_n (pc := 1) 1 dX8_setKind_1 rfl ?_
  obtain ⟨q1, e⟩ := chk_some e
  rcases bnd_some e with ⟨h2, r3, ec, rfl⟩ | ⟨h2, r3, ec, e⟩
  · exact y_callV_x (pc := 2) (c_X8_requireCell hl ec) q1 mf_X8_requireCell tw_4_67 ts_3_14 lf_X8_139 rfl rfl dX8_setKind_2 (by decide) rfl rfl (leb rfl) (xx_out0 rfl)
  refine y_callV_v (pc := 2) (c_X8_requireCell hl ec) q1 mf_X8_requireCell tw_4_67 ts_3_14 lf_X8_139 rfl rfl dX8_setKind_2 (by decide) rfl rfl (leb rfl) ?_
  refine x_iload_n (pc := 5) 2 dX8_setKind_5 rfl ?_
  refine x_iconst (pc := 6) dX8_setKind_6 ?_
  refine x_iconst (pc := 7) dX8_setKind_7 ?_
  rcases bnd_some e with ⟨h4, r5, ec, rfl⟩ | ⟨h4, r5, ec, e⟩
  · exact y_callS_x (pc := 8) (c_X8_isWithin hl ec) mf_X8_isWithin tw_3_26 lf_X8_72 dX8_setKind_8 (by decide) rfl rfl (leb rfl) (xx_out0 rfl)
  refine y_callS_i (pc := 8) (c_X8_isWithin hl ec) mf_X8_isWithin tw_3_26 lf_X8_72 dX8_setKind_8 (by decide) rfl rfl (leb rfl) ?_
  rcases bnd_some e with ⟨h6, r7, ec, rfl⟩ | ⟨h6, r7, ec, e⟩
  · exact y_callS_x (pc := 11) (c_X8_requireArgument hl ec) mf_X8_requireArgument tw_3_84 lf_X8_76 dX8_setKind_11 (by decide) rfl rfl (leb rfl) (xx_out0 rfl)
  refine y_callS_v (pc := 11) (c_X8_requireArgument hl ec) mf_X8_requireArgument tw_3_84 lf_X8_76 dX8_setKind_11 (by decide) rfl rfl (leb rfl) ?_
  refine x_aload_n (pc := 14) 0 dX8_setKind_14 rfl ?_
  obtain ⟨q8, e⟩ := chk_some e
  obtain ⟨q9, e⟩ := chk_some e
  refine x_getR (pc := 15) gf_X8_10 rfl dX8_setKind_15 q8 q9.1 ?_
  obtain ⟨q10, e⟩ := chk_some e
  refine x_getR (pc := 18) gf_X8_159 rfl dX8_setKind_18 q9 q10.1 ?_
  refine x_iload_n (pc := 21) 1 dX8_setKind_21 rfl ?_
  obtain ⟨q11, e⟩ := chk_some e
  obtain ⟨q12, e⟩ := chk_some e
  refine x_aald (pc := 22) (t := 1) (by decide) dX8_setKind_22 q10 q11 q12.1 ?_
  obtain ⟨q13, e⟩ := chk_some e
  refine x_getR (pc := 23) gf_X8_163 rfl dX8_setKind_23 q12 q13.1 ?_
  refine x_astore_n (pc := 26) dX8_setKind_26 (by decide) rfl ?_
  refine x_aload_n (pc := 27) 0 dX8_setKind_27 rfl ?_
  rcases bnd_some e with ⟨h14, r15, ec, rfl⟩ | ⟨h14, r15, ec, e⟩
  · exact y_callV_x (pc := 28) (c_X4_isText hl ec) q13 mf_X4_isText tw_2_120 ts_1_4 lf_X8_169 rfl rfl dX8_setKind_28 (by decide) rfl rfl (leb rfl) (xx_out0 rfl)
  refine y_callV_i (pc := 28) (c_X4_isText hl ec) q13 mf_X4_isText tw_2_120 ts_1_4 lf_X8_169 rfl rfl dX8_setKind_28 (by decide) rfl rfl (leb rfl) ?_
  refine x_iload_n (pc := 31) 3 dX8_setKind_31 rfl ?_
  rcases bnd_some e with ⟨h16, r17, ec, rfl⟩ | ⟨h16, r17, ec, e⟩
  · exact y_callS_x (pc := 32) (c_X8_isTextKind hl ec) mf_X8_isTextKind tw_4_134 lf_X8_183 dX8_setKind_32 (by decide) rfl rfl (leb rfl) (xx_out0 rfl)
  refine y_callS_i (pc := 32) (c_X8_isTextKind hl ec) mf_X8_isTextKind tw_4_134 lf_X8_183 dX8_setKind_32 (by decide) rfl rfl (leb rfl) ?_
  rcases ite_some e with ⟨q18, e⟩ | ⟨q18, e⟩
  · refine x_icmp_ne_f (pc := 35) (t := 42) dX8_setKind_35 (by decide) q18 ?_
    refine x_iconst (pc := 38) dX8_setKind_38 ?_
    refine x_goto (pc := 39) (t := 43) dX8_setKind_39 (by decide) ?_
    exact x_sub1 (p_X8_setKind_L43 hl e) [1, 3, 0] rfl
  · refine x_icmp_ne_t (pc := 35) (t := 42) dX8_setKind_35 (by decide) q18 ?_
    refine x_iconst (pc := 42) dX8_setKind_42 ?_
    exact x_sub1 (p_X8_setKind_L43 hl e) [1, 3, 0] rfl
abbrev w_X8_setKind : Cond := (Cond.code yX8_setKind cX8_setKind 5 (Option.some Jvm.ClassFile.FieldType.int))
theorem mf_X8_setKind : MF yX8_setKind w_X8_setKind cX8_setKind 5 (Option.some Jvm.ClassFile.FieldType.int) 2 := ⟨⟨rfl, tw_4_132, by decide⟩, tw_1_1, ⟨by decide, by decide⟩, by decide +kernel⟩
theorem c_X8_setKind {l : Launch} {K : Ctx} (hl : l.stackTraces = false) {h : Hp} {a0 : Nat} {i1 : Int32} {i2 : Int32} {t : Rs Int32} (e : f_X8_setKind h a0 i1 i2 = some t) : Ctr l K 14 yX8_setKind w_X8_setKind [.ref a0, .int i1, .int i2] h (tgI t) :=
  Ctr.of hl mf_X8_setKind false (fun q => nomatch q) rfl (leb rfl) (p_X8_setKind hl e)
/-! ## TableColumnBalancerLaw.setKind -/
abbrev mM_L_setKind : Mi := (15, yL_setKind.cls, cL_setKind, 5, (Option.some Jvm.ClassFile.FieldType.int), [((0 : Nat), (10 : Nat), (13 : Nat), (21 : Nat)), ((0 : Nat), (10 : Nat), (17 : Nat), (13 : Nat)), ((0 : Nat), (10 : Nat), (21 : Nat), (41 : Nat))], false)
noncomputable def f_L_setKind (h : Hp) (a0 : Nat) (i1 : Int32) (i2 : Int32) (a3 : Nat) : Option (Rs Int32) :=
  chk (okr h a0 8) <|
  bndX (f_X8_setKind h a0 i1 i2) (fun h2 r3 => (
    chk (okr h2 a3 21) <|
    chk (vp_in (iN 0) (qW h2 a3)) <|
    lt (putL h2 a3 (Int32.toNatClampNeg (iN 0)) (Int32.toInt64 r3)) fun h6 =>
    some (h6, .inr (iN 0))
  )) fun h2 k =>
  if k = 2 then (
    some (h2, .inr (iN 1))
  ) else
  if k = 1 then (
    some (h2, .inr (iN 2))
  ) else
  if k = 4 then (
    some (h2, .inr (iN 3))
  ) else
  none
theorem p_L_setKind {l : Launch} {K : Ctx} (hl : l.stackTraces = false) {h : Hp} {a0 : Nat} {i1 : Int32} {i2 : Int32} {a3 : Nat} {t : Rs Int32} (e : f_L_setKind h a0 i1 i2 a3 = some t) : X l K mM_L_setKind (tgI t) 0 [(0, .ref a0), (1, .int i1), (2, .int i2), (3, .ref a3)] [] h := by
  unfold f_L_setKind at e
  refine x_aload_n (pc := 0) 3 dL_setKind_0 rfl ?_
  refine x_iconst (pc := 1) dL_setKind_1 ?_
  refine x_aload_n (pc := 2) 0 dL_setKind_2 rfl ?_
  refine x_iload_n (pc := 3) 1 dL_setKind_3 rfl ?_
  refine x_iload_n (pc := 4) 2 dL_setKind_4 rfl ?_
  obtain ⟨q1, e⟩ := chk_some e
  rcases bndX_some e with ⟨h2, k, ec, e⟩ | ⟨h2, r3, ec, e⟩
  · rcases ite_some e with ⟨q7, e⟩ | ⟨q7, e⟩
    · subst q7
      refine y_callV_x (pc := 5) (c_X8_setKind hl ec) q1 mf_X8_setKind tw_4_130 tw_4_131 lf_L_49 rfl rfl dL_setKind_5 (by decide) rfl rfl (leb rfl) (xx_catchA (pc := 5) [] [(0, 10, 17, 13), (0, 10, 21, 41)] (0, 10, 13, 21) rfl (by decide) (fun _ hz => absurd hz List.not_mem_nil) (by decide) (by decide) tw_3_187 tw_3_229 dL_setKind_13 (by decide) rfl ?_)
      refine x_iconst (pc := 15) dL_setKind_15 ?_
      cases Option.some.inj e
      exact x_iret (pc := 16) rfl dL_setKind_16
    rcases ite_some e with ⟨q8, e⟩ | ⟨q8, e⟩
    · subst q8
      refine y_callV_x (pc := 5) (c_X8_setKind hl ec) q1 mf_X8_setKind tw_4_130 tw_4_131 lf_L_49 rfl rfl dL_setKind_5 (by decide) rfl rfl (leb rfl) (xx_catchA (pc := 5) [(0, 10, 13, 21)] [(0, 10, 21, 41)] (0, 10, 17, 13) rfl (by decide) (List.forall_mem_cons.mpr ⟨⟨by decide, 2, by decide, by decide, tw_3_187⟩, fun _ hz => absurd hz List.not_mem_nil⟩) (by decide) (by decide) tw_3_76 tw_3_88 dL_setKind_17 (by decide) rfl ?_)
      refine x_iconst (pc := 19) dL_setKind_19 ?_
      cases Option.some.inj e
      exact x_iret (pc := 20) rfl dL_setKind_20
    rcases ite_some e with ⟨q9, e⟩ | ⟨q9, e⟩
    · subst q9
      refine y_callV_x (pc := 5) (c_X8_setKind hl ec) q1 mf_X8_setKind tw_4_130 tw_4_131 lf_L_49 rfl rfl dL_setKind_5 (by decide) rfl rfl (leb rfl) (xx_catchA (pc := 5) [(0, 10, 13, 21), (0, 10, 17, 13)] [] (0, 10, 21, 41) rfl (by decide) (List.forall_mem_cons.mpr ⟨⟨by decide, 2, by decide, by decide, tw_3_187⟩, List.forall_mem_cons.mpr ⟨⟨by decide, 1, by decide, by decide, tw_3_76⟩, fun _ hz => absurd hz List.not_mem_nil⟩⟩) (by decide) (by decide) tw_4_76 tw_4_91 dL_setKind_21 (by decide) rfl ?_)
      refine x_iconst (pc := 23) dL_setKind_23 ?_
      cases Option.some.inj e
      exact x_iret (pc := 24) rfl dL_setKind_24
    cases e
  refine y_callV_i (pc := 5) (c_X8_setKind hl ec) q1 mf_X8_setKind tw_4_130 tw_4_131 lf_L_49 rfl rfl dL_setKind_5 (by decide) rfl rfl (leb rfl) ?_
  refine x_i2l (pc := 8) dL_setKind_8 ?_
  obtain ⟨q4, e⟩ := chk_some e
  obtain ⟨q5, e⟩ := chk_some e
  replace e := lt_go e
  refine x_last (pc := 9) dL_setKind_9 q4 q5 ?_
  refine x_goto (pc := 10) (t := 25) dL_setKind_10 (by decide) ?_
  refine x_iconst (pc := 25) dL_setKind_25 ?_
  cases Option.some.inj e
  exact x_iret (pc := 26) rfl dL_setKind_26
abbrev w_L_setKind : Cond := (Cond.codeWith yL_setKind cL_setKind 5 (Option.some Jvm.ClassFile.FieldType.int) [((0 : Nat), (10 : Nat), (13 : Nat), (21 : Nat)), ((0 : Nat), (10 : Nat), (17 : Nat), (13 : Nat)), ((0 : Nat), (10 : Nat), (21 : Nat), (41 : Nat))])
theorem mf_L_setKind : MFX yL_setKind w_L_setKind cL_setKind 5 (Option.some Jvm.ClassFile.FieldType.int) 4 [((0 : Nat), (10 : Nat), (13 : Nat), (21 : Nat)), ((0 : Nat), (10 : Nat), (17 : Nat), (13 : Nat)), ((0 : Nat), (10 : Nat), (21 : Nat), (41 : Nat))] := ⟨⟨rfl, tw_4_128, by decide⟩, tw_1_0, ⟨by decide, by decide⟩, by decide +kernel⟩
theorem c_L_setKind {l : Launch} {K : Ctx} (hl : l.stackTraces = false) {h : Hp} {a0 : Nat} {i1 : Int32} {i2 : Int32} {a3 : Nat} {t : Rs Int32} (e : f_L_setKind h a0 i1 i2 a3 = some t) : Ctr l K 15 yL_setKind w_L_setKind [.ref a0, .int i1, .int i2, .ref a3] h (tgI t) :=
  Ctr.ofX hl mf_L_setKind rfl (leb rfl) (p_L_setKind hl e)
/-! ## TableColumnBalancerModel.setKind -/
abbrev mM_X9_setKind : Mi := (10, yX9_setKind.cls, cX9_setKind, 4, (Option.some Jvm.ClassFile.FieldType.int), [], false)
noncomputable def f_X9_setKind_L49 (h : Hp) (a0 : Nat) (i1 : Int32) (i2 : Int32) (s0 : Int32) (s1 : Int32) : Option (Rs Int32) :=
  if s1 = s0 then (
    chk (okr h a0 9) <|
    bnd (f_X9_of h a0 i1 (iN 3)) fun h3 r4 =>
    chk (okr h3 a0 9) <|
    chk (okr h3 (qR h3 a0 1) 20) <|
    chk (vp_in (((iN 10) + ((iN 31) * i1)) + (iN 3)) (qW h3 (qR h3 a0 1))) <|
    lt (putI h3 (qR h3 a0 1) (Int32.toNatClampNeg (((iN 10) + ((iN 31) * i1)) + (iN 3))) i2) fun h8 =>
    some (h8, .inr r4)
  ) else (
    chk (okr h a0 9) <|
    bnd (f_X9_fails h a0 (iN 3)) fun h10 r11 =>
    some (h10, .inr r11)
  )
theorem p_X9_setKind_L49 {l : Launch} {K : Ctx} (hl : l.stackTraces = false) {h : Hp} {a0 : Nat} {i1 : Int32} {i2 : Int32} {s0 : Int32} {s1 : Int32} {t : Rs Int32} (e : f_X9_setKind_L49 h a0 i1 i2 s0 s1 = some t) : X l K mM_X9_setKind (tgI t) 49 [(0, .ref a0), (1, .int i1), (2, .int i2)] [.int s0, .int s1] h := by
  unfold f_X9_setKind_L49 at e
  rcases ite_some e with ⟨q1, e⟩ | ⟨q1, e⟩
  · refine x_icmp_eq_t (pc := 49) (t := 58) dX9_setKind_49 (by decide) q1 ?_
    refine x_aload_n (pc := 58) 0 dX9_setKind_58 rfl ?_
    refine x_iload_n (pc := 59) 1 dX9_setKind_59 rfl ?_
    refine x_iconst (pc := 60) dX9_setKind_60 ?_
    obtain ⟨q2, e⟩ := chk_some e
    rcases bnd_some e with ⟨h3, r4, ec, rfl⟩ | ⟨h3, r4, ec, e⟩
    · exact y_callV_x (pc := 61) (c_X9_of hl ec) q2 mf_X9_of tw_7_63 ts_6_12 lf_X9_91 rfl rfl dX9_setKind_61 (by decide) rfl rfl (leb rfl) (xx_out0 rfl)
    refine y_callV_i (pc := 61) (c_X9_of hl ec) q2 mf_X9_of tw_7_63 ts_6_12 lf_X9_91 rfl rfl dX9_setKind_61 (by decide) rfl rfl (leb rfl) ?_
    refine x_istore_n (pc := 64) dX9_setKind_64 (by decide) rfl ?_
    refine x_aload_n (pc := 65) 1 dX9_setKind_65 rfl ?_
    obtain ⟨q5, e⟩ := chk_some e
    obtain ⟨q6, e⟩ := chk_some e
    refine x_getR (pc := 66) gf_X9_9 rfl dX9_setKind_66 q5 q6.1 ?_
    refine x_bipush (pc := 69) (v := iN 10) dX9_setKind_69 rfl ?_
    refine x_bipush (pc := 71) (v := iN 31) dX9_setKind_71 rfl ?_
    refine x_iload_n (pc := 73) 2 dX9_setKind_73 rfl ?_
    refine x_imul (pc := 74) dX9_setKind_74 ?_
    refine x_iadd (pc := 75) dX9_setKind_75 ?_
    refine x_iconst (pc := 76) dX9_setKind_76 ?_
    refine x_iadd (pc := 77) dX9_setKind_77 ?_
    refine x_iload_n (pc := 78) 3 dX9_setKind_78 rfl ?_
    obtain ⟨q7, e⟩ := chk_some e
    replace e := lt_go e
    refine x_iast (pc := 79) dX9_setKind_79 q6 q7 ?_
    refine x_iload_n (pc := 80) 0 dX9_setKind_80 rfl ?_
    cases Option.some.inj e
    exact x_iret (pc := 81) rfl dX9_setKind_81
  · refine x_icmp_eq_f (pc := 49) (t := 58) dX9_setKind_49 (by decide) q1 ?_
    refine x_aload_n (pc := 52) 0 dX9_setKind_52 rfl ?_
    refine x_iconst (pc := 53) dX9_setKind_53 ?_
    obtain ⟨q9, e⟩ := chk_some e
    rcases bnd_some e with ⟨h10, r11, ec, rfl⟩ | ⟨h10, r11, ec, e⟩
    · exact y_callV_x (pc := 54) (c_X9_fails hl ec) q9 mf_X9_fails tw_7_24 ts_6_7 lf_X9_95 rfl rfl dX9_setKind_54 (by decide) rfl rfl (leb rfl) (xx_out0 rfl)
    refine y_callV_i (pc := 54) (c_X9_fails hl ec) q9 mf_X9_fails tw_7_24 ts_6_7 lf_X9_95 rfl rfl dX9_setKind_54 (by decide) rfl rfl (leb rfl) ?_
    cases Option.some.inj e
    exact x_iret (pc := 57) rfl dX9_setKind_57
noncomputable def f_X9_setKind (h : Hp) (a0 : Nat) (i1 : Int32) (i2 : Int32) : Option (Rs Int32) :=
  chk (okr h a0 9) <|
  lt (putI h a0 0 (iN 0)) fun h2 =>
  bnd (f_X9_isCell h2 a0 i1) fun h3 r4 =>
  if r4 = 0 then (
    chk (okr h3 a0 9) <|
    bnd (f_X9_fails h3 a0 (iN 1)) fun h7 r8 =>
    some (h7, .inr r8)
  ) else (
    bnd (f_X9_in h3 i2 (iN 0) (iN 5)) fun h9 r10 =>
    if r10 = 0 then (
      chk (okr h9 a0 9) <|
      bnd (f_X9_fails h9 a0 (iN 2)) fun h13 r14 =>
      some (h13, .inr r14)
    ) else (
      chk (okr h9 a0 9) <|
      bnd (f_X9_isText h9 a0 i1) fun h16 r17 =>
      if (iN 4) ≤ i2 then (
        f_X9_setKind_L49 h16 a0 i1 i2 (iN 0) r17
      ) else (
        f_X9_setKind_L49 h16 a0 i1 i2 (iN 1) r17
      )
    )
  )
theorem p_X9_setKind {l : Launch} {K : Ctx} (hl : l.stackTraces = false) {h : Hp} {a0 : Nat} {i1 : Int32} {i2 : Int32} {t : Rs Int32} (e : f_X9_setKind h a0 i1 i2 = some t) : X l K mM_X9_setKind (tgI t) 0 [(0, .ref a0), (1, .int i1), (2, .int i2)] [] h := by
  unfold f_X9_setKind at e
  refine x_aload_n (pc := 0) 0 dX9_setKind_0 rfl ?_
  refine x_iconst (pc := 1) dX9_setKind_1 ?_
  obtain ⟨q1, e⟩ := chk_some e
  replace e := lt_go e
  refine x_putI (pc := 2) pf_X9_84 rfl rfl rfl dX9_setKind_2 q1 ?_
  refine x_aload_n (pc := 5) 0 dX9_setKind_5 rfl ?_
  refine x_iload_n (pc := 6) 1 dX9_setKind_6 rfl ?_
  rcases bnd_some e with ⟨h3, r4, ec, rfl⟩ | ⟨h3, r4, ec, e⟩
  · exact y_callV_x (pc := 7) (c_X9_isCell hl ec) (okr_pI q1) mf_X9_isCell tw_7_75 ts_6_14 lf_X9_120 rfl rfl dX9_setKind_7 (by decide) rfl rfl (leb rfl) (xx_out0 rfl)
  refine y_callV_i (pc := 7) (c_X9_isCell hl ec) (okr_pI q1) mf_X9_isCell tw_7_75 ts_6_14 lf_X9_120 rfl rfl dX9_setKind_7 (by decide) rfl rfl (leb rfl) ?_
  rcases ite_some e with ⟨q5, e⟩ | ⟨q5, e⟩
  · refine x_if_ne_f (pc := 10) (t := 19) dX9_setKind_10 (by decide) q5 ?_
    refine x_aload_n (pc := 13) 0 dX9_setKind_13 rfl ?_
    refine x_iconst (pc := 14) dX9_setKind_14 ?_
    obtain ⟨q6, e⟩ := chk_some e
    rcases bnd_some e with ⟨h7, r8, ec, rfl⟩ | ⟨h7, r8, ec, e⟩
    · exact y_callV_x (pc := 15) (c_X9_fails hl ec) q6 mf_X9_fails tw_7_24 ts_6_7 lf_X9_95 rfl rfl dX9_setKind_15 (by decide) rfl rfl (leb rfl) (xx_out0 rfl)
    refine y_callV_i (pc := 15) (c_X9_fails hl ec) q6 mf_X9_fails tw_7_24 ts_6_7 lf_X9_95 rfl rfl dX9_setKind_15 (by decide) rfl rfl (leb rfl) ?_
    cases Option.some.inj e
    exact x_iret (pc := 18) rfl dX9_setKind_18
  · refine x_if_ne_t (pc := 10) (t := 19) dX9_setKind_10 (by decide) q5 ?_
    refine x_iload_n (pc := 19) 2 dX9_setKind_19 rfl ?_
    refine x_iconst (pc := 20) dX9_setKind_20 ?_
    refine x_iconst (pc := 21) dX9_setKind_21 ?_
    rcases bnd_some e with ⟨h9, r10, ec, rfl⟩ | ⟨h9, r10, ec, e⟩
    · exact y_callS_x (pc := 22) (c_X9_in hl ec) mf_X9_in tw_7_20 lf_X9_87 dX9_setKind_22 (by decide) rfl rfl (leb rfl) (xx_out0 rfl)
    refine y_callS_i (pc := 22) (c_X9_in hl ec) mf_X9_in tw_7_20 lf_X9_87 dX9_setKind_22 (by decide) rfl rfl (leb rfl) ?_
    rcases ite_some e with ⟨q11, e⟩ | ⟨q11, e⟩
    · refine x_if_ne_f (pc := 25) (t := 34) dX9_setKind_25 (by decide) q11 ?_
      refine x_aload_n (pc := 28) 0 dX9_setKind_28 rfl ?_
      refine x_iconst (pc := 29) dX9_setKind_29 ?_
      obtain ⟨q12, e⟩ := chk_some e
      rcases bnd_some e with ⟨h13, r14, ec, rfl⟩ | ⟨h13, r14, ec, e⟩
      · exact y_callV_x (pc := 30) (c_X9_fails hl ec) q12 mf_X9_fails tw_7_24 ts_6_7 lf_X9_95 rfl rfl dX9_setKind_30 (by decide) rfl rfl (leb rfl) (xx_out0 rfl)
      refine y_callV_i (pc := 30) (c_X9_fails hl ec) q12 mf_X9_fails tw_7_24 ts_6_7 lf_X9_95 rfl rfl dX9_setKind_30 (by decide) rfl rfl (leb rfl) ?_
      cases Option.some.inj e
      exact x_iret (pc := 33) rfl dX9_setKind_33
    · refine x_if_ne_t (pc := 25) (t := 34) dX9_setKind_25 (by decide) q11 ?_
      refine x_aload_n (pc := 34) 0 dX9_setKind_34 rfl ?_
      refine x_iload_n (pc := 35) 1 dX9_setKind_35 rfl ?_
      obtain ⟨q15, e⟩ := chk_some e
      rcases bnd_some e with ⟨h16, r17, ec, rfl⟩ | ⟨h16, r17, ec, e⟩
      · exact y_callV_x (pc := 36) (c_X9_isText hl ec) q15 mf_X9_isText tw_7_87 ts_7_0 lf_X9_127 rfl rfl dX9_setKind_36 (by decide) rfl rfl (leb rfl) (xx_out0 rfl)
      refine y_callV_i (pc := 36) (c_X9_isText hl ec) q15 mf_X9_isText tw_7_87 ts_7_0 lf_X9_127 rfl rfl dX9_setKind_36 (by decide) rfl rfl (leb rfl) ?_
      refine x_iload_n (pc := 39) 2 dX9_setKind_39 rfl ?_
      refine x_iconst (pc := 40) dX9_setKind_40 ?_
      rcases ite_some e with ⟨q18, e⟩ | ⟨q18, e⟩
      · refine x_icmp_ge_t (pc := 41) (t := 48) dX9_setKind_41 (by decide) q18 ?_
        refine x_iconst (pc := 48) dX9_setKind_48 ?_
        exact p_X9_setKind_L49 hl e
      · refine x_icmp_ge_f (pc := 41) (t := 48) dX9_setKind_41 (by decide) q18 ?_
        refine x_iconst (pc := 44) dX9_setKind_44 ?_
        refine x_goto (pc := 45) (t := 49) dX9_setKind_45 (by decide) ?_
        exact p_X9_setKind_L49 hl e
abbrev w_X9_setKind : Cond := (Cond.code yX9_setKind cX9_setKind 4 (Option.some Jvm.ClassFile.FieldType.int))
theorem mf_X9_setKind : MF yX9_setKind w_X9_setKind cX9_setKind 4 (Option.some Jvm.ClassFile.FieldType.int) 2 := ⟨⟨rfl, tw_7_104, by decide⟩, tw_1_11, ⟨by decide, by decide⟩, by decide +kernel⟩
theorem c_X9_setKind {l : Launch} {K : Ctx} (hl : l.stackTraces = false) {h : Hp} {a0 : Nat} {i1 : Int32} {i2 : Int32} {t : Rs Int32} (e : f_X9_setKind h a0 i1 i2 = some t) : Ctr l K 10 yX9_setKind w_X9_setKind [.ref a0, .int i1, .int i2] h (tgI t) :=
  Ctr.of hl mf_X9_setKind false (fun q => nomatch q) rfl (leb rfl) (p_X9_setKind hl e)
/-! ## TableColumnBalancer$Script.push -/
abbrev mM_X5_push : Mi := (8, yX5_push.cls, cX5_push, 2, (Option.none : Option Jvm.ClassFile.FieldType), [], false)
noncomputable def f_X5_push (h : Hp) (a0 : Nat) (i1 : Int32) : Option (Rs Unit) :=
  if i1 = 0 then (
    some (h, .inr ())
  ) else (
    chk (okr h a0 5) <|
    if (iN 60) ≤ (qI h a0 1) then (
      some (h, .inr ())
    ) else (
      chk (okr h (qR h a0 0) 23) <|
      chk (vp_in (qI h a0 1) (qW h (qR h a0 0))) <|
      chk (vp_nar .char ((Int32.toUInt32 i1 % 65536).toInt32) = ((Int32.toUInt32 i1 % 65536).toInt32)) <|
      lt (putI h (qR h a0 0) (Int32.toNatClampNeg (qI h a0 1)) ((Int32.toUInt32 i1 % 65536).toInt32)) fun h7 =>
      lt (putI h7 a0 1 ((qI h7 a0 1) + (iN 1))) fun h8 =>
      some (h8, .inr ())
    )
  )
theorem p_X5_push {l : Launch} {K : Ctx} (hl : l.stackTraces = false) {h : Hp} {a0 : Nat} {i1 : Int32} {t : Rs Unit} (e : f_X5_push h a0 i1 = some t) : X l K mM_X5_push (tgV t) 0 [(0, .ref a0), (1, .int i1)] [] h := by
  unfold f_X5_push at e
  refine x_iload_n (pc := 0) 1 dX5_push_0 rfl ?_
  rcases ite_some e with ⟨q1, e⟩ | ⟨q1, e⟩
  · refine x_if_eq_t (pc := 1) (t := 34) dX5_push_1 (by decide) q1 ?_
    cases Option.some.inj e
    exact x_vret (pc := 34) rfl dX5_push_34
  · refine x_if_eq_f (pc := 1) (t := 34) dX5_push_1 (by decide) q1 ?_
    refine x_aload_n (pc := 4) 0 dX5_push_4 rfl ?_
    obtain ⟨q2, e⟩ := chk_some e
    refine x_getI (pc := 5) gf_X5_26 rfl dX5_push_5 q2 ?_
    refine x_bipush (pc := 8) (v := iN 60) dX5_push_8 rfl ?_
    rcases ite_some e with ⟨q3, e⟩ | ⟨q3, e⟩
    · refine x_icmp_ge_t (pc := 10) (t := 34) dX5_push_10 (by decide) q3 ?_
      cases Option.some.inj e
      exact x_vret (pc := 34) rfl dX5_push_34
    · refine x_icmp_ge_f (pc := 10) (t := 34) dX5_push_10 (by decide) q3 ?_
      refine x_aload_n (pc := 13) 0 dX5_push_13 rfl ?_
      obtain ⟨q4, e⟩ := chk_some e
      refine x_getR (pc := 14) gf_X5_9 rfl dX5_push_14 q2 q4.1 ?_
      refine x_aload_n (pc := 17) 0 dX5_push_17 rfl ?_
      refine x_getI (pc := 18) gf_X5_26 rfl dX5_push_18 q2 ?_
      refine x_iload_n (pc := 21) 1 dX5_push_21 rfl ?_
      refine x_i2c (pc := 22) dX5_push_22 ?_
      obtain ⟨q5, e⟩ := chk_some e
      obtain ⟨q6, e⟩ := chk_some e
      replace e := lt_go e
      refine x_cast (pc := 23) dX5_push_23 q6 q4 q5 ?_
      refine x_aload_n (pc := 24) 0 dX5_push_24 rfl ?_
      refine x_dup (pc := 25) dX5_push_25 rfl ?_
      refine x_getI (pc := 26) gf_X5_26 rfl dX5_push_26 (okr_pI q2) ?_
      refine x_iconst (pc := 29) dX5_push_29 ?_
      refine x_iadd (pc := 30) dX5_push_30 ?_
      replace e := lt_go e
      refine x_putI (pc := 31) pf_X5_26 rfl rfl rfl dX5_push_31 (okr_pI q2) ?_
      cases Option.some.inj e
      exact x_vret (pc := 34) rfl dX5_push_34
abbrev w_X5_push : Cond := (Cond.code yX5_push cX5_push 2 (Option.none : Option Jvm.ClassFile.FieldType))
theorem mf_X5_push : MF yX5_push w_X5_push cX5_push 2 (Option.none : Option Jvm.ClassFile.FieldType) 1 := ⟨⟨rfl, tw_4_150, by decide⟩, tw_1_7, ⟨by decide, by decide⟩, by decide +kernel⟩
theorem c_X5_push {l : Launch} {K : Ctx} (hl : l.stackTraces = false) {h : Hp} {a0 : Nat} {i1 : Int32} {t : Rs Unit} (e : f_X5_push h a0 i1 = some t) : Ctr l K 8 yX5_push w_X5_push [.ref a0, .int i1] h (tgV t) :=
  Ctr.of hl mf_X5_push false (fun q => nomatch q) rfl (leb rfl) (p_X5_push hl e)
/-! ## TableColumnBalancer.append -/
abbrev mM_X8_append : Mi := (9, yX8_append.cls, cX8_append, 5, (Option.some Jvm.ClassFile.FieldType.int), [], false)
noncomputable def f_X8_append_B87 (k87 : Hp → Nat → Int32 → Int32 → Option (Rs Int32)) (h : Hp) (a0 : Nat) (i1 : Int32) (i3 : Int32) : Option (Rs Int32) :=
  if i3 < 0 then (
    chk (okr h a0 8) <|
    chk (okr h (qR h a0 8) 5) <|
    some (h, .inr (qI h (qR h a0 8) 1))
  ) else (
    chk (okr h a0 8) <|
    chk (okr h (qR h a0 8) 5) <|
    bnd (f_X5_push h (qR h a0 8) (((Int32.toUInt32 i1 >>> (Int32.toUInt32 i3 &&& Int32.toUInt32 31)).toInt32) &&& (iN 255))) fun h6 _ =>
    k87 h6 a0 i1 (i3 + iN (-8))
  )
theorem p_X8_append_B87 {l : Launch} {K : Ctx} (hl : l.stackTraces = false) {k87 : Hp → Nat → Int32 → Int32 → Option (Rs Int32)} (hk87 : ∀ (h : Hp) (a0 : Nat) (i1 : Int32) (i3 : Int32) (t : Rs Int32), k87 h a0 i1 i3 = some t → X l K mM_X8_append (tgI t) 87 [(0, .ref a0), (1, .int i1), (3, .int i3)] [] h) {h : Hp} {a0 : Nat} {i1 : Int32} {i3 : Int32} {t : Rs Int32} (e : f_X8_append_B87 k87 h a0 i1 i3 = some t) : X l K mM_X8_append (tgI t) 87 [(0, .ref a0), (1, .int i1), (3, .int i3)] [] h := by
  unfold f_X8_append_B87 at e
  refine x_iload_n (pc := 87) 2 dX8_append_87 rfl ?_
  rcases ite_some e with ⟨q1, e⟩ | ⟨q1, e⟩
  · refine x_if_lt_t (pc := 88) (t := 111) dX8_append_88 (by decide) q1 ?_
    refine x_aload_n (pc := 111) 0 dX8_append_111 rfl ?_
    obtain ⟨q2, e⟩ := chk_some e
    obtain ⟨q3, e⟩ := chk_some e
    refine x_getR (pc := 112) gf_X8_49 rfl dX8_append_112 q2 q3.1 ?_
    refine x_getI (pc := 115) gf_X8_190 rfl dX8_append_115 q3 ?_
    cases Option.some.inj e
    exact x_iret (pc := 118) rfl dX8_append_118
  · refine x_if_lt_f (pc := 88) (t := 111) dX8_append_88 (by decide) q1 ?_
    refine x_aload_n (pc := 91) 0 dX8_append_91 rfl ?_
    obtain ⟨q4, e⟩ := chk_some e
    obtain ⟨q5, e⟩ := chk_some e
    refine x_getR (pc := 92) gf_X8_49 rfl dX8_append_92 q4 q5.1 ?_
    refine x_iload_n (pc := 95) 1 dX8_append_95 rfl ?_
    refine x_iload_n (pc := 96) 2 dX8_append_96 rfl ?_
    refine x_iushr (pc := 97) dX8_append_97 ?_
    refine x_sipush (pc := 98) (v := iN 255) dX8_append_98 rfl ?_
    refine x_iand (pc := 101) dX8_append_101 ?_
    rcases bnd_some e with ⟨h6, r7, ec, rfl⟩ | ⟨h6, r7, ec, e⟩
    · exact y_callV_x (pc := 102) (c_X5_push hl ec) q5 mf_X5_push tw_4_149 ts_4_4 lf_X8_193 rfl rfl dX8_append_102 (by decide) rfl rfl (leb rfl) (xx_out0 rfl)
    refine y_callV_v (pc := 102) (c_X5_push hl ec) q5 mf_X5_push tw_4_149 ts_4_4 lf_X8_193 rfl rfl dX8_append_102 (by decide) rfl rfl (leb rfl) ?_
    refine x_iinc (pc := 105) 2 dX8_append_105 rfl (by decide) rfl ?_
    refine x_goto (pc := 108) (t := 87) dX8_append_108 (by decide) ?_
    exact x_sub1 (hk87 _ _ _ _ _ e) [1, 2, 0] rfl
noncomputable def f_X8_append_L87 (n : Nat) : Hp → Nat → Int32 → Int32 → Option (Rs Int32) := Nat.rec (motive := fun _ => Hp → Nat → Int32 → Int32 → Option (Rs Int32)) (fun _ _ _ _ => none) (fun _ r => f_X8_append_B87 r) n
theorem p_X8_append_L87 {l : Launch} {K : Ctx} (hl : l.stackTraces = false) : ∀ (n : Nat) (h : Hp) (a0 : Nat) (i1 : Int32) (i3 : Int32) (t : Rs Int32) (e : f_X8_append_L87 n h a0 i1 i3 = some t), X l K mM_X8_append (tgI t) 87 [(0, .ref a0), (1, .int i1), (3, .int i3)] [] h := by
  intro n
  induction n with
  | zero => exact fun _ _ _ _ _ e => nomatch (show (none : Option (Rs Int32)) = some _ from e)
  | succ n ih => exact fun h a0 i1 i3 t e => p_X8_append_B87 hl (fun h a0 i1 i3 t e => ih h a0 i1 i3 t e) e
noncomputable def f_X8_append_L81 (h : Hp) (a0 : Nat) (i1 : Int32) (s0 : Int32) : Option (Rs Int32) :=
  bnd (f_X8_requireState h s0) fun h1 _ =>
  f_X8_append_L87 2000 h1 a0 i1 (iN 24)
theorem p_X8_append_L81 {l : Launch} {K : Ctx} (hl : l.stackTraces = false) {h : Hp} {a0 : Nat} {i1 : Int32} {s0 : Int32} {t : Rs Int32} (e : f_X8_append_L81 h a0 i1 s0 = some t) : X l K mM_X8_append (tgI t) 81 [(0, .ref a0), (1, .int i1)] [.int s0] h := by
  unfold f_X8_append_L81 at e
  rcases bnd_some e with ⟨h1, r2, ec, rfl⟩ | ⟨h1, r2, ec, e⟩
  · exact y_callS_x (pc := 81) (c_X8_requireState hl ec) mf_X8_requireState tw_3_155 lf_X8_84 dX8_append_81 (by decide) rfl rfl (leb rfl) (xx_out0 rfl)
  refine y_callS_v (pc := 81) (c_X8_requireState hl ec) mf_X8_requireState tw_3_155 lf_X8_84 dX8_append_81 (by decide) rfl rfl (leb rfl) ?_
  refine x_bipush (pc := 84) (v := iN 24) dX8_append_84 rfl ?_
  refine x_istore_n (pc := 86) dX8_append_86 (by decide) rfl ?_
  exact x_sub1 (p_X8_append_L87 hl 2000 _ _ _ _ _ e) [1, 2, 0] rfl
noncomputable def f_X8_append_L54 (k5 : Hp → Nat → Int32 → Int32 → Int32 → Option (Rs Int32)) (h : Hp) (a0 : Nat) (i1 : Int32) (i3 : Int32) (s0 : Int32) (s1 : Int32) : Option (Rs Int32) :=
  k5 h a0 i1 (s1 + s0) (i3 + iN (-8))
theorem p_X8_append_L54 {l : Launch} {K : Ctx} (hl : l.stackTraces = false) {k5 : Hp → Nat → Int32 → Int32 → Int32 → Option (Rs Int32)} (hk5 : ∀ (h : Hp) (a0 : Nat) (i1 : Int32) (i2 : Int32) (i3 : Int32) (t : Rs Int32), k5 h a0 i1 i2 i3 = some t → X l K mM_X8_append (tgI t) 5 [(0, .ref a0), (1, .int i1), (2, .int i2), (3, .int i3)] [] h) {h : Hp} {a0 : Nat} {i1 : Int32} {i3 : Int32} {s0 : Int32} {s1 : Int32} {t : Rs Int32} (e : f_X8_append_L54 k5 h a0 i1 i3 s0 s1 = some t) : X l K mM_X8_append (tgI t) 54 [(0, .ref a0), (1, .int i1), (3, .int i3)] [.int s0, .int s1] h := by
  unfold f_X8_append_L54 at e
  refine x_iadd (pc := 54) dX8_append_54 ?_
  refine x_istore_n (pc := 55) dX8_append_55 (by decide) rfl ?_
  refine x_iinc (pc := 56) 3 dX8_append_56 rfl (by decide) rfl ?_
  refine x_goto (pc := 59) (t := 5) dX8_append_59 (by decide) ?_
  exact x_sub1 (hk5 _ _ _ _ _ _ e) [2, 3, 1, 0] rfl
noncomputable def f_X8_append_L40 (k5 : Hp → Nat → Int32 → Int32 → Int32 → Option (Rs Int32)) (h : Hp) (a0 : Nat) (i1 : Int32) (i2 : Int32) (i3 : Int32) (i4 : Int32) (s0 : Int32) : Option (Rs Int32) :=
  bnd (f_X8_requireArgument h s0) fun h1 _ =>
  if i4 = 0 then (
    f_X8_append_L54 k5 h1 a0 i1 i3 (iN 0) i2
  ) else (
    f_X8_append_L54 k5 h1 a0 i1 i3 (iN 1) i2
  )
theorem p_X8_append_L40 {l : Launch} {K : Ctx} (hl : l.stackTraces = false) {k5 : Hp → Nat → Int32 → Int32 → Int32 → Option (Rs Int32)} (hk5 : ∀ (h : Hp) (a0 : Nat) (i1 : Int32) (i2 : Int32) (i3 : Int32) (t : Rs Int32), k5 h a0 i1 i2 i3 = some t → X l K mM_X8_append (tgI t) 5 [(0, .ref a0), (1, .int i1), (2, .int i2), (3, .int i3)] [] h) {h : Hp} {a0 : Nat} {i1 : Int32} {i2 : Int32} {i3 : Int32} {i4 : Int32} {s0 : Int32} {t : Rs Int32} (e : f_X8_append_L40 k5 h a0 i1 i2 i3 i4 s0 = some t) : X l K mM_X8_append (tgI t) 40 [(0, .ref a0), (1, .int i1), (2, .int i2), (3, .int i3), (4, .int i4)] [.int s0] h := by
  unfold f_X8_append_L40 at e
  rcases bnd_some e with ⟨h1, r2, ec, rfl⟩ | ⟨h1, r2, ec, e⟩
  · exact y_callS_x (pc := 40) (c_X8_requireArgument hl ec) mf_X8_requireArgument tw_3_84 lf_X8_76 dX8_append_40 (by decide) rfl rfl (leb rfl) (xx_out0 rfl)
  refine y_callS_v (pc := 40) (c_X8_requireArgument hl ec) mf_X8_requireArgument tw_3_84 lf_X8_76 dX8_append_40 (by decide) rfl rfl (leb rfl) ?_
  refine x_iload_n (pc := 43) 2 dX8_append_43 rfl ?_
  refine x_iload (pc := 44) 4 dX8_append_44 rfl ?_
  rcases ite_some e with ⟨q3, e⟩ | ⟨q3, e⟩
  · refine x_if_ne_f (pc := 46) (t := 53) dX8_append_46 (by decide) q3 ?_
    refine x_iconst (pc := 49) dX8_append_49 ?_
    refine x_goto (pc := 50) (t := 54) dX8_append_50 (by decide) ?_
    exact x_sub1 (p_X8_append_L54 hl hk5 e) [0, 1, 3] rfl
  · refine x_if_ne_t (pc := 46) (t := 53) dX8_append_46 (by decide) q3 ?_
    refine x_iconst (pc := 53) dX8_append_53 ?_
    exact x_sub1 (p_X8_append_L54 hl hk5 e) [0, 1, 3] rfl
noncomputable def f_X8_append_L35 (k5 : Hp → Nat → Int32 → Int32 → Int32 → Option (Rs Int32)) (h : Hp) (a0 : Nat) (i1 : Int32) (i2 : Int32) (i3 : Int32) (i4 : Int32) : Option (Rs Int32) :=
  f_X8_append_L40 k5 h a0 i1 i2 i3 i4 (iN 1)
theorem p_X8_append_L35 {l : Launch} {K : Ctx} (hl : l.stackTraces = false) {k5 : Hp → Nat → Int32 → Int32 → Int32 → Option (Rs Int32)} (hk5 : ∀ (h : Hp) (a0 : Nat) (i1 : Int32) (i2 : Int32) (i3 : Int32) (t : Rs Int32), k5 h a0 i1 i2 i3 = some t → X l K mM_X8_append (tgI t) 5 [(0, .ref a0), (1, .int i1), (2, .int i2), (3, .int i3)] [] h) {h : Hp} {a0 : Nat} {i1 : Int32} {i2 : Int32} {i3 : Int32} {i4 : Int32} {t : Rs Int32} (e : f_X8_append_L35 k5 h a0 i1 i2 i3 i4 = some t) : X l K mM_X8_append (tgI t) 35 [(0, .ref a0), (1, .int i1), (2, .int i2), (3, .int i3), (4, .int i4)] [] h := by
  unfold f_X8_append_L35 at e
  refine x_iconst (pc := 35) dX8_append_35 ?_
  refine x_goto (pc := 36) (t := 40) dX8_append_36 (by decide) ?_
  exact p_X8_append_L40 hl hk5 e
noncomputable def f_X8_append_B5 (k5 : Hp → Nat → Int32 → Int32 → Int32 → Option (Rs Int32)) (h : Hp) (a0 : Nat) (i1 : Int32) (i2 : Int32) (i3 : Int32) : Option (Rs Int32) :=
  if i3 < 0 then (
    chk (okr h a0 8) <|
    chk (okr h (qR h a0 8) 5) <|
    if (iN 60) < ((qI h (qR h a0 8) 1) + i2) then (
      f_X8_append_L81 h a0 i1 (iN 0)
    ) else (
      f_X8_append_L81 h a0 i1 (iN 1)
    )
  ) else (
    if (((Int32.toUInt32 i1 >>> (Int32.toUInt32 i3 &&& Int32.toUInt32 31)).toInt32) &&& (iN 255)) = 0 then (
      f_X8_append_L35 k5 h a0 i1 i2 i3 (((Int32.toUInt32 i1 >>> (Int32.toUInt32 i3 &&& Int32.toUInt32 31)).toInt32) &&& (iN 255))
    ) else (
      bnd (f_X8_isWithin h (((Int32.toUInt32 i1 >>> (Int32.toUInt32 i3 &&& Int32.toUInt32 31)).toInt32) &&& (iN 255)) (iN 33) (iN 126)) fun h6 r7 =>
      if r7 = 0 then (
        f_X8_append_L40 k5 h6 a0 i1 i2 i3 (((Int32.toUInt32 i1 >>> (Int32.toUInt32 i3 &&& Int32.toUInt32 31)).toInt32) &&& (iN 255)) (iN 0)
      ) else (
        f_X8_append_L35 k5 h6 a0 i1 i2 i3 (((Int32.toUInt32 i1 >>> (Int32.toUInt32 i3 &&& Int32.toUInt32 31)).toInt32) &&& (iN 255))
      )
    )
  )
theorem p_X8_append_B5 {l : Launch} {K : Ctx} (hl : l.stackTraces = false) {k5 : Hp → Nat → Int32 → Int32 → Int32 → Option (Rs Int32)} (hk5 : ∀ (h : Hp) (a0 : Nat) (i1 : Int32) (i2 : Int32) (i3 : Int32) (t : Rs Int32), k5 h a0 i1 i2 i3 = some t → X l K mM_X8_append (tgI t) 5 [(0, .ref a0), (1, .int i1), (2, .int i2), (3, .int i3)] [] h) {h : Hp} {a0 : Nat} {i1 : Int32} {i2 : Int32} {i3 : Int32} {t : Rs Int32} (e : f_X8_append_B5 k5 h a0 i1 i2 i3 = some t) : X l K mM_X8_append (tgI t) 5 [(0, .ref a0), (1, .int i1), (2, .int i2), (3, .int i3)] [] h := by
  unfold f_X8_append_B5 at e
  refine x_iload_n (pc := 5) 3 dX8_append_5 rfl ?_
  rcases ite_some e with ⟨q1, e⟩ | ⟨q1, e⟩
  · refine x_if_lt_t (pc := 6) (t := 62) dX8_append_6 (by decide) q1 ?_
    refine x_aload_n (pc := 62) 0 dX8_append_62 rfl ?_
    obtain ⟨q2, e⟩ := chk_some e
    obtain ⟨q3, e⟩ := chk_some e
    refine x_getR (pc := 63) gf_X8_49 rfl dX8_append_63 q2 q3.1 ?_
    refine x_getI (pc := 66) gf_X8_190 rfl dX8_append_66 q3 ?_
    refine x_iload_n (pc := 69) 2 dX8_append_69 rfl ?_
    refine x_iadd (pc := 70) dX8_append_70 ?_
    refine x_bipush (pc := 71) (v := iN 60) dX8_append_71 rfl ?_
    rcases ite_some e with ⟨q4, e⟩ | ⟨q4, e⟩
    · refine x_icmp_gt_t (pc := 73) (t := 80) dX8_append_73 (by decide) q4 ?_
      refine x_iconst (pc := 80) dX8_append_80 ?_
      exact x_sub1 (p_X8_append_L81 hl e) [0, 1] rfl
    · refine x_icmp_gt_f (pc := 73) (t := 80) dX8_append_73 (by decide) q4 ?_
      refine x_iconst (pc := 76) dX8_append_76 ?_
      refine x_goto (pc := 77) (t := 81) dX8_append_77 (by decide) ?_
      exact x_sub1 (p_X8_append_L81 hl e) [0, 1] rfl
  · refine x_if_lt_f (pc := 6) (t := 62) dX8_append_6 (by decide) q1 ?_
    refine x_iload_n (pc := 9) 1 dX8_append_9 rfl ?_
    refine x_iload_n (pc := 10) 3 dX8_append_10 rfl ?_
    refine x_iushr (pc := 11) dX8_append_11 ?_
    refine x_sipush (pc := 12) (v := iN 255) dX8_append_12 rfl ?_
    refine x_iand (pc := 15) dX8_append_15 ?_
    refine x_istore (pc := 16) dX8_append_16 (by decide) rfl ?_
    refine x_iload (pc := 18) 0 dX8_append_18 rfl ?_
    rcases ite_some e with ⟨q5, e⟩ | ⟨q5, e⟩
    · refine x_if_eq_t (pc := 20) (t := 35) dX8_append_20 (by decide) q5 ?_
      exact x_sub1 (p_X8_append_L35 hl hk5 e) [1, 2, 3, 4, 0] rfl
    · refine x_if_eq_f (pc := 20) (t := 35) dX8_append_20 (by decide) q5 ?_
      refine x_iload (pc := 23) 0 dX8_append_23 rfl ?_
      refine x_bipush (pc := 25) (v := iN 33) dX8_append_25 rfl ?_
      refine x_bipush (pc := 27) (v := iN 126) dX8_append_27 rfl ?_
      rcases bnd_some e with ⟨h6, r7, ec, rfl⟩ | ⟨h6, r7, ec, e⟩
      · exact y_callS_x (pc := 29) (c_X8_isWithin hl ec) mf_X8_isWithin tw_3_26 lf_X8_72 dX8_append_29 (by decide) rfl rfl (leb rfl) (xx_out0 rfl)
      refine y_callS_i (pc := 29) (c_X8_isWithin hl ec) mf_X8_isWithin tw_3_26 lf_X8_72 dX8_append_29 (by decide) rfl rfl (leb rfl) ?_
      rcases ite_some e with ⟨q8, e⟩ | ⟨q8, e⟩
      · refine x_if_eq_t (pc := 32) (t := 39) dX8_append_32 (by decide) q8 ?_
        refine x_iconst (pc := 39) dX8_append_39 ?_
        exact x_sub1 (p_X8_append_L40 hl hk5 e) [1, 2, 3, 4, 0] rfl
      · refine x_if_eq_f (pc := 32) (t := 39) dX8_append_32 (by decide) q8 ?_
        exact x_sub1 (p_X8_append_L35 hl hk5 e) [1, 2, 3, 4, 0] rfl
noncomputable def f_X8_append_L5 (n : Nat) : Hp → Nat → Int32 → Int32 → Int32 → Option (Rs Int32) := Nat.rec (motive := fun _ => Hp → Nat → Int32 → Int32 → Int32 → Option (Rs Int32)) (fun _ _ _ _ _ => none) (fun _ r => f_X8_append_B5 r) n
theorem p_X8_append_L5 {l : Launch} {K : Ctx} (hl : l.stackTraces = false) : ∀ (n : Nat) (h : Hp) (a0 : Nat) (i1 : Int32) (i2 : Int32) (i3 : Int32) (t : Rs Int32) (e : f_X8_append_L5 n h a0 i1 i2 i3 = some t), X l K mM_X8_append (tgI t) 5 [(0, .ref a0), (1, .int i1), (2, .int i2), (3, .int i3)] [] h := by
  intro n
  induction n with
  | zero => exact fun _ _ _ _ _ _ e => nomatch (show (none : Option (Rs Int32)) = some _ from e)
  | succ n ih => exact fun h a0 i1 i2 i3 t e => p_X8_append_B5 hl (fun h a0 i1 i2 i3 t e => ih h a0 i1 i2 i3 t e) e
noncomputable def f_X8_append (h : Hp) (a0 : Nat) (i1 : Int32) : Option (Rs Int32) :=
  f_X8_append_L5 2000 h a0 i1 (iN 0) (iN 24)
theorem p_X8_append {l : Launch} {K : Ctx} (hl : l.stackTraces = false) {h : Hp} {a0 : Nat} {i1 : Int32} {t : Rs Int32} (e : f_X8_append h a0 i1 = some t) : X l K mM_X8_append (tgI t) 0 [(0, .ref a0), (1, .int i1)] [] h := by
  unfold f_X8_append at e
  refine x_iconst (pc := 0) dX8_append_0 ?_
  refine x_istore_n (pc := 1) dX8_append_1 (by decide) rfl ?_
  refine x_bipush (pc := 2) (v := iN 24) dX8_append_2 rfl ?_
  refine x_istore_n (pc := 4) dX8_append_4 (by decide) rfl ?_
  exact x_sub1 (p_X8_append_L5 hl 2000 _ _ _ _ _ _ e) [2, 3, 1, 0] rfl
abbrev w_X8_append : Cond := (Cond.code yX8_append cX8_append 5 (Option.some Jvm.ClassFile.FieldType.int))
theorem mf_X8_append : MF yX8_append w_X8_append cX8_append 5 (Option.some Jvm.ClassFile.FieldType.int) 1 := ⟨⟨rfl, tw_4_146, by decide⟩, tw_1_1, ⟨by decide, by decide⟩, by decide +kernel⟩
theorem c_X8_append {l : Launch} {K : Ctx} (hl : l.stackTraces = false) {h : Hp} {a0 : Nat} {i1 : Int32} {t : Rs Int32} (e : f_X8_append h a0 i1 = some t) : Ctr l K 9 yX8_append w_X8_append [.ref a0, .int i1] h (tgI t) :=
  Ctr.of hl mf_X8_append false (fun q => nomatch q) rfl (leb rfl) (p_X8_append hl e)
/-! ## TableColumnBalancerLaw.append -/
abbrev mM_L_append : Mi := (10, yL_append.cls, cL_append, 4, (Option.some Jvm.ClassFile.FieldType.int), [((0 : Nat), (9 : Nat), (12 : Nat), (13 : Nat)), ((0 : Nat), (9 : Nat), (15 : Nat), (15 : Nat))], false)
noncomputable def f_L_append (h : Hp) (a0 : Nat) (i1 : Int32) (a2 : Nat) : Option (Rs Int32) :=
  chk (okr h a0 8) <|
  bndX (f_X8_append h a0 i1) (fun h2 r3 => (
    chk (okr h2 a2 21) <|
    chk (vp_in (iN 0) (qW h2 a2)) <|
    lt (putL h2 a2 (Int32.toNatClampNeg (iN 0)) (Int32.toInt64 r3)) fun h6 =>
    some (h6, .inr (iN 0))
  )) fun h2 k =>
  if k = 1 then (
    some (h2, .inr (iN 1))
  ) else
  if k = 0 then (
    some (h2, .inr (iN 2))
  ) else
  none
theorem p_L_append {l : Launch} {K : Ctx} (hl : l.stackTraces = false) {h : Hp} {a0 : Nat} {i1 : Int32} {a2 : Nat} {t : Rs Int32} (e : f_L_append h a0 i1 a2 = some t) : X l K mM_L_append (tgI t) 0 [(0, .ref a0), (1, .int i1), (2, .ref a2)] [] h := by
  unfold f_L_append at e
  refine x_aload_n (pc := 0) 2 dL_append_0 rfl ?_
  refine x_iconst (pc := 1) dL_append_1 ?_
  refine x_aload_n (pc := 2) 0 dL_append_2 rfl ?_
  refine x_iload_n (pc := 3) 1 dL_append_3 rfl ?_
  obtain ⟨q1, e⟩ := chk_some e
  rcases bndX_some e with ⟨h2, k, ec, e⟩ | ⟨h2, r3, ec, e⟩
  · rcases ite_some e with ⟨q7, e⟩ | ⟨q7, e⟩
    · subst q7
      refine y_callV_x (pc := 4) (c_X8_append hl ec) q1 mf_X8_append tw_4_144 tw_4_145 lf_L_52 rfl rfl dL_append_4 (by decide) rfl rfl (leb rfl) (xx_catch (pc := 4) [] [(0, 9, 15, 15)] (0, 9, 12, 13) rfl (by decide) (fun _ hz => absurd hz List.not_mem_nil) (by decide) (by decide) tw_3_76 tw_3_88 dL_append_12 (by decide) rfl ?_)
      refine x_iconst (pc := 13) dL_append_13 ?_
      cases Option.some.inj e
      exact x_iret (pc := 14) rfl dL_append_14
    rcases ite_some e with ⟨q8, e⟩ | ⟨q8, e⟩
    · subst q8
      refine y_callV_x (pc := 4) (c_X8_append hl ec) q1 mf_X8_append tw_4_144 tw_4_145 lf_L_52 rfl rfl dL_append_4 (by decide) rfl rfl (leb rfl) (xx_catch (pc := 4) [(0, 9, 12, 13)] [] (0, 9, 15, 15) rfl (by decide) (List.forall_mem_cons.mpr ⟨⟨by decide, 1, by decide, by decide, tw_3_76⟩, fun _ hz => absurd hz List.not_mem_nil⟩) (by decide) (by decide) tw_3_77 tw_3_159 dL_append_15 (by decide) rfl ?_)
      refine x_iconst (pc := 16) dL_append_16 ?_
      cases Option.some.inj e
      exact x_iret (pc := 17) rfl dL_append_17
    cases e
  refine y_callV_i (pc := 4) (c_X8_append hl ec) q1 mf_X8_append tw_4_144 tw_4_145 lf_L_52 rfl rfl dL_append_4 (by decide) rfl rfl (leb rfl) ?_
  refine x_i2l (pc := 7) dL_append_7 ?_
  obtain ⟨q4, e⟩ := chk_some e
  obtain ⟨q5, e⟩ := chk_some e
  replace e := lt_go e
  refine x_last (pc := 8) dL_append_8 q4 q5 ?_
  refine x_goto (pc := 9) (t := 18) dL_append_9 (by decide) ?_
  refine x_iconst (pc := 18) dL_append_18 ?_
  cases Option.some.inj e
  exact x_iret (pc := 19) rfl dL_append_19
abbrev w_L_append : Cond := (Cond.codeWith yL_append cL_append 4 (Option.some Jvm.ClassFile.FieldType.int) [((0 : Nat), (9 : Nat), (12 : Nat), (13 : Nat)), ((0 : Nat), (9 : Nat), (15 : Nat), (15 : Nat))])
theorem mf_L_append : MFX yL_append w_L_append cL_append 4 (Option.some Jvm.ClassFile.FieldType.int) 3 [((0 : Nat), (9 : Nat), (12 : Nat), (13 : Nat)), ((0 : Nat), (9 : Nat), (15 : Nat), (15 : Nat))] := ⟨⟨rfl, tw_4_142, by decide⟩, tw_1_0, ⟨by decide, by decide⟩, by decide +kernel⟩
theorem c_L_append {l : Launch} {K : Ctx} (hl : l.stackTraces = false) {h : Hp} {a0 : Nat} {i1 : Int32} {a2 : Nat} {t : Rs Int32} (e : f_L_append h a0 i1 a2 = some t) : Ctr l K 10 yL_append w_L_append [.ref a0, .int i1, .ref a2] h (tgI t) :=
  Ctr.ofX hl mf_L_append rfl (leb rfl) (p_L_append hl e)
/-! ## TableColumnBalancerModel.append -/
abbrev mM_X9_append : Mi := (9, yX9_append.cls, cX9_append, 5, (Option.some Jvm.ClassFile.FieldType.int), [], false)
noncomputable def f_X9_append_L125 (k85 : Hp → Nat → Int32 → Int32 → Option (Rs Int32)) (h : Hp) (a0 : Nat) (i1 : Int32) (i3 : Int32) : Option (Rs Int32) :=
  k85 h a0 i1 (i3 + iN (-8))
theorem p_X9_append_L125 {l : Launch} {K : Ctx} (hl : l.stackTraces = false) {k85 : Hp → Nat → Int32 → Int32 → Option (Rs Int32)} (hk85 : ∀ (h : Hp) (a0 : Nat) (i1 : Int32) (i3 : Int32) (t : Rs Int32), k85 h a0 i1 i3 = some t → X l K mM_X9_append (tgI t) 85 [(0, .ref a0), (1, .int i1), (3, .int i3)] [] h) {h : Hp} {a0 : Nat} {i1 : Int32} {i3 : Int32} {t : Rs Int32} (e : f_X9_append_L125 k85 h a0 i1 i3 = some t) : X l K mM_X9_append (tgI t) 125 [(0, .ref a0), (1, .int i1), (3, .int i3)] [] h := by
  unfold f_X9_append_L125 at e
  refine x_iinc (pc := 125) 2 dX9_append_125 rfl (by decide) rfl ?_
  refine x_goto (pc := 128) (t := 85) dX9_append_128 (by decide) ?_
  exact x_sub1 (hk85 _ _ _ _ _ e) [1, 2, 0] rfl
noncomputable def f_X9_append_B85 (k85 : Hp → Nat → Int32 → Int32 → Option (Rs Int32)) (h : Hp) (a0 : Nat) (i1 : Int32) (i3 : Int32) : Option (Rs Int32) :=
  if i3 < 0 then (
    chk (okr h a0 9) <|
    some (h, .inr (qI h a0 6))
  ) else (
    if (((Int32.toUInt32 i1 >>> (Int32.toUInt32 i3 &&& Int32.toUInt32 31)).toInt32) &&& (iN 255)) = 0 then (
      f_X9_append_L125 k85 h a0 i1 i3
    ) else (
      chk (okr h a0 9) <|
      chk (okr h (qR h a0 5) 20) <|
      chk (vp_in (qI h a0 6) (qW h (qR h a0 5))) <|
      lt (putI h (qR h a0 5) (Int32.toNatClampNeg (qI h a0 6)) (((Int32.toUInt32 i1 >>> (Int32.toUInt32 i3 &&& Int32.toUInt32 31)).toInt32) &&& (iN 255))) fun h7 =>
      lt (putI h7 a0 6 ((qI h7 a0 6) + (iN 1))) fun h8 =>
      f_X9_append_L125 k85 h8 a0 i1 i3
    )
  )
theorem p_X9_append_B85 {l : Launch} {K : Ctx} (hl : l.stackTraces = false) {k85 : Hp → Nat → Int32 → Int32 → Option (Rs Int32)} (hk85 : ∀ (h : Hp) (a0 : Nat) (i1 : Int32) (i3 : Int32) (t : Rs Int32), k85 h a0 i1 i3 = some t → X l K mM_X9_append (tgI t) 85 [(0, .ref a0), (1, .int i1), (3, .int i3)] [] h) {h : Hp} {a0 : Nat} {i1 : Int32} {i3 : Int32} {t : Rs Int32} (e : f_X9_append_B85 k85 h a0 i1 i3 = some t) : X l K mM_X9_append (tgI t) 85 [(0, .ref a0), (1, .int i1), (3, .int i3)] [] h := by
  unfold f_X9_append_B85 at e
  refine x_iload_n (pc := 85) 2 dX9_append_85 rfl ?_
  rcases ite_some e with ⟨q1, e⟩ | ⟨q1, e⟩
  · refine x_if_lt_t (pc := 86) (t := 131) dX9_append_86 (by decide) q1 ?_
    refine x_aload_n (pc := 131) 0 dX9_append_131 rfl ?_
    obtain ⟨q2, e⟩ := chk_some e
    refine x_getI (pc := 132) gf_X9_134 rfl dX9_append_132 q2 ?_
    cases Option.some.inj e
    exact x_iret (pc := 135) rfl dX9_append_135
  · refine x_if_lt_f (pc := 86) (t := 131) dX9_append_86 (by decide) q1 ?_
    refine x_iload_n (pc := 89) 1 dX9_append_89 rfl ?_
    refine x_iload_n (pc := 90) 2 dX9_append_90 rfl ?_
    refine x_iushr (pc := 91) dX9_append_91 ?_
    refine x_sipush (pc := 92) (v := iN 255) dX9_append_92 rfl ?_
    refine x_iand (pc := 95) dX9_append_95 ?_
    rcases ite_some e with ⟨q3, e⟩ | ⟨q3, e⟩
    · refine x_if_eq_t (pc := 96) (t := 125) dX9_append_96 (by decide) q3 ?_
      exact p_X9_append_L125 hl hk85 e
    · refine x_if_eq_f (pc := 96) (t := 125) dX9_append_96 (by decide) q3 ?_
      refine x_aload_n (pc := 99) 0 dX9_append_99 rfl ?_
      obtain ⟨q4, e⟩ := chk_some e
      obtain ⟨q5, e⟩ := chk_some e
      refine x_getR (pc := 100) gf_X9_19 rfl dX9_append_100 q4 q5.1 ?_
      refine x_aload_n (pc := 103) 0 dX9_append_103 rfl ?_
      refine x_getI (pc := 104) gf_X9_134 rfl dX9_append_104 q4 ?_
      refine x_iload_n (pc := 107) 1 dX9_append_107 rfl ?_
      refine x_iload_n (pc := 108) 2 dX9_append_108 rfl ?_
      refine x_iushr (pc := 109) dX9_append_109 ?_
      refine x_sipush (pc := 110) (v := iN 255) dX9_append_110 rfl ?_
      refine x_iand (pc := 113) dX9_append_113 ?_
      obtain ⟨q6, e⟩ := chk_some e
      replace e := lt_go e
      refine x_iast (pc := 114) dX9_append_114 q5 q6 ?_
      refine x_aload_n (pc := 115) 0 dX9_append_115 rfl ?_
      refine x_dup (pc := 116) dX9_append_116 rfl ?_
      refine x_getI (pc := 117) gf_X9_134 rfl dX9_append_117 (okr_pI q4) ?_
      refine x_iconst (pc := 120) dX9_append_120 ?_
      refine x_iadd (pc := 121) dX9_append_121 ?_
      replace e := lt_go e
      refine x_putI (pc := 122) pf_X9_134 rfl rfl rfl dX9_append_122 (okr_pI q4) ?_
      exact p_X9_append_L125 hl hk85 e
noncomputable def f_X9_append_L85 (n : Nat) : Hp → Nat → Int32 → Int32 → Option (Rs Int32) := Nat.rec (motive := fun _ => Hp → Nat → Int32 → Int32 → Option (Rs Int32)) (fun _ _ _ _ => none) (fun _ r => f_X9_append_B85 r) n
theorem p_X9_append_L85 {l : Launch} {K : Ctx} (hl : l.stackTraces = false) : ∀ (n : Nat) (h : Hp) (a0 : Nat) (i1 : Int32) (i3 : Int32) (t : Rs Int32) (e : f_X9_append_L85 n h a0 i1 i3 = some t), X l K mM_X9_append (tgI t) 85 [(0, .ref a0), (1, .int i1), (3, .int i3)] [] h := by
  intro n
  induction n with
  | zero => exact fun _ _ _ _ _ e => nomatch (show (none : Option (Rs Int32)) = some _ from e)
  | succ n ih => exact fun h a0 i1 i3 t e => p_X9_append_B85 hl (fun h a0 i1 i3 t e => ih h a0 i1 i3 t e) e
noncomputable def f_X9_append_L57 (k10 : Hp → Nat → Int32 → Int32 → Int32 → Option (Rs Int32)) (h : Hp) (a0 : Nat) (i1 : Int32) (i3 : Int32) (s0 : Int32) (s1 : Int32) : Option (Rs Int32) :=
  k10 h a0 i1 (s1 + s0) (i3 + iN (-8))
theorem p_X9_append_L57 {l : Launch} {K : Ctx} (hl : l.stackTraces = false) {k10 : Hp → Nat → Int32 → Int32 → Int32 → Option (Rs Int32)} (hk10 : ∀ (h : Hp) (a0 : Nat) (i1 : Int32) (i2 : Int32) (i3 : Int32) (t : Rs Int32), k10 h a0 i1 i2 i3 = some t → X l K mM_X9_append (tgI t) 10 [(0, .ref a0), (1, .int i1), (2, .int i2), (3, .int i3)] [] h) {h : Hp} {a0 : Nat} {i1 : Int32} {i3 : Int32} {s0 : Int32} {s1 : Int32} {t : Rs Int32} (e : f_X9_append_L57 k10 h a0 i1 i3 s0 s1 = some t) : X l K mM_X9_append (tgI t) 57 [(0, .ref a0), (1, .int i1), (3, .int i3)] [.int s0, .int s1] h := by
  unfold f_X9_append_L57 at e
  refine x_iadd (pc := 57) dX9_append_57 ?_
  refine x_istore_n (pc := 58) dX9_append_58 (by decide) rfl ?_
  refine x_iinc (pc := 59) 3 dX9_append_59 rfl (by decide) rfl ?_
  refine x_goto (pc := 62) (t := 10) dX9_append_62 (by decide) ?_
  exact x_sub1 (hk10 _ _ _ _ _ _ e) [2, 3, 1, 0] rfl
noncomputable def f_X9_append_L46 (k10 : Hp → Nat → Int32 → Int32 → Int32 → Option (Rs Int32)) (h : Hp) (a0 : Nat) (i1 : Int32) (i2 : Int32) (i3 : Int32) (i4 : Int32) : Option (Rs Int32) :=
  if i4 = 0 then (
    f_X9_append_L57 k10 h a0 i1 i3 (iN 0) i2
  ) else (
    f_X9_append_L57 k10 h a0 i1 i3 (iN 1) i2
  )
theorem p_X9_append_L46 {l : Launch} {K : Ctx} (hl : l.stackTraces = false) {k10 : Hp → Nat → Int32 → Int32 → Int32 → Option (Rs Int32)} (hk10 : ∀ (h : Hp) (a0 : Nat) (i1 : Int32) (i2 : Int32) (i3 : Int32) (t : Rs Int32), k10 h a0 i1 i2 i3 = some t → X l K mM_X9_append (tgI t) 10 [(0, .ref a0), (1, .int i1), (2, .int i2), (3, .int i3)] [] h) {h : Hp} {a0 : Nat} {i1 : Int32} {i2 : Int32} {i3 : Int32} {i4 : Int32} {t : Rs Int32} (e : f_X9_append_L46 k10 h a0 i1 i2 i3 i4 = some t) : X l K mM_X9_append (tgI t) 46 [(0, .ref a0), (1, .int i1), (2, .int i2), (3, .int i3), (4, .int i4)] [] h := by
  unfold f_X9_append_L46 at e
  refine x_iload_n (pc := 46) 2 dX9_append_46 rfl ?_
  refine x_iload (pc := 47) 4 dX9_append_47 rfl ?_
  rcases ite_some e with ⟨q1, e⟩ | ⟨q1, e⟩
  · refine x_if_ne_f (pc := 49) (t := 56) dX9_append_49 (by decide) q1 ?_
    refine x_iconst (pc := 52) dX9_append_52 ?_
    refine x_goto (pc := 53) (t := 57) dX9_append_53 (by decide) ?_
    exact x_sub1 (p_X9_append_L57 hl hk10 e) [0, 1, 3] rfl
  · refine x_if_ne_t (pc := 49) (t := 56) dX9_append_49 (by decide) q1 ?_
    refine x_iconst (pc := 56) dX9_append_56 ?_
    exact x_sub1 (p_X9_append_L57 hl hk10 e) [0, 1, 3] rfl
noncomputable def f_X9_append_B10 (k10 : Hp → Nat → Int32 → Int32 → Int32 → Option (Rs Int32)) (h : Hp) (a0 : Nat) (i1 : Int32) (i2 : Int32) (i3 : Int32) : Option (Rs Int32) :=
  if i3 < 0 then (
    chk (okr h a0 9) <|
    if ((qI h a0 6) + i2) ≤ (iN 60) then (
      f_X9_append_L85 2000 h a0 i1 (iN 24)
    ) else (
      bnd (f_X9_fails h a0 (iN 2)) fun h4 r5 =>
      some (h4, .inr r5)
    )
  ) else (
    if (((Int32.toUInt32 i1 >>> (Int32.toUInt32 i3 &&& Int32.toUInt32 31)).toInt32) &&& (iN 255)) = 0 then (
      f_X9_append_L46 k10 h a0 i1 i2 i3 (((Int32.toUInt32 i1 >>> (Int32.toUInt32 i3 &&& Int32.toUInt32 31)).toInt32) &&& (iN 255))
    ) else (
      bnd (f_X9_in h (((Int32.toUInt32 i1 >>> (Int32.toUInt32 i3 &&& Int32.toUInt32 31)).toInt32) &&& (iN 255)) (iN 33) (iN 126)) fun h7 r8 =>
      if r8 = 0 then (
        chk (okr h7 a0 9) <|
        bnd (f_X9_fails h7 a0 (iN 1)) fun h11 r12 =>
        some (h11, .inr r12)
      ) else (
        f_X9_append_L46 k10 h7 a0 i1 i2 i3 (((Int32.toUInt32 i1 >>> (Int32.toUInt32 i3 &&& Int32.toUInt32 31)).toInt32) &&& (iN 255))
      )
    )
  )
theorem p_X9_append_B10 {l : Launch} {K : Ctx} (hl : l.stackTraces = false) {k10 : Hp → Nat → Int32 → Int32 → Int32 → Option (Rs Int32)} (hk10 : ∀ (h : Hp) (a0 : Nat) (i1 : Int32) (i2 : Int32) (i3 : Int32) (t : Rs Int32), k10 h a0 i1 i2 i3 = some t → X l K mM_X9_append (tgI t) 10 [(0, .ref a0), (1, .int i1), (2, .int i2), (3, .int i3)] [] h) {h : Hp} {a0 : Nat} {i1 : Int32} {i2 : Int32} {i3 : Int32} {t : Rs Int32} (e : f_X9_append_B10 k10 h a0 i1 i2 i3 = some t) : X l K mM_X9_append (tgI t) 10 [(0, .ref a0), (1, .int i1), (2, .int i2), (3, .int i3)] [] h := by
  unfold f_X9_append_B10 at e
  refine x_iload_n (pc := 10) 3 dX9_append_10 rfl ?_
  rcases ite_some e with ⟨q1, e⟩ | ⟨q1, e⟩
  · refine x_if_lt_t (pc := 11) (t := 65) dX9_append_11 (by decide) q1 ?_
    refine x_aload_n (pc := 65) 0 dX9_append_65 rfl ?_
    obtain ⟨q2, e⟩ := chk_some e
    refine x_getI (pc := 66) gf_X9_134 rfl dX9_append_66 q2 ?_
    refine x_iload_n (pc := 69) 2 dX9_append_69 rfl ?_
    refine x_iadd (pc := 70) dX9_append_70 ?_
    refine x_bipush (pc := 71) (v := iN 60) dX9_append_71 rfl ?_
    rcases ite_some e with ⟨q3, e⟩ | ⟨q3, e⟩
    · refine x_icmp_le_t (pc := 73) (t := 82) dX9_append_73 (by decide) q3 ?_
      refine x_bipush (pc := 82) (v := iN 24) dX9_append_82 rfl ?_
      refine x_istore_n (pc := 84) dX9_append_84 (by decide) rfl ?_
      exact x_sub1 (p_X9_append_L85 hl 2000 _ _ _ _ _ e) [1, 2, 0] rfl
    · refine x_icmp_le_f (pc := 73) (t := 82) dX9_append_73 (by decide) q3 ?_
      refine x_aload_n (pc := 76) 0 dX9_append_76 rfl ?_
      refine x_iconst (pc := 77) dX9_append_77 ?_
      rcases bnd_some e with ⟨h4, r5, ec, rfl⟩ | ⟨h4, r5, ec, e⟩
      · exact y_callV_x (pc := 78) (c_X9_fails hl ec) q2 mf_X9_fails tw_7_24 ts_6_7 lf_X9_95 rfl rfl dX9_append_78 (by decide) rfl rfl (leb rfl) (xx_out0 rfl)
      refine y_callV_i (pc := 78) (c_X9_fails hl ec) q2 mf_X9_fails tw_7_24 ts_6_7 lf_X9_95 rfl rfl dX9_append_78 (by decide) rfl rfl (leb rfl) ?_
      cases Option.some.inj e
      exact x_iret (pc := 81) rfl dX9_append_81
  · refine x_if_lt_f (pc := 11) (t := 65) dX9_append_11 (by decide) q1 ?_
    refine x_iload_n (pc := 14) 1 dX9_append_14 rfl ?_
    refine x_iload_n (pc := 15) 3 dX9_append_15 rfl ?_
    refine x_iushr (pc := 16) dX9_append_16 ?_
    refine x_sipush (pc := 17) (v := iN 255) dX9_append_17 rfl ?_
    refine x_iand (pc := 20) dX9_append_20 ?_
    refine x_istore (pc := 21) dX9_append_21 (by decide) rfl ?_
    refine x_iload (pc := 23) 0 dX9_append_23 rfl ?_
    rcases ite_some e with ⟨q6, e⟩ | ⟨q6, e⟩
    · refine x_if_eq_t (pc := 25) (t := 46) dX9_append_25 (by decide) q6 ?_
      exact x_sub1 (p_X9_append_L46 hl hk10 e) [1, 2, 3, 4, 0] rfl
    · refine x_if_eq_f (pc := 25) (t := 46) dX9_append_25 (by decide) q6 ?_
      refine x_iload (pc := 28) 0 dX9_append_28 rfl ?_
      refine x_bipush (pc := 30) (v := iN 33) dX9_append_30 rfl ?_
      refine x_bipush (pc := 32) (v := iN 126) dX9_append_32 rfl ?_
      rcases bnd_some e with ⟨h7, r8, ec, rfl⟩ | ⟨h7, r8, ec, e⟩
      · exact y_callS_x (pc := 34) (c_X9_in hl ec) mf_X9_in tw_7_20 lf_X9_87 dX9_append_34 (by decide) rfl rfl (leb rfl) (xx_out0 rfl)
      refine y_callS_i (pc := 34) (c_X9_in hl ec) mf_X9_in tw_7_20 lf_X9_87 dX9_append_34 (by decide) rfl rfl (leb rfl) ?_
      rcases ite_some e with ⟨q9, e⟩ | ⟨q9, e⟩
      · refine x_if_ne_f (pc := 37) (t := 46) dX9_append_37 (by decide) q9 ?_
        refine x_aload_n (pc := 40) 1 dX9_append_40 rfl ?_
        refine x_iconst (pc := 41) dX9_append_41 ?_
        obtain ⟨q10, e⟩ := chk_some e
        rcases bnd_some e with ⟨h11, r12, ec, rfl⟩ | ⟨h11, r12, ec, e⟩
        · exact y_callV_x (pc := 42) (c_X9_fails hl ec) q10 mf_X9_fails tw_7_24 ts_6_7 lf_X9_95 rfl rfl dX9_append_42 (by decide) rfl rfl (leb rfl) (xx_out0 rfl)
        refine y_callV_i (pc := 42) (c_X9_fails hl ec) q10 mf_X9_fails tw_7_24 ts_6_7 lf_X9_95 rfl rfl dX9_append_42 (by decide) rfl rfl (leb rfl) ?_
        cases Option.some.inj e
        exact x_iret (pc := 45) rfl dX9_append_45
      · refine x_if_ne_t (pc := 37) (t := 46) dX9_append_37 (by decide) q9 ?_
        exact x_sub1 (p_X9_append_L46 hl hk10 e) [1, 2, 3, 4, 0] rfl
noncomputable def f_X9_append_L10 (n : Nat) : Hp → Nat → Int32 → Int32 → Int32 → Option (Rs Int32) := Nat.rec (motive := fun _ => Hp → Nat → Int32 → Int32 → Int32 → Option (Rs Int32)) (fun _ _ _ _ _ => none) (fun _ r => f_X9_append_B10 r) n
theorem p_X9_append_L10 {l : Launch} {K : Ctx} (hl : l.stackTraces = false) : ∀ (n : Nat) (h : Hp) (a0 : Nat) (i1 : Int32) (i2 : Int32) (i3 : Int32) (t : Rs Int32) (e : f_X9_append_L10 n h a0 i1 i2 i3 = some t), X l K mM_X9_append (tgI t) 10 [(0, .ref a0), (1, .int i1), (2, .int i2), (3, .int i3)] [] h := by
  intro n
  induction n with
  | zero => exact fun _ _ _ _ _ _ e => nomatch (show (none : Option (Rs Int32)) = some _ from e)
  | succ n ih => exact fun h a0 i1 i2 i3 t e => p_X9_append_B10 hl (fun h a0 i1 i2 i3 t e => ih h a0 i1 i2 i3 t e) e
noncomputable def f_X9_append (h : Hp) (a0 : Nat) (i1 : Int32) : Option (Rs Int32) :=
  chk (okr h a0 9) <|
  lt (putI h a0 0 (iN 0)) fun h2 =>
  f_X9_append_L10 2000 h2 a0 i1 (iN 0) (iN 24)
theorem p_X9_append {l : Launch} {K : Ctx} (hl : l.stackTraces = false) {h : Hp} {a0 : Nat} {i1 : Int32} {t : Rs Int32} (e : f_X9_append h a0 i1 = some t) : X l K mM_X9_append (tgI t) 0 [(0, .ref a0), (1, .int i1)] [] h := by
  unfold f_X9_append at e
  refine x_aload_n (pc := 0) 0 dX9_append_0 rfl ?_
  refine x_iconst (pc := 1) dX9_append_1 ?_
  obtain ⟨q1, e⟩ := chk_some e
  replace e := lt_go e
  refine x_putI (pc := 2) pf_X9_84 rfl rfl rfl dX9_append_2 q1 ?_
  refine x_iconst (pc := 5) dX9_append_5 ?_
  refine x_istore_n (pc := 6) dX9_append_6 (by decide) rfl ?_
  refine x_bipush (pc := 7) (v := iN 24) dX9_append_7 rfl ?_
  refine x_istore_n (pc := 9) dX9_append_9 (by decide) rfl ?_
  exact x_sub1 (p_X9_append_L10 hl 2000 _ _ _ _ _ _ e) [2, 3, 1, 0] rfl
abbrev w_X9_append : Cond := (Cond.code yX9_append cX9_append 5 (Option.some Jvm.ClassFile.FieldType.int))
theorem mf_X9_append : MF yX9_append w_X9_append cX9_append 5 (Option.some Jvm.ClassFile.FieldType.int) 1 := ⟨⟨rfl, tw_7_108, by decide⟩, tw_1_11, ⟨by decide, by decide⟩, by decide +kernel⟩
theorem c_X9_append {l : Launch} {K : Ctx} (hl : l.stackTraces = false) {h : Hp} {a0 : Nat} {i1 : Int32} {t : Rs Int32} (e : f_X9_append h a0 i1 = some t) : Ctr l K 9 yX9_append w_X9_append [.ref a0, .int i1] h (tgI t) :=
  Ctr.of hl mf_X9_append false (fun q => nomatch q) rfl (leb rfl) (p_X9_append hl e)
/-! ## TableColumnBalancer$Content.copyFrom -/
abbrev mM_X4_copyFrom : Mi := (8, yX4_copyFrom.cls, cX4_copyFrom, 3, (Option.none : Option Jvm.ClassFile.FieldType), [], false)
noncomputable def f_X4_copyFrom_B90 (k90 : Hp → Nat → Nat → Int32 → Option (Rs Unit)) (h : Hp) (a0 : Nat) (a1 : Nat) (i2 : Int32) : Option (Rs Unit) :=
  chk (okr h a0 4) <|
  if (qI h a0 7) ≤ i2 then (
    chk (okr h a1 4) <|
    chk (okr h (qR h a1 12) 20) <|
    chk (okr h (qR h a0 12) 20) <|
    chk (¬ (iN 0) < 0 ∧ ¬ (iN 0) < 0 ∧ ¬ (Int32.ofNat (qW h (qR h a0 12))) < 0) <|
    chk (Int32.toNatClampNeg (iN 0) + Int32.toNatClampNeg (Int32.ofNat (qW h (qR h a0 12))) ≤ qW h (qR h a1 12) ∧ Int32.toNatClampNeg (iN 0) + Int32.toNatClampNeg (Int32.ofNat (qW h (qR h a0 12))) ≤ qW h (qR h a0 12)) <|
    lt (cpyI h (qR h a1 12) (qR h a0 12) (Int32.toNatClampNeg (iN 0)) (Int32.toNatClampNeg (iN 0)) (Int32.toNatClampNeg (Int32.ofNat (qW h (qR h a0 12))))) fun h8 =>
    some (h8, .inr ())
  ) else (
    chk (okr h (qR h a0 8) 20) <|
    chk (okr h a1 4) <|
    chk (okr h (qR h a1 8) 20) <|
    chk (vp_in i2 (qW h (qR h a1 8))) <|
    chk (vp_in i2 (qW h (qR h a0 8))) <|
    lt (putI h (qR h a0 8) (Int32.toNatClampNeg i2) (qI h (qR h a1 8) (Int32.toNatClampNeg i2))) fun h14 =>
    chk (okr h14 (qR h14 a0 9) 20) <|
    chk (okr h14 (qR h14 a1 9) 20) <|
    chk (vp_in i2 (qW h14 (qR h14 a1 9))) <|
    chk (vp_in i2 (qW h14 (qR h14 a0 9))) <|
    lt (putI h14 (qR h14 a0 9) (Int32.toNatClampNeg i2) (qI h14 (qR h14 a1 9) (Int32.toNatClampNeg i2))) fun h19 =>
    chk (okr h19 (qR h19 a0 10) 22) <|
    chk (okr h19 (qR h19 a1 10) 22) <|
    chk (vp_in i2 (qW h19 (qR h19 a1 10))) <|
    chk (vp_in i2 (qW h19 (qR h19 a0 10))) <|
    chk ((qI h19 (qR h19 a1 10) (Int32.toNatClampNeg i2)) = 0 ∨ (qI h19 (qR h19 a1 10) (Int32.toNatClampNeg i2)) = 1) <|
    lt (putI h19 (qR h19 a0 10) (Int32.toNatClampNeg i2) (qI h19 (qR h19 a1 10) (Int32.toNatClampNeg i2))) fun h25 =>
    k90 h25 a0 a1 (i2 + iN 1)
  )
theorem p_X4_copyFrom_B90 {l : Launch} {K : Ctx} (hl : l.stackTraces = false) {k90 : Hp → Nat → Nat → Int32 → Option (Rs Unit)} (hk90 : ∀ (h : Hp) (a0 : Nat) (a1 : Nat) (i2 : Int32) (t : Rs Unit), k90 h a0 a1 i2 = some t → X l K mM_X4_copyFrom (tgV t) 90 [(0, .ref a0), (1, .ref a1), (2, .int i2)] [] h) {h : Hp} {a0 : Nat} {a1 : Nat} {i2 : Int32} {t : Rs Unit} (e : f_X4_copyFrom_B90 k90 h a0 a1 i2 = some t) : X l K mM_X4_copyFrom (tgV t) 90 [(0, .ref a0), (1, .ref a1), (2, .int i2)] [] h := by
  unfold f_X4_copyFrom_B90 at e
  refine x_iload_n (pc := 90) 2 dX4_copyFrom_90 rfl ?_
  refine x_aload_n (pc := 91) 0 dX4_copyFrom_91 rfl ?_
  obtain ⟨q1, e⟩ := chk_some e
  refine x_getI (pc := 92) gf_X4_53 rfl dX4_copyFrom_92 q1 ?_
  rcases ite_some e with ⟨q2, e⟩ | ⟨q2, e⟩
  · refine x_icmp_ge_t (pc := 95) (t := 140) dX4_copyFrom_95 (by decide) q2 ?_
    refine x_aload_n (pc := 140) 1 dX4_copyFrom_140 rfl ?_
    obtain ⟨q3, e⟩ := chk_some e
    obtain ⟨q4, e⟩ := chk_some e
    refine x_getR (pc := 141) gf_X4_31 rfl dX4_copyFrom_141 q3 q4.1 ?_
    refine x_iconst (pc := 144) dX4_copyFrom_144 ?_
    refine x_aload_n (pc := 145) 0 dX4_copyFrom_145 rfl ?_
    obtain ⟨q5, e⟩ := chk_some e
    refine x_getR (pc := 146) gf_X4_31 rfl dX4_copyFrom_146 q1 q5.1 ?_
    refine x_iconst (pc := 149) dX4_copyFrom_149 ?_
    refine x_aload_n (pc := 150) 0 dX4_copyFrom_150 rfl ?_
    refine x_getR (pc := 151) gf_X4_31 rfl dX4_copyFrom_151 q1 q5.1 ?_
    refine x_alen (pc := 154) dX4_copyFrom_154 q5 ?_
    obtain ⟨q6, e⟩ := chk_some e
    obtain ⟨q7, e⟩ := chk_some e
    replace e := lt_go e
    refine x_copyi (pc := 155) tw_3_70 tw_3_72 tw_3_71 tw_1_21 (by decide) (leb rfl) dX4_copyFrom_155 q4 q5 q6 q7 ?_
    cases Option.some.inj e
    exact x_vret (pc := 158) rfl dX4_copyFrom_158
  · refine x_icmp_ge_f (pc := 95) (t := 140) dX4_copyFrom_95 (by decide) q2 ?_
    refine x_aload_n (pc := 98) 0 dX4_copyFrom_98 rfl ?_
    obtain ⟨q9, e⟩ := chk_some e
    refine x_getR (pc := 99) gf_X4_18 rfl dX4_copyFrom_99 q1 q9.1 ?_
    refine x_iload_n (pc := 102) 2 dX4_copyFrom_102 rfl ?_
    refine x_aload_n (pc := 103) 1 dX4_copyFrom_103 rfl ?_
    obtain ⟨q10, e⟩ := chk_some e
    obtain ⟨q11, e⟩ := chk_some e
    refine x_getR (pc := 104) gf_X4_18 rfl dX4_copyFrom_104 q10 q11.1 ?_
    refine x_iload_n (pc := 107) 2 dX4_copyFrom_107 rfl ?_
    obtain ⟨q12, e⟩ := chk_some e
    refine x_iald (pc := 108) dX4_copyFrom_108 q11 q12 ?_
    obtain ⟨q13, e⟩ := chk_some e
    replace e := lt_go e
    refine x_iast (pc := 109) dX4_copyFrom_109 q9 q13 ?_
    refine x_aload_n (pc := 110) 0 dX4_copyFrom_110 rfl ?_
    obtain ⟨q15, e⟩ := chk_some e
    refine x_getR (pc := 111) gf_X4_21 rfl dX4_copyFrom_111 (okr_pI q1) q15.1 ?_
    refine x_iload_n (pc := 114) 2 dX4_copyFrom_114 rfl ?_
    refine x_aload_n (pc := 115) 1 dX4_copyFrom_115 rfl ?_
    obtain ⟨q16, e⟩ := chk_some e
    refine x_getR (pc := 116) gf_X4_21 rfl dX4_copyFrom_116 (okr_pI q10) q16.1 ?_
    refine x_iload_n (pc := 119) 2 dX4_copyFrom_119 rfl ?_
    obtain ⟨q17, e⟩ := chk_some e
    refine x_iald (pc := 120) dX4_copyFrom_120 q16 q17 ?_
    obtain ⟨q18, e⟩ := chk_some e
    replace e := lt_go e
    refine x_iast (pc := 121) dX4_copyFrom_121 q15 q18 ?_
    refine x_aload_n (pc := 122) 0 dX4_copyFrom_122 rfl ?_
    obtain ⟨q20, e⟩ := chk_some e
    refine x_getR (pc := 123) gf_X4_24 rfl dX4_copyFrom_123 (okr_pI (okr_pI q1)) q20.1 ?_
    refine x_iload_n (pc := 126) 2 dX4_copyFrom_126 rfl ?_
    refine x_aload_n (pc := 127) 1 dX4_copyFrom_127 rfl ?_
    obtain ⟨q21, e⟩ := chk_some e
    refine x_getR (pc := 128) gf_X4_24 rfl dX4_copyFrom_128 (okr_pI (okr_pI q10)) q21.1 ?_
    refine x_iload_n (pc := 131) 2 dX4_copyFrom_131 rfl ?_
    obtain ⟨q22, e⟩ := chk_some e
    refine x_zald (pc := 132) dX4_copyFrom_132 q21 q22 ?_
    obtain ⟨q23, e⟩ := chk_some e
    obtain ⟨q24, e⟩ := chk_some e
    replace e := lt_go e
    refine x_zast (pc := 133) dX4_copyFrom_133 q24 q20 q23 ?_
    refine x_iinc (pc := 134) 2 dX4_copyFrom_134 rfl (by decide) rfl ?_
    refine x_goto (pc := 137) (t := 90) dX4_copyFrom_137 (by decide) ?_
    exact x_sub1 (hk90 _ _ _ _ _ e) [1, 2, 0] rfl
noncomputable def f_X4_copyFrom_L90 (n : Nat) : Hp → Nat → Nat → Int32 → Option (Rs Unit) := Nat.rec (motive := fun _ => Hp → Nat → Nat → Int32 → Option (Rs Unit)) (fun _ _ _ _ => none) (fun _ r => f_X4_copyFrom_B90 r) n
theorem p_X4_copyFrom_L90 {l : Launch} {K : Ctx} (hl : l.stackTraces = false) : ∀ (n : Nat) (h : Hp) (a0 : Nat) (a1 : Nat) (i2 : Int32) (t : Rs Unit) (e : f_X4_copyFrom_L90 n h a0 a1 i2 = some t), X l K mM_X4_copyFrom (tgV t) 90 [(0, .ref a0), (1, .ref a1), (2, .int i2)] [] h := by
  intro n
  induction n with
  | zero => exact fun _ _ _ _ _ e => nomatch (show (none : Option (Rs Unit)) = some _ from e)
  | succ n ih => exact fun h a0 a1 i2 t e => p_X4_copyFrom_B90 hl (fun h a0 a1 i2 t e => ih h a0 a1 i2 t e) e
noncomputable def f_X4_copyFrom_B50 (k50 : Hp → Nat → Nat → Int32 → Option (Rs Unit)) (h : Hp) (a0 : Nat) (a1 : Nat) (i2 : Int32) : Option (Rs Unit) :=
  chk (okr h a0 4) <|
  if (qI h a0 3) ≤ i2 then (
    f_X4_copyFrom_L90 2000 h a0 a1 (iN 0)
  ) else (
    chk (okr h (qR h a0 5) 20) <|
    chk (okr h a1 4) <|
    chk (okr h (qR h a1 5) 20) <|
    chk (vp_in i2 (qW h (qR h a1 5))) <|
    chk (vp_in i2 (qW h (qR h a0 5))) <|
    lt (putI h (qR h a0 5) (Int32.toNatClampNeg i2) (qI h (qR h a1 5) (Int32.toNatClampNeg i2))) fun h8 =>
    chk (okr h8 (qR h8 a0 6) 20) <|
    chk (okr h8 (qR h8 a1 6) 20) <|
    chk (vp_in i2 (qW h8 (qR h8 a1 6))) <|
    chk (vp_in i2 (qW h8 (qR h8 a0 6))) <|
    lt (putI h8 (qR h8 a0 6) (Int32.toNatClampNeg i2) (qI h8 (qR h8 a1 6) (Int32.toNatClampNeg i2))) fun h13 =>
    k50 h13 a0 a1 (i2 + iN 1)
  )
theorem p_X4_copyFrom_B50 {l : Launch} {K : Ctx} (hl : l.stackTraces = false) {k50 : Hp → Nat → Nat → Int32 → Option (Rs Unit)} (hk50 : ∀ (h : Hp) (a0 : Nat) (a1 : Nat) (i2 : Int32) (t : Rs Unit), k50 h a0 a1 i2 = some t → X l K mM_X4_copyFrom (tgV t) 50 [(0, .ref a0), (1, .ref a1), (2, .int i2)] [] h) {h : Hp} {a0 : Nat} {a1 : Nat} {i2 : Int32} {t : Rs Unit} (e : f_X4_copyFrom_B50 k50 h a0 a1 i2 = some t) : X l K mM_X4_copyFrom (tgV t) 50 [(0, .ref a0), (1, .ref a1), (2, .int i2)] [] h := by
  unfold f_X4_copyFrom_B50 at e
  refine x_iload_n (pc := 50) 2 dX4_copyFrom_50 rfl ?_
  refine x_aload_n (pc := 51) 0 dX4_copyFrom_51 rfl ?_
  obtain ⟨q1, e⟩ := chk_some e
  refine x_getI (pc := 52) gf_X4_44 rfl dX4_copyFrom_52 q1 ?_
  rcases ite_some e with ⟨q2, e⟩ | ⟨q2, e⟩
  · refine x_icmp_ge_t (pc := 55) (t := 88) dX4_copyFrom_55 (by decide) q2 ?_
    refine x_iconst (pc := 88) dX4_copyFrom_88 ?_
    refine x_istore_n (pc := 89) dX4_copyFrom_89 (by decide) rfl ?_
    exact x_sub1 (p_X4_copyFrom_L90 hl 2000 _ _ _ _ _ e) [1, 2, 0] rfl
  · refine x_icmp_ge_f (pc := 55) (t := 88) dX4_copyFrom_55 (by decide) q2 ?_
    refine x_aload_n (pc := 58) 0 dX4_copyFrom_58 rfl ?_
    obtain ⟨q3, e⟩ := chk_some e
    refine x_getR (pc := 59) gf_X4_9 rfl dX4_copyFrom_59 q1 q3.1 ?_
    refine x_iload_n (pc := 62) 2 dX4_copyFrom_62 rfl ?_
    refine x_aload_n (pc := 63) 1 dX4_copyFrom_63 rfl ?_
    obtain ⟨q4, e⟩ := chk_some e
    obtain ⟨q5, e⟩ := chk_some e
    refine x_getR (pc := 64) gf_X4_9 rfl dX4_copyFrom_64 q4 q5.1 ?_
    refine x_iload_n (pc := 67) 2 dX4_copyFrom_67 rfl ?_
    obtain ⟨q6, e⟩ := chk_some e
    refine x_iald (pc := 68) dX4_copyFrom_68 q5 q6 ?_
    obtain ⟨q7, e⟩ := chk_some e
    replace e := lt_go e
    refine x_iast (pc := 69) dX4_copyFrom_69 q3 q7 ?_
    refine x_aload_n (pc := 70) 0 dX4_copyFrom_70 rfl ?_
    obtain ⟨q9, e⟩ := chk_some e
    refine x_getR (pc := 71) gf_X4_15 rfl dX4_copyFrom_71 (okr_pI q1) q9.1 ?_
    refine x_iload_n (pc := 74) 2 dX4_copyFrom_74 rfl ?_
    refine x_aload_n (pc := 75) 1 dX4_copyFrom_75 rfl ?_
    obtain ⟨q10, e⟩ := chk_some e
    refine x_getR (pc := 76) gf_X4_15 rfl dX4_copyFrom_76 (okr_pI q4) q10.1 ?_
    refine x_iload_n (pc := 79) 2 dX4_copyFrom_79 rfl ?_
    obtain ⟨q11, e⟩ := chk_some e
    refine x_iald (pc := 80) dX4_copyFrom_80 q10 q11 ?_
    obtain ⟨q12, e⟩ := chk_some e
    replace e := lt_go e
    refine x_iast (pc := 81) dX4_copyFrom_81 q9 q12 ?_
    refine x_iinc (pc := 82) 2 dX4_copyFrom_82 rfl (by decide) rfl ?_
    refine x_goto (pc := 85) (t := 50) dX4_copyFrom_85 (by decide) ?_
    exact x_sub1 (hk50 _ _ _ _ _ e) [1, 2, 0] rfl
noncomputable def f_X4_copyFrom_L50 (n : Nat) : Hp → Nat → Nat → Int32 → Option (Rs Unit) := Nat.rec (motive := fun _ => Hp → Nat → Nat → Int32 → Option (Rs Unit)) (fun _ _ _ _ => none) (fun _ r => f_X4_copyFrom_B50 r) n
theorem p_X4_copyFrom_L50 {l : Launch} {K : Ctx} (hl : l.stackTraces = false) : ∀ (n : Nat) (h : Hp) (a0 : Nat) (a1 : Nat) (i2 : Int32) (t : Rs Unit) (e : f_X4_copyFrom_L50 n h a0 a1 i2 = some t), X l K mM_X4_copyFrom (tgV t) 50 [(0, .ref a0), (1, .ref a1), (2, .int i2)] [] h := by
  intro n
  induction n with
  | zero => exact fun _ _ _ _ _ e => nomatch (show (none : Option (Rs Unit)) = some _ from e)
  | succ n ih => exact fun h a0 a1 i2 t e => p_X4_copyFrom_B50 hl (fun h a0 a1 i2 t e => ih h a0 a1 i2 t e) e
noncomputable def f_X4_copyFrom (h : Hp) (a0 : Nat) (a1 : Nat) : Option (Rs Unit) :=
  chk (okr h a1 4) <|
  chk (okr h a0 4) <|
  lt (putI h a0 0 (qI h a1 0)) fun h3 =>
  lt (putI h3 a0 1 (qI h3 a1 1)) fun h4 =>
  lt (putI h4 a0 2 (qI h4 a1 2)) fun h5 =>
  lt (putI h5 a0 3 (qI h5 a1 3)) fun h6 =>
  lt (putI h6 a0 4 (qI h6 a1 4)) fun h7 =>
  lt (putI h7 a0 7 (qI h7 a1 7)) fun h8 =>
  f_X4_copyFrom_L50 2000 h8 a0 a1 (iN 0)
theorem p_X4_copyFrom {l : Launch} {K : Ctx} (hl : l.stackTraces = false) {h : Hp} {a0 : Nat} {a1 : Nat} {t : Rs Unit} (e : f_X4_copyFrom h a0 a1 = some t) : X l K mM_X4_copyFrom (tgV t) 0 [(0, .ref a0), (1, .ref a1)] [] h := by
  unfold f_X4_copyFrom at e
  refine x_aload_n (pc := 0) 0 dX4_copyFrom_0 rfl ?_
  refine x_aload_n (pc := 1) 1 dX4_copyFrom_1 rfl ?_
  obtain ⟨q1, e⟩ := chk_some e
  refine x_getI (pc := 2) gf_X4_34 rfl dX4_copyFrom_2 q1 ?_
  obtain ⟨q2, e⟩ := chk_some e
  replace e := lt_go e
  refine x_putI (pc := 5) pf_X4_34 rfl rfl rfl dX4_copyFrom_5 q2 ?_
  refine x_aload_n (pc := 8) 0 dX4_copyFrom_8 rfl ?_
  refine x_aload_n (pc := 9) 1 dX4_copyFrom_9 rfl ?_
  refine x_getI (pc := 10) gf_X4_38 rfl dX4_copyFrom_10 (okr_pI q1) ?_
  replace e := lt_go e
  refine x_putI (pc := 13) pf_X4_38 rfl rfl rfl dX4_copyFrom_13 (okr_pI q2) ?_
  refine x_aload_n (pc := 16) 0 dX4_copyFrom_16 rfl ?_
  refine x_aload_n (pc := 17) 1 dX4_copyFrom_17 rfl ?_
  refine x_getI (pc := 18) gf_X4_41 rfl dX4_copyFrom_18 (okr_pI (okr_pI q1)) ?_
  replace e := lt_go e
  refine x_putI (pc := 21) pf_X4_41 rfl rfl rfl dX4_copyFrom_21 (okr_pI (okr_pI q2)) ?_
  refine x_aload_n (pc := 24) 0 dX4_copyFrom_24 rfl ?_
  refine x_aload_n (pc := 25) 1 dX4_copyFrom_25 rfl ?_
  refine x_getI (pc := 26) gf_X4_44 rfl dX4_copyFrom_26 (okr_pI (okr_pI (okr_pI q1))) ?_
  replace e := lt_go e
  refine x_putI (pc := 29) pf_X4_44 rfl rfl rfl dX4_copyFrom_29 (okr_pI (okr_pI (okr_pI q2))) ?_
  refine x_aload_n (pc := 32) 0 dX4_copyFrom_32 rfl ?_
  refine x_aload_n (pc := 33) 1 dX4_copyFrom_33 rfl ?_
  refine x_getI (pc := 34) gf_X4_50 rfl dX4_copyFrom_34 (okr_pI (okr_pI (okr_pI (okr_pI q1)))) ?_
  replace e := lt_go e
  refine x_putI (pc := 37) pf_X4_50 rfl rfl rfl dX4_copyFrom_37 (okr_pI (okr_pI (okr_pI (okr_pI q2)))) ?_
  refine x_aload_n (pc := 40) 0 dX4_copyFrom_40 rfl ?_
  refine x_aload_n (pc := 41) 1 dX4_copyFrom_41 rfl ?_
  refine x_getI (pc := 42) gf_X4_53 rfl dX4_copyFrom_42 (okr_pI (okr_pI (okr_pI (okr_pI (okr_pI q1))))) ?_
  replace e := lt_go e
  refine x_putI (pc := 45) pf_X4_53 rfl rfl rfl dX4_copyFrom_45 (okr_pI (okr_pI (okr_pI (okr_pI (okr_pI q2))))) ?_
  refine x_iconst (pc := 48) dX4_copyFrom_48 ?_
  refine x_istore_n (pc := 49) dX4_copyFrom_49 (by decide) rfl ?_
  exact x_sub1 (p_X4_copyFrom_L50 hl 2000 _ _ _ _ _ e) [1, 2, 0] rfl
abbrev w_X4_copyFrom : Cond := (Cond.code yX4_copyFrom cX4_copyFrom 3 (Option.none : Option Jvm.ClassFile.FieldType))
theorem mf_X4_copyFrom : MF yX4_copyFrom w_X4_copyFrom cX4_copyFrom 3 (Option.none : Option Jvm.ClassFile.FieldType) 1 := ⟨⟨rfl, tw_3_69, by decide⟩, tw_1_4, ⟨by decide, by decide⟩, by decide +kernel⟩
theorem c_X4_copyFrom {l : Launch} {K : Ctx} (hl : l.stackTraces = false) {h : Hp} {a0 : Nat} {a1 : Nat} {t : Rs Unit} (e : f_X4_copyFrom h a0 a1 = some t) : Ctr l K 8 yX4_copyFrom w_X4_copyFrom [.ref a0, .ref a1] h (tgV t) :=
  Ctr.of hl mf_X4_copyFrom false (fun q => nomatch q) rfl (leb rfl) (p_X4_copyFrom hl e)
/-! ## TableColumnBalancer$Cell.copyFrom -/
abbrev mM_X1_copyFrom : Mi := (9, yX1_copyFrom.cls, cX1_copyFrom, 2, (Option.none : Option Jvm.ClassFile.FieldType), [], false)
noncomputable def f_X1_copyFrom (h : Hp) (a0 : Nat) (a1 : Nat) : Option (Rs Unit) :=
  chk (okr h a1 1) <|
  chk (okr h a0 1) <|
  lt (putI h a0 0 (qI h a1 0)) fun h3 =>
  lt (putI h3 a0 1 (qI h3 a1 1)) fun h4 =>
  lt (putI h4 a0 2 (qI h4 a1 2)) fun h5 =>
  chk (okr h5 (qR h5 a0 3) 4) <|
  chk (okr h5 (qR h5 a1 3) 4) <|
  bnd (f_X4_copyFrom h5 (qR h5 a0 3) (qR h5 a1 3)) fun h8 _ =>
  some (h8, .inr ())
theorem p_X1_copyFrom {l : Launch} {K : Ctx} (hl : l.stackTraces = false) {h : Hp} {a0 : Nat} {a1 : Nat} {t : Rs Unit} (e : f_X1_copyFrom h a0 a1 = some t) : X l K mM_X1_copyFrom (tgV t) 0 [(0, .ref a0), (1, .ref a1)] [] h := by
  unfold f_X1_copyFrom at e
  refine x_aload_n (pc := 0) 0 dX1_copyFrom_0 rfl ?_
  refine x_aload_n (pc := 1) 1 dX1_copyFrom_1 rfl ?_
  obtain ⟨q1, e⟩ := chk_some e
  refine x_getI (pc := 2) gf_X1_16 rfl dX1_copyFrom_2 q1 ?_
  obtain ⟨q2, e⟩ := chk_some e
  replace e := lt_go e
  refine x_putI (pc := 5) pf_X1_16 rfl rfl rfl dX1_copyFrom_5 q2 ?_
  refine x_aload_n (pc := 8) 0 dX1_copyFrom_8 rfl ?_
  refine x_aload_n (pc := 9) 1 dX1_copyFrom_9 rfl ?_
  refine x_getI (pc := 10) gf_X1_20 rfl dX1_copyFrom_10 (okr_pI q1) ?_
  replace e := lt_go e
  refine x_putI (pc := 13) pf_X1_20 rfl rfl rfl dX1_copyFrom_13 (okr_pI q2) ?_
  refine x_aload_n (pc := 16) 0 dX1_copyFrom_16 rfl ?_
  refine x_aload_n (pc := 17) 1 dX1_copyFrom_17 rfl ?_
  refine x_getI (pc := 18) gf_X1_23 rfl dX1_copyFrom_18 (okr_pI (okr_pI q1)) ?_
  replace e := lt_go e
  refine x_putI (pc := 21) pf_X1_23 rfl rfl rfl dX1_copyFrom_21 (okr_pI (okr_pI q2)) ?_
  refine x_aload_n (pc := 24) 0 dX1_copyFrom_24 rfl ?_
  obtain ⟨q6, e⟩ := chk_some e
  refine x_getR (pc := 25) gf_X1_10 rfl dX1_copyFrom_25 (okr_pI (okr_pI (okr_pI q2))) q6.1 ?_
  refine x_aload_n (pc := 28) 1 dX1_copyFrom_28 rfl ?_
  obtain ⟨q7, e⟩ := chk_some e
  refine x_getR (pc := 29) gf_X1_10 rfl dX1_copyFrom_29 (okr_pI (okr_pI (okr_pI q1))) q7.1 ?_
  rcases bnd_some e with ⟨h8, r9, ec, rfl⟩ | ⟨h8, r9, ec, e⟩
  · exact y_callV_x (pc := 32) (c_X4_copyFrom hl ec) q6 mf_X4_copyFrom tw_3_68 ts_3_1 lf_X1_26 rfl rfl dX1_copyFrom_32 (by decide) rfl rfl (leb rfl) (xx_out0 rfl)
  refine y_callV_v (pc := 32) (c_X4_copyFrom hl ec) q6 mf_X4_copyFrom tw_3_68 ts_3_1 lf_X1_26 rfl rfl dX1_copyFrom_32 (by decide) rfl rfl (leb rfl) ?_
  cases Option.some.inj e
  exact x_vret (pc := 35) rfl dX1_copyFrom_35
abbrev w_X1_copyFrom : Cond := (Cond.code yX1_copyFrom cX1_copyFrom 2 (Option.none : Option Jvm.ClassFile.FieldType))
theorem mf_X1_copyFrom : MF yX1_copyFrom w_X1_copyFrom cX1_copyFrom 2 (Option.none : Option Jvm.ClassFile.FieldType) 1 := ⟨⟨rfl, tw_3_65, by decide⟩, tw_1_3, ⟨by decide, by decide⟩, by decide +kernel⟩
theorem c_X1_copyFrom {l : Launch} {K : Ctx} (hl : l.stackTraces = false) {h : Hp} {a0 : Nat} {a1 : Nat} {t : Rs Unit} (e : f_X1_copyFrom h a0 a1 = some t) : Ctr l K 9 yX1_copyFrom w_X1_copyFrom [.ref a0, .ref a1] h (tgV t) :=
  Ctr.of hl mf_X1_copyFrom false (fun q => nomatch q) rfl (leb rfl) (p_X1_copyFrom hl e)
/-! ## TableColumnBalancer$Table.copyFrom -/
abbrev mM_X7_copyFrom : Mi := (10, yX7_copyFrom.cls, cX7_copyFrom, 3, (Option.none : Option Jvm.ClassFile.FieldType), [], false)
noncomputable def f_X7_copyFrom_B87 (k87 : Hp → Nat → Nat → Int32 → Option (Rs Unit)) (h : Hp) (a0 : Nat) (a1 : Nat) (i2 : Int32) : Option (Rs Unit) :=
  chk (okr h a0 7) <|
  if (qI h a0 5) ≤ i2 then (
    some (h, .inr ())
  ) else (
    chk (okr h (qR h a0 8) 25) <|
    chk (vp_in i2 (qW h (qR h a0 8))) <|
    chk (okr h (qR h (qR h a0 8) (Int32.toNatClampNeg i2)) 1) <|
    chk (okr h a1 7) <|
    chk (okr h (qR h a1 8) 25) <|
    chk (vp_in i2 (qW h (qR h a1 8))) <|
    chk (okr h (qR h (qR h a1 8) (Int32.toNatClampNeg i2)) 1) <|
    bnd (f_X1_copyFrom h (qR h (qR h a0 8) (Int32.toNatClampNeg i2)) (qR h (qR h a1 8) (Int32.toNatClampNeg i2))) fun h10 _ =>
    k87 h10 a0 a1 (i2 + iN 1)
  )
theorem p_X7_copyFrom_B87 {l : Launch} {K : Ctx} (hl : l.stackTraces = false) {k87 : Hp → Nat → Nat → Int32 → Option (Rs Unit)} (hk87 : ∀ (h : Hp) (a0 : Nat) (a1 : Nat) (i2 : Int32) (t : Rs Unit), k87 h a0 a1 i2 = some t → X l K mM_X7_copyFrom (tgV t) 87 [(0, .ref a0), (1, .ref a1), (2, .int i2)] [] h) {h : Hp} {a0 : Nat} {a1 : Nat} {i2 : Int32} {t : Rs Unit} (e : f_X7_copyFrom_B87 k87 h a0 a1 i2 = some t) : X l K mM_X7_copyFrom (tgV t) 87 [(0, .ref a0), (1, .ref a1), (2, .int i2)] [] h := by
  unfold f_X7_copyFrom_B87 at e
  refine x_iload_n (pc := 87) 2 dX7_copyFrom_87 rfl ?_
  refine x_aload_n (pc := 88) 0 dX7_copyFrom_88 rfl ?_
  obtain ⟨q1, e⟩ := chk_some e
  refine x_getI (pc := 89) gf_X7_41 rfl dX7_copyFrom_89 q1 ?_
  rcases ite_some e with ⟨q2, e⟩ | ⟨q2, e⟩
  · refine x_icmp_ge_t (pc := 92) (t := 116) dX7_copyFrom_92 (by decide) q2 ?_
    cases Option.some.inj e
    exact x_vret (pc := 116) rfl dX7_copyFrom_116
  · refine x_icmp_ge_f (pc := 92) (t := 116) dX7_copyFrom_92 (by decide) q2 ?_
    refine x_aload_n (pc := 95) 0 dX7_copyFrom_95 rfl ?_
    obtain ⟨q3, e⟩ := chk_some e
    refine x_getR (pc := 96) gf_X7_30 rfl dX7_copyFrom_96 q1 q3.1 ?_
    refine x_iload_n (pc := 99) 2 dX7_copyFrom_99 rfl ?_
    obtain ⟨q4, e⟩ := chk_some e
    obtain ⟨q5, e⟩ := chk_some e
    refine x_aald (pc := 100) (t := 1) (by decide) dX7_copyFrom_100 q3 q4 q5.1 ?_
    refine x_aload_n (pc := 101) 1 dX7_copyFrom_101 rfl ?_
    obtain ⟨q6, e⟩ := chk_some e
    obtain ⟨q7, e⟩ := chk_some e
    refine x_getR (pc := 102) gf_X7_30 rfl dX7_copyFrom_102 q6 q7.1 ?_
    refine x_iload_n (pc := 105) 2 dX7_copyFrom_105 rfl ?_
    obtain ⟨q8, e⟩ := chk_some e
    obtain ⟨q9, e⟩ := chk_some e
    refine x_aald (pc := 106) (t := 1) (by decide) dX7_copyFrom_106 q7 q8 q9.1 ?_
    rcases bnd_some e with ⟨h10, r11, ec, rfl⟩ | ⟨h10, r11, ec, e⟩
    · exact y_callV_x (pc := 107) (c_X1_copyFrom hl ec) q5 mf_X1_copyFrom tw_3_64 ts_3_0 lf_X7_44 rfl rfl dX7_copyFrom_107 (by decide) rfl rfl (leb rfl) (xx_out0 rfl)
    refine y_callV_v (pc := 107) (c_X1_copyFrom hl ec) q5 mf_X1_copyFrom tw_3_64 ts_3_0 lf_X7_44 rfl rfl dX7_copyFrom_107 (by decide) rfl rfl (leb rfl) ?_
    refine x_iinc (pc := 110) 2 dX7_copyFrom_110 rfl (by decide) rfl ?_
    refine x_goto (pc := 113) (t := 87) dX7_copyFrom_113 (by decide) ?_
    exact x_sub1 (hk87 _ _ _ _ _ e) [1, 2, 0] rfl
noncomputable def f_X7_copyFrom_L87 (n : Nat) : Hp → Nat → Nat → Int32 → Option (Rs Unit) := Nat.rec (motive := fun _ => Hp → Nat → Nat → Int32 → Option (Rs Unit)) (fun _ _ _ _ => none) (fun _ r => f_X7_copyFrom_B87 r) n
theorem p_X7_copyFrom_L87 {l : Launch} {K : Ctx} (hl : l.stackTraces = false) : ∀ (n : Nat) (h : Hp) (a0 : Nat) (a1 : Nat) (i2 : Int32) (t : Rs Unit) (e : f_X7_copyFrom_L87 n h a0 a1 i2 = some t), X l K mM_X7_copyFrom (tgV t) 87 [(0, .ref a0), (1, .ref a1), (2, .int i2)] [] h := by
  intro n
  induction n with
  | zero => exact fun _ _ _ _ _ e => nomatch (show (none : Option (Rs Unit)) = some _ from e)
  | succ n ih => exact fun h a0 a1 i2 t e => p_X7_copyFrom_B87 hl (fun h a0 a1 i2 t e => ih h a0 a1 i2 t e) e
noncomputable def f_X7_copyFrom_B50 (k50 : Hp → Nat → Nat → Int32 → Option (Rs Unit)) (h : Hp) (a0 : Nat) (a1 : Nat) (i2 : Int32) : Option (Rs Unit) :=
  if (iN 4) ≤ i2 then (
    f_X7_copyFrom_L87 2000 h a0 a1 (iN 0)
  ) else (
    chk (okr h a0 7) <|
    chk (okr h (qR h a0 6) 20) <|
    chk (okr h a1 7) <|
    chk (okr h (qR h a1 6) 20) <|
    chk (vp_in i2 (qW h (qR h a1 6))) <|
    chk (vp_in i2 (qW h (qR h a0 6))) <|
    lt (putI h (qR h a0 6) (Int32.toNatClampNeg i2) (qI h (qR h a1 6) (Int32.toNatClampNeg i2))) fun h8 =>
    chk (okr h8 (qR h8 a0 7) 20) <|
    chk (okr h8 (qR h8 a1 7) 20) <|
    chk (vp_in i2 (qW h8 (qR h8 a1 7))) <|
    chk (vp_in i2 (qW h8 (qR h8 a0 7))) <|
    lt (putI h8 (qR h8 a0 7) (Int32.toNatClampNeg i2) (qI h8 (qR h8 a1 7) (Int32.toNatClampNeg i2))) fun h13 =>
    k50 h13 a0 a1 (i2 + iN 1)
  )
theorem p_X7_copyFrom_B50 {l : Launch} {K : Ctx} (hl : l.stackTraces = false) {k50 : Hp → Nat → Nat → Int32 → Option (Rs Unit)} (hk50 : ∀ (h : Hp) (a0 : Nat) (a1 : Nat) (i2 : Int32) (t : Rs Unit), k50 h a0 a1 i2 = some t → X l K mM_X7_copyFrom (tgV t) 50 [(0, .ref a0), (1, .ref a1), (2, .int i2)] [] h) {h : Hp} {a0 : Nat} {a1 : Nat} {i2 : Int32} {t : Rs Unit} (e : f_X7_copyFrom_B50 k50 h a0 a1 i2 = some t) : X l K mM_X7_copyFrom (tgV t) 50 [(0, .ref a0), (1, .ref a1), (2, .int i2)] [] h := by
  unfold f_X7_copyFrom_B50 at e
  refine x_iload_n (pc := 50) 2 dX7_copyFrom_50 rfl ?_
  refine x_iconst (pc := 51) dX7_copyFrom_51 ?_
  rcases ite_some e with ⟨q1, e⟩ | ⟨q1, e⟩
  · refine x_icmp_ge_t (pc := 52) (t := 85) dX7_copyFrom_52 (by decide) q1 ?_
    refine x_iconst (pc := 85) dX7_copyFrom_85 ?_
    refine x_istore_n (pc := 86) dX7_copyFrom_86 (by decide) rfl ?_
    exact x_sub1 (p_X7_copyFrom_L87 hl 2000 _ _ _ _ _ e) [1, 2, 0] rfl
  · refine x_icmp_ge_f (pc := 52) (t := 85) dX7_copyFrom_52 (by decide) q1 ?_
    refine x_aload_n (pc := 55) 0 dX7_copyFrom_55 rfl ?_
    obtain ⟨q2, e⟩ := chk_some e
    obtain ⟨q3, e⟩ := chk_some e
    refine x_getR (pc := 56) gf_X7_21 rfl dX7_copyFrom_56 q2 q3.1 ?_
    refine x_iload_n (pc := 59) 2 dX7_copyFrom_59 rfl ?_
    refine x_aload_n (pc := 60) 1 dX7_copyFrom_60 rfl ?_
    obtain ⟨q4, e⟩ := chk_some e
    obtain ⟨q5, e⟩ := chk_some e
    refine x_getR (pc := 61) gf_X7_21 rfl dX7_copyFrom_61 q4 q5.1 ?_
    refine x_iload_n (pc := 64) 2 dX7_copyFrom_64 rfl ?_
    obtain ⟨q6, e⟩ := chk_some e
    refine x_iald (pc := 65) dX7_copyFrom_65 q5 q6 ?_
    obtain ⟨q7, e⟩ := chk_some e
    replace e := lt_go e
    refine x_iast (pc := 66) dX7_copyFrom_66 q3 q7 ?_
    refine x_aload_n (pc := 67) 0 dX7_copyFrom_67 rfl ?_
    obtain ⟨q9, e⟩ := chk_some e
    refine x_getR (pc := 68) gf_X7_25 rfl dX7_copyFrom_68 (okr_pI q2) q9.1 ?_
    refine x_iload_n (pc := 71) 2 dX7_copyFrom_71 rfl ?_
    refine x_aload_n (pc := 72) 1 dX7_copyFrom_72 rfl ?_
    obtain ⟨q10, e⟩ := chk_some e
    refine x_getR (pc := 73) gf_X7_25 rfl dX7_copyFrom_73 (okr_pI q4) q10.1 ?_
    refine x_iload_n (pc := 76) 2 dX7_copyFrom_76 rfl ?_
    obtain ⟨q11, e⟩ := chk_some e
    refine x_iald (pc := 77) dX7_copyFrom_77 q10 q11 ?_
    obtain ⟨q12, e⟩ := chk_some e
    replace e := lt_go e
    refine x_iast (pc := 78) dX7_copyFrom_78 q9 q12 ?_
    refine x_iinc (pc := 79) 2 dX7_copyFrom_79 rfl (by decide) rfl ?_
    refine x_goto (pc := 82) (t := 50) dX7_copyFrom_82 (by decide) ?_
    exact x_sub1 (hk50 _ _ _ _ _ e) [1, 2, 0] rfl
noncomputable def f_X7_copyFrom_L50 (n : Nat) : Hp → Nat → Nat → Int32 → Option (Rs Unit) := Nat.rec (motive := fun _ => Hp → Nat → Nat → Int32 → Option (Rs Unit)) (fun _ _ _ _ => none) (fun _ r => f_X7_copyFrom_B50 r) n
theorem p_X7_copyFrom_L50 {l : Launch} {K : Ctx} (hl : l.stackTraces = false) : ∀ (n : Nat) (h : Hp) (a0 : Nat) (a1 : Nat) (i2 : Int32) (t : Rs Unit) (e : f_X7_copyFrom_L50 n h a0 a1 i2 = some t), X l K mM_X7_copyFrom (tgV t) 50 [(0, .ref a0), (1, .ref a1), (2, .int i2)] [] h := by
  intro n
  induction n with
  | zero => exact fun _ _ _ _ _ e => nomatch (show (none : Option (Rs Unit)) = some _ from e)
  | succ n ih => exact fun h a0 a1 i2 t e => p_X7_copyFrom_B50 hl (fun h a0 a1 i2 t e => ih h a0 a1 i2 t e) e
noncomputable def f_X7_copyFrom (h : Hp) (a0 : Nat) (a1 : Nat) : Option (Rs Unit) :=
  chk (okr h a1 7) <|
  chk (okr h a0 7) <|
  lt (putI h a0 0 (qI h a1 0)) fun h3 =>
  lt (putI h3 a0 1 (qI h3 a1 1)) fun h4 =>
  lt (putI h4 a0 2 (qI h4 a1 2)) fun h5 =>
  lt (putI h5 a0 3 (qI h5 a1 3)) fun h6 =>
  lt (putI h6 a0 4 (qI h6 a1 4)) fun h7 =>
  lt (putI h7 a0 5 (qI h7 a1 5)) fun h8 =>
  f_X7_copyFrom_L50 2000 h8 a0 a1 (iN 0)
theorem p_X7_copyFrom {l : Launch} {K : Ctx} (hl : l.stackTraces = false) {h : Hp} {a0 : Nat} {a1 : Nat} {t : Rs Unit} (e : f_X7_copyFrom h a0 a1 = some t) : X l K mM_X7_copyFrom (tgV t) 0 [(0, .ref a0), (1, .ref a1)] [] h := by
  unfold f_X7_copyFrom at e
  refine x_aload_n (pc := 0) 0 dX7_copyFrom_0 rfl ?_
  refine x_aload_n (pc := 1) 1 dX7_copyFrom_1 rfl ?_
  obtain ⟨q1, e⟩ := chk_some e
  refine x_getI (pc := 2) gf_X7_9 rfl dX7_copyFrom_2 q1 ?_
  obtain ⟨q2, e⟩ := chk_some e
  replace e := lt_go e
  refine x_putI (pc := 5) pf_X7_9 rfl rfl rfl dX7_copyFrom_5 q2 ?_
  refine x_aload_n (pc := 8) 0 dX7_copyFrom_8 rfl ?_
  refine x_aload_n (pc := 9) 1 dX7_copyFrom_9 rfl ?_
  refine x_getI (pc := 10) gf_X7_15 rfl dX7_copyFrom_10 (okr_pI q1) ?_
  replace e := lt_go e
  refine x_putI (pc := 13) pf_X7_15 rfl rfl rfl dX7_copyFrom_13 (okr_pI q2) ?_
  refine x_aload_n (pc := 16) 0 dX7_copyFrom_16 rfl ?_
  refine x_aload_n (pc := 17) 1 dX7_copyFrom_17 rfl ?_
  refine x_getI (pc := 18) gf_X7_35 rfl dX7_copyFrom_18 (okr_pI (okr_pI q1)) ?_
  replace e := lt_go e
  refine x_putI (pc := 21) pf_X7_35 rfl rfl rfl dX7_copyFrom_21 (okr_pI (okr_pI q2)) ?_
  refine x_aload_n (pc := 24) 0 dX7_copyFrom_24 rfl ?_
  refine x_aload_n (pc := 25) 1 dX7_copyFrom_25 rfl ?_
  refine x_getI (pc := 26) gf_X7_18 rfl dX7_copyFrom_26 (okr_pI (okr_pI (okr_pI q1))) ?_
  replace e := lt_go e
  refine x_putI (pc := 29) pf_X7_18 rfl rfl rfl dX7_copyFrom_29 (okr_pI (okr_pI (okr_pI q2))) ?_
  refine x_aload_n (pc := 32) 0 dX7_copyFrom_32 rfl ?_
  refine x_aload_n (pc := 33) 1 dX7_copyFrom_33 rfl ?_
  refine x_getI (pc := 34) gf_X7_38 rfl dX7_copyFrom_34 (okr_pI (okr_pI (okr_pI (okr_pI q1)))) ?_
  replace e := lt_go e
  refine x_putI (pc := 37) pf_X7_38 rfl rfl rfl dX7_copyFrom_37 (okr_pI (okr_pI (okr_pI (okr_pI q2)))) ?_
  refine x_aload_n (pc := 40) 0 dX7_copyFrom_40 rfl ?_
  refine x_aload_n (pc := 41) 1 dX7_copyFrom_41 rfl ?_
  refine x_getI (pc := 42) gf_X7_41 rfl dX7_copyFrom_42 (okr_pI (okr_pI (okr_pI (okr_pI (okr_pI q1))))) ?_
  replace e := lt_go e
  refine x_putI (pc := 45) pf_X7_41 rfl rfl rfl dX7_copyFrom_45 (okr_pI (okr_pI (okr_pI (okr_pI (okr_pI q2))))) ?_
  refine x_iconst (pc := 48) dX7_copyFrom_48 ?_
  refine x_istore_n (pc := 49) dX7_copyFrom_49 (by decide) rfl ?_
  exact x_sub1 (p_X7_copyFrom_L50 hl 2000 _ _ _ _ _ e) [1, 2, 0] rfl
abbrev w_X7_copyFrom : Cond := (Cond.code yX7_copyFrom cX7_copyFrom 3 (Option.none : Option Jvm.ClassFile.FieldType))
theorem mf_X7_copyFrom : MF yX7_copyFrom w_X7_copyFrom cX7_copyFrom 3 (Option.none : Option Jvm.ClassFile.FieldType) 1 := ⟨⟨rfl, tw_3_61, by decide⟩, tw_1_2, ⟨by decide, by decide⟩, by decide +kernel⟩
theorem c_X7_copyFrom {l : Launch} {K : Ctx} (hl : l.stackTraces = false) {h : Hp} {a0 : Nat} {a1 : Nat} {t : Rs Unit} (e : f_X7_copyFrom h a0 a1 = some t) : Ctr l K 10 yX7_copyFrom w_X7_copyFrom [.ref a0, .ref a1] h (tgV t) :=
  Ctr.of hl mf_X7_copyFrom false (fun q => nomatch q) rfl (leb rfl) (p_X7_copyFrom hl e)
/-! ## TableColumnBalancer$Script.endOfLetters -/
abbrev mM_X5_endOfLetters : Mi := (8, yX5_endOfLetters.cls, cX5_endOfLetters, 2, (Option.some Jvm.ClassFile.FieldType.int), [], false)
noncomputable def f_X5_endOfLetters_B5 (k5 : Hp → Nat → Int32 → Option (Rs Int32)) (h : Hp) (a0 : Nat) (i1 : Int32) : Option (Rs Int32) :=
  chk (okr h a0 5) <|
  if (qI h a0 2) ≤ i1 then (
    some (h, .inr i1)
  ) else (
    chk (okr h (qR h a0 0) 23) <|
    chk (vp_in i1 (qW h (qR h a0 0))) <|
    if (qI h (qR h a0 0) (Int32.toNatClampNeg i1)) < (iN 97) then (
      some (h, .inr i1)
    ) else (
      if (iN 122) < (qI h (qR h a0 0) (Int32.toNatClampNeg i1)) then (
        some (h, .inr i1)
      ) else (
        k5 h a0 (i1 + iN 1)
      )
    )
  )
theorem p_X5_endOfLetters_B5 {l : Launch} {K : Ctx} (hl : l.stackTraces = false) {k5 : Hp → Nat → Int32 → Option (Rs Int32)} (hk5 : ∀ (h : Hp) (a0 : Nat) (i1 : Int32) (t : Rs Int32), k5 h a0 i1 = some t → X l K mM_X5_endOfLetters (tgI t) 5 [(0, .ref a0), (1, .int i1)] [] h) {h : Hp} {a0 : Nat} {i1 : Int32} {t : Rs Int32} (e : f_X5_endOfLetters_B5 k5 h a0 i1 = some t) : X l K mM_X5_endOfLetters (tgI t) 5 [(0, .ref a0), (1, .int i1)] [] h := by
  unfold f_X5_endOfLetters_B5 at e
  refine x_iload_n (pc := 5) 1 dX5_endOfLetters_5 rfl ?_
  refine x_aload_n (pc := 6) 0 dX5_endOfLetters_6 rfl ?_
  obtain ⟨q1, e⟩ := chk_some e
  refine x_getI (pc := 7) gf_X5_33 rfl dX5_endOfLetters_7 q1 ?_
  rcases ite_some e with ⟨q2, e⟩ | ⟨q2, e⟩
  · refine x_icmp_ge_t (pc := 10) (t := 41) dX5_endOfLetters_10 (by decide) q2 ?_
    refine x_iload_n (pc := 41) 1 dX5_endOfLetters_41 rfl ?_
    cases Option.some.inj e
    exact x_iret (pc := 42) rfl dX5_endOfLetters_42
  · refine x_icmp_ge_f (pc := 10) (t := 41) dX5_endOfLetters_10 (by decide) q2 ?_
    refine x_aload_n (pc := 13) 0 dX5_endOfLetters_13 rfl ?_
    obtain ⟨q3, e⟩ := chk_some e
    refine x_getR (pc := 14) gf_X5_9 rfl dX5_endOfLetters_14 q1 q3.1 ?_
    refine x_iload_n (pc := 17) 1 dX5_endOfLetters_17 rfl ?_
    obtain ⟨q4, e⟩ := chk_some e
    refine x_cald (pc := 18) dX5_endOfLetters_18 q3 q4 ?_
    refine x_bipush (pc := 19) (v := iN 97) dX5_endOfLetters_19 rfl ?_
    rcases ite_some e with ⟨q5, e⟩ | ⟨q5, e⟩
    · refine x_icmp_lt_t (pc := 21) (t := 41) dX5_endOfLetters_21 (by decide) q5 ?_
      refine x_iload_n (pc := 41) 1 dX5_endOfLetters_41 rfl ?_
      cases Option.some.inj e
      exact x_iret (pc := 42) rfl dX5_endOfLetters_42
    · refine x_icmp_lt_f (pc := 21) (t := 41) dX5_endOfLetters_21 (by decide) q5 ?_
      refine x_aload_n (pc := 24) 0 dX5_endOfLetters_24 rfl ?_
      refine x_getR (pc := 25) gf_X5_9 rfl dX5_endOfLetters_25 q1 q3.1 ?_
      refine x_iload_n (pc := 28) 1 dX5_endOfLetters_28 rfl ?_
      refine x_cald (pc := 29) dX5_endOfLetters_29 q3 q4 ?_
      refine x_bipush (pc := 30) (v := iN 122) dX5_endOfLetters_30 rfl ?_
      rcases ite_some e with ⟨q6, e⟩ | ⟨q6, e⟩
      · refine x_icmp_gt_t (pc := 32) (t := 41) dX5_endOfLetters_32 (by decide) q6 ?_
        refine x_iload_n (pc := 41) 1 dX5_endOfLetters_41 rfl ?_
        cases Option.some.inj e
        exact x_iret (pc := 42) rfl dX5_endOfLetters_42
      · refine x_icmp_gt_f (pc := 32) (t := 41) dX5_endOfLetters_32 (by decide) q6 ?_
        refine x_iinc (pc := 35) 1 dX5_endOfLetters_35 rfl (by decide) rfl ?_
        refine x_goto (pc := 38) (t := 5) dX5_endOfLetters_38 (by decide) ?_
        exact x_sub1 (hk5 _ _ _ _ e) [1, 0] rfl
noncomputable def f_X5_endOfLetters_L5 (n : Nat) : Hp → Nat → Int32 → Option (Rs Int32) := Nat.rec (motive := fun _ => Hp → Nat → Int32 → Option (Rs Int32)) (fun _ _ _ => none) (fun _ r => f_X5_endOfLetters_B5 r) n
theorem p_X5_endOfLetters_L5 {l : Launch} {K : Ctx} (hl : l.stackTraces = false) : ∀ (n : Nat) (h : Hp) (a0 : Nat) (i1 : Int32) (t : Rs Int32) (e : f_X5_endOfLetters_L5 n h a0 i1 = some t), X l K mM_X5_endOfLetters (tgI t) 5 [(0, .ref a0), (1, .int i1)] [] h := by
  intro n
  induction n with
  | zero => exact fun _ _ _ _ e => nomatch (show (none : Option (Rs Int32)) = some _ from e)
  | succ n ih => exact fun h a0 i1 t e => p_X5_endOfLetters_B5 hl (fun h a0 i1 t e => ih h a0 i1 t e) e
noncomputable def f_X5_endOfLetters (h : Hp) (a0 : Nat) : Option (Rs Int32) :=
  chk (okr h a0 5) <|
  f_X5_endOfLetters_L5 2000 h a0 (qI h a0 3)
theorem p_X5_endOfLetters {l : Launch} {K : Ctx} (hl : l.stackTraces = false) {h : Hp} {a0 : Nat} {t : Rs Int32} (e : f_X5_endOfLetters h a0 = some t) : X l K mM_X5_endOfLetters (tgI t) 0 [(0, .ref a0)] [] h := by
  unfold f_X5_endOfLetters at e
  refine x_aload_n (pc := 0) 0 dX5_endOfLetters_0 rfl ?_
  obtain ⟨q1, e⟩ := chk_some e
  refine x_getI (pc := 1) gf_X5_36 rfl dX5_endOfLetters_1 q1 ?_
  refine x_istore_n (pc := 4) dX5_endOfLetters_4 (by decide) rfl ?_
  exact x_sub1 (p_X5_endOfLetters_L5 hl 2000 _ _ _ _ e) [1, 0] rfl
abbrev w_X5_endOfLetters : Cond := (Cond.code yX5_endOfLetters cX5_endOfLetters 2 (Option.some Jvm.ClassFile.FieldType.int))
theorem mf_X5_endOfLetters : MF yX5_endOfLetters w_X5_endOfLetters cX5_endOfLetters 2 (Option.some Jvm.ClassFile.FieldType.int) 0 := ⟨⟨rfl, tw_4_169, by decide⟩, tw_1_7, ⟨by decide, by decide⟩, by decide +kernel⟩
theorem c_X5_endOfLetters {l : Launch} {K : Ctx} (hl : l.stackTraces = false) {h : Hp} {a0 : Nat} {t : Rs Int32} (e : f_X5_endOfLetters h a0 = some t) : Ctr l K 8 yX5_endOfLetters w_X5_endOfLetters [.ref a0] h (tgI t) :=
  Ctr.of hl mf_X5_endOfLetters false (fun q => nomatch q) rfl (leb rfl) (p_X5_endOfLetters hl e)
/-! ## TableColumnBalancer$Script.spells -/
abbrev mM_X5_spells : Mi := (12, yX5_spells.cls, cX5_spells, 6, (Option.some Jvm.ClassFile.FieldType.boolean), [], false)
noncomputable def f_X5_spells_L57 (k20 : Hp → Nat → Int32 → Nat → Int32 → Int32 → Option (Rs Int32)) (h : Hp) (a0 : Nat) (i1 : Int32) (a3 : Nat) (i5 : Int32) (s0 : Int32) : Option (Rs Int32) :=
  k20 h a0 i1 a3 s0 (i5 + iN 1)
theorem p_X5_spells_L57 {l : Launch} {K : Ctx} (hl : l.stackTraces = false) {k20 : Hp → Nat → Int32 → Nat → Int32 → Int32 → Option (Rs Int32)} (hk20 : ∀ (h : Hp) (a0 : Nat) (i1 : Int32) (a3 : Nat) (i4 : Int32) (i5 : Int32) (t : Rs Int32), k20 h a0 i1 a3 i4 i5 = some t → X l K mM_X5_spells (tgI t) 20 [(0, .ref a0), (1, .int i1), (3, .ref a3), (4, .int i4), (5, .int i5)] [] h) {h : Hp} {a0 : Nat} {i1 : Int32} {a3 : Nat} {i5 : Int32} {s0 : Int32} {t : Rs Int32} (e : f_X5_spells_L57 k20 h a0 i1 a3 i5 s0 = some t) : X l K mM_X5_spells (tgI t) 57 [(0, .ref a0), (1, .int i1), (3, .ref a3), (5, .int i5)] [.int s0] h := by
  unfold f_X5_spells_L57 at e
  refine x_istore (pc := 57) dX5_spells_57 (by decide) rfl ?_
  refine x_iinc (pc := 59) 4 dX5_spells_59 rfl (by decide) rfl ?_
  refine x_goto (pc := 62) (t := 20) dX5_spells_62 (by decide) ?_
  exact x_sub1 (hk20 _ _ _ _ _ _ _ e) [2, 3, 4, 1, 0] rfl
noncomputable def f_X5_spells_B20 (k20 : Hp → Nat → Int32 → Nat → Int32 → Int32 → Option (Rs Int32)) (h : Hp) (a0 : Nat) (i1 : Int32) (a3 : Nat) (i4 : Int32) (i5 : Int32) : Option (Rs Int32) :=
  if i4 = 0 then (
    chk (i4 = 0 ∨ i4 = 1) <|
    some (h, .inr i4)
  ) else (
    chk (okS a3) <|
    if (sLen a3) ≤ i5 then (
      chk (i4 = 0 ∨ i4 = 1) <|
      some (h, .inr i4)
    ) else (
      chk (okr h a0 5) <|
      chk (okr h (qR h a0 0) 23) <|
      chk (vp_in (i1 + i5) (qW h (qR h a0 0))) <|
      chk (okS a3) <|
      chk (vp_in i5 (sLn a3)) <|
      if (qI h (qR h a0 0) (Int32.toNatClampNeg (i1 + i5))) = (sCh a3 (Int32.toNatClampNeg i5)) then (
        f_X5_spells_L57 k20 h a0 i1 a3 i5 (iN 1)
      ) else (
        f_X5_spells_L57 k20 h a0 i1 a3 i5 (iN 0)
      )
    )
  )
theorem p_X5_spells_B20 {l : Launch} {K : Ctx} (hl : l.stackTraces = false) {k20 : Hp → Nat → Int32 → Nat → Int32 → Int32 → Option (Rs Int32)} (hk20 : ∀ (h : Hp) (a0 : Nat) (i1 : Int32) (a3 : Nat) (i4 : Int32) (i5 : Int32) (t : Rs Int32), k20 h a0 i1 a3 i4 i5 = some t → X l K mM_X5_spells (tgI t) 20 [(0, .ref a0), (1, .int i1), (3, .ref a3), (4, .int i4), (5, .int i5)] [] h) {h : Hp} {a0 : Nat} {i1 : Int32} {a3 : Nat} {i4 : Int32} {i5 : Int32} {t : Rs Int32} (e : f_X5_spells_B20 k20 h a0 i1 a3 i4 i5 = some t) : X l K mM_X5_spells (tgI t) 20 [(0, .ref a0), (1, .int i1), (3, .ref a3), (4, .int i4), (5, .int i5)] [] h := by
  unfold f_X5_spells_B20 at e
  refine x_iload (pc := 20) 3 dX5_spells_20 rfl ?_
  rcases ite_some e with ⟨q1, e⟩ | ⟨q1, e⟩
  · refine x_if_eq_t (pc := 22) (t := 65) dX5_spells_22 (by decide) q1 ?_
    refine x_iload (pc := 65) 3 dX5_spells_65 rfl ?_
    obtain ⟨q2, e⟩ := chk_some e
    cases Option.some.inj e
    exact x_zret (pc := 67) rfl q2 dX5_spells_67
  · refine x_if_eq_f (pc := 22) (t := 65) dX5_spells_22 (by decide) q1 ?_
    refine x_iload (pc := 25) 4 dX5_spells_25 rfl ?_
    refine x_aload_n (pc := 27) 2 dX5_spells_27 rfl ?_
    obtain ⟨q3, e⟩ := chk_some e
    refine x_strLen (pc := 28) hl q3 tw_4_175 dX5_spells_28 (by decide) (leb rfl) ?_
    rcases ite_some e with ⟨q4, e⟩ | ⟨q4, e⟩
    · refine x_icmp_ge_t (pc := 31) (t := 65) dX5_spells_31 (by decide) q4 ?_
      refine x_iload (pc := 65) 3 dX5_spells_65 rfl ?_
      obtain ⟨q5, e⟩ := chk_some e
      cases Option.some.inj e
      exact x_zret (pc := 67) rfl q5 dX5_spells_67
    · refine x_icmp_ge_f (pc := 31) (t := 65) dX5_spells_31 (by decide) q4 ?_
      refine x_aload_n (pc := 34) 0 dX5_spells_34 rfl ?_
      obtain ⟨q6, e⟩ := chk_some e
      obtain ⟨q7, e⟩ := chk_some e
      refine x_getR (pc := 35) gf_X5_9 rfl dX5_spells_35 q6 q7.1 ?_
      refine x_iload_n (pc := 38) 1 dX5_spells_38 rfl ?_
      refine x_iload (pc := 39) 4 dX5_spells_39 rfl ?_
      refine x_iadd (pc := 41) dX5_spells_41 ?_
      obtain ⟨q8, e⟩ := chk_some e
      refine x_cald (pc := 42) dX5_spells_42 q7 q8 ?_
      refine x_aload_n (pc := 43) 2 dX5_spells_43 rfl ?_
      refine x_iload (pc := 44) 4 dX5_spells_44 rfl ?_
      obtain ⟨q9, e⟩ := chk_some e
      obtain ⟨q10, e⟩ := chk_some e
      refine x_strAt (pc := 46) hl q9 q10 tw_4_185 dX5_spells_46 (by decide) (leb rfl) ?_
      rcases ite_some e with ⟨q11, e⟩ | ⟨q11, e⟩
      · refine x_icmp_ne_f (pc := 49) (t := 56) dX5_spells_49 (by decide) q11 ?_
        refine x_iconst (pc := 52) dX5_spells_52 ?_
        refine x_goto (pc := 53) (t := 57) dX5_spells_53 (by decide) ?_
        exact x_sub1 (p_X5_spells_L57 hl hk20 e) [0, 1, 2, 4] rfl
      · refine x_icmp_ne_t (pc := 49) (t := 56) dX5_spells_49 (by decide) q11 ?_
        refine x_iconst (pc := 56) dX5_spells_56 ?_
        exact x_sub1 (p_X5_spells_L57 hl hk20 e) [0, 1, 2, 4] rfl
noncomputable def f_X5_spells_L20 (n : Nat) : Hp → Nat → Int32 → Nat → Int32 → Int32 → Option (Rs Int32) := Nat.rec (motive := fun _ => Hp → Nat → Int32 → Nat → Int32 → Int32 → Option (Rs Int32)) (fun _ _ _ _ _ _ => none) (fun _ r => f_X5_spells_B20 r) n
theorem p_X5_spells_L20 {l : Launch} {K : Ctx} (hl : l.stackTraces = false) : ∀ (n : Nat) (h : Hp) (a0 : Nat) (i1 : Int32) (a3 : Nat) (i4 : Int32) (i5 : Int32) (t : Rs Int32) (e : f_X5_spells_L20 n h a0 i1 a3 i4 i5 = some t), X l K mM_X5_spells (tgI t) 20 [(0, .ref a0), (1, .int i1), (3, .ref a3), (4, .int i4), (5, .int i5)] [] h := by
  intro n
  induction n with
  | zero => exact fun _ _ _ _ _ _ _ e => nomatch (show (none : Option (Rs Int32)) = some _ from e)
  | succ n ih => exact fun h a0 i1 a3 i4 i5 t e => p_X5_spells_B20 hl (fun h a0 i1 a3 i4 i5 t e => ih h a0 i1 a3 i4 i5 t e) e
noncomputable def f_X5_spells_L15 (h : Hp) (a0 : Nat) (i1 : Int32) (a3 : Nat) (s0 : Int32) : Option (Rs Int32) :=
  f_X5_spells_L20 2000 h a0 i1 a3 s0 (iN 0)
theorem p_X5_spells_L15 {l : Launch} {K : Ctx} (hl : l.stackTraces = false) {h : Hp} {a0 : Nat} {i1 : Int32} {a3 : Nat} {s0 : Int32} {t : Rs Int32} (e : f_X5_spells_L15 h a0 i1 a3 s0 = some t) : X l K mM_X5_spells (tgI t) 15 [(0, .ref a0), (1, .int i1), (3, .ref a3)] [.int s0] h := by
  unfold f_X5_spells_L15 at e
  refine x_istore (pc := 15) dX5_spells_15 (by decide) rfl ?_
  refine x_iconst (pc := 17) dX5_spells_17 ?_
  refine x_istore (pc := 18) dX5_spells_18 (by decide) rfl ?_
  exact x_sub1 (p_X5_spells_L20 hl 2000 _ _ _ _ _ _ _ e) [2, 3, 4, 1, 0] rfl
noncomputable def f_X5_spells (h : Hp) (a0 : Nat) (i1 : Int32) (i2 : Int32) (a3 : Nat) : Option (Rs Int32) :=
  chk (okS a3) <|
  if (i2 - i1) = (sLen a3) then (
    f_X5_spells_L15 h a0 i1 a3 (iN 1)
  ) else (
    f_X5_spells_L15 h a0 i1 a3 (iN 0)
  )
theorem p_X5_spells {l : Launch} {K : Ctx} (hl : l.stackTraces = false) {h : Hp} {a0 : Nat} {i1 : Int32} {i2 : Int32} {a3 : Nat} {t : Rs Int32} (e : f_X5_spells h a0 i1 i2 a3 = some t) : X l K mM_X5_spells (tgI t) 0 [(0, .ref a0), (1, .int i1), (2, .int i2), (3, .ref a3)] [] h := by
  unfold f_X5_spells at e
  refine x_iload_n (pc := 0) 2 dX5_spells_0 rfl ?_
  refine x_iload_n (pc := 1) 1 dX5_spells_1 rfl ?_
  refine x_isub (pc := 2) dX5_spells_2 ?_
  refine x_aload_n (pc := 3) 3 dX5_spells_3 rfl ?_
  obtain ⟨q1, e⟩ := chk_some e
  refine x_strLen (pc := 4) hl q1 tw_4_175 dX5_spells_4 (by decide) (leb rfl) ?_
  rcases ite_some e with ⟨q2, e⟩ | ⟨q2, e⟩
  · refine x_icmp_ne_f (pc := 7) (t := 14) dX5_spells_7 (by decide) q2 ?_
    refine x_iconst (pc := 10) dX5_spells_10 ?_
    refine x_goto (pc := 11) (t := 15) dX5_spells_11 (by decide) ?_
    exact x_sub1 (p_X5_spells_L15 hl e) [0, 1, 3] rfl
  · refine x_icmp_ne_t (pc := 7) (t := 14) dX5_spells_7 (by decide) q2 ?_
    refine x_iconst (pc := 14) dX5_spells_14 ?_
    exact x_sub1 (p_X5_spells_L15 hl e) [0, 1, 3] rfl
abbrev w_X5_spells : Cond := (Cond.code yX5_spells cX5_spells 6 (Option.some Jvm.ClassFile.FieldType.boolean))
theorem mf_X5_spells : MF yX5_spells w_X5_spells cX5_spells 6 (Option.some Jvm.ClassFile.FieldType.boolean) 3 := ⟨⟨rfl, tw_4_174, by decide⟩, tw_1_7, ⟨by decide, by decide⟩, by decide +kernel⟩
theorem c_X5_spells {l : Launch} {K : Ctx} (hl : l.stackTraces = false) {h : Hp} {a0 : Nat} {i1 : Int32} {i2 : Int32} {a3 : Nat} {t : Rs Int32} (e : f_X5_spells h a0 i1 i2 a3 = some t) : Ctr l K 12 yX5_spells w_X5_spells [.ref a0, .int i1, .int i2, .ref a3] h (tgI t) :=
  Ctr.of hl mf_X5_spells false (fun q => nomatch q) rfl (leb rfl) (p_X5_spells hl e)
/-! ## TableColumnBalancer$Script.demand -/
abbrev mM_X5_demand : Mi := (8, yX5_demand.cls, cX5_demand, 3, (Option.none : Option Jvm.ClassFile.FieldType), [], false)
noncomputable def f_X5_demand (h : Hp) (a0 : Nat) (i1 : Int32) (i2 : Int32) : Option (Rs Unit) :=
  if i1 = 0 then (
    chk (okr h a0 5) <|
    lt (putI h a0 4 i2) fun h3 =>
    some (bump h3, .inl 1)
  ) else (
    some (h, .inr ())
  )
theorem p_X5_demand {l : Launch} {K : Ctx} (hl : l.stackTraces = false) {h : Hp} {a0 : Nat} {i1 : Int32} {i2 : Int32} {t : Rs Unit} (e : f_X5_demand h a0 i1 i2 = some t) : X l K mM_X5_demand (tgV t) 0 [(0, .ref a0), (1, .int i1), (2, .int i2)] [] h := by
  unfold f_X5_demand at e
  refine x_iload_n (pc := 0) 1 dX5_demand_0 rfl ?_
  rcases ite_some e with ⟨q1, e⟩ | ⟨q1, e⟩
  · refine x_if_ne_f (pc := 1) (t := 17) dX5_demand_1 (by decide) q1 ?_
    refine x_aload_n (pc := 4) 0 dX5_demand_4 rfl ?_
    refine x_iload_n (pc := 5) 2 dX5_demand_5 rfl ?_
    obtain ⟨q2, e⟩ := chk_some e
    replace e := lt_go e
    refine x_putI (pc := 6) pf_X5_15 rfl rfl rfl dX5_demand_6 q2 ?_
    cases Option.some.inj e
    exact x_throw (pc := 9) (ic := 196) rfl tw_4_235 tw_1_15 th_X5_196 (by decide) tg_X5_196 dX5_demand_9 dX5_demand_12 dX5_demand_13 dX5_demand_16 (by decide) (leb rfl)
  · refine x_if_ne_t (pc := 1) (t := 17) dX5_demand_1 (by decide) q1 ?_
    cases Option.some.inj e
    exact x_vret (pc := 17) rfl dX5_demand_17
abbrev w_X5_demand : Cond := (Cond.code yX5_demand cX5_demand 3 (Option.none : Option Jvm.ClassFile.FieldType))
theorem mf_X5_demand : MF yX5_demand w_X5_demand cX5_demand 3 (Option.none : Option Jvm.ClassFile.FieldType) 2 := ⟨⟨rfl, tw_4_234, by decide⟩, tw_1_7, ⟨by decide, by decide⟩, by decide +kernel⟩
theorem c_X5_demand {l : Launch} {K : Ctx} (hl : l.stackTraces = false) {h : Hp} {a0 : Nat} {i1 : Int32} {i2 : Int32} {t : Rs Unit} (e : f_X5_demand h a0 i1 i2 = some t) : Ctr l K 8 yX5_demand w_X5_demand [.ref a0, .int i1, .int i2] h (tgV t) :=
  Ctr.of hl mf_X5_demand false (fun q => nomatch q) rfl (leb rfl) (p_X5_demand hl e)
/-! ## TableColumnBalancer$Script.skip -/
abbrev mM_X5_skip : Mi := (9, yX5_skip.cls, cX5_skip, 2, (Option.none : Option Jvm.ClassFile.FieldType), [], false)
noncomputable def f_X5_skip_L30 (h : Hp) (a0 : Nat) (s0 : Int32) (s1 : Nat) : Option (Rs Unit) :=
  chk (okr h a0 5) <|
  chk (okr h s1 5) <|
  bnd (f_X5_demand h s1 s0 (qI h a0 3)) fun h3 _ =>
  chk (okr h3 a0 5) <|
  lt (putI h3 a0 3 ((qI h3 a0 3) + (iN 1))) fun h6 =>
  some (h6, .inr ())
theorem p_X5_skip_L30 {l : Launch} {K : Ctx} (hl : l.stackTraces = false) {h : Hp} {a0 : Nat} {s0 : Int32} {s1 : Nat} {t : Rs Unit} (e : f_X5_skip_L30 h a0 s0 s1 = some t) : X l K mM_X5_skip (tgV t) 30 [(0, .ref a0)] [.int s0, .ref s1] h := by
  unfold f_X5_skip_L30 at e
  refine x_aload_n (pc := 30) 0 dX5_skip_30 rfl ?_
  obtain ⟨q1, e⟩ := chk_some e
  refine x_getI (pc := 31) gf_X5_36 rfl dX5_skip_31 q1 ?_
  obtain ⟨q2, e⟩ := chk_some e
  rcases bnd_some e with ⟨h3, r4, ec, rfl⟩ | ⟨h3, r4, ec, e⟩
  · exact y_callV_x (pc := 34) (c_X5_demand hl ec) q2 mf_X5_demand tw_4_233 ts_4_11 lf_X5_93 rfl rfl dX5_skip_34 (by decide) rfl rfl (leb rfl) (xx_out0 rfl)
  refine y_callV_v (pc := 34) (c_X5_demand hl ec) q2 mf_X5_demand tw_4_233 ts_4_11 lf_X5_93 rfl rfl dX5_skip_34 (by decide) rfl rfl (leb rfl) ?_
  refine x_aload_n (pc := 37) 0 dX5_skip_37 rfl ?_
  refine x_dup (pc := 38) dX5_skip_38 rfl ?_
  obtain ⟨q5, e⟩ := chk_some e
  refine x_getI (pc := 39) gf_X5_36 rfl dX5_skip_39 q5 ?_
  refine x_iconst (pc := 42) dX5_skip_42 ?_
  refine x_iadd (pc := 43) dX5_skip_43 ?_
  replace e := lt_go e
  refine x_putI (pc := 44) pf_X5_36 rfl rfl rfl dX5_skip_44 q5 ?_
  cases Option.some.inj e
  exact x_vret (pc := 47) rfl dX5_skip_47
noncomputable def f_X5_skip_L29 (h : Hp) (a0 : Nat) (s0 : Nat) : Option (Rs Unit) :=
  f_X5_skip_L30 h a0 (iN 0) s0
theorem p_X5_skip_L29 {l : Launch} {K : Ctx} (hl : l.stackTraces = false) {h : Hp} {a0 : Nat} {s0 : Nat} {t : Rs Unit} (e : f_X5_skip_L29 h a0 s0 = some t) : X l K mM_X5_skip (tgV t) 29 [(0, .ref a0)] [.ref s0] h := by
  unfold f_X5_skip_L29 at e
  refine x_iconst (pc := 29) dX5_skip_29 ?_
  exact p_X5_skip_L30 hl e
noncomputable def f_X5_skip (h : Hp) (a0 : Nat) (i1 : Int32) : Option (Rs Unit) :=
  chk (okr h a0 5) <|
  if (qI h a0 2) ≤ (qI h a0 3) then (
    f_X5_skip_L29 h a0 a0
  ) else (
    chk (okr h (qR h a0 0) 23) <|
    chk (vp_in (qI h a0 3) (qW h (qR h a0 0))) <|
    if (qI h (qR h a0 0) (Int32.toNatClampNeg (qI h a0 3))) = i1 then (
      f_X5_skip_L30 h a0 (iN 1) a0
    ) else (
      f_X5_skip_L29 h a0 a0
    )
  )
theorem p_X5_skip {l : Launch} {K : Ctx} (hl : l.stackTraces = false) {h : Hp} {a0 : Nat} {i1 : Int32} {t : Rs Unit} (e : f_X5_skip h a0 i1 = some t) : X l K mM_X5_skip (tgV t) 0 [(0, .ref a0), (1, .int i1)] [] h := by
  unfold f_X5_skip at e
  refine x_aload_n (pc := 0) 0 dX5_skip_0 rfl ?_
  refine x_aload_n (pc := 1) 0 dX5_skip_1 rfl ?_
  obtain ⟨q1, e⟩ := chk_some e
  refine x_getI (pc := 2) gf_X5_36 rfl dX5_skip_2 q1 ?_
  refine x_aload_n (pc := 5) 0 dX5_skip_5 rfl ?_
  refine x_getI (pc := 6) gf_X5_33 rfl dX5_skip_6 q1 ?_
  rcases ite_some e with ⟨q2, e⟩ | ⟨q2, e⟩
  · refine x_icmp_ge_t (pc := 9) (t := 29) dX5_skip_9 (by decide) q2 ?_
    exact x_sub1 (p_X5_skip_L29 hl e) [0] rfl
  · refine x_icmp_ge_f (pc := 9) (t := 29) dX5_skip_9 (by decide) q2 ?_
    refine x_aload_n (pc := 12) 0 dX5_skip_12 rfl ?_
    obtain ⟨q3, e⟩ := chk_some e
    refine x_getR (pc := 13) gf_X5_9 rfl dX5_skip_13 q1 q3.1 ?_
    refine x_aload_n (pc := 16) 0 dX5_skip_16 rfl ?_
    refine x_getI (pc := 17) gf_X5_36 rfl dX5_skip_17 q1 ?_
    obtain ⟨q4, e⟩ := chk_some e
    refine x_cald (pc := 20) dX5_skip_20 q3 q4 ?_
    refine x_iload_n (pc := 21) 1 dX5_skip_21 rfl ?_
    rcases ite_some e with ⟨q5, e⟩ | ⟨q5, e⟩
    · refine x_icmp_ne_f (pc := 22) (t := 29) dX5_skip_22 (by decide) q5 ?_
      refine x_iconst (pc := 25) dX5_skip_25 ?_
      refine x_goto (pc := 26) (t := 30) dX5_skip_26 (by decide) ?_
      exact x_sub1 (p_X5_skip_L30 hl e) [0] rfl
    · refine x_icmp_ne_t (pc := 22) (t := 29) dX5_skip_22 (by decide) q5 ?_
      exact x_sub1 (p_X5_skip_L29 hl e) [0] rfl
abbrev w_X5_skip : Cond := (Cond.code yX5_skip cX5_skip 2 (Option.none : Option Jvm.ClassFile.FieldType))
theorem mf_X5_skip : MF yX5_skip w_X5_skip cX5_skip 2 (Option.none : Option Jvm.ClassFile.FieldType) 1 := ⟨⟨rfl, tw_4_230, by decide⟩, tw_1_7, ⟨by decide, by decide⟩, by decide +kernel⟩
theorem c_X5_skip {l : Launch} {K : Ctx} (hl : l.stackTraces = false) {h : Hp} {a0 : Nat} {i1 : Int32} {t : Rs Unit} (e : f_X5_skip h a0 i1 = some t) : Ctr l K 9 yX5_skip w_X5_skip [.ref a0, .int i1] h (tgV t) :=
  Ctr.of hl mf_X5_skip false (fun q => nomatch q) rfl (leb rfl) (p_X5_skip hl e)
/-! ## TableColumnBalancer$Script.isDigitAt -/
abbrev mM_X5_isDigitAt : Mi := (8, yX5_isDigitAt.cls, cX5_isDigitAt, 2, (Option.some Jvm.ClassFile.FieldType.boolean), [], false)
noncomputable def f_X5_isDigitAt (h : Hp) (a0 : Nat) (i1 : Int32) : Option (Rs Int32) :=
  chk (okr h a0 5) <|
  if (qI h a0 2) ≤ i1 then (
    some (h, .inr (iN 0))
  ) else (
    chk (okr h (qR h a0 0) 23) <|
    chk (vp_in i1 (qW h (qR h a0 0))) <|
    if (qI h (qR h a0 0) (Int32.toNatClampNeg i1)) < (iN 48) then (
      some (h, .inr (iN 0))
    ) else (
      if (iN 57) < (qI h (qR h a0 0) (Int32.toNatClampNeg i1)) then (
        some (h, .inr (iN 0))
      ) else (
        some (h, .inr (iN 1))
      )
    )
  )
theorem p_X5_isDigitAt {l : Launch} {K : Ctx} (hl : l.stackTraces = false) {h : Hp} {a0 : Nat} {i1 : Int32} {t : Rs Int32} (e : f_X5_isDigitAt h a0 i1 = some t) : X l K mM_X5_isDigitAt (tgI t) 0 [(0, .ref a0), (1, .int i1)] [] h := by
  unfold f_X5_isDigitAt at e
  refine x_iload_n (pc := 0) 1 dX5_isDigitAt_0 rfl ?_
  refine x_aload_n (pc := 1) 0 dX5_isDigitAt_1 rfl ?_
  obtain ⟨q1, e⟩ := chk_some e
  refine x_getI (pc := 2) gf_X5_33 rfl dX5_isDigitAt_2 q1 ?_
  rcases ite_some e with ⟨q2, e⟩ | ⟨q2, e⟩
  · refine x_icmp_ge_t (pc := 5) (t := 34) dX5_isDigitAt_5 (by decide) q2 ?_
    refine x_iconst (pc := 34) dX5_isDigitAt_34 ?_
    cases Option.some.inj e
    exact x_zret (pc := 35) rfl (Or.inl rfl) dX5_isDigitAt_35
  · refine x_icmp_ge_f (pc := 5) (t := 34) dX5_isDigitAt_5 (by decide) q2 ?_
    refine x_aload_n (pc := 8) 0 dX5_isDigitAt_8 rfl ?_
    obtain ⟨q3, e⟩ := chk_some e
    refine x_getR (pc := 9) gf_X5_9 rfl dX5_isDigitAt_9 q1 q3.1 ?_
    refine x_iload_n (pc := 12) 1 dX5_isDigitAt_12 rfl ?_
    obtain ⟨q4, e⟩ := chk_some e
    refine x_cald (pc := 13) dX5_isDigitAt_13 q3 q4 ?_
    refine x_bipush (pc := 14) (v := iN 48) dX5_isDigitAt_14 rfl ?_
    rcases ite_some e with ⟨q5, e⟩ | ⟨q5, e⟩
    · refine x_icmp_lt_t (pc := 16) (t := 34) dX5_isDigitAt_16 (by decide) q5 ?_
      refine x_iconst (pc := 34) dX5_isDigitAt_34 ?_
      cases Option.some.inj e
      exact x_zret (pc := 35) rfl (Or.inl rfl) dX5_isDigitAt_35
    · refine x_icmp_lt_f (pc := 16) (t := 34) dX5_isDigitAt_16 (by decide) q5 ?_
      refine x_aload_n (pc := 19) 0 dX5_isDigitAt_19 rfl ?_
      refine x_getR (pc := 20) gf_X5_9 rfl dX5_isDigitAt_20 q1 q3.1 ?_
      refine x_iload_n (pc := 23) 1 dX5_isDigitAt_23 rfl ?_
      refine x_cald (pc := 24) dX5_isDigitAt_24 q3 q4 ?_
      refine x_bipush (pc := 25) (v := iN 57) dX5_isDigitAt_25 rfl ?_
      rcases ite_some e with ⟨q6, e⟩ | ⟨q6, e⟩
      · refine x_icmp_gt_t (pc := 27) (t := 34) dX5_isDigitAt_27 (by decide) q6 ?_
        refine x_iconst (pc := 34) dX5_isDigitAt_34 ?_
        cases Option.some.inj e
        exact x_zret (pc := 35) rfl (Or.inl rfl) dX5_isDigitAt_35
      · refine x_icmp_gt_f (pc := 27) (t := 34) dX5_isDigitAt_27 (by decide) q6 ?_
        refine x_iconst (pc := 30) dX5_isDigitAt_30 ?_
        refine x_goto (pc := 31) (t := 35) dX5_isDigitAt_31 (by decide) ?_
        cases Option.some.inj e
        exact x_zret (pc := 35) rfl (Or.inr rfl) dX5_isDigitAt_35
abbrev w_X5_isDigitAt : Cond := (Cond.code yX5_isDigitAt cX5_isDigitAt 2 (Option.some Jvm.ClassFile.FieldType.boolean))
theorem mf_X5_isDigitAt : MF yX5_isDigitAt w_X5_isDigitAt cX5_isDigitAt 2 (Option.some Jvm.ClassFile.FieldType.boolean) 1 := ⟨⟨rfl, tw_5_8, by decide⟩, tw_1_7, ⟨by decide, by decide⟩, by decide +kernel⟩
theorem c_X5_isDigitAt {l : Launch} {K : Ctx} (hl : l.stackTraces = false) {h : Hp} {a0 : Nat} {i1 : Int32} {t : Rs Int32} (e : f_X5_isDigitAt h a0 i1 = some t) : Ctr l K 8 yX5_isDigitAt w_X5_isDigitAt [.ref a0, .int i1] h (tgI t) :=
  Ctr.of hl mf_X5_isDigitAt false (fun q => nomatch q) rfl (leb rfl) (p_X5_isDigitAt hl e)
/-! ## TableColumnBalancer$Script.readDigit -/
abbrev mM_X5_readDigit : Mi := (9, yX5_readDigit.cls, cX5_readDigit, 2, (Option.some Jvm.ClassFile.FieldType.int), [], false)
noncomputable def f_X5_readDigit_L43 (h : Hp) (a0 : Nat) (s0 : Int32) : Option (Rs Int32) :=
  chk (okr h a0 5) <|
  lt (putI h a0 3 ((qI h a0 3) + (iN 1))) fun h2 =>
  some (h2, .inr s0)
theorem p_X5_readDigit_L43 {l : Launch} {K : Ctx} (hl : l.stackTraces = false) {h : Hp} {a0 : Nat} {s0 : Int32} {t : Rs Int32} (e : f_X5_readDigit_L43 h a0 s0 = some t) : X l K mM_X5_readDigit (tgI t) 43 [(0, .ref a0)] [.int s0] h := by
  unfold f_X5_readDigit_L43 at e
  refine x_istore_n (pc := 43) dX5_readDigit_43 (by decide) rfl ?_
  refine x_aload_n (pc := 44) 1 dX5_readDigit_44 rfl ?_
  refine x_dup (pc := 45) dX5_readDigit_45 rfl ?_
  obtain ⟨q1, e⟩ := chk_some e
  refine x_getI (pc := 46) gf_X5_36 rfl dX5_readDigit_46 q1 ?_
  refine x_iconst (pc := 49) dX5_readDigit_49 ?_
  refine x_iadd (pc := 50) dX5_readDigit_50 ?_
  replace e := lt_go e
  refine x_putI (pc := 51) pf_X5_36 rfl rfl rfl dX5_readDigit_51 q1 ?_
  refine x_iload_n (pc := 54) 0 dX5_readDigit_54 rfl ?_
  cases Option.some.inj e
  exact x_iret (pc := 55) rfl dX5_readDigit_55
noncomputable def f_X5_readDigit (h : Hp) (a0 : Nat) : Option (Rs Int32) :=
  chk (okr h a0 5) <|
  bnd (f_X5_isDigitAt h a0 (qI h a0 3)) fun h2 r3 =>
  chk (okr h2 a0 5) <|
  bnd (f_X5_demand h2 a0 r3 (qI h2 a0 3)) fun h5 _ =>
  chk (okr h5 a0 5) <|
  if (qI h5 a0 2) ≤ (qI h5 a0 3) then (
    f_X5_readDigit_L43 h5 a0 (iN 0)
  ) else (
    chk (okr h5 (qR h5 a0 0) 23) <|
    chk (vp_in (qI h5 a0 3) (qW h5 (qR h5 a0 0))) <|
    f_X5_readDigit_L43 h5 a0 ((qI h5 (qR h5 a0 0) (Int32.toNatClampNeg (qI h5 a0 3))) - (iN 48))
  )
theorem p_X5_readDigit {l : Launch} {K : Ctx} (hl : l.stackTraces = false) {h : Hp} {a0 : Nat} {t : Rs Int32} (e : f_X5_readDigit h a0 = some t) : X l K mM_X5_readDigit (tgI t) 0 [(0, .ref a0)] [] h := by
  unfold f_X5_readDigit at e
  refine x_aload_n (pc := 0) 0 dX5_readDigit_0 rfl ?_
  refine x_aload_n (pc := 1) 0 dX5_readDigit_1 rfl ?_
  refine x_aload_n (pc := 2) 0 dX5_readDigit_2 rfl ?_
  obtain ⟨q1, e⟩ := chk_some e
  refine x_getI (pc := 3) gf_X5_36 rfl dX5_readDigit_3 q1 ?_
  rcases bnd_some e with ⟨h2, r3, ec, rfl⟩ | ⟨h2, r3, ec, e⟩
  · exact y_callV_x (pc := 6) (c_X5_isDigitAt hl ec) q1 mf_X5_isDigitAt tw_5_7 ts_4_14 lf_X5_180 rfl rfl dX5_readDigit_6 (by decide) rfl rfl (leb rfl) (xx_out0 rfl)
  refine y_callV_i (pc := 6) (c_X5_isDigitAt hl ec) q1 mf_X5_isDigitAt tw_5_7 ts_4_14 lf_X5_180 rfl rfl dX5_readDigit_6 (by decide) rfl rfl (leb rfl) ?_
  refine x_aload_n (pc := 9) 0 dX5_readDigit_9 rfl ?_
  obtain ⟨q4, e⟩ := chk_some e
  refine x_getI (pc := 10) gf_X5_36 rfl dX5_readDigit_10 q4 ?_
  rcases bnd_some e with ⟨h5, r6, ec, rfl⟩ | ⟨h5, r6, ec, e⟩
  · exact y_callV_x (pc := 13) (c_X5_demand hl ec) q4 mf_X5_demand tw_4_233 ts_4_11 lf_X5_93 rfl rfl dX5_readDigit_13 (by decide) rfl rfl (leb rfl) (xx_out0 rfl)
  refine y_callV_v (pc := 13) (c_X5_demand hl ec) q4 mf_X5_demand tw_4_233 ts_4_11 lf_X5_93 rfl rfl dX5_readDigit_13 (by decide) rfl rfl (leb rfl) ?_
  refine x_aload_n (pc := 16) 0 dX5_readDigit_16 rfl ?_
  obtain ⟨q7, e⟩ := chk_some e
  refine x_getI (pc := 17) gf_X5_36 rfl dX5_readDigit_17 q7 ?_
  refine x_aload_n (pc := 20) 0 dX5_readDigit_20 rfl ?_
  refine x_getI (pc := 21) gf_X5_33 rfl dX5_readDigit_21 q7 ?_
  rcases ite_some e with ⟨q8, e⟩ | ⟨q8, e⟩
  · refine x_icmp_ge_t (pc := 24) (t := 42) dX5_readDigit_24 (by decide) q8 ?_
    refine x_iconst (pc := 42) dX5_readDigit_42 ?_
    exact p_X5_readDigit_L43 hl e
  · refine x_icmp_ge_f (pc := 24) (t := 42) dX5_readDigit_24 (by decide) q8 ?_
    refine x_aload_n (pc := 27) 0 dX5_readDigit_27 rfl ?_
    obtain ⟨q9, e⟩ := chk_some e
    refine x_getR (pc := 28) gf_X5_9 rfl dX5_readDigit_28 q7 q9.1 ?_
    refine x_aload_n (pc := 31) 0 dX5_readDigit_31 rfl ?_
    refine x_getI (pc := 32) gf_X5_36 rfl dX5_readDigit_32 q7 ?_
    obtain ⟨q10, e⟩ := chk_some e
    refine x_cald (pc := 35) dX5_readDigit_35 q9 q10 ?_
    refine x_bipush (pc := 36) (v := iN 48) dX5_readDigit_36 rfl ?_
    refine x_isub (pc := 38) dX5_readDigit_38 ?_
    refine x_goto (pc := 39) (t := 43) dX5_readDigit_39 (by decide) ?_
    exact p_X5_readDigit_L43 hl e
abbrev w_X5_readDigit : Cond := (Cond.code yX5_readDigit cX5_readDigit 2 (Option.some Jvm.ClassFile.FieldType.int))
theorem mf_X5_readDigit : MF yX5_readDigit w_X5_readDigit cX5_readDigit 2 (Option.some Jvm.ClassFile.FieldType.int) 0 := ⟨⟨rfl, tw_5_4, by decide⟩, tw_1_7, ⟨by decide, by decide⟩, by decide +kernel⟩
theorem c_X5_readDigit {l : Launch} {K : Ctx} (hl : l.stackTraces = false) {h : Hp} {a0 : Nat} {t : Rs Int32} (e : f_X5_readDigit h a0 = some t) : Ctr l K 9 yX5_readDigit w_X5_readDigit [.ref a0] h (tgI t) :=
  Ctr.of hl mf_X5_readDigit false (fun q => nomatch q) rfl (leb rfl) (p_X5_readDigit hl e)
/-! ## TableColumnBalancer$Script.readNumber -/
abbrev mM_X5_readNumber : Mi := (10, yX5_readNumber.cls, cX5_readNumber, 5, (Option.some Jvm.ClassFile.FieldType.int), [], false)
noncomputable def f_X5_readNumber_L39 (h : Hp) (a0 : Nat) (i1 : Int32) (i2 : Int32) (i3 : Int32) (i4 : Int32) : Option (Rs Int32) :=
  bnd (f_X8_isWithin h i4 i1 i2) fun h1 r2 =>
  chk (okr h1 a0 5) <|
  bnd (f_X5_demand h1 a0 r2 i3) fun h4 _ =>
  some (h4, .inr i4)
theorem p_X5_readNumber_L39 {l : Launch} {K : Ctx} (hl : l.stackTraces = false) {h : Hp} {a0 : Nat} {i1 : Int32} {i2 : Int32} {i3 : Int32} {i4 : Int32} {t : Rs Int32} (e : f_X5_readNumber_L39 h a0 i1 i2 i3 i4 = some t) : X l K mM_X5_readNumber (tgI t) 39 [(0, .ref a0), (1, .int i1), (2, .int i2), (3, .int i3), (4, .int i4)] [] h := by
  unfold f_X5_readNumber_L39 at e
  refine x_aload_n (pc := 39) 0 dX5_readNumber_39 rfl ?_
  refine x_iload (pc := 40) 4 dX5_readNumber_40 rfl ?_
  refine x_iload_n (pc := 42) 1 dX5_readNumber_42 rfl ?_
  refine x_iload_n (pc := 43) 2 dX5_readNumber_43 rfl ?_
  rcases bnd_some e with ⟨h1, r2, ec, rfl⟩ | ⟨h1, r2, ec, e⟩
  · exact y_callS_x (pc := 44) (c_X8_isWithin hl ec) mf_X8_isWithin tw_3_26 lf_X5_183 dX5_readNumber_44 (by decide) rfl rfl (leb rfl) (xx_out0 rfl)
  refine y_callS_i (pc := 44) (c_X8_isWithin hl ec) mf_X8_isWithin tw_3_26 lf_X5_183 dX5_readNumber_44 (by decide) rfl rfl (leb rfl) ?_
  refine x_iload_n (pc := 47) 3 dX5_readNumber_47 rfl ?_
  obtain ⟨q3, e⟩ := chk_some e
  rcases bnd_some e with ⟨h4, r5, ec, rfl⟩ | ⟨h4, r5, ec, e⟩
  · exact y_callV_x (pc := 48) (c_X5_demand hl ec) q3 mf_X5_demand tw_4_233 ts_4_11 lf_X5_93 rfl rfl dX5_readNumber_48 (by decide) rfl rfl (leb rfl) (xx_out0 rfl)
  refine y_callV_v (pc := 48) (c_X5_demand hl ec) q3 mf_X5_demand tw_4_233 ts_4_11 lf_X5_93 rfl rfl dX5_readNumber_48 (by decide) rfl rfl (leb rfl) ?_
  refine x_iload (pc := 51) 4 dX5_readNumber_51 rfl ?_
  cases Option.some.inj e
  exact x_iret (pc := 53) rfl dX5_readNumber_53
noncomputable def f_X5_readNumber (h : Hp) (a0 : Nat) (i1 : Int32) (i2 : Int32) : Option (Rs Int32) :=
  chk (okr h a0 5) <|
  bnd (f_X5_readDigit h a0) fun h2 r3 =>
  if r3 ≤ 0 then (
    f_X5_readNumber_L39 h2 a0 i1 i2 (qI h a0 3) r3
  ) else (
    chk (okr h2 a0 5) <|
    bnd (f_X5_isDigitAt h2 a0 (qI h2 a0 3)) fun h6 r7 =>
    if r7 = 0 then (
      f_X5_readNumber_L39 h6 a0 i1 i2 (qI h a0 3) r3
    ) else (
      chk (okr h6 a0 5) <|
      bnd (f_X5_readDigit h6 a0) fun h10 r11 =>
      f_X5_readNumber_L39 h10 a0 i1 i2 (qI h a0 3) (((iN 10) * r3) + r11)
    )
  )
theorem p_X5_readNumber {l : Launch} {K : Ctx} (hl : l.stackTraces = false) {h : Hp} {a0 : Nat} {i1 : Int32} {i2 : Int32} {t : Rs Int32} (e : f_X5_readNumber h a0 i1 i2 = some t) : X l K mM_X5_readNumber (tgI t) 0 [(0, .ref a0), (1, .int i1), (2, .int i2)] [] h := by
  unfold f_X5_readNumber at e
  refine x_aload_n (pc := 0) 0 dX5_readNumber_0 rfl ?_
  obtain ⟨q1, e⟩ := chk_some e
  refine x_getI (pc := 1) gf_X5_36 rfl dX5_readNumber_1 q1 ?_
  refine x_istore_n (pc := 4) dX5_readNumber_4 (by decide) rfl ?_
  refine x_aload_n (pc := 5) 1 dX5_readNumber_5 rfl ?_
  rcases bnd_some e with ⟨h2, r3, ec, rfl⟩ | ⟨h2, r3, ec, e⟩
  · exact y_callV_x (pc := 6) (c_X5_readDigit hl ec) q1 mf_X5_readDigit tw_5_3 ts_4_13 lf_X5_166 rfl rfl dX5_readNumber_6 (by decide) rfl rfl (leb rfl) (xx_out0 rfl)
  refine y_callV_i (pc := 6) (c_X5_readDigit hl ec) q1 mf_X5_readDigit tw_5_3 ts_4_13 lf_X5_166 rfl rfl dX5_readNumber_6 (by decide) rfl rfl (leb rfl) ?_
  refine x_istore (pc := 9) dX5_readNumber_9 (by decide) rfl ?_
  refine x_iload (pc := 11) 0 dX5_readNumber_11 rfl ?_
  rcases ite_some e with ⟨q4, e⟩ | ⟨q4, e⟩
  · refine x_if_le_t (pc := 13) (t := 39) dX5_readNumber_13 (by decide) q4 ?_
    exact x_sub1 (p_X5_readNumber_L39 hl e) [2, 3, 4, 1, 0] rfl
  · refine x_if_le_f (pc := 13) (t := 39) dX5_readNumber_13 (by decide) q4 ?_
    refine x_aload_n (pc := 16) 2 dX5_readNumber_16 rfl ?_
    refine x_aload_n (pc := 17) 2 dX5_readNumber_17 rfl ?_
    obtain ⟨q5, e⟩ := chk_some e
    refine x_getI (pc := 18) gf_X5_36 rfl dX5_readNumber_18 q5 ?_
    rcases bnd_some e with ⟨h6, r7, ec, rfl⟩ | ⟨h6, r7, ec, e⟩
    · exact y_callV_x (pc := 21) (c_X5_isDigitAt hl ec) q5 mf_X5_isDigitAt tw_5_7 ts_4_14 lf_X5_180 rfl rfl dX5_readNumber_21 (by decide) rfl rfl (leb rfl) (xx_out0 rfl)
    refine y_callV_i (pc := 21) (c_X5_isDigitAt hl ec) q5 mf_X5_isDigitAt tw_5_7 ts_4_14 lf_X5_180 rfl rfl dX5_readNumber_21 (by decide) rfl rfl (leb rfl) ?_
    rcases ite_some e with ⟨q8, e⟩ | ⟨q8, e⟩
    · refine x_if_eq_t (pc := 24) (t := 39) dX5_readNumber_24 (by decide) q8 ?_
      exact x_sub1 (p_X5_readNumber_L39 hl e) [2, 3, 4, 1, 0] rfl
    · refine x_if_eq_f (pc := 24) (t := 39) dX5_readNumber_24 (by decide) q8 ?_
      refine x_bipush (pc := 27) (v := iN 10) dX5_readNumber_27 rfl ?_
      refine x_iload (pc := 29) 0 dX5_readNumber_29 rfl ?_
      refine x_imul (pc := 31) dX5_readNumber_31 ?_
      refine x_aload_n (pc := 32) 2 dX5_readNumber_32 rfl ?_
      obtain ⟨q9, e⟩ := chk_some e
      rcases bnd_some e with ⟨h10, r11, ec, rfl⟩ | ⟨h10, r11, ec, e⟩
      · exact y_callV_x (pc := 33) (c_X5_readDigit hl ec) q9 mf_X5_readDigit tw_5_3 ts_4_13 lf_X5_166 rfl rfl dX5_readNumber_33 (by decide) rfl rfl (leb rfl) (xx_out0 rfl)
      refine y_callV_i (pc := 33) (c_X5_readDigit hl ec) q9 mf_X5_readDigit tw_5_3 ts_4_13 lf_X5_166 rfl rfl dX5_readNumber_33 (by decide) rfl rfl (leb rfl) ?_
      refine x_iadd (pc := 36) dX5_readNumber_36 ?_
      refine x_istore (pc := 37) dX5_readNumber_37 (by decide) rfl ?_
      exact x_sub1 (p_X5_readNumber_L39 hl e) [2, 3, 4, 1, 0] rfl
abbrev w_X5_readNumber : Cond := (Cond.code yX5_readNumber cX5_readNumber 5 (Option.some Jvm.ClassFile.FieldType.int))
theorem mf_X5_readNumber : MF yX5_readNumber w_X5_readNumber cX5_readNumber 5 (Option.some Jvm.ClassFile.FieldType.int) 2 := ⟨⟨rfl, tw_5_0, by decide⟩, tw_1_7, ⟨by decide, by decide⟩, by decide +kernel⟩
theorem c_X5_readNumber {l : Launch} {K : Ctx} (hl : l.stackTraces = false) {h : Hp} {a0 : Nat} {i1 : Int32} {i2 : Int32} {t : Rs Int32} (e : f_X5_readNumber h a0 i1 i2 = some t) : Ctr l K 10 yX5_readNumber w_X5_readNumber [.ref a0, .int i1, .int i2] h (tgI t) :=
  Ctr.of hl mf_X5_readNumber false (fun q => nomatch q) rfl (leb rfl) (p_X5_readNumber hl e)
/-! ## TableColumnBalancer$Script.readMeasure -/
abbrev mM_X5_readMeasure : Mi := (11, yX5_readMeasure.cls, cX5_readMeasure, 4, (Option.some Jvm.ClassFile.FieldType.int), [], false)
noncomputable def f_X5_readMeasure (h : Hp) (a0 : Nat) (i1 : Int32) (i2 : Int32) : Option (Rs Int32) :=
  chk (okr h a0 5) <|
  bnd (f_X5_skip h a0 (iN 61)) fun h2 _ =>
  chk (okr h2 a0 5) <|
  bnd (f_X5_readNumber h2 a0 i1 i2) fun h5 r6 =>
  chk (okr h5 a0 5) <|
  bnd (f_X5_skip h5 a0 (iN 59)) fun h8 _ =>
  some (h8, .inr r6)
theorem p_X5_readMeasure {l : Launch} {K : Ctx} (hl : l.stackTraces = false) {h : Hp} {a0 : Nat} {i1 : Int32} {i2 : Int32} {t : Rs Int32} (e : f_X5_readMeasure h a0 i1 i2 = some t) : X l K mM_X5_readMeasure (tgI t) 0 [(0, .ref a0), (1, .int i1), (2, .int i2)] [] h := by
  unfold f_X5_readMeasure at e
  refine x_aload_n (pc := 0) 0 dX5_readMeasure_0 rfl ?_
  refine x_bipush (pc := 1) (v := iN 61) dX5_readMeasure_1 rfl ?_
  obtain ⟨q1, e⟩ := chk_some e
  rcases bnd_some e with ⟨h2, r3, ec, rfl⟩ | ⟨h2, r3, ec, e⟩
  · exact y_callV_x (pc := 3) (c_X5_skip hl ec) q1 mf_X5_skip tw_4_229 ts_4_10 lf_X5_97 rfl rfl dX5_readMeasure_3 (by decide) rfl rfl (leb rfl) (xx_out0 rfl)
  refine y_callV_v (pc := 3) (c_X5_skip hl ec) q1 mf_X5_skip tw_4_229 ts_4_10 lf_X5_97 rfl rfl dX5_readMeasure_3 (by decide) rfl rfl (leb rfl) ?_
  refine x_aload_n (pc := 6) 0 dX5_readMeasure_6 rfl ?_
  refine x_iload_n (pc := 7) 1 dX5_readMeasure_7 rfl ?_
  refine x_iload_n (pc := 8) 2 dX5_readMeasure_8 rfl ?_
  obtain ⟨q4, e⟩ := chk_some e
  rcases bnd_some e with ⟨h5, r6, ec, rfl⟩ | ⟨h5, r6, ec, e⟩
  · exact y_callV_x (pc := 9) (c_X5_readNumber hl ec) q4 mf_X5_readNumber tw_4_239 ts_4_12 lf_X5_101 rfl rfl dX5_readMeasure_9 (by decide) rfl rfl (leb rfl) (xx_out0 rfl)
  refine y_callV_i (pc := 9) (c_X5_readNumber hl ec) q4 mf_X5_readNumber tw_4_239 ts_4_12 lf_X5_101 rfl rfl dX5_readMeasure_9 (by decide) rfl rfl (leb rfl) ?_
  refine x_istore_n (pc := 12) dX5_readMeasure_12 (by decide) rfl ?_
  refine x_aload_n (pc := 13) 1 dX5_readMeasure_13 rfl ?_
  refine x_bipush (pc := 14) (v := iN 59) dX5_readMeasure_14 rfl ?_
  obtain ⟨q7, e⟩ := chk_some e
  rcases bnd_some e with ⟨h8, r9, ec, rfl⟩ | ⟨h8, r9, ec, e⟩
  · exact y_callV_x (pc := 16) (c_X5_skip hl ec) q7 mf_X5_skip tw_4_229 ts_4_10 lf_X5_97 rfl rfl dX5_readMeasure_16 (by decide) rfl rfl (leb rfl) (xx_out0 rfl)
  refine y_callV_v (pc := 16) (c_X5_skip hl ec) q7 mf_X5_skip tw_4_229 ts_4_10 lf_X5_97 rfl rfl dX5_readMeasure_16 (by decide) rfl rfl (leb rfl) ?_
  refine x_iload_n (pc := 19) 0 dX5_readMeasure_19 rfl ?_
  cases Option.some.inj e
  exact x_iret (pc := 20) rfl dX5_readMeasure_20
abbrev w_X5_readMeasure : Cond := (Cond.code yX5_readMeasure cX5_readMeasure 4 (Option.some Jvm.ClassFile.FieldType.int))
theorem mf_X5_readMeasure : MF yX5_readMeasure w_X5_readMeasure cX5_readMeasure 4 (Option.some Jvm.ClassFile.FieldType.int) 2 := ⟨⟨rfl, tw_4_226, by decide⟩, tw_1_7, ⟨by decide, by decide⟩, by decide +kernel⟩
theorem c_X5_readMeasure {l : Launch} {K : Ctx} (hl : l.stackTraces = false) {h : Hp} {a0 : Nat} {i1 : Int32} {i2 : Int32} {t : Rs Int32} (e : f_X5_readMeasure h a0 i1 i2 = some t) : Ctr l K 11 yX5_readMeasure w_X5_readMeasure [.ref a0, .int i1, .int i2] h (tgI t) :=
  Ctr.of hl mf_X5_readMeasure false (fun q => nomatch q) rfl (leb rfl) (p_X5_readMeasure hl e)
/-! ## TableColumnBalancer$Script.readColumn -/
abbrev mM_X5_readColumn : Mi := (10, yX5_readColumn.cls, cX5_readColumn, 3, (Option.some Jvm.ClassFile.FieldType.int), [], false)
noncomputable def f_X5_readColumn_L27 (h : Hp) (i1 : Int32) (i2 : Int32) (s0 : Int32) (s1 : Nat) : Option (Rs Int32) :=
  chk (okr h s1 5) <|
  bnd (f_X5_demand h s1 s0 i1) fun h2 _ =>
  some (h2, .inr i2)
theorem p_X5_readColumn_L27 {l : Launch} {K : Ctx} (hl : l.stackTraces = false) {h : Hp} {i1 : Int32} {i2 : Int32} {s0 : Int32} {s1 : Nat} {t : Rs Int32} (e : f_X5_readColumn_L27 h i1 i2 s0 s1 = some t) : X l K mM_X5_readColumn (tgI t) 27 [(1, .int i1), (2, .int i2)] [.int s0, .ref s1] h := by
  unfold f_X5_readColumn_L27 at e
  refine x_iload_n (pc := 27) 0 dX5_readColumn_27 rfl ?_
  obtain ⟨q1, e⟩ := chk_some e
  rcases bnd_some e with ⟨h2, r3, ec, rfl⟩ | ⟨h2, r3, ec, e⟩
  · exact y_callV_x (pc := 28) (c_X5_demand hl ec) q1 mf_X5_demand tw_4_233 ts_4_11 lf_X5_93 rfl rfl dX5_readColumn_28 (by decide) rfl rfl (leb rfl) (xx_out0 rfl)
  refine y_callV_v (pc := 28) (c_X5_demand hl ec) q1 mf_X5_demand tw_4_233 ts_4_11 lf_X5_93 rfl rfl dX5_readColumn_28 (by decide) rfl rfl (leb rfl) ?_
  refine x_iload_n (pc := 31) 1 dX5_readColumn_31 rfl ?_
  cases Option.some.inj e
  exact x_iret (pc := 32) rfl dX5_readColumn_32
noncomputable def f_X5_readColumn (h : Hp) (a0 : Nat) : Option (Rs Int32) :=
  chk (okr h a0 5) <|
  bnd (f_X5_readDigit h a0) fun h2 r3 =>
  chk (okr h2 a0 5) <|
  chk (okr h2 (qR h2 a0 6) 7) <|
  if (qI h2 (qR h2 a0 6) 3) ≤ r3 then (
    f_X5_readColumn_L27 h2 (qI h a0 3) r3 (iN 0) a0
  ) else (
    f_X5_readColumn_L27 h2 (qI h a0 3) r3 (iN 1) a0
  )
theorem p_X5_readColumn {l : Launch} {K : Ctx} (hl : l.stackTraces = false) {h : Hp} {a0 : Nat} {t : Rs Int32} (e : f_X5_readColumn h a0 = some t) : X l K mM_X5_readColumn (tgI t) 0 [(0, .ref a0)] [] h := by
  unfold f_X5_readColumn at e
  refine x_aload_n (pc := 0) 0 dX5_readColumn_0 rfl ?_
  obtain ⟨q1, e⟩ := chk_some e
  refine x_getI (pc := 1) gf_X5_36 rfl dX5_readColumn_1 q1 ?_
  refine x_istore_n (pc := 4) dX5_readColumn_4 (by decide) rfl ?_
  refine x_aload_n (pc := 5) 1 dX5_readColumn_5 rfl ?_
  rcases bnd_some e with ⟨h2, r3, ec, rfl⟩ | ⟨h2, r3, ec, e⟩
  · exact y_callV_x (pc := 6) (c_X5_readDigit hl ec) q1 mf_X5_readDigit tw_5_3 ts_4_13 lf_X5_166 rfl rfl dX5_readColumn_6 (by decide) rfl rfl (leb rfl) (xx_out0 rfl)
  refine y_callV_i (pc := 6) (c_X5_readDigit hl ec) q1 mf_X5_readDigit tw_5_3 ts_4_13 lf_X5_166 rfl rfl dX5_readColumn_6 (by decide) rfl rfl (leb rfl) ?_
  refine x_istore_n (pc := 9) dX5_readColumn_9 (by decide) rfl ?_
  refine x_aload_n (pc := 10) 2 dX5_readColumn_10 rfl ?_
  refine x_iload_n (pc := 11) 0 dX5_readColumn_11 rfl ?_
  refine x_aload_n (pc := 12) 2 dX5_readColumn_12 rfl ?_
  obtain ⟨q4, e⟩ := chk_some e
  obtain ⟨q5, e⟩ := chk_some e
  refine x_getR (pc := 13) gf_X5_29 rfl dX5_readColumn_13 q4 q5.1 ?_
  refine x_getI (pc := 16) gf_X5_169 rfl dX5_readColumn_16 q5 ?_
  rcases ite_some e with ⟨q6, e⟩ | ⟨q6, e⟩
  · refine x_icmp_ge_t (pc := 19) (t := 26) dX5_readColumn_19 (by decide) q6 ?_
    refine x_iconst (pc := 26) dX5_readColumn_26 ?_
    exact x_sub1 (p_X5_readColumn_L27 hl e) [1, 0] rfl
  · refine x_icmp_ge_f (pc := 19) (t := 26) dX5_readColumn_19 (by decide) q6 ?_
    refine x_iconst (pc := 22) dX5_readColumn_22 ?_
    refine x_goto (pc := 23) (t := 27) dX5_readColumn_23 (by decide) ?_
    exact x_sub1 (p_X5_readColumn_L27 hl e) [1, 0] rfl
abbrev w_X5_readColumn : Cond := (Cond.code yX5_readColumn cX5_readColumn 3 (Option.some Jvm.ClassFile.FieldType.int))
theorem mf_X5_readColumn : MF yX5_readColumn w_X5_readColumn cX5_readColumn 3 (Option.some Jvm.ClassFile.FieldType.int) 0 := ⟨⟨rfl, tw_5_20, by decide⟩, tw_1_7, ⟨by decide, by decide⟩, by decide +kernel⟩
theorem c_X5_readColumn {l : Launch} {K : Ctx} (hl : l.stackTraces = false) {h : Hp} {a0 : Nat} {t : Rs Int32} (e : f_X5_readColumn h a0 = some t) : Ctr l K 10 yX5_readColumn w_X5_readColumn [.ref a0] h (tgI t) :=
  Ctr.of hl mf_X5_readColumn false (fun q => nomatch q) rfl (leb rfl) (p_X5_readColumn hl e)
/-! ## TableColumnBalancer$Script.readColumnCommand -/
abbrev mM_X5_readColumnCommand : Mi := (13, yX5_readColumnCommand.cls, cX5_readColumnCommand, 6, (Option.none : Option Jvm.ClassFile.FieldType), [], false)
noncomputable def f_X5_readColumnCommand_L97 (h : Hp) (a0 : Nat) (i1 : Int32) (i4 : Int32) (i5 : Int32) : Option (Rs Unit) :=
  chk (okr h a0 5) <|
  bnd (f_X5_skip h a0 (iN 59)) fun h2 _ =>
  chk (okr h2 a0 5) <|
  chk (okr h2 (qR h2 a0 6) 7) <|
  bnd (f_X7_specify h2 (qR h2 a0 6) i1 i4 i5) fun h6 _ =>
  some (h6, .inr ())
theorem p_X5_readColumnCommand_L97 {l : Launch} {K : Ctx} (hl : l.stackTraces = false) {h : Hp} {a0 : Nat} {i1 : Int32} {i4 : Int32} {i5 : Int32} {t : Rs Unit} (e : f_X5_readColumnCommand_L97 h a0 i1 i4 i5 = some t) : X l K mM_X5_readColumnCommand (tgV t) 97 [(0, .ref a0), (1, .int i1), (4, .int i4), (5, .int i5)] [] h := by
  unfold f_X5_readColumnCommand_L97 at e
  refine x_aload_n (pc := 97) 0 dX5_readColumnCommand_97 rfl ?_
  refine x_bipush (pc := 98) (v := iN 59) dX5_readColumnCommand_98 rfl ?_
  obtain ⟨q1, e⟩ := chk_some e
  rcases bnd_some e with ⟨h2, r3, ec, rfl⟩ | ⟨h2, r3, ec, e⟩
  · exact y_callV_x (pc := 100) (c_X5_skip hl ec) q1 mf_X5_skip tw_4_229 ts_4_10 lf_X5_97 rfl rfl dX5_readColumnCommand_100 (by decide) rfl rfl (leb rfl) (xx_out0 rfl)
  refine y_callV_v (pc := 100) (c_X5_skip hl ec) q1 mf_X5_skip tw_4_229 ts_4_10 lf_X5_97 rfl rfl dX5_readColumnCommand_100 (by decide) rfl rfl (leb rfl) ?_
  refine x_aload_n (pc := 103) 0 dX5_readColumnCommand_103 rfl ?_
  obtain ⟨q4, e⟩ := chk_some e
  obtain ⟨q5, e⟩ := chk_some e
  refine x_getR (pc := 104) gf_X5_29 rfl dX5_readColumnCommand_104 q4 q5.1 ?_
  refine x_iload_n (pc := 107) 1 dX5_readColumnCommand_107 rfl ?_
  refine x_iload (pc := 108) 2 dX5_readColumnCommand_108 rfl ?_
  refine x_iload (pc := 110) 3 dX5_readColumnCommand_110 rfl ?_
  rcases bnd_some e with ⟨h6, r7, ec, rfl⟩ | ⟨h6, r7, ec, e⟩
  · exact y_callV_x (pc := 112) (c_X7_specify hl ec) q5 mf_X7_specify tw_3_178 ts_3_4 lf_X5_113 rfl rfl dX5_readColumnCommand_112 (by decide) rfl rfl (leb rfl) (xx_out0 rfl)
  refine y_callV_v (pc := 112) (c_X7_specify hl ec) q5 mf_X7_specify tw_3_178 ts_3_4 lf_X5_113 rfl rfl dX5_readColumnCommand_112 (by decide) rfl rfl (leb rfl) ?_
  cases Option.some.inj e
  exact x_vret (pc := 115) rfl dX5_readColumnCommand_115
noncomputable def f_X5_readColumnCommand (h : Hp) (a0 : Nat) : Option (Rs Unit) :=
  chk (okr h a0 5) <|
  bnd (f_X5_readColumn h a0) fun h2 r3 =>
  chk (okr h2 a0 5) <|
  bnd (f_X5_skip h2 a0 (iN 61)) fun h5 _ =>
  chk (okr h5 a0 5) <|
  bnd (f_X5_endOfLetters h5 a0) fun h8 r9 =>
  chk (okr h8 a0 5) <|
  lt (putI h8 a0 3 r9) fun h11 =>
  bnd (f_X5_spells h11 a0 (qI h5 a0 3) r9 (1000000 + 0)) fun h12 r13 =>
  if r13 = 0 then (
    chk (okr h12 a0 5) <|
    bnd (f_X5_spells h12 a0 (qI h5 a0 3) r9 (1000000 + 1)) fun h16 r17 =>
    if r17 = 0 then (
      chk (okr h16 a0 5) <|
      bnd (f_X5_spells h16 a0 (qI h5 a0 3) r9 (1000000 + 2)) fun h20 r21 =>
      chk (okr h20 a0 5) <|
      bnd (f_X5_demand h20 a0 r21 (qI h5 a0 3)) fun h23 _ =>
      f_X5_readColumnCommand_L97 h23 a0 r3 (iN 0) (iN 0)
    ) else (
      chk (okr h16 a0 5) <|
      bnd (f_X5_readNumber h16 a0 (iN 1) (iN 99)) fun h26 r27 =>
      f_X5_readColumnCommand_L97 h26 a0 r3 (iN 2) r27
    )
  ) else (
    chk (okr h12 a0 5) <|
    bnd (f_X5_readNumber h12 a0 (iN 1) (iN 36)) fun h29 r30 =>
    f_X5_readColumnCommand_L97 h29 a0 r3 (iN 1) r30
  )
theorem p_X5_readColumnCommand {l : Launch} {K : Ctx} (hl : l.stackTraces = false) {h : Hp} {a0 : Nat} {t : Rs Unit} (e : f_X5_readColumnCommand h a0 = some t) : X l K mM_X5_readColumnCommand (tgV t) 0 [(0, .ref a0)] [] h := by
  unfold f_X5_readColumnCommand at e
  refine x_aload_n (pc := 0) 0 dX5_readColumnCommand_0 rfl ?_
  obtain ⟨q1, e⟩ := chk_some e
  rcases bnd_some e with ⟨h2, r3, ec, rfl⟩ | ⟨h2, r3, ec, e⟩
  · exact y_callV_x (pc := 1) (c_X5_readColumn hl ec) q1 mf_X5_readColumn tw_5_19 ts_5_0 lf_X5_104 rfl rfl dX5_readColumnCommand_1 (by decide) rfl rfl (leb rfl) (xx_out0 rfl)
  refine y_callV_i (pc := 1) (c_X5_readColumn hl ec) q1 mf_X5_readColumn tw_5_19 ts_5_0 lf_X5_104 rfl rfl dX5_readColumnCommand_1 (by decide) rfl rfl (leb rfl) ?_
  refine x_istore_n (pc := 4) dX5_readColumnCommand_4 (by decide) rfl ?_
  refine x_aload_n (pc := 5) 1 dX5_readColumnCommand_5 rfl ?_
  refine x_bipush (pc := 6) (v := iN 61) dX5_readColumnCommand_6 rfl ?_
  obtain ⟨q4, e⟩ := chk_some e
  rcases bnd_some e with ⟨h5, r6, ec, rfl⟩ | ⟨h5, r6, ec, e⟩
  · exact y_callV_x (pc := 8) (c_X5_skip hl ec) q4 mf_X5_skip tw_4_229 ts_4_10 lf_X5_97 rfl rfl dX5_readColumnCommand_8 (by decide) rfl rfl (leb rfl) (xx_out0 rfl)
  refine y_callV_v (pc := 8) (c_X5_skip hl ec) q4 mf_X5_skip tw_4_229 ts_4_10 lf_X5_97 rfl rfl dX5_readColumnCommand_8 (by decide) rfl rfl (leb rfl) ?_
  refine x_aload_n (pc := 11) 1 dX5_readColumnCommand_11 rfl ?_
  obtain ⟨q7, e⟩ := chk_some e
  refine x_getI (pc := 12) gf_X5_36 rfl dX5_readColumnCommand_12 q7 ?_
  refine x_istore_n (pc := 15) dX5_readColumnCommand_15 (by decide) rfl ?_
  refine x_aload_n (pc := 16) 2 dX5_readColumnCommand_16 rfl ?_
  rcases bnd_some e with ⟨h8, r9, ec, rfl⟩ | ⟨h8, r9, ec, e⟩
  · exact y_callV_x (pc := 17) (c_X5_endOfLetters hl ec) q7 mf_X5_endOfLetters tw_4_168 ts_4_7 lf_X5_45 rfl rfl dX5_readColumnCommand_17 (by decide) rfl rfl (leb rfl) (xx_out0 rfl)
  refine y_callV_i (pc := 17) (c_X5_endOfLetters hl ec) q7 mf_X5_endOfLetters tw_4_168 ts_4_7 lf_X5_45 rfl rfl dX5_readColumnCommand_17 (by decide) rfl rfl (leb rfl) ?_
  refine x_istore_n (pc := 20) dX5_readColumnCommand_20 (by decide) rfl ?_
  refine x_aload_n (pc := 21) 3 dX5_readColumnCommand_21 rfl ?_
  refine x_iload_n (pc := 22) 0 dX5_readColumnCommand_22 rfl ?_
  obtain ⟨q10, e⟩ := chk_some e
  replace e := lt_go e
  refine x_putI (pc := 23) pf_X5_36 rfl rfl rfl dX5_readColumnCommand_23 q10 ?_
  refine x_iconst (pc := 26) dX5_readColumnCommand_26 ?_
  refine x_istore (pc := 27) dX5_readColumnCommand_27 (by decide) rfl ?_
  refine x_iconst (pc := 29) dX5_readColumnCommand_29 ?_
  refine x_istore (pc := 30) dX5_readColumnCommand_30 (by decide) rfl ?_
  refine x_aload_n (pc := 32) 5 dX5_readColumnCommand_32 rfl ?_
  refine x_iload_n (pc := 33) 3 dX5_readColumnCommand_33 rfl ?_
  refine x_iload_n (pc := 34) 2 dX5_readColumnCommand_34 rfl ?_
  refine x_ldcS (pc := 35) (j := 0) (tx := "fix") (by decide) (by decide) dX5_readColumnCommand_35 ?_
  rcases bnd_some e with ⟨h12, r13, ec, rfl⟩ | ⟨h12, r13, ec, e⟩
  · exact y_callV_x (pc := 37) (c_X5_spells hl ec) (okr_pI q10) mf_X5_spells tw_4_173 ts_4_8 lf_X5_51 rfl rfl dX5_readColumnCommand_37 (by decide) rfl rfl (leb rfl) (xx_out0 rfl)
  refine y_callV_i (pc := 37) (c_X5_spells hl ec) (okr_pI q10) mf_X5_spells tw_4_173 ts_4_8 lf_X5_51 rfl rfl dX5_readColumnCommand_37 (by decide) rfl rfl (leb rfl) ?_
  rcases ite_some e with ⟨q14, e⟩ | ⟨q14, e⟩
  · refine x_if_eq_t (pc := 40) (t := 58) dX5_readColumnCommand_40 (by decide) q14 ?_
    refine x_aload_n (pc := 58) 5 dX5_readColumnCommand_58 rfl ?_
    refine x_iload_n (pc := 59) 3 dX5_readColumnCommand_59 rfl ?_
    refine x_iload_n (pc := 60) 2 dX5_readColumnCommand_60 rfl ?_
    refine x_ldcS (pc := 61) (j := 1) (tx := "pct") (by decide) (by decide) dX5_readColumnCommand_61 ?_
    obtain ⟨q15, e⟩ := chk_some e
    rcases bnd_some e with ⟨h16, r17, ec, rfl⟩ | ⟨h16, r17, ec, e⟩
    · exact y_callV_x (pc := 63) (c_X5_spells hl ec) q15 mf_X5_spells tw_4_173 ts_4_8 lf_X5_51 rfl rfl dX5_readColumnCommand_63 (by decide) rfl rfl (leb rfl) (xx_out0 rfl)
    refine y_callV_i (pc := 63) (c_X5_spells hl ec) q15 mf_X5_spells tw_4_173 ts_4_8 lf_X5_51 rfl rfl dX5_readColumnCommand_63 (by decide) rfl rfl (leb rfl) ?_
    rcases ite_some e with ⟨q18, e⟩ | ⟨q18, e⟩
    · refine x_if_eq_t (pc := 66) (t := 84) dX5_readColumnCommand_66 (by decide) q18 ?_
      refine x_aload_n (pc := 84) 5 dX5_readColumnCommand_84 rfl ?_
      refine x_aload_n (pc := 85) 5 dX5_readColumnCommand_85 rfl ?_
      refine x_iload_n (pc := 86) 3 dX5_readColumnCommand_86 rfl ?_
      refine x_iload_n (pc := 87) 2 dX5_readColumnCommand_87 rfl ?_
      refine x_ldcS (pc := 88) (j := 2) (tx := "auto") (by decide) (by decide) dX5_readColumnCommand_88 ?_
      obtain ⟨q19, e⟩ := chk_some e
      rcases bnd_some e with ⟨h20, r21, ec, rfl⟩ | ⟨h20, r21, ec, e⟩
      · exact y_callV_x (pc := 90) (c_X5_spells hl ec) q19 mf_X5_spells tw_4_173 ts_4_8 lf_X5_51 rfl rfl dX5_readColumnCommand_90 (by decide) rfl rfl (leb rfl) (xx_out0 rfl)
      refine y_callV_i (pc := 90) (c_X5_spells hl ec) q19 mf_X5_spells tw_4_173 ts_4_8 lf_X5_51 rfl rfl dX5_readColumnCommand_90 (by decide) rfl rfl (leb rfl) ?_
      refine x_iload_n (pc := 93) 3 dX5_readColumnCommand_93 rfl ?_
      obtain ⟨q22, e⟩ := chk_some e
      rcases bnd_some e with ⟨h23, r24, ec, rfl⟩ | ⟨h23, r24, ec, e⟩
      · exact y_callV_x (pc := 94) (c_X5_demand hl ec) q22 mf_X5_demand tw_4_233 ts_4_11 lf_X5_93 rfl rfl dX5_readColumnCommand_94 (by decide) rfl rfl (leb rfl) (xx_out0 rfl)
      refine y_callV_v (pc := 94) (c_X5_demand hl ec) q22 mf_X5_demand tw_4_233 ts_4_11 lf_X5_93 rfl rfl dX5_readColumnCommand_94 (by decide) rfl rfl (leb rfl) ?_
      exact x_sub1 (p_X5_readColumnCommand_L97 hl e) [5, 4, 1, 0] rfl
    · refine x_if_eq_f (pc := 66) (t := 84) dX5_readColumnCommand_66 (by decide) q18 ?_
      refine x_iconst (pc := 69) dX5_readColumnCommand_69 ?_
      refine x_istore (pc := 70) dX5_readColumnCommand_70 (by decide) rfl ?_
      refine x_aload_n (pc := 72) 5 dX5_readColumnCommand_72 rfl ?_
      refine x_iconst (pc := 73) dX5_readColumnCommand_73 ?_
      refine x_bipush (pc := 74) (v := iN 99) dX5_readColumnCommand_74 rfl ?_
      obtain ⟨q25, e⟩ := chk_some e
      rcases bnd_some e with ⟨h26, r27, ec, rfl⟩ | ⟨h26, r27, ec, e⟩
      · exact y_callV_x (pc := 76) (c_X5_readNumber hl ec) q25 mf_X5_readNumber tw_4_239 ts_4_12 lf_X5_101 rfl rfl dX5_readColumnCommand_76 (by decide) rfl rfl (leb rfl) (xx_out0 rfl)
      refine y_callV_i (pc := 76) (c_X5_readNumber hl ec) q25 mf_X5_readNumber tw_4_239 ts_4_12 lf_X5_101 rfl rfl dX5_readColumnCommand_76 (by decide) rfl rfl (leb rfl) ?_
      refine x_istore (pc := 79) dX5_readColumnCommand_79 (by decide) rfl ?_
      refine x_goto (pc := 81) (t := 97) dX5_readColumnCommand_81 (by decide) ?_
      exact x_sub1 (p_X5_readColumnCommand_L97 hl e) [5, 4, 1, 0] rfl
  · refine x_if_eq_f (pc := 40) (t := 58) dX5_readColumnCommand_40 (by decide) q14 ?_
    refine x_iconst (pc := 43) dX5_readColumnCommand_43 ?_
    refine x_istore (pc := 44) dX5_readColumnCommand_44 (by decide) rfl ?_
    refine x_aload_n (pc := 46) 5 dX5_readColumnCommand_46 rfl ?_
    refine x_iconst (pc := 47) dX5_readColumnCommand_47 ?_
    refine x_bipush (pc := 48) (v := iN 36) dX5_readColumnCommand_48 rfl ?_
    obtain ⟨q28, e⟩ := chk_some e
    rcases bnd_some e with ⟨h29, r30, ec, rfl⟩ | ⟨h29, r30, ec, e⟩
    · exact y_callV_x (pc := 50) (c_X5_readNumber hl ec) q28 mf_X5_readNumber tw_4_239 ts_4_12 lf_X5_101 rfl rfl dX5_readColumnCommand_50 (by decide) rfl rfl (leb rfl) (xx_out0 rfl)
    refine y_callV_i (pc := 50) (c_X5_readNumber hl ec) q28 mf_X5_readNumber tw_4_239 ts_4_12 lf_X5_101 rfl rfl dX5_readColumnCommand_50 (by decide) rfl rfl (leb rfl) ?_
    refine x_istore (pc := 53) dX5_readColumnCommand_53 (by decide) rfl ?_
    refine x_goto (pc := 55) (t := 97) dX5_readColumnCommand_55 (by decide) ?_
    exact x_sub1 (p_X5_readColumnCommand_L97 hl e) [5, 4, 1, 0] rfl
abbrev w_X5_readColumnCommand : Cond := (Cond.code yX5_readColumnCommand cX5_readColumnCommand 6 (Option.none : Option Jvm.ClassFile.FieldType))
theorem mf_X5_readColumnCommand : MF yX5_readColumnCommand w_X5_readColumnCommand cX5_readColumnCommand 6 (Option.none : Option Jvm.ClassFile.FieldType) 0 := ⟨⟨rfl, tw_5_16, by decide⟩, tw_1_7, ⟨by decide, by decide⟩, by decide +kernel⟩
theorem c_X5_readColumnCommand {l : Launch} {K : Ctx} (hl : l.stackTraces = false) {h : Hp} {a0 : Nat} {t : Rs Unit} (e : f_X5_readColumnCommand h a0 = some t) : Ctr l K 13 yX5_readColumnCommand w_X5_readColumnCommand [.ref a0] h (tgV t) :=
  Ctr.of hl mf_X5_readColumnCommand false (fun q => nomatch q) rfl (leb rfl) (p_X5_readColumnCommand hl e)
/-! ## TableColumnBalancer$Script.block -/
abbrev mM_X5_block : Mi := (8, yX5_block.cls, cX5_block, 2, (Option.none : Option Jvm.ClassFile.FieldType), [], false)
noncomputable def f_X5_block_L16 (h : Hp) (s0 : Int32) (s1 : Nat) : Option (Rs Unit) :=
  chk (okr h s1 5) <|
  lt (putI h s1 5 s0) fun h2 =>
  some (h2, .inr ())
theorem p_X5_block_L16 {l : Launch} {K : Ctx} (hl : l.stackTraces = false) {h : Hp} {s0 : Int32} {s1 : Nat} {t : Rs Unit} (e : f_X5_block_L16 h s0 s1 = some t) : X l K mM_X5_block (tgV t) 16 [] [.int s0, .ref s1] h := by
  unfold f_X5_block_L16 at e
  obtain ⟨q1, e⟩ := chk_some e
  replace e := lt_go e
  refine x_putI (pc := 16) pf_X5_39 rfl rfl rfl dX5_block_16 q1 ?_
  cases Option.some.inj e
  exact x_vret (pc := 19) rfl dX5_block_19
noncomputable def f_X5_block (h : Hp) (a0 : Nat) (i1 : Int32) : Option (Rs Unit) :=
  chk (okr h a0 5) <|
  if 0 ≤ (qI h a0 5) then (
    f_X5_block_L16 h (qI h a0 5) a0
  ) else (
    f_X5_block_L16 h i1 a0
  )
theorem p_X5_block {l : Launch} {K : Ctx} (hl : l.stackTraces = false) {h : Hp} {a0 : Nat} {i1 : Int32} {t : Rs Unit} (e : f_X5_block h a0 i1 = some t) : X l K mM_X5_block (tgV t) 0 [(0, .ref a0), (1, .int i1)] [] h := by
  unfold f_X5_block at e
  refine x_aload_n (pc := 0) 0 dX5_block_0 rfl ?_
  refine x_aload_n (pc := 1) 0 dX5_block_1 rfl ?_
  obtain ⟨q1, e⟩ := chk_some e
  refine x_getI (pc := 2) gf_X5_39 rfl dX5_block_2 q1 ?_
  rcases ite_some e with ⟨q2, e⟩ | ⟨q2, e⟩
  · refine x_if_ge_t (pc := 5) (t := 12) dX5_block_5 (by decide) q2 ?_
    refine x_aload_n (pc := 12) 0 dX5_block_12 rfl ?_
    refine x_getI (pc := 13) gf_X5_39 rfl dX5_block_13 q1 ?_
    exact x_sub1 (p_X5_block_L16 hl e) [] rfl
  · refine x_if_ge_f (pc := 5) (t := 12) dX5_block_5 (by decide) q2 ?_
    refine x_iload_n (pc := 8) 1 dX5_block_8 rfl ?_
    refine x_goto (pc := 9) (t := 16) dX5_block_9 (by decide) ?_
    exact x_sub1 (p_X5_block_L16 hl e) [] rfl
abbrev w_X5_block : Cond := (Cond.code yX5_block cX5_block 2 (Option.none : Option Jvm.ClassFile.FieldType))
theorem mf_X5_block : MF yX5_block w_X5_block cX5_block 2 (Option.none : Option Jvm.ClassFile.FieldType) 1 := ⟨⟨rfl, tw_5_33, by decide⟩, tw_1_7, ⟨by decide, by decide⟩, by decide +kernel⟩
theorem c_X5_block {l : Launch} {K : Ctx} (hl : l.stackTraces = false) {h : Hp} {a0 : Nat} {i1 : Int32} {t : Rs Unit} (e : f_X5_block h a0 i1 = some t) : Ctr l K 8 yX5_block w_X5_block [.ref a0, .int i1] h (tgV t) :=
  Ctr.of hl mf_X5_block false (fun q => nomatch q) rfl (leb rfl) (p_X5_block hl e)
/-! ## TableColumnBalancer$Script.readRowCommand -/
abbrev mM_X5_readRowCommand : Mi := (10, yX5_readRowCommand.cls, cX5_readRowCommand, 2, (Option.none : Option Jvm.ClassFile.FieldType), [], false)
noncomputable def f_X5_readRowCommand (h : Hp) (a0 : Nat) (i1 : Int32) : Option (Rs Unit) :=
  chk (okr h a0 5) <|
  bnd (f_X5_skip h a0 (iN 59)) fun h2 _ =>
  chk (okr h2 a0 5) <|
  chk (okr h2 (qR h2 a0 6) 7) <|
  if (qI h2 (qR h2 a0 6) 4) < (iN 6) then (
    lt (putI h2 (qR h2 a0 6) 4 ((qI h2 (qR h2 a0 6) 4) + (iN 1))) fun h7 =>
    some (h7, .inr ())
  ) else (
    bnd (f_X5_block h2 a0 i1) fun h8 _ =>
    some (h8, .inr ())
  )
theorem p_X5_readRowCommand {l : Launch} {K : Ctx} (hl : l.stackTraces = false) {h : Hp} {a0 : Nat} {i1 : Int32} {t : Rs Unit} (e : f_X5_readRowCommand h a0 i1 = some t) : X l K mM_X5_readRowCommand (tgV t) 0 [(0, .ref a0), (1, .int i1)] [] h := by
  unfold f_X5_readRowCommand at e
  refine x_aload_n (pc := 0) 0 dX5_readRowCommand_0 rfl ?_
  refine x_bipush (pc := 1) (v := iN 59) dX5_readRowCommand_1 rfl ?_
  obtain ⟨q1, e⟩ := chk_some e
  rcases bnd_some e with ⟨h2, r3, ec, rfl⟩ | ⟨h2, r3, ec, e⟩
  · exact y_callV_x (pc := 3) (c_X5_skip hl ec) q1 mf_X5_skip tw_4_229 ts_4_10 lf_X5_97 rfl rfl dX5_readRowCommand_3 (by decide) rfl rfl (leb rfl) (xx_out0 rfl)
  refine y_callV_v (pc := 3) (c_X5_skip hl ec) q1 mf_X5_skip tw_4_229 ts_4_10 lf_X5_97 rfl rfl dX5_readRowCommand_3 (by decide) rfl rfl (leb rfl) ?_
  refine x_aload_n (pc := 6) 0 dX5_readRowCommand_6 rfl ?_
  obtain ⟨q4, e⟩ := chk_some e
  obtain ⟨q5, e⟩ := chk_some e
  refine x_getR (pc := 7) gf_X5_29 rfl dX5_readRowCommand_7 q4 q5.1 ?_
  refine x_getI (pc := 10) gf_X5_117 rfl dX5_readRowCommand_10 q5 ?_
  refine x_bipush (pc := 13) (v := iN 6) dX5_readRowCommand_13 rfl ?_
  rcases ite_some e with ⟨q6, e⟩ | ⟨q6, e⟩
  · refine x_icmp_lt_t (pc := 15) (t := 26) dX5_readRowCommand_15 (by decide) q6 ?_
    refine x_aload_n (pc := 26) 0 dX5_readRowCommand_26 rfl ?_
    refine x_getR (pc := 27) gf_X5_29 rfl dX5_readRowCommand_27 q4 q5.1 ?_
    refine x_dup (pc := 30) dX5_readRowCommand_30 rfl ?_
    refine x_getI (pc := 31) gf_X5_117 rfl dX5_readRowCommand_31 q5 ?_
    refine x_iconst (pc := 34) dX5_readRowCommand_34 ?_
    refine x_iadd (pc := 35) dX5_readRowCommand_35 ?_
    replace e := lt_go e
    refine x_putI (pc := 36) pf_X5_117 rfl rfl rfl dX5_readRowCommand_36 q5 ?_
    cases Option.some.inj e
    exact x_vret (pc := 39) rfl dX5_readRowCommand_39
  · refine x_icmp_lt_f (pc := 15) (t := 26) dX5_readRowCommand_15 (by decide) q6 ?_
    refine x_aload_n (pc := 18) 0 dX5_readRowCommand_18 rfl ?_
    refine x_iload_n (pc := 19) 1 dX5_readRowCommand_19 rfl ?_
    rcases bnd_some e with ⟨h8, r9, ec, rfl⟩ | ⟨h8, r9, ec, e⟩
    · exact y_callV_x (pc := 20) (c_X5_block hl ec) q4 mf_X5_block tw_5_32 ts_5_2 lf_X5_120 rfl rfl dX5_readRowCommand_20 (by decide) rfl rfl (leb rfl) (xx_out0 rfl)
    refine y_callV_v (pc := 20) (c_X5_block hl ec) q4 mf_X5_block tw_5_32 ts_5_2 lf_X5_120 rfl rfl dX5_readRowCommand_20 (by decide) rfl rfl (leb rfl) ?_
    refine x_goto (pc := 23) (t := 39) dX5_readRowCommand_23 (by decide) ?_
    cases Option.some.inj e
    exact x_vret (pc := 39) rfl dX5_readRowCommand_39
abbrev w_X5_readRowCommand : Cond := (Cond.code yX5_readRowCommand cX5_readRowCommand 2 (Option.none : Option Jvm.ClassFile.FieldType))
theorem mf_X5_readRowCommand : MF yX5_readRowCommand w_X5_readRowCommand cX5_readRowCommand 2 (Option.none : Option Jvm.ClassFile.FieldType) 1 := ⟨⟨rfl, tw_5_29, by decide⟩, tw_1_7, ⟨by decide, by decide⟩, by decide +kernel⟩
theorem c_X5_readRowCommand {l : Launch} {K : Ctx} (hl : l.stackTraces = false) {h : Hp} {a0 : Nat} {i1 : Int32} {t : Rs Unit} (e : f_X5_readRowCommand h a0 i1 = some t) : Ctr l K 10 yX5_readRowCommand w_X5_readRowCommand [.ref a0, .int i1] h (tgV t) :=
  Ctr.of hl mf_X5_readRowCommand false (fun q => nomatch q) rfl (leb rfl) (p_X5_readRowCommand hl e)
/-! ## TableColumnBalancer$Script.readSpan -/
abbrev mM_X5_readSpan : Mi := (10, yX5_readSpan.cls, cX5_readSpan, 4, (Option.some Jvm.ClassFile.FieldType.int), [], false)
noncomputable def f_X5_readSpan_L34 (h : Hp) (i2 : Int32) (i3 : Int32) (s0 : Int32) (s1 : Nat) : Option (Rs Int32) :=
  chk (okr h s1 5) <|
  bnd (f_X5_demand h s1 s0 i2) fun h2 _ =>
  some (h2, .inr i3)
theorem p_X5_readSpan_L34 {l : Launch} {K : Ctx} (hl : l.stackTraces = false) {h : Hp} {i2 : Int32} {i3 : Int32} {s0 : Int32} {s1 : Nat} {t : Rs Int32} (e : f_X5_readSpan_L34 h i2 i3 s0 s1 = some t) : X l K mM_X5_readSpan (tgI t) 34 [(2, .int i2), (3, .int i3)] [.int s0, .ref s1] h := by
  unfold f_X5_readSpan_L34 at e
  refine x_iload_n (pc := 34) 0 dX5_readSpan_34 rfl ?_
  obtain ⟨q1, e⟩ := chk_some e
  rcases bnd_some e with ⟨h2, r3, ec, rfl⟩ | ⟨h2, r3, ec, e⟩
  · exact y_callV_x (pc := 35) (c_X5_demand hl ec) q1 mf_X5_demand tw_4_233 ts_4_11 lf_X5_93 rfl rfl dX5_readSpan_35 (by decide) rfl rfl (leb rfl) (xx_out0 rfl)
  refine y_callV_v (pc := 35) (c_X5_demand hl ec) q1 mf_X5_demand tw_4_233 ts_4_11 lf_X5_93 rfl rfl dX5_readSpan_35 (by decide) rfl rfl (leb rfl) ?_
  refine x_iload_n (pc := 38) 1 dX5_readSpan_38 rfl ?_
  cases Option.some.inj e
  exact x_iret (pc := 39) rfl dX5_readSpan_39
noncomputable def f_X5_readSpan_L33 (h : Hp) (i2 : Int32) (i3 : Int32) (s0 : Nat) : Option (Rs Int32) :=
  f_X5_readSpan_L34 h i2 i3 (iN 0) s0
theorem p_X5_readSpan_L33 {l : Launch} {K : Ctx} (hl : l.stackTraces = false) {h : Hp} {i2 : Int32} {i3 : Int32} {s0 : Nat} {t : Rs Int32} (e : f_X5_readSpan_L33 h i2 i3 s0 = some t) : X l K mM_X5_readSpan (tgI t) 33 [(2, .int i2), (3, .int i3)] [.ref s0] h := by
  unfold f_X5_readSpan_L33 at e
  refine x_iconst (pc := 33) dX5_readSpan_33 ?_
  exact p_X5_readSpan_L34 hl e
noncomputable def f_X5_readSpan (h : Hp) (a0 : Nat) (i1 : Int32) : Option (Rs Int32) :=
  chk (okr h a0 5) <|
  bnd (f_X5_readDigit h a0) fun h2 r3 =>
  if r3 < (iN 1) then (
    f_X5_readSpan_L33 h2 (qI h a0 3) r3 a0
  ) else (
    chk (okr h2 a0 5) <|
    chk (okr h2 (qR h2 a0 6) 7) <|
    if (qI h2 (qR h2 a0 6) 3) < (i1 + r3) then (
      f_X5_readSpan_L33 h2 (qI h a0 3) r3 a0
    ) else (
      f_X5_readSpan_L34 h2 (qI h a0 3) r3 (iN 1) a0
    )
  )
theorem p_X5_readSpan {l : Launch} {K : Ctx} (hl : l.stackTraces = false) {h : Hp} {a0 : Nat} {i1 : Int32} {t : Rs Int32} (e : f_X5_readSpan h a0 i1 = some t) : X l K mM_X5_readSpan (tgI t) 0 [(0, .ref a0), (1, .int i1)] [] h := by
  unfold f_X5_readSpan at e
  refine x_aload_n (pc := 0) 0 dX5_readSpan_0 rfl ?_
  obtain ⟨q1, e⟩ := chk_some e
  refine x_getI (pc := 1) gf_X5_36 rfl dX5_readSpan_1 q1 ?_
  refine x_istore_n (pc := 4) dX5_readSpan_4 (by decide) rfl ?_
  refine x_aload_n (pc := 5) 1 dX5_readSpan_5 rfl ?_
  rcases bnd_some e with ⟨h2, r3, ec, rfl⟩ | ⟨h2, r3, ec, e⟩
  · exact y_callV_x (pc := 6) (c_X5_readDigit hl ec) q1 mf_X5_readDigit tw_5_3 ts_4_13 lf_X5_166 rfl rfl dX5_readSpan_6 (by decide) rfl rfl (leb rfl) (xx_out0 rfl)
  refine y_callV_i (pc := 6) (c_X5_readDigit hl ec) q1 mf_X5_readDigit tw_5_3 ts_4_13 lf_X5_166 rfl rfl dX5_readSpan_6 (by decide) rfl rfl (leb rfl) ?_
  refine x_istore_n (pc := 9) dX5_readSpan_9 (by decide) rfl ?_
  refine x_aload_n (pc := 10) 2 dX5_readSpan_10 rfl ?_
  refine x_iload_n (pc := 11) 0 dX5_readSpan_11 rfl ?_
  refine x_iconst (pc := 12) dX5_readSpan_12 ?_
  rcases ite_some e with ⟨q4, e⟩ | ⟨q4, e⟩
  · refine x_icmp_lt_t (pc := 13) (t := 33) dX5_readSpan_13 (by decide) q4 ?_
    exact x_sub1 (p_X5_readSpan_L33 hl e) [1, 0] rfl
  · refine x_icmp_lt_f (pc := 13) (t := 33) dX5_readSpan_13 (by decide) q4 ?_
    refine x_iload_n (pc := 16) 3 dX5_readSpan_16 rfl ?_
    refine x_iload_n (pc := 17) 0 dX5_readSpan_17 rfl ?_
    refine x_iadd (pc := 18) dX5_readSpan_18 ?_
    refine x_aload_n (pc := 19) 2 dX5_readSpan_19 rfl ?_
    obtain ⟨q5, e⟩ := chk_some e
    obtain ⟨q6, e⟩ := chk_some e
    refine x_getR (pc := 20) gf_X5_29 rfl dX5_readSpan_20 q5 q6.1 ?_
    refine x_getI (pc := 23) gf_X5_169 rfl dX5_readSpan_23 q6 ?_
    rcases ite_some e with ⟨q7, e⟩ | ⟨q7, e⟩
    · refine x_icmp_gt_t (pc := 26) (t := 33) dX5_readSpan_26 (by decide) q7 ?_
      exact x_sub1 (p_X5_readSpan_L33 hl e) [1, 0] rfl
    · refine x_icmp_gt_f (pc := 26) (t := 33) dX5_readSpan_26 (by decide) q7 ?_
      refine x_iconst (pc := 29) dX5_readSpan_29 ?_
      refine x_goto (pc := 30) (t := 34) dX5_readSpan_30 (by decide) ?_
      exact x_sub1 (p_X5_readSpan_L34 hl e) [1, 0] rfl
abbrev w_X5_readSpan : Cond := (Cond.code yX5_readSpan cX5_readSpan 4 (Option.some Jvm.ClassFile.FieldType.int))
theorem mf_X5_readSpan : MF yX5_readSpan w_X5_readSpan cX5_readSpan 4 (Option.some Jvm.ClassFile.FieldType.int) 1 := ⟨⟨rfl, tw_5_42, by decide⟩, tw_1_7, ⟨by decide, by decide⟩, by decide +kernel⟩
theorem c_X5_readSpan {l : Launch} {K : Ctx} (hl : l.stackTraces = false) {h : Hp} {a0 : Nat} {i1 : Int32} {t : Rs Int32} (e : f_X5_readSpan h a0 i1 = some t) : Ctr l K 10 yX5_readSpan w_X5_readSpan [.ref a0, .int i1] h (tgI t) :=
  Ctr.of hl mf_X5_readSpan false (fun q => nomatch q) rfl (leb rfl) (p_X5_readSpan hl e)
/-! ## TableColumnBalancer$Script.kindFor -/
abbrev mM_X5_kindFor : Mi := (8, yX5_kindFor.cls, cX5_kindFor, 1, (Option.some Jvm.ClassFile.FieldType.int), [], false)
noncomputable def f_X5_kindFor (h : Hp) (i0 : Int32) : Option (Rs Int32) :=
  if i0 = iN 99 then (
    some (h, .inr (iN 3))
  ) else
  if i0 = iN 104 then (
    some (h, .inr (iN 1))
  ) else
  if i0 = iN 112 then (
    some (h, .inr (iN 0))
  ) else
  if i0 = iN 113 then (
    some (h, .inr (iN 2))
  ) else
  (
    some (h, .inr (iN (-1)))
  )
theorem p_X5_kindFor {l : Launch} {K : Ctx} (hl : l.stackTraces = false) {h : Hp} {i0 : Int32} {t : Rs Int32} (e : f_X5_kindFor h i0 = some t) : X l K mM_X5_kindFor (tgI t) 0 [(0, .int i0)] [] h := by
  unfold f_X5_kindFor at e
  refine x_iload_n (pc := 0) 0 dX5_kindFor_0 rfl ?_
  rcases ite_some e with ⟨q1, e⟩ | ⟨q1, e⟩
  · refine x_lookup (pc := 1) (off := 49) (t := 50) dX5_kindFor_1 (by decide) (lk_hit q1 (by decide)) (by decide) ?_
    refine x_iconst (pc := 50) dX5_kindFor_50 ?_
    cases Option.some.inj e
    exact x_iret (pc := 51) rfl dX5_kindFor_51
  rcases ite_some e with ⟨q2, e⟩ | ⟨q2, e⟩
  · refine x_lookup (pc := 1) (off := 45) (t := 46) dX5_kindFor_1 (by decide) (lk_hit q2 (by decide)) (by decide) ?_
    refine x_iconst (pc := 46) dX5_kindFor_46 ?_
    cases Option.some.inj e
    exact x_iret (pc := 47) rfl dX5_kindFor_47
  rcases ite_some e with ⟨q3, e⟩ | ⟨q3, e⟩
  · refine x_lookup (pc := 1) (off := 43) (t := 44) dX5_kindFor_1 (by decide) (lk_hit q3 (by decide)) (by decide) ?_
    refine x_iconst (pc := 44) dX5_kindFor_44 ?_
    cases Option.some.inj e
    exact x_iret (pc := 45) rfl dX5_kindFor_45
  rcases ite_some e with ⟨q4, e⟩ | ⟨q4, e⟩
  · refine x_lookup (pc := 1) (off := 47) (t := 48) dX5_kindFor_1 (by decide) (lk_hit q4 (by decide)) (by decide) ?_
    refine x_iconst (pc := 48) dX5_kindFor_48 ?_
    cases Option.some.inj e
    exact x_iret (pc := 49) rfl dX5_kindFor_49
  refine x_lookup (pc := 1) (off := 51) (t := 52) dX5_kindFor_1 (by decide) (lk_no q1 (show (iN 99).toInt = 99 by decide) (lk_no q2 (show (iN 104).toInt = 104 by decide) (lk_no q3 (show (iN 112).toInt = 112 by decide) (lk_no q4 (show (iN 113).toInt = 113 by decide) (Op.lookupswitch.offset_nil _ _))))) (by decide) ?_
  refine x_iconst (pc := 52) dX5_kindFor_52 ?_
  cases Option.some.inj e
  exact x_iret (pc := 53) rfl dX5_kindFor_53
abbrev w_X5_kindFor : Cond := (Cond.code yX5_kindFor cX5_kindFor 1 (Option.some Jvm.ClassFile.FieldType.int))
theorem mf_X5_kindFor : MF yX5_kindFor w_X5_kindFor cX5_kindFor 1 (Option.some Jvm.ClassFile.FieldType.int) 1 := ⟨⟨rfl, tw_5_49, by decide⟩, tw_1_7, ⟨by decide, by decide⟩, by decide +kernel⟩
theorem c_X5_kindFor {l : Launch} {K : Ctx} (hl : l.stackTraces = false) {h : Hp} {i0 : Int32} {t : Rs Int32} (e : f_X5_kindFor h i0 = some t) : Ctr l K 8 yX5_kindFor w_X5_kindFor [.int i0] h (tgI t) :=
  Ctr.of hl mf_X5_kindFor false (fun q => nomatch q) rfl (leb rfl) (p_X5_kindFor hl e)
/-! ## TableColumnBalancer$Script.readKind -/
abbrev mM_X5_readKind : Mi := (9, yX5_readKind.cls, cX5_readKind, 2, (Option.some Jvm.ClassFile.FieldType.int), [], false)
noncomputable def f_X5_readKind_L38 (h : Hp) (a0 : Nat) (i1 : Int32) (s0 : Int32) (s1 : Nat) : Option (Rs Int32) :=
  chk (okr h a0 5) <|
  chk (okr h s1 5) <|
  bnd (f_X5_demand h s1 s0 (qI h a0 3)) fun h3 _ =>
  chk (okr h3 a0 5) <|
  lt (putI h3 a0 3 ((qI h3 a0 3) + (iN 1))) fun h6 =>
  some (h6, .inr i1)
theorem p_X5_readKind_L38 {l : Launch} {K : Ctx} (hl : l.stackTraces = false) {h : Hp} {a0 : Nat} {i1 : Int32} {s0 : Int32} {s1 : Nat} {t : Rs Int32} (e : f_X5_readKind_L38 h a0 i1 s0 s1 = some t) : X l K mM_X5_readKind (tgI t) 38 [(0, .ref a0), (1, .int i1)] [.int s0, .ref s1] h := by
  unfold f_X5_readKind_L38 at e
  refine x_aload_n (pc := 38) 0 dX5_readKind_38 rfl ?_
  obtain ⟨q1, e⟩ := chk_some e
  refine x_getI (pc := 39) gf_X5_36 rfl dX5_readKind_39 q1 ?_
  obtain ⟨q2, e⟩ := chk_some e
  rcases bnd_some e with ⟨h3, r4, ec, rfl⟩ | ⟨h3, r4, ec, e⟩
  · exact y_callV_x (pc := 42) (c_X5_demand hl ec) q2 mf_X5_demand tw_4_233 ts_4_11 lf_X5_93 rfl rfl dX5_readKind_42 (by decide) rfl rfl (leb rfl) (xx_out0 rfl)
  refine y_callV_v (pc := 42) (c_X5_demand hl ec) q2 mf_X5_demand tw_4_233 ts_4_11 lf_X5_93 rfl rfl dX5_readKind_42 (by decide) rfl rfl (leb rfl) ?_
  refine x_aload_n (pc := 45) 0 dX5_readKind_45 rfl ?_
  refine x_dup (pc := 46) dX5_readKind_46 rfl ?_
  obtain ⟨q5, e⟩ := chk_some e
  refine x_getI (pc := 47) gf_X5_36 rfl dX5_readKind_47 q5 ?_
  refine x_iconst (pc := 50) dX5_readKind_50 ?_
  refine x_iadd (pc := 51) dX5_readKind_51 ?_
  replace e := lt_go e
  refine x_putI (pc := 52) pf_X5_36 rfl rfl rfl dX5_readKind_52 q5 ?_
  refine x_iload_n (pc := 55) 1 dX5_readKind_55 rfl ?_
  cases Option.some.inj e
  exact x_iret (pc := 56) rfl dX5_readKind_56
noncomputable def f_X5_readKind_L27 (h : Hp) (a0 : Nat) (s0 : Int32) : Option (Rs Int32) :=
  if s0 < 0 then (
    f_X5_readKind_L38 h a0 s0 (iN 0) a0
  ) else (
    f_X5_readKind_L38 h a0 s0 (iN 1) a0
  )
theorem p_X5_readKind_L27 {l : Launch} {K : Ctx} (hl : l.stackTraces = false) {h : Hp} {a0 : Nat} {s0 : Int32} {t : Rs Int32} (e : f_X5_readKind_L27 h a0 s0 = some t) : X l K mM_X5_readKind (tgI t) 27 [(0, .ref a0)] [.int s0] h := by
  unfold f_X5_readKind_L27 at e
  refine x_istore_n (pc := 27) dX5_readKind_27 (by decide) rfl ?_
  refine x_aload_n (pc := 28) 1 dX5_readKind_28 rfl ?_
  refine x_iload_n (pc := 29) 0 dX5_readKind_29 rfl ?_
  rcases ite_some e with ⟨q1, e⟩ | ⟨q1, e⟩
  · refine x_if_lt_t (pc := 30) (t := 37) dX5_readKind_30 (by decide) q1 ?_
    refine x_iconst (pc := 37) dX5_readKind_37 ?_
    exact x_sub1 (p_X5_readKind_L38 hl e) [1, 0] rfl
  · refine x_if_lt_f (pc := 30) (t := 37) dX5_readKind_30 (by decide) q1 ?_
    refine x_iconst (pc := 33) dX5_readKind_33 ?_
    refine x_goto (pc := 34) (t := 38) dX5_readKind_34 (by decide) ?_
    exact x_sub1 (p_X5_readKind_L38 hl e) [1, 0] rfl
noncomputable def f_X5_readKind (h : Hp) (a0 : Nat) : Option (Rs Int32) :=
  chk (okr h a0 5) <|
  if (qI h a0 2) ≤ (qI h a0 3) then (
    f_X5_readKind_L27 h a0 (iN (-1))
  ) else (
    chk (okr h (qR h a0 0) 23) <|
    chk (vp_in (qI h a0 3) (qW h (qR h a0 0))) <|
    bnd (f_X5_kindFor h (qI h (qR h a0 0) (Int32.toNatClampNeg (qI h a0 3)))) fun h5 r6 =>
    f_X5_readKind_L27 h5 a0 r6
  )
theorem p_X5_readKind {l : Launch} {K : Ctx} (hl : l.stackTraces = false) {h : Hp} {a0 : Nat} {t : Rs Int32} (e : f_X5_readKind h a0 = some t) : X l K mM_X5_readKind (tgI t) 0 [(0, .ref a0)] [] h := by
  unfold f_X5_readKind at e
  refine x_aload_n (pc := 0) 0 dX5_readKind_0 rfl ?_
  obtain ⟨q1, e⟩ := chk_some e
  refine x_getI (pc := 1) gf_X5_36 rfl dX5_readKind_1 q1 ?_
  refine x_aload_n (pc := 4) 0 dX5_readKind_4 rfl ?_
  refine x_getI (pc := 5) gf_X5_33 rfl dX5_readKind_5 q1 ?_
  rcases ite_some e with ⟨q2, e⟩ | ⟨q2, e⟩
  · refine x_icmp_ge_t (pc := 8) (t := 26) dX5_readKind_8 (by decide) q2 ?_
    refine x_iconst (pc := 26) dX5_readKind_26 ?_
    exact p_X5_readKind_L27 hl e
  · refine x_icmp_ge_f (pc := 8) (t := 26) dX5_readKind_8 (by decide) q2 ?_
    refine x_aload_n (pc := 11) 0 dX5_readKind_11 rfl ?_
    obtain ⟨q3, e⟩ := chk_some e
    refine x_getR (pc := 12) gf_X5_9 rfl dX5_readKind_12 q1 q3.1 ?_
    refine x_aload_n (pc := 15) 0 dX5_readKind_15 rfl ?_
    refine x_getI (pc := 16) gf_X5_36 rfl dX5_readKind_16 q1 ?_
    obtain ⟨q4, e⟩ := chk_some e
    refine x_cald (pc := 19) dX5_readKind_19 q3 q4 ?_
    rcases bnd_some e with ⟨h5, r6, ec, rfl⟩ | ⟨h5, r6, ec, e⟩
    · exact y_callS_x (pc := 20) (c_X5_kindFor hl ec) mf_X5_kindFor tw_5_48 lf_X5_172 dX5_readKind_20 (by decide) rfl rfl (leb rfl) (xx_out0 rfl)
    refine y_callS_i (pc := 20) (c_X5_kindFor hl ec) mf_X5_kindFor tw_5_48 lf_X5_172 dX5_readKind_20 (by decide) rfl rfl (leb rfl) ?_
    refine x_goto (pc := 23) (t := 27) dX5_readKind_23 (by decide) ?_
    exact p_X5_readKind_L27 hl e
abbrev w_X5_readKind : Cond := (Cond.code yX5_readKind cX5_readKind 2 (Option.some Jvm.ClassFile.FieldType.int))
theorem mf_X5_readKind : MF yX5_readKind w_X5_readKind cX5_readKind 2 (Option.some Jvm.ClassFile.FieldType.int) 0 := ⟨⟨rfl, tw_5_46, by decide⟩, tw_1_7, ⟨by decide, by decide⟩, by decide +kernel⟩
theorem c_X5_readKind {l : Launch} {K : Ctx} (hl : l.stackTraces = false) {h : Hp} {a0 : Nat} {t : Rs Int32} (e : f_X5_readKind h a0 = some t) : Ctr l K 9 yX5_readKind w_X5_readKind [.ref a0] h (tgI t) :=
  Ctr.of hl mf_X5_readKind false (fun q => nomatch q) rfl (leb rfl) (p_X5_readKind hl e)
/-! ## TableColumnBalancer$Script.readWord -/
abbrev mM_X5_readWord : Mi := (9, yX5_readWord.cls, cX5_readWord, 3, (Option.some Jvm.ClassFile.FieldType.int), [], false)
noncomputable def f_X5_readWord_L32 (h : Hp) (a0 : Nat) (i1 : Int32) (i2 : Int32) (s0 : Int32) (s1 : Nat) : Option (Rs Int32) :=
  chk (okr h a0 5) <|
  chk (okr h s1 5) <|
  bnd (f_X5_demand h s1 s0 (qI h a0 3)) fun h3 _ =>
  chk (okr h3 a0 5) <|
  lt (putI h3 a0 3 i1) fun h6 =>
  some (h6, .inr i2)
theorem p_X5_readWord_L32 {l : Launch} {K : Ctx} (hl : l.stackTraces = false) {h : Hp} {a0 : Nat} {i1 : Int32} {i2 : Int32} {s0 : Int32} {s1 : Nat} {t : Rs Int32} (e : f_X5_readWord_L32 h a0 i1 i2 s0 s1 = some t) : X l K mM_X5_readWord (tgI t) 32 [(0, .ref a0), (1, .int i1), (2, .int i2)] [.int s0, .ref s1] h := by
  unfold f_X5_readWord_L32 at e
  refine x_aload_n (pc := 32) 0 dX5_readWord_32 rfl ?_
  obtain ⟨q1, e⟩ := chk_some e
  refine x_getI (pc := 33) gf_X5_36 rfl dX5_readWord_33 q1 ?_
  obtain ⟨q2, e⟩ := chk_some e
  rcases bnd_some e with ⟨h3, r4, ec, rfl⟩ | ⟨h3, r4, ec, e⟩
  · exact y_callV_x (pc := 36) (c_X5_demand hl ec) q2 mf_X5_demand tw_4_233 ts_4_11 lf_X5_93 rfl rfl dX5_readWord_36 (by decide) rfl rfl (leb rfl) (xx_out0 rfl)
  refine y_callV_v (pc := 36) (c_X5_demand hl ec) q2 mf_X5_demand tw_4_233 ts_4_11 lf_X5_93 rfl rfl dX5_readWord_36 (by decide) rfl rfl (leb rfl) ?_
  refine x_aload_n (pc := 39) 0 dX5_readWord_39 rfl ?_
  refine x_iload_n (pc := 40) 1 dX5_readWord_40 rfl ?_
  obtain ⟨q5, e⟩ := chk_some e
  replace e := lt_go e
  refine x_putI (pc := 41) pf_X5_36 rfl rfl rfl dX5_readWord_41 q5 ?_
  refine x_iload_n (pc := 44) 2 dX5_readWord_44 rfl ?_
  cases Option.some.inj e
  exact x_iret (pc := 45) rfl dX5_readWord_45
noncomputable def f_X5_readWord (h : Hp) (a0 : Nat) : Option (Rs Int32) :=
  chk (okr h a0 5) <|
  bnd (f_X5_endOfLetters h a0) fun h2 r3 =>
  chk (okr h2 a0 5) <|
  if ((jmin r3 ((qI h2 a0 3) + (iN 12))) - (qI h2 a0 3)) ≤ 0 then (
    f_X5_readWord_L32 h2 a0 (jmin r3 ((qI h2 a0 3) + (iN 12))) ((jmin r3 ((qI h2 a0 3) + (iN 12))) - (qI h2 a0 3)) (iN 0) a0
  ) else (
    f_X5_readWord_L32 h2 a0 (jmin r3 ((qI h2 a0 3) + (iN 12))) ((jmin r3 ((qI h2 a0 3) + (iN 12))) - (qI h2 a0 3)) (iN 1) a0
  )
theorem p_X5_readWord {l : Launch} {K : Ctx} (hl : l.stackTraces = false) {h : Hp} {a0 : Nat} {t : Rs Int32} (e : f_X5_readWord h a0 = some t) : X l K mM_X5_readWord (tgI t) 0 [(0, .ref a0)] [] h := by
  unfold f_X5_readWord at e
  refine x_aload_n (pc := 0) 0 dX5_readWord_0 rfl ?_
  obtain ⟨q1, e⟩ := chk_some e
  rcases bnd_some e with ⟨h2, r3, ec, rfl⟩ | ⟨h2, r3, ec, e⟩
  · exact y_callV_x (pc := 1) (c_X5_endOfLetters hl ec) q1 mf_X5_endOfLetters tw_4_168 ts_4_7 lf_X5_45 rfl rfl dX5_readWord_1 (by decide) rfl rfl (leb rfl) (xx_out0 rfl)
  refine y_callV_i (pc := 1) (c_X5_endOfLetters hl ec) q1 mf_X5_endOfLetters tw_4_168 ts_4_7 lf_X5_45 rfl rfl dX5_readWord_1 (by decide) rfl rfl (leb rfl) ?_
  refine x_aload_n (pc := 4) 0 dX5_readWord_4 rfl ?_
  obtain ⟨q4, e⟩ := chk_some e
  refine x_getI (pc := 5) gf_X5_36 rfl dX5_readWord_5 q4 ?_
  refine x_bipush (pc := 8) (v := iN 12) dX5_readWord_8 rfl ?_
  refine x_iadd (pc := 10) dX5_readWord_10 ?_
  refine x_mmin (pc := 11) tw_5_55 tw_2_167 tw_1_9 tw_2_168 (by decide) (leb rfl) dX5_readWord_11 ?_
  refine x_istore_n (pc := 14) dX5_readWord_14 (by decide) rfl ?_
  refine x_iload_n (pc := 15) 0 dX5_readWord_15 rfl ?_
  refine x_aload_n (pc := 16) 1 dX5_readWord_16 rfl ?_
  refine x_getI (pc := 17) gf_X5_36 rfl dX5_readWord_17 q4 ?_
  refine x_isub (pc := 20) dX5_readWord_20 ?_
  refine x_istore_n (pc := 21) dX5_readWord_21 (by decide) rfl ?_
  refine x_aload_n (pc := 22) 2 dX5_readWord_22 rfl ?_
  refine x_iload_n (pc := 23) 0 dX5_readWord_23 rfl ?_
  rcases ite_some e with ⟨q5, e⟩ | ⟨q5, e⟩
  · refine x_if_le_t (pc := 24) (t := 31) dX5_readWord_24 (by decide) q5 ?_
    refine x_iconst (pc := 31) dX5_readWord_31 ?_
    exact x_sub1 (p_X5_readWord_L32 hl e) [2, 1, 0] rfl
  · refine x_if_le_f (pc := 24) (t := 31) dX5_readWord_24 (by decide) q5 ?_
    refine x_iconst (pc := 27) dX5_readWord_27 ?_
    refine x_goto (pc := 28) (t := 32) dX5_readWord_28 (by decide) ?_
    exact x_sub1 (p_X5_readWord_L32 hl e) [2, 1, 0] rfl
abbrev w_X5_readWord : Cond := (Cond.code yX5_readWord cX5_readWord 3 (Option.some Jvm.ClassFile.FieldType.int))
theorem mf_X5_readWord : MF yX5_readWord w_X5_readWord cX5_readWord 3 (Option.some Jvm.ClassFile.FieldType.int) 0 := ⟨⟨rfl, tw_5_54, by decide⟩, tw_1_7, ⟨by decide, by decide⟩, by decide +kernel⟩
theorem c_X5_readWord {l : Launch} {K : Ctx} (hl : l.stackTraces = false) {h : Hp} {a0 : Nat} {t : Rs Int32} (e : f_X5_readWord h a0 = some t) : Ctr l K 9 yX5_readWord w_X5_readWord [.ref a0] h (tgI t) :=
  Ctr.of hl mf_X5_readWord false (fun q => nomatch q) rfl (leb rfl) (p_X5_readWord hl e)
/-! ## TableColumnBalancer$Script.breakFor -/
abbrev mM_X5_breakFor : Mi := (8, yX5_breakFor.cls, cX5_breakFor, 1, (Option.some Jvm.ClassFile.FieldType.int), [], false)
noncomputable def f_X5_breakFor (h : Hp) (i0 : Int32) : Option (Rs Int32) :=
  if i0 = iN 45 then (
    some (h, .inr (iN 3))
  ) else
  if i0 = iN 47 then (
    some (h, .inr (iN 1))
  ) else
  if i0 = iN 95 then (
    some (h, .inr (iN 0))
  ) else
  if i0 = iN 126 then (
    some (h, .inr (iN 2))
  ) else
  (
    some (h, .inr (iN (-1)))
  )
theorem p_X5_breakFor {l : Launch} {K : Ctx} (hl : l.stackTraces = false) {h : Hp} {i0 : Int32} {t : Rs Int32} (e : f_X5_breakFor h i0 = some t) : X l K mM_X5_breakFor (tgI t) 0 [(0, .int i0)] [] h := by
  unfold f_X5_breakFor at e
  refine x_iload_n (pc := 0) 0 dX5_breakFor_0 rfl ?_
  rcases ite_some e with ⟨q1, e⟩ | ⟨q1, e⟩
  · refine x_lookup (pc := 1) (off := 49) (t := 50) dX5_breakFor_1 (by decide) (lk_hit q1 (by decide)) (by decide) ?_
    refine x_iconst (pc := 50) dX5_breakFor_50 ?_
    cases Option.some.inj e
    exact x_iret (pc := 51) rfl dX5_breakFor_51
  rcases ite_some e with ⟨q2, e⟩ | ⟨q2, e⟩
  · refine x_lookup (pc := 1) (off := 45) (t := 46) dX5_breakFor_1 (by decide) (lk_hit q2 (by decide)) (by decide) ?_
    refine x_iconst (pc := 46) dX5_breakFor_46 ?_
    cases Option.some.inj e
    exact x_iret (pc := 47) rfl dX5_breakFor_47
  rcases ite_some e with ⟨q3, e⟩ | ⟨q3, e⟩
  · refine x_lookup (pc := 1) (off := 43) (t := 44) dX5_breakFor_1 (by decide) (lk_hit q3 (by decide)) (by decide) ?_
    refine x_iconst (pc := 44) dX5_breakFor_44 ?_
    cases Option.some.inj e
    exact x_iret (pc := 45) rfl dX5_breakFor_45
  rcases ite_some e with ⟨q4, e⟩ | ⟨q4, e⟩
  · refine x_lookup (pc := 1) (off := 47) (t := 48) dX5_breakFor_1 (by decide) (lk_hit q4 (by decide)) (by decide) ?_
    refine x_iconst (pc := 48) dX5_breakFor_48 ?_
    cases Option.some.inj e
    exact x_iret (pc := 49) rfl dX5_breakFor_49
  refine x_lookup (pc := 1) (off := 51) (t := 52) dX5_breakFor_1 (by decide) (lk_no q1 (show (iN 45).toInt = 45 by decide) (lk_no q2 (show (iN 47).toInt = 47 by decide) (lk_no q3 (show (iN 95).toInt = 95 by decide) (lk_no q4 (show (iN 126).toInt = 126 by decide) (Op.lookupswitch.offset_nil _ _))))) (by decide) ?_
  refine x_iconst (pc := 52) dX5_breakFor_52 ?_
  cases Option.some.inj e
  exact x_iret (pc := 53) rfl dX5_breakFor_53
abbrev w_X5_breakFor : Cond := (Cond.code yX5_breakFor cX5_breakFor 1 (Option.some Jvm.ClassFile.FieldType.int))
theorem mf_X5_breakFor : MF yX5_breakFor w_X5_breakFor cX5_breakFor 1 (Option.some Jvm.ClassFile.FieldType.int) 1 := ⟨⟨rfl, tw_5_62, by decide⟩, tw_1_7, ⟨by decide, by decide⟩, by decide +kernel⟩
theorem c_X5_breakFor {l : Launch} {K : Ctx} (hl : l.stackTraces = false) {h : Hp} {i0 : Int32} {t : Rs Int32} (e : f_X5_breakFor h i0 = some t) : Ctr l K 8 yX5_breakFor w_X5_breakFor [.int i0] h (tgI t) :=
  Ctr.of hl mf_X5_breakFor false (fun q => nomatch q) rfl (leb rfl) (p_X5_breakFor hl e)
