/-! ===== the methods as functions, each with its proof: made by program (gen_fun.py) ===== -/
/-! ## TableColumnBalancer$Script.isMarkAt -/
abbrev mM_X5_isMarkAt : Mi := (9, yX5_isMarkAt.cls, cX5_isMarkAt, 2, (Option.some Jvm.ClassFile.FieldType.boolean), [], false)
noncomputable def f_X5_isMarkAt (h : Hp) (a0 : Nat) (i1 : Int32) : Option (Rs Int32) :=
  chk (okr h a0 5) <|
  if (qI h a0 2) ≤ i1 then (
    some (h, .inr (iN 0))
  ) else (
    chk (okr h (qR h a0 0) 23) <|
    chk (vp_in i1 (qW h (qR h a0 0))) <|
    bnd (f_X5_breakFor h (qI h (qR h a0 0) (Int32.toNatClampNeg i1))) fun h5 r6 =>
    if r6 < 0 then (
      some (h5, .inr (iN 0))
    ) else (
      some (h5, .inr (iN 1))
    )
  )
theorem p_X5_isMarkAt {l : Launch} {K : Ctx} (hl : l.stackTraces = false) {h : Hp} {a0 : Nat} {i1 : Int32} {t : Rs Int32} (e : f_X5_isMarkAt h a0 i1 = some t) : X l K mM_X5_isMarkAt (tgI t) 0 [(0, .ref a0), (1, .int i1)] [] h := by
  unfold f_X5_isMarkAt at e
  refine x_iload_n (pc := 0) 1 dX5_isMarkAt_0 rfl ?_
  refine x_aload_n (pc := 1) 0 dX5_isMarkAt_1 rfl ?_
  obtain ⟨q1, e⟩ := chk_some e
  refine x_getI (pc := 2) gf_X5_33 rfl dX5_isMarkAt_2 q1 ?_
  rcases ite_some e with ⟨q2, e⟩ | ⟨q2, e⟩
  · refine x_icmp_ge_t (pc := 5) (t := 24) dX5_isMarkAt_5 (by decide) q2 ?_
    refine x_iconst (pc := 24) dX5_isMarkAt_24 ?_
    cases Option.some.inj e
    exact x_zret (pc := 25) rfl (Or.inl rfl) dX5_isMarkAt_25
  · refine x_icmp_ge_f (pc := 5) (t := 24) dX5_isMarkAt_5 (by decide) q2 ?_
    refine x_aload_n (pc := 8) 0 dX5_isMarkAt_8 rfl ?_
    obtain ⟨q3, e⟩ := chk_some e
    refine x_getR (pc := 9) gf_X5_9 rfl dX5_isMarkAt_9 q1 q3.1 ?_
    refine x_iload_n (pc := 12) 1 dX5_isMarkAt_12 rfl ?_
    obtain ⟨q4, e⟩ := chk_some e
    refine x_cald (pc := 13) dX5_isMarkAt_13 q3 q4 ?_
    rcases bnd_some e with ⟨h5, r6, ec, rfl⟩ | ⟨h5, r6, ec, e⟩
    · exact y_callS_x (pc := 14) (c_X5_breakFor hl ec) mf_X5_breakFor tw_5_61 lf_X5_140 dX5_isMarkAt_14 (by decide) rfl rfl (leb rfl) (xx_out0 rfl)
    refine y_callS_i (pc := 14) (c_X5_breakFor hl ec) mf_X5_breakFor tw_5_61 lf_X5_140 dX5_isMarkAt_14 (by decide) rfl rfl (leb rfl) ?_
    rcases ite_some e with ⟨q7, e⟩ | ⟨q7, e⟩
    · refine x_if_lt_t (pc := 17) (t := 24) dX5_isMarkAt_17 (by decide) q7 ?_
      refine x_iconst (pc := 24) dX5_isMarkAt_24 ?_
      cases Option.some.inj e
      exact x_zret (pc := 25) rfl (Or.inl rfl) dX5_isMarkAt_25
    · refine x_if_lt_f (pc := 17) (t := 24) dX5_isMarkAt_17 (by decide) q7 ?_
      refine x_iconst (pc := 20) dX5_isMarkAt_20 ?_
      refine x_goto (pc := 21) (t := 25) dX5_isMarkAt_21 (by decide) ?_
      cases Option.some.inj e
      exact x_zret (pc := 25) rfl (Or.inr rfl) dX5_isMarkAt_25
abbrev w_X5_isMarkAt : Cond := (Cond.code yX5_isMarkAt cX5_isMarkAt 2 (Option.some Jvm.ClassFile.FieldType.boolean))
theorem mf_X5_isMarkAt : MF yX5_isMarkAt w_X5_isMarkAt cX5_isMarkAt 2 (Option.some Jvm.ClassFile.FieldType.boolean) 1 := ⟨⟨rfl, tw_5_59, by decide⟩, tw_1_7, ⟨by decide, by decide⟩, by decide +kernel⟩
theorem c_X5_isMarkAt {l : Launch} {K : Ctx} (hl : l.stackTraces = false) {h : Hp} {a0 : Nat} {i1 : Int32} {t : Rs Int32} (e : f_X5_isMarkAt h a0 i1 = some t) : Ctr l K 9 yX5_isMarkAt w_X5_isMarkAt [.ref a0, .int i1] h (tgI t) :=
  Ctr.of hl mf_X5_isMarkAt false (fun q => nomatch q) rfl (leb rfl) (p_X5_isMarkAt hl e)
/-! ## TableColumnBalancer$Script.putContent -/
abbrev mM_X5_putContent : Mi := (10, yX5_putContent.cls, cX5_putContent, 5, (Option.none : Option Jvm.ClassFile.FieldType), [], false)
noncomputable def f_X5_putContent_L30 (h : Hp) (a0 : Nat) (i1 : Int32) : Option (Rs Unit) :=
  chk (okr h a0 5) <|
  bnd (f_X5_block h a0 i1) fun h2 _ =>
  some (h2, .inr ())
theorem p_X5_putContent_L30 {l : Launch} {K : Ctx} (hl : l.stackTraces = false) {h : Hp} {a0 : Nat} {i1 : Int32} {t : Rs Unit} (e : f_X5_putContent_L30 h a0 i1 = some t) : X l K mM_X5_putContent (tgV t) 30 [(0, .ref a0), (1, .int i1)] [] h := by
  unfold f_X5_putContent_L30 at e
  refine x_aload_n (pc := 30) 0 dX5_putContent_30 rfl ?_
  refine x_iload_n (pc := 31) 1 dX5_putContent_31 rfl ?_
  obtain ⟨q1, e⟩ := chk_some e
  rcases bnd_some e with ⟨h2, r3, ec, rfl⟩ | ⟨h2, r3, ec, e⟩
  · exact y_callV_x (pc := 32) (c_X5_block hl ec) q1 mf_X5_block tw_5_32 ts_5_2 lf_X5_120 rfl rfl dX5_putContent_32 (by decide) rfl rfl (leb rfl) (xx_out0 rfl)
  refine y_callV_v (pc := 32) (c_X5_block hl ec) q1 mf_X5_block tw_5_32 ts_5_2 lf_X5_120 rfl rfl dX5_putContent_32 (by decide) rfl rfl (leb rfl) ?_
  refine x_goto (pc := 35) (t := 56) dX5_putContent_35 (by decide) ?_
  cases Option.some.inj e
  exact x_vret (pc := 56) rfl dX5_putContent_56
noncomputable def f_X5_putContent (h : Hp) (a0 : Nat) (i1 : Int32) (i2 : Int32) (i3 : Int32) : Option (Rs Unit) :=
  chk (okr h a0 5) <|
  chk (okr h (qR h a0 6) 7) <|
  if ((qI h (qR h a0 6) 4) - (iN 1)) < 0 then (
    f_X5_putContent_L30 h a0 i1
  ) else (
    bnd (f_X7_hasRoom h (qR h a0 6) ((qI h (qR h a0 6) 4) - (iN 1)) i2 i3) fun h4 r5 =>
    if r5 = 0 then (
      f_X5_putContent_L30 h4 a0 i1
    ) else (
      chk (okr h4 a0 5) <|
      chk (okr h4 (qR h4 a0 6) 7) <|
      bnd (f_X7_place h4 (qR h4 a0 6) ((qI h (qR h a0 6) 4) - (iN 1)) i2 i3) fun h9 r10 =>
      chk (okr h9 a0 5) <|
      chk (okr h9 (qR h9 a0 7) 4) <|
      chk (okr h9 r10 4) <|
      bnd (f_X4_copyFrom h9 r10 (qR h9 a0 7)) fun h14 _ =>
      some (h14, .inr ())
    )
  )
theorem p_X5_putContent {l : Launch} {K : Ctx} (hl : l.stackTraces = false) {h : Hp} {a0 : Nat} {i1 : Int32} {i2 : Int32} {i3 : Int32} {t : Rs Unit} (e : f_X5_putContent h a0 i1 i2 i3 = some t) : X l K mM_X5_putContent (tgV t) 0 [(0, .ref a0), (1, .int i1), (2, .int i2), (3, .int i3)] [] h := by
  unfold f_X5_putContent at e
  refine x_aload_n (pc := 0) 0 dX5_putContent_0 rfl ?_
  obtain ⟨q1, e⟩ := chk_some e
  obtain ⟨q2, e⟩ := chk_some e
  refine x_getR (pc := 1) gf_X5_29 rfl dX5_putContent_1 q1 q2.1 ?_
  refine x_getI (pc := 4) gf_X5_117 rfl dX5_putContent_4 q2 ?_
  refine x_iconst (pc := 7) dX5_putContent_7 ?_
  refine x_isub (pc := 8) dX5_putContent_8 ?_
  refine x_istore (pc := 9) dX5_putContent_9 (by decide) rfl ?_
  refine x_iload (pc := 11) 0 dX5_putContent_11 rfl ?_
  rcases ite_some e with ⟨q3, e⟩ | ⟨q3, e⟩
  · refine x_if_lt_t (pc := 13) (t := 30) dX5_putContent_13 (by decide) q3 ?_
    exact x_sub1 (p_X5_putContent_L30 hl e) [1, 2] rfl
  · refine x_if_lt_f (pc := 13) (t := 30) dX5_putContent_13 (by decide) q3 ?_
    refine x_aload_n (pc := 16) 1 dX5_putContent_16 rfl ?_
    refine x_getR (pc := 17) gf_X5_29 rfl dX5_putContent_17 q1 q2.1 ?_
    refine x_iload (pc := 20) 0 dX5_putContent_20 rfl ?_
    refine x_iload_n (pc := 22) 3 dX5_putContent_22 rfl ?_
    refine x_iload_n (pc := 23) 4 dX5_putContent_23 rfl ?_
    rcases bnd_some e with ⟨h4, r5, ec, rfl⟩ | ⟨h4, r5, ec, e⟩
    · exact y_callV_x (pc := 24) (c_X7_hasRoom hl ec) q2 mf_X7_hasRoom tw_4_34 ts_3_8 lf_X5_154 rfl rfl dX5_putContent_24 (by decide) rfl rfl (leb rfl) (xx_out0 rfl)
    refine y_callV_i (pc := 24) (c_X7_hasRoom hl ec) q2 mf_X7_hasRoom tw_4_34 ts_3_8 lf_X5_154 rfl rfl dX5_putContent_24 (by decide) rfl rfl (leb rfl) ?_
    rcases ite_some e with ⟨q6, e⟩ | ⟨q6, e⟩
    · refine x_if_ne_f (pc := 27) (t := 38) dX5_putContent_27 (by decide) q6 ?_
      exact x_sub1 (p_X5_putContent_L30 hl e) [1, 2] rfl
    · refine x_if_ne_t (pc := 27) (t := 38) dX5_putContent_27 (by decide) q6 ?_
      refine x_aload_n (pc := 38) 1 dX5_putContent_38 rfl ?_
      obtain ⟨q7, e⟩ := chk_some e
      obtain ⟨q8, e⟩ := chk_some e
      refine x_getR (pc := 39) gf_X5_29 rfl dX5_putContent_39 q7 q8.1 ?_
      refine x_iload (pc := 42) 0 dX5_putContent_42 rfl ?_
      refine x_iload_n (pc := 44) 3 dX5_putContent_44 rfl ?_
      refine x_iload_n (pc := 45) 4 dX5_putContent_45 rfl ?_
      rcases bnd_some e with ⟨h9, r10, ec, rfl⟩ | ⟨h9, r10, ec, e⟩
      · exact y_callV_x (pc := 46) (c_X7_place hl ec) q8 mf_X7_place tw_4_39 ts_3_9 lf_X5_158 rfl rfl dX5_putContent_46 (by decide) rfl rfl (leb rfl) (xx_out0 rfl)
      refine y_callV_i (pc := 46) (c_X7_place hl ec) q8 mf_X7_place tw_4_39 ts_3_9 lf_X5_158 rfl rfl dX5_putContent_46 (by decide) rfl rfl (leb rfl) ?_
      refine x_aload_n (pc := 49) 1 dX5_putContent_49 rfl ?_
      obtain ⟨q11, e⟩ := chk_some e
      obtain ⟨q12, e⟩ := chk_some e
      refine x_getR (pc := 50) gf_X5_22 rfl dX5_putContent_50 q11 q12.1 ?_
      obtain ⟨q13, e⟩ := chk_some e
      rcases bnd_some e with ⟨h14, r15, ec, rfl⟩ | ⟨h14, r15, ec, e⟩
      · exact y_callV_x (pc := 53) (c_X4_copyFrom hl ec) q13 mf_X4_copyFrom tw_3_68 ts_3_1 lf_X5_162 rfl rfl dX5_putContent_53 (by decide) rfl rfl (leb rfl) (xx_out0 rfl)
      refine y_callV_v (pc := 53) (c_X4_copyFrom hl ec) q13 mf_X4_copyFrom tw_3_68 ts_3_1 lf_X5_162 rfl rfl dX5_putContent_53 (by decide) rfl rfl (leb rfl) ?_
      cases Option.some.inj e
      exact x_vret (pc := 56) rfl dX5_putContent_56
abbrev w_X5_putContent : Cond := (Cond.code yX5_putContent cX5_putContent 5 (Option.none : Option Jvm.ClassFile.FieldType))
theorem mf_X5_putContent : MF yX5_putContent w_X5_putContent cX5_putContent 5 (Option.none : Option Jvm.ClassFile.FieldType) 3 := ⟨⟨rfl, tw_5_67, by decide⟩, tw_1_7, ⟨by decide, by decide⟩, by decide +kernel⟩
theorem c_X5_putContent {l : Launch} {K : Ctx} (hl : l.stackTraces = false) {h : Hp} {a0 : Nat} {i1 : Int32} {i2 : Int32} {i3 : Int32} {t : Rs Unit} (e : f_X5_putContent h a0 i1 i2 i3 = some t) : Ctr l K 10 yX5_putContent w_X5_putContent [.ref a0, .int i1, .int i2, .int i3] h (tgV t) :=
  Ctr.of hl mf_X5_putContent false (fun q => nomatch q) rfl (leb rfl) (p_X5_putContent hl e)
/-! ## TableColumnBalancer$Script.readCellCommand -/
abbrev mM_X5_readCellCommand : Mi := (11, yX5_readCellCommand.cls, cX5_readCellCommand, 6, (Option.none : Option Jvm.ClassFile.FieldType), [], false)
noncomputable def f_X5_readCellCommand_L98 (h : Hp) (a0 : Nat) (i1 : Int32) (i2 : Int32) (i3 : Int32) (i4 : Int32) : Option (Rs Unit) :=
  chk (okr h a0 5) <|
  chk (okr h (qR h a0 7) 4) <|
  bnd (f_X4_push h (qR h a0 7) i4 (iN 0)) fun h3 _ =>
  chk (okr h3 a0 5) <|
  bnd (f_X5_skip h3 a0 (iN 59)) fun h6 _ =>
  chk (okr h6 a0 5) <|
  bnd (f_X5_putContent h6 a0 i1 i2 i3) fun h9 _ =>
  some (h9, .inr ())
theorem p_X5_readCellCommand_L98 {l : Launch} {K : Ctx} (hl : l.stackTraces = false) {h : Hp} {a0 : Nat} {i1 : Int32} {i2 : Int32} {i3 : Int32} {i4 : Int32} {t : Rs Unit} (e : f_X5_readCellCommand_L98 h a0 i1 i2 i3 i4 = some t) : X l K mM_X5_readCellCommand (tgV t) 98 [(0, .ref a0), (1, .int i1), (2, .int i2), (3, .int i3), (4, .int i4)] [] h := by
  unfold f_X5_readCellCommand_L98 at e
  refine x_aload_n (pc := 98) 0 dX5_readCellCommand_98 rfl ?_
  obtain ⟨q1, e⟩ := chk_some e
  obtain ⟨q2, e⟩ := chk_some e
  refine x_getR (pc := 99) gf_X5_22 rfl dX5_readCellCommand_99 q1 q2.1 ?_
  refine x_iload (pc := 102) 4 dX5_readCellCommand_102 rfl ?_
  refine x_iconst (pc := 104) dX5_readCellCommand_104 ?_
  rcases bnd_some e with ⟨h3, r4, ec, rfl⟩ | ⟨h3, r4, ec, e⟩
  · exact y_callV_x (pc := 105) (c_X4_push hl ec) q2 mf_X4_push tw_4_106 ts_4_1 lf_X5_144 rfl rfl dX5_readCellCommand_105 (by decide) rfl rfl (leb rfl) (xx_out0 rfl)
  refine y_callV_v (pc := 105) (c_X4_push hl ec) q2 mf_X4_push tw_4_106 ts_4_1 lf_X5_144 rfl rfl dX5_readCellCommand_105 (by decide) rfl rfl (leb rfl) ?_
  refine x_aload_n (pc := 108) 0 dX5_readCellCommand_108 rfl ?_
  refine x_bipush (pc := 109) (v := iN 59) dX5_readCellCommand_109 rfl ?_
  obtain ⟨q5, e⟩ := chk_some e
  rcases bnd_some e with ⟨h6, r7, ec, rfl⟩ | ⟨h6, r7, ec, e⟩
  · exact y_callV_x (pc := 111) (c_X5_skip hl ec) q5 mf_X5_skip tw_4_229 ts_4_10 lf_X5_97 rfl rfl dX5_readCellCommand_111 (by decide) rfl rfl (leb rfl) (xx_out0 rfl)
  refine y_callV_v (pc := 111) (c_X5_skip hl ec) q5 mf_X5_skip tw_4_229 ts_4_10 lf_X5_97 rfl rfl dX5_readCellCommand_111 (by decide) rfl rfl (leb rfl) ?_
  refine x_aload_n (pc := 114) 0 dX5_readCellCommand_114 rfl ?_
  refine x_iload_n (pc := 115) 1 dX5_readCellCommand_115 rfl ?_
  refine x_iload_n (pc := 116) 2 dX5_readCellCommand_116 rfl ?_
  refine x_iload_n (pc := 117) 3 dX5_readCellCommand_117 rfl ?_
  obtain ⟨q8, e⟩ := chk_some e
  rcases bnd_some e with ⟨h9, r10, ec, rfl⟩ | ⟨h9, r10, ec, e⟩
  · exact y_callV_x (pc := 118) (c_X5_putContent hl ec) q8 mf_X5_putContent tw_5_66 ts_5_8 lf_X5_148 rfl rfl dX5_readCellCommand_118 (by decide) rfl rfl (leb rfl) (xx_out0 rfl)
  refine y_callV_v (pc := 118) (c_X5_putContent hl ec) q8 mf_X5_putContent tw_5_66 ts_5_8 lf_X5_148 rfl rfl dX5_readCellCommand_118 (by decide) rfl rfl (leb rfl) ?_
  cases Option.some.inj e
  exact x_vret (pc := 121) rfl dX5_readCellCommand_121
noncomputable def f_X5_readCellCommand_B37 (k37 : Hp → Nat → Int32 → Int32 → Int32 → Int32 → Int32 → Option (Rs Unit)) (h : Hp) (a0 : Nat) (i1 : Int32) (i2 : Int32) (i3 : Int32) (i4 : Int32) (i5 : Int32) : Option (Rs Unit) :=
  if (iN 12) ≤ i5 then (
    f_X5_readCellCommand_L98 h a0 i1 i2 i3 i4
  ) else (
    chk (okr h a0 5) <|
    bnd (f_X5_isMarkAt h a0 (qI h a0 3)) fun h3 r4 =>
    if r4 = 0 then (
      f_X5_readCellCommand_L98 h3 a0 i1 i2 i3 i4
    ) else (
      chk (okr h3 a0 5) <|
      chk (okr h3 (qR h3 a0 7) 4) <|
      chk (okr h3 (qR h3 a0 0) 23) <|
      chk (vp_in (qI h3 a0 3) (qW h3 (qR h3 a0 0))) <|
      bnd (f_X5_breakFor h3 (qI h3 (qR h3 a0 0) (Int32.toNatClampNeg (qI h3 a0 3)))) fun h10 r11 =>
      chk (okr h10 (qR h3 a0 7) 4) <|
      bnd (f_X4_push h10 (qR h3 a0 7) i4 r11) fun h13 _ =>
      chk (okr h13 a0 5) <|
      lt (putI h13 a0 3 ((qI h13 a0 3) + (iN 1))) fun h16 =>
      bnd (f_X5_readWord h16 a0) fun h17 r18 =>
      k37 h17 a0 i1 i2 i3 r18 (i5 + iN 1)
    )
  )
theorem p_X5_readCellCommand_B37 {l : Launch} {K : Ctx} (hl : l.stackTraces = false) {k37 : Hp → Nat → Int32 → Int32 → Int32 → Int32 → Int32 → Option (Rs Unit)} (hk37 : ∀ (h : Hp) (a0 : Nat) (i1 : Int32) (i2 : Int32) (i3 : Int32) (i4 : Int32) (i5 : Int32) (t : Rs Unit), k37 h a0 i1 i2 i3 i4 i5 = some t → X l K mM_X5_readCellCommand (tgV t) 37 [(0, .ref a0), (1, .int i1), (2, .int i2), (3, .int i3), (4, .int i4), (5, .int i5)] [] h) {h : Hp} {a0 : Nat} {i1 : Int32} {i2 : Int32} {i3 : Int32} {i4 : Int32} {i5 : Int32} {t : Rs Unit} (e : f_X5_readCellCommand_B37 k37 h a0 i1 i2 i3 i4 i5 = some t) : X l K mM_X5_readCellCommand (tgV t) 37 [(0, .ref a0), (1, .int i1), (2, .int i2), (3, .int i3), (4, .int i4), (5, .int i5)] [] h := by
  unfold f_X5_readCellCommand_B37 at e
  refine x_iload (pc := 37) 5 dX5_readCellCommand_37 rfl ?_
  refine x_bipush (pc := 39) (v := iN 12) dX5_readCellCommand_39 rfl ?_
  rcases ite_some e with ⟨q1, e⟩ | ⟨q1, e⟩
  · refine x_icmp_ge_t (pc := 41) (t := 98) dX5_readCellCommand_41 (by decide) q1 ?_
    exact x_sub1 (p_X5_readCellCommand_L98 hl e) [0, 1, 2, 3, 4] rfl
  · refine x_icmp_ge_f (pc := 41) (t := 98) dX5_readCellCommand_41 (by decide) q1 ?_
    refine x_aload_n (pc := 44) 0 dX5_readCellCommand_44 rfl ?_
    refine x_aload_n (pc := 45) 0 dX5_readCellCommand_45 rfl ?_
    obtain ⟨q2, e⟩ := chk_some e
    refine x_getI (pc := 46) gf_X5_36 rfl dX5_readCellCommand_46 q2 ?_
    rcases bnd_some e with ⟨h3, r4, ec, rfl⟩ | ⟨h3, r4, ec, e⟩
    · exact y_callV_x (pc := 49) (c_X5_isMarkAt hl ec) q2 mf_X5_isMarkAt tw_5_58 ts_5_7 lf_X5_136 rfl rfl dX5_readCellCommand_49 (by decide) rfl rfl (leb rfl) (xx_out0 rfl)
    refine y_callV_i (pc := 49) (c_X5_isMarkAt hl ec) q2 mf_X5_isMarkAt tw_5_58 ts_5_7 lf_X5_136 rfl rfl dX5_readCellCommand_49 (by decide) rfl rfl (leb rfl) ?_
    rcases ite_some e with ⟨q5, e⟩ | ⟨q5, e⟩
    · refine x_if_eq_t (pc := 52) (t := 98) dX5_readCellCommand_52 (by decide) q5 ?_
      exact x_sub1 (p_X5_readCellCommand_L98 hl e) [0, 1, 2, 3, 4] rfl
    · refine x_if_eq_f (pc := 52) (t := 98) dX5_readCellCommand_52 (by decide) q5 ?_
      refine x_aload_n (pc := 55) 0 dX5_readCellCommand_55 rfl ?_
      obtain ⟨q6, e⟩ := chk_some e
      obtain ⟨q7, e⟩ := chk_some e
      refine x_getR (pc := 56) gf_X5_22 rfl dX5_readCellCommand_56 q6 q7.1 ?_
      refine x_iload (pc := 59) 4 dX5_readCellCommand_59 rfl ?_
      refine x_aload_n (pc := 61) 0 dX5_readCellCommand_61 rfl ?_
      obtain ⟨q8, e⟩ := chk_some e
      refine x_getR (pc := 62) gf_X5_9 rfl dX5_readCellCommand_62 q6 q8.1 ?_
      refine x_aload_n (pc := 65) 0 dX5_readCellCommand_65 rfl ?_
      refine x_getI (pc := 66) gf_X5_36 rfl dX5_readCellCommand_66 q6 ?_
      obtain ⟨q9, e⟩ := chk_some e
      refine x_cald (pc := 69) dX5_readCellCommand_69 q8 q9 ?_
      rcases bnd_some e with ⟨h10, r11, ec, rfl⟩ | ⟨h10, r11, ec, e⟩
      · exact y_callS_x (pc := 70) (c_X5_breakFor hl ec) mf_X5_breakFor tw_5_61 lf_X5_140 dX5_readCellCommand_70 (by decide) rfl rfl (leb rfl) (xx_out0 rfl)
      refine y_callS_i (pc := 70) (c_X5_breakFor hl ec) mf_X5_breakFor tw_5_61 lf_X5_140 dX5_readCellCommand_70 (by decide) rfl rfl (leb rfl) ?_
      obtain ⟨q12, e⟩ := chk_some e
      rcases bnd_some e with ⟨h13, r14, ec, rfl⟩ | ⟨h13, r14, ec, e⟩
      · exact y_callV_x (pc := 73) (c_X4_push hl ec) q12 mf_X4_push tw_4_106 ts_4_1 lf_X5_144 rfl rfl dX5_readCellCommand_73 (by decide) rfl rfl (leb rfl) (xx_out0 rfl)
      refine y_callV_v (pc := 73) (c_X4_push hl ec) q12 mf_X4_push tw_4_106 ts_4_1 lf_X5_144 rfl rfl dX5_readCellCommand_73 (by decide) rfl rfl (leb rfl) ?_
      refine x_aload_n (pc := 76) 0 dX5_readCellCommand_76 rfl ?_
      refine x_dup (pc := 77) dX5_readCellCommand_77 rfl ?_
      obtain ⟨q15, e⟩ := chk_some e
      refine x_getI (pc := 78) gf_X5_36 rfl dX5_readCellCommand_78 q15 ?_
      refine x_iconst (pc := 81) dX5_readCellCommand_81 ?_
      refine x_iadd (pc := 82) dX5_readCellCommand_82 ?_
      replace e := lt_go e
      refine x_putI (pc := 83) pf_X5_36 rfl rfl rfl dX5_readCellCommand_83 q15 ?_
      refine x_aload_n (pc := 86) 0 dX5_readCellCommand_86 rfl ?_
      rcases bnd_some e with ⟨h17, r18, ec, rfl⟩ | ⟨h17, r18, ec, e⟩
      · exact y_callV_x (pc := 87) (c_X5_readWord hl ec) (okr_pI q15) mf_X5_readWord tw_5_53 ts_5_6 lf_X5_133 rfl rfl dX5_readCellCommand_87 (by decide) rfl rfl (leb rfl) (xx_out0 rfl)
      refine y_callV_i (pc := 87) (c_X5_readWord hl ec) (okr_pI q15) mf_X5_readWord tw_5_53 ts_5_6 lf_X5_133 rfl rfl dX5_readCellCommand_87 (by decide) rfl rfl (leb rfl) ?_
      refine x_istore (pc := 90) dX5_readCellCommand_90 (by decide) rfl ?_
      refine x_iinc (pc := 92) 5 dX5_readCellCommand_92 rfl (by decide) rfl ?_
      refine x_goto (pc := 95) (t := 37) dX5_readCellCommand_95 (by decide) ?_
      exact x_sub1 (hk37 _ _ _ _ _ _ _ _ e) [2, 3, 4, 5, 1, 0] rfl
noncomputable def f_X5_readCellCommand_L37 (n : Nat) : Hp → Nat → Int32 → Int32 → Int32 → Int32 → Int32 → Option (Rs Unit) := Nat.rec (motive := fun _ => Hp → Nat → Int32 → Int32 → Int32 → Int32 → Int32 → Option (Rs Unit)) (fun _ _ _ _ _ _ _ => none) (fun _ r => f_X5_readCellCommand_B37 r) n
theorem p_X5_readCellCommand_L37 {l : Launch} {K : Ctx} (hl : l.stackTraces = false) : ∀ (n : Nat) (h : Hp) (a0 : Nat) (i1 : Int32) (i2 : Int32) (i3 : Int32) (i4 : Int32) (i5 : Int32) (t : Rs Unit) (e : f_X5_readCellCommand_L37 n h a0 i1 i2 i3 i4 i5 = some t), X l K mM_X5_readCellCommand (tgV t) 37 [(0, .ref a0), (1, .int i1), (2, .int i2), (3, .int i3), (4, .int i4), (5, .int i5)] [] h := by
  intro n
  induction n with
  | zero => exact fun _ _ _ _ _ _ _ _ e => nomatch (show (none : Option (Rs Unit)) = some _ from e)
  | succ n ih => exact fun h a0 i1 i2 i3 i4 i5 t e => p_X5_readCellCommand_B37 hl (fun h a0 i1 i2 i3 i4 i5 t e => ih h a0 i1 i2 i3 i4 i5 t e) e
noncomputable def f_X5_readCellCommand (h : Hp) (a0 : Nat) (i1 : Int32) : Option (Rs Unit) :=
  chk (okr h a0 5) <|
  bnd (f_X5_readColumn h a0) fun h2 r3 =>
  chk (okr h2 a0 5) <|
  bnd (f_X5_readSpan h2 a0 r3) fun h5 r6 =>
  chk (okr h5 a0 5) <|
  chk (okr h5 (qR h5 a0 7) 4) <|
  bnd (f_X5_readKind h5 a0) fun h9 r10 =>
  chk (okr h9 (qR h5 a0 7) 4) <|
  bnd (f_X4_begin h9 (qR h5 a0 7) r10) fun h12 _ =>
  chk (okr h12 a0 5) <|
  bnd (f_X5_skip h12 a0 (iN 61)) fun h15 _ =>
  chk (okr h15 a0 5) <|
  bnd (f_X5_readWord h15 a0) fun h18 r19 =>
  f_X5_readCellCommand_L37 2000 h18 a0 i1 r3 r6 r19 (iN 1)
theorem p_X5_readCellCommand {l : Launch} {K : Ctx} (hl : l.stackTraces = false) {h : Hp} {a0 : Nat} {i1 : Int32} {t : Rs Unit} (e : f_X5_readCellCommand h a0 i1 = some t) : X l K mM_X5_readCellCommand (tgV t) 0 [(0, .ref a0), (1, .int i1)] [] h := by
  unfold f_X5_readCellCommand at e
  refine x_aload_n (pc := 0) 0 dX5_readCellCommand_0 rfl ?_
  obtain ⟨q1, e⟩ := chk_some e
  rcases bnd_some e with ⟨h2, r3, ec, rfl⟩ | ⟨h2, r3, ec, e⟩
  · exact y_callV_x (pc := 1) (c_X5_readColumn hl ec) q1 mf_X5_readColumn tw_5_19 ts_5_0 lf_X5_104 rfl rfl dX5_readCellCommand_1 (by decide) rfl rfl (leb rfl) (xx_out0 rfl)
  refine y_callV_i (pc := 1) (c_X5_readColumn hl ec) q1 mf_X5_readColumn tw_5_19 ts_5_0 lf_X5_104 rfl rfl dX5_readCellCommand_1 (by decide) rfl rfl (leb rfl) ?_
  refine x_istore_n (pc := 4) dX5_readCellCommand_4 (by decide) rfl ?_
  refine x_aload_n (pc := 5) 1 dX5_readCellCommand_5 rfl ?_
  refine x_iload_n (pc := 6) 0 dX5_readCellCommand_6 rfl ?_
  obtain ⟨q4, e⟩ := chk_some e
  rcases bnd_some e with ⟨h5, r6, ec, rfl⟩ | ⟨h5, r6, ec, e⟩
  · exact y_callV_x (pc := 7) (c_X5_readSpan hl ec) q4 mf_X5_readSpan tw_5_41 ts_5_4 lf_X5_123 rfl rfl dX5_readCellCommand_7 (by decide) rfl rfl (leb rfl) (xx_out0 rfl)
  refine y_callV_i (pc := 7) (c_X5_readSpan hl ec) q4 mf_X5_readSpan tw_5_41 ts_5_4 lf_X5_123 rfl rfl dX5_readCellCommand_7 (by decide) rfl rfl (leb rfl) ?_
  refine x_istore_n (pc := 10) dX5_readCellCommand_10 (by decide) rfl ?_
  refine x_aload_n (pc := 11) 2 dX5_readCellCommand_11 rfl ?_
  obtain ⟨q7, e⟩ := chk_some e
  obtain ⟨q8, e⟩ := chk_some e
  refine x_getR (pc := 12) gf_X5_22 rfl dX5_readCellCommand_12 q7 q8.1 ?_
  refine x_aload_n (pc := 15) 2 dX5_readCellCommand_15 rfl ?_
  rcases bnd_some e with ⟨h9, r10, ec, rfl⟩ | ⟨h9, r10, ec, e⟩
  · exact y_callV_x (pc := 16) (c_X5_readKind hl ec) q7 mf_X5_readKind tw_5_45 ts_5_5 lf_X5_127 rfl rfl dX5_readCellCommand_16 (by decide) rfl rfl (leb rfl) (xx_out0 rfl)
  refine y_callV_i (pc := 16) (c_X5_readKind hl ec) q7 mf_X5_readKind tw_5_45 ts_5_5 lf_X5_127 rfl rfl dX5_readCellCommand_16 (by decide) rfl rfl (leb rfl) ?_
  obtain ⟨q11, e⟩ := chk_some e
  rcases bnd_some e with ⟨h12, r13, ec, rfl⟩ | ⟨h12, r13, ec, e⟩
  · exact y_callV_x (pc := 19) (c_X4_begin hl ec) q11 mf_X4_begin tw_4_43 ts_3_10 lf_X5_130 rfl rfl dX5_readCellCommand_19 (by decide) rfl rfl (leb rfl) (xx_out0 rfl)
  refine y_callV_v (pc := 19) (c_X4_begin hl ec) q11 mf_X4_begin tw_4_43 ts_3_10 lf_X5_130 rfl rfl dX5_readCellCommand_19 (by decide) rfl rfl (leb rfl) ?_
  refine x_aload_n (pc := 22) 2 dX5_readCellCommand_22 rfl ?_
  refine x_bipush (pc := 23) (v := iN 61) dX5_readCellCommand_23 rfl ?_
  obtain ⟨q14, e⟩ := chk_some e
  rcases bnd_some e with ⟨h15, r16, ec, rfl⟩ | ⟨h15, r16, ec, e⟩
  · exact y_callV_x (pc := 25) (c_X5_skip hl ec) q14 mf_X5_skip tw_4_229 ts_4_10 lf_X5_97 rfl rfl dX5_readCellCommand_25 (by decide) rfl rfl (leb rfl) (xx_out0 rfl)
  refine y_callV_v (pc := 25) (c_X5_skip hl ec) q14 mf_X5_skip tw_4_229 ts_4_10 lf_X5_97 rfl rfl dX5_readCellCommand_25 (by decide) rfl rfl (leb rfl) ?_
  refine x_aload_n (pc := 28) 2 dX5_readCellCommand_28 rfl ?_
  obtain ⟨q17, e⟩ := chk_some e
  rcases bnd_some e with ⟨h18, r19, ec, rfl⟩ | ⟨h18, r19, ec, e⟩
  · exact y_callV_x (pc := 29) (c_X5_readWord hl ec) q17 mf_X5_readWord tw_5_53 ts_5_6 lf_X5_133 rfl rfl dX5_readCellCommand_29 (by decide) rfl rfl (leb rfl) (xx_out0 rfl)
  refine y_callV_i (pc := 29) (c_X5_readWord hl ec) q17 mf_X5_readWord tw_5_53 ts_5_6 lf_X5_133 rfl rfl dX5_readCellCommand_29 (by decide) rfl rfl (leb rfl) ?_
  refine x_istore (pc := 32) dX5_readCellCommand_32 (by decide) rfl ?_
  refine x_iconst (pc := 34) dX5_readCellCommand_34 ?_
  refine x_istore (pc := 35) dX5_readCellCommand_35 (by decide) rfl ?_
  exact x_sub1 (p_X5_readCellCommand_L37 hl 2000 _ _ _ _ _ _ _ _ e) [4, 5, 3, 2, 1, 0] rfl
abbrev w_X5_readCellCommand : Cond := (Cond.code yX5_readCellCommand cX5_readCellCommand 6 (Option.none : Option Jvm.ClassFile.FieldType))
theorem mf_X5_readCellCommand : MF yX5_readCellCommand w_X5_readCellCommand cX5_readCellCommand 6 (Option.none : Option Jvm.ClassFile.FieldType) 1 := ⟨⟨rfl, tw_5_38, by decide⟩, tw_1_7, ⟨by decide, by decide⟩, by decide +kernel⟩
theorem c_X5_readCellCommand {l : Launch} {K : Ctx} (hl : l.stackTraces = false) {h : Hp} {a0 : Nat} {i1 : Int32} {t : Rs Unit} (e : f_X5_readCellCommand h a0 i1 = some t) : Ctr l K 11 yX5_readCellCommand w_X5_readCellCommand [.ref a0, .int i1] h (tgV t) :=
  Ctr.of hl mf_X5_readCellCommand false (fun q => nomatch q) rfl (leb rfl) (p_X5_readCellCommand hl e)
/-! ## TableColumnBalancer$Script.readPictureCommand -/
abbrev mM_X5_readPictureCommand : Mi := (11, yX5_readPictureCommand.cls, cX5_readPictureCommand, 6, (Option.none : Option Jvm.ClassFile.FieldType), [], false)
noncomputable def f_X5_readPictureCommand (h : Hp) (a0 : Nat) (i1 : Int32) : Option (Rs Unit) :=
  chk (okr h a0 5) <|
  bnd (f_X5_readColumn h a0) fun h2 r3 =>
  chk (okr h2 a0 5) <|
  bnd (f_X5_readSpan h2 a0 r3) fun h5 r6 =>
  chk (okr h5 a0 5) <|
  bnd (f_X5_skip h5 a0 (iN 61)) fun h8 _ =>
  chk (okr h8 a0 5) <|
  bnd (f_X5_readNumber h8 a0 (iN 1) (iN 20)) fun h11 r12 =>
  chk (okr h11 a0 5) <|
  bnd (f_X5_skip h11 a0 (iN 120)) fun h14 _ =>
  chk (okr h14 a0 5) <|
  bnd (f_X5_readNumber h14 a0 (iN 1) (iN 20)) fun h17 r18 =>
  chk (okr h17 a0 5) <|
  bnd (f_X5_skip h17 a0 (iN 59)) fun h20 _ =>
  chk (okr h20 a0 5) <|
  chk (okr h20 (qR h20 a0 7) 4) <|
  bnd (f_X4_begin h20 (qR h20 a0 7) (iN 4)) fun h24 _ =>
  chk (okr h24 a0 5) <|
  chk (okr h24 (qR h24 a0 7) 4) <|
  bnd (f_X4_resize h24 (qR h24 a0 7) r12 r18) fun h28 _ =>
  chk (okr h28 a0 5) <|
  bnd (f_X5_putContent h28 a0 i1 r3 r6) fun h31 _ =>
  some (h31, .inr ())
theorem p_X5_readPictureCommand {l : Launch} {K : Ctx} (hl : l.stackTraces = false) {h : Hp} {a0 : Nat} {i1 : Int32} {t : Rs Unit} (e : f_X5_readPictureCommand h a0 i1 = some t) : X l K mM_X5_readPictureCommand (tgV t) 0 [(0, .ref a0), (1, .int i1)] [] h := by
  unfold f_X5_readPictureCommand at e
  refine x_aload_n (pc := 0) 0 dX5_readPictureCommand_0 rfl ?_
  obtain ⟨q1, e⟩ := chk_some e
  rcases bnd_some e with ⟨h2, r3, ec, rfl⟩ | ⟨h2, r3, ec, e⟩
  · exact y_callV_x (pc := 1) (c_X5_readColumn hl ec) q1 mf_X5_readColumn tw_5_19 ts_5_0 lf_X5_104 rfl rfl dX5_readPictureCommand_1 (by decide) rfl rfl (leb rfl) (xx_out0 rfl)
  refine y_callV_i (pc := 1) (c_X5_readColumn hl ec) q1 mf_X5_readColumn tw_5_19 ts_5_0 lf_X5_104 rfl rfl dX5_readPictureCommand_1 (by decide) rfl rfl (leb rfl) ?_
  refine x_istore_n (pc := 4) dX5_readPictureCommand_4 (by decide) rfl ?_
  refine x_aload_n (pc := 5) 1 dX5_readPictureCommand_5 rfl ?_
  refine x_iload_n (pc := 6) 0 dX5_readPictureCommand_6 rfl ?_
  obtain ⟨q4, e⟩ := chk_some e
  rcases bnd_some e with ⟨h5, r6, ec, rfl⟩ | ⟨h5, r6, ec, e⟩
  · exact y_callV_x (pc := 7) (c_X5_readSpan hl ec) q4 mf_X5_readSpan tw_5_41 ts_5_4 lf_X5_123 rfl rfl dX5_readPictureCommand_7 (by decide) rfl rfl (leb rfl) (xx_out0 rfl)
  refine y_callV_i (pc := 7) (c_X5_readSpan hl ec) q4 mf_X5_readSpan tw_5_41 ts_5_4 lf_X5_123 rfl rfl dX5_readPictureCommand_7 (by decide) rfl rfl (leb rfl) ?_
  refine x_istore_n (pc := 10) dX5_readPictureCommand_10 (by decide) rfl ?_
  refine x_aload_n (pc := 11) 2 dX5_readPictureCommand_11 rfl ?_
  refine x_bipush (pc := 12) (v := iN 61) dX5_readPictureCommand_12 rfl ?_
  obtain ⟨q7, e⟩ := chk_some e
  rcases bnd_some e with ⟨h8, r9, ec, rfl⟩ | ⟨h8, r9, ec, e⟩
  · exact y_callV_x (pc := 14) (c_X5_skip hl ec) q7 mf_X5_skip tw_4_229 ts_4_10 lf_X5_97 rfl rfl dX5_readPictureCommand_14 (by decide) rfl rfl (leb rfl) (xx_out0 rfl)
  refine y_callV_v (pc := 14) (c_X5_skip hl ec) q7 mf_X5_skip tw_4_229 ts_4_10 lf_X5_97 rfl rfl dX5_readPictureCommand_14 (by decide) rfl rfl (leb rfl) ?_
  refine x_aload_n (pc := 17) 2 dX5_readPictureCommand_17 rfl ?_
  refine x_iconst (pc := 18) dX5_readPictureCommand_18 ?_
  refine x_bipush (pc := 19) (v := iN 20) dX5_readPictureCommand_19 rfl ?_
  obtain ⟨q10, e⟩ := chk_some e
  rcases bnd_some e with ⟨h11, r12, ec, rfl⟩ | ⟨h11, r12, ec, e⟩
  · exact y_callV_x (pc := 21) (c_X5_readNumber hl ec) q10 mf_X5_readNumber tw_4_239 ts_4_12 lf_X5_101 rfl rfl dX5_readPictureCommand_21 (by decide) rfl rfl (leb rfl) (xx_out0 rfl)
  refine y_callV_i (pc := 21) (c_X5_readNumber hl ec) q10 mf_X5_readNumber tw_4_239 ts_4_12 lf_X5_101 rfl rfl dX5_readPictureCommand_21 (by decide) rfl rfl (leb rfl) ?_
  refine x_istore (pc := 24) dX5_readPictureCommand_24 (by decide) rfl ?_
  refine x_aload_n (pc := 26) 3 dX5_readPictureCommand_26 rfl ?_
  refine x_bipush (pc := 27) (v := iN 120) dX5_readPictureCommand_27 rfl ?_
  obtain ⟨q13, e⟩ := chk_some e
  rcases bnd_some e with ⟨h14, r15, ec, rfl⟩ | ⟨h14, r15, ec, e⟩
  · exact y_callV_x (pc := 29) (c_X5_skip hl ec) q13 mf_X5_skip tw_4_229 ts_4_10 lf_X5_97 rfl rfl dX5_readPictureCommand_29 (by decide) rfl rfl (leb rfl) (xx_out0 rfl)
  refine y_callV_v (pc := 29) (c_X5_skip hl ec) q13 mf_X5_skip tw_4_229 ts_4_10 lf_X5_97 rfl rfl dX5_readPictureCommand_29 (by decide) rfl rfl (leb rfl) ?_
  refine x_aload_n (pc := 32) 3 dX5_readPictureCommand_32 rfl ?_
  refine x_iconst (pc := 33) dX5_readPictureCommand_33 ?_
  refine x_bipush (pc := 34) (v := iN 20) dX5_readPictureCommand_34 rfl ?_
  obtain ⟨q16, e⟩ := chk_some e
  rcases bnd_some e with ⟨h17, r18, ec, rfl⟩ | ⟨h17, r18, ec, e⟩
  · exact y_callV_x (pc := 36) (c_X5_readNumber hl ec) q16 mf_X5_readNumber tw_4_239 ts_4_12 lf_X5_101 rfl rfl dX5_readPictureCommand_36 (by decide) rfl rfl (leb rfl) (xx_out0 rfl)
  refine y_callV_i (pc := 36) (c_X5_readNumber hl ec) q16 mf_X5_readNumber tw_4_239 ts_4_12 lf_X5_101 rfl rfl dX5_readPictureCommand_36 (by decide) rfl rfl (leb rfl) ?_
  refine x_istore (pc := 39) dX5_readPictureCommand_39 (by decide) rfl ?_
  refine x_aload_n (pc := 41) 4 dX5_readPictureCommand_41 rfl ?_
  refine x_bipush (pc := 42) (v := iN 59) dX5_readPictureCommand_42 rfl ?_
  obtain ⟨q19, e⟩ := chk_some e
  rcases bnd_some e with ⟨h20, r21, ec, rfl⟩ | ⟨h20, r21, ec, e⟩
  · exact y_callV_x (pc := 44) (c_X5_skip hl ec) q19 mf_X5_skip tw_4_229 ts_4_10 lf_X5_97 rfl rfl dX5_readPictureCommand_44 (by decide) rfl rfl (leb rfl) (xx_out0 rfl)
  refine y_callV_v (pc := 44) (c_X5_skip hl ec) q19 mf_X5_skip tw_4_229 ts_4_10 lf_X5_97 rfl rfl dX5_readPictureCommand_44 (by decide) rfl rfl (leb rfl) ?_
  refine x_aload_n (pc := 47) 4 dX5_readPictureCommand_47 rfl ?_
  obtain ⟨q22, e⟩ := chk_some e
  obtain ⟨q23, e⟩ := chk_some e
  refine x_getR (pc := 48) gf_X5_22 rfl dX5_readPictureCommand_48 q22 q23.1 ?_
  refine x_iconst (pc := 51) dX5_readPictureCommand_51 ?_
  rcases bnd_some e with ⟨h24, r25, ec, rfl⟩ | ⟨h24, r25, ec, e⟩
  · exact y_callV_x (pc := 52) (c_X4_begin hl ec) q23 mf_X4_begin tw_4_43 ts_3_10 lf_X5_130 rfl rfl dX5_readPictureCommand_52 (by decide) rfl rfl (leb rfl) (xx_out0 rfl)
  refine y_callV_v (pc := 52) (c_X4_begin hl ec) q23 mf_X4_begin tw_4_43 ts_3_10 lf_X5_130 rfl rfl dX5_readPictureCommand_52 (by decide) rfl rfl (leb rfl) ?_
  refine x_aload_n (pc := 55) 4 dX5_readPictureCommand_55 rfl ?_
  obtain ⟨q26, e⟩ := chk_some e
  obtain ⟨q27, e⟩ := chk_some e
  refine x_getR (pc := 56) gf_X5_22 rfl dX5_readPictureCommand_56 q26 q27.1 ?_
  refine x_iload (pc := 59) 1 dX5_readPictureCommand_59 rfl ?_
  refine x_iload (pc := 61) 0 dX5_readPictureCommand_61 rfl ?_
  rcases bnd_some e with ⟨h28, r29, ec, rfl⟩ | ⟨h28, r29, ec, e⟩
  · exact y_callV_x (pc := 63) (c_X4_resize hl ec) q27 mf_X4_resize tw_4_124 ts_4_2 lf_X5_151 rfl rfl dX5_readPictureCommand_63 (by decide) rfl rfl (leb rfl) (xx_out0 rfl)
  refine y_callV_v (pc := 63) (c_X4_resize hl ec) q27 mf_X4_resize tw_4_124 ts_4_2 lf_X5_151 rfl rfl dX5_readPictureCommand_63 (by decide) rfl rfl (leb rfl) ?_
  refine x_aload_n (pc := 66) 4 dX5_readPictureCommand_66 rfl ?_
  refine x_iload_n (pc := 67) 5 dX5_readPictureCommand_67 rfl ?_
  refine x_iload_n (pc := 68) 3 dX5_readPictureCommand_68 rfl ?_
  refine x_iload_n (pc := 69) 2 dX5_readPictureCommand_69 rfl ?_
  obtain ⟨q30, e⟩ := chk_some e
  rcases bnd_some e with ⟨h31, r32, ec, rfl⟩ | ⟨h31, r32, ec, e⟩
  · exact y_callV_x (pc := 70) (c_X5_putContent hl ec) q30 mf_X5_putContent tw_5_66 ts_5_8 lf_X5_148 rfl rfl dX5_readPictureCommand_70 (by decide) rfl rfl (leb rfl) (xx_out0 rfl)
  refine y_callV_v (pc := 70) (c_X5_putContent hl ec) q30 mf_X5_putContent tw_5_66 ts_5_8 lf_X5_148 rfl rfl dX5_readPictureCommand_70 (by decide) rfl rfl (leb rfl) ?_
  cases Option.some.inj e
  exact x_vret (pc := 73) rfl dX5_readPictureCommand_73
abbrev w_X5_readPictureCommand : Cond := (Cond.code yX5_readPictureCommand cX5_readPictureCommand 6 (Option.none : Option Jvm.ClassFile.FieldType))
theorem mf_X5_readPictureCommand : MF yX5_readPictureCommand w_X5_readPictureCommand cX5_readPictureCommand 6 (Option.none : Option Jvm.ClassFile.FieldType) 1 := ⟨⟨rfl, tw_5_75, by decide⟩, tw_1_7, ⟨by decide, by decide⟩, by decide +kernel⟩
theorem c_X5_readPictureCommand {l : Launch} {K : Ctx} (hl : l.stackTraces = false) {h : Hp} {a0 : Nat} {i1 : Int32} {t : Rs Unit} (e : f_X5_readPictureCommand h a0 i1 = some t) : Ctr l K 11 yX5_readPictureCommand w_X5_readPictureCommand [.ref a0, .int i1] h (tgV t) :=
  Ctr.of hl mf_X5_readPictureCommand false (fun q => nomatch q) rfl (leb rfl) (p_X5_readPictureCommand hl e)
/-! ## TableColumnBalancer$Script.readCommand -/
abbrev mM_X5_readCommand : Mi := (14, yX5_readCommand.cls, cX5_readCommand, 3, (Option.none : Option Jvm.ClassFile.FieldType), [], false)
noncomputable def f_X5_readCommand (h : Hp) (a0 : Nat) : Option (Rs Unit) :=
  chk (okr h a0 5) <|
  bnd (f_X5_endOfLetters h a0) fun h2 r3 =>
  chk (okr h2 a0 5) <|
  lt (putI h2 a0 3 r3) fun h5 =>
  bnd (f_X5_spells h5 a0 (qI h a0 3) r3 (1000000 + 3)) fun h6 r7 =>
  if r7 = 0 then (
    chk (okr h6 a0 5) <|
    bnd (f_X5_spells h6 a0 (qI h a0 3) r3 (1000000 + 4)) fun h10 r11 =>
    if r11 = 0 then (
      chk (okr h10 a0 5) <|
      bnd (f_X5_spells h10 a0 (qI h a0 3) r3 (1000000 + 5)) fun h14 r15 =>
      if r15 = 0 then (
        chk (okr h14 a0 5) <|
        bnd (f_X5_spells h14 a0 (qI h a0 3) r3 (1000000 + 6)) fun h18 r19 =>
        if r19 = 0 then (
          chk (okr h18 a0 5) <|
          bnd (f_X5_spells h18 a0 (qI h a0 3) r3 (1000000 + 7)) fun h22 r23 =>
          if r23 = 0 then (
            chk (okr h22 a0 5) <|
            bnd (f_X5_spells h22 a0 (qI h a0 3) r3 (1000000 + 8)) fun h26 r27 =>
            if r27 = 0 then (
              chk (okr h26 a0 5) <|
              bnd (f_X5_spells h26 a0 (qI h a0 3) r3 (1000000 + 9)) fun h30 r31 =>
              if r31 = 0 then (
                chk (okr h30 a0 5) <|
                bnd (f_X5_demand h30 a0 (iN 0) (qI h a0 3)) fun h34 _ =>
                some (h34, .inr ())
              ) else (
                chk (okr h30 a0 5) <|
                bnd (f_X5_readPictureCommand h30 a0 (qI h a0 3)) fun h37 _ =>
                some (h37, .inr ())
              )
            ) else (
              chk (okr h26 a0 5) <|
              bnd (f_X5_readCellCommand h26 a0 (qI h a0 3)) fun h40 _ =>
              some (h40, .inr ())
            )
          ) else (
            chk (okr h22 a0 5) <|
            bnd (f_X5_readRowCommand h22 a0 (qI h a0 3)) fun h43 _ =>
            some (h43, .inr ())
          )
        ) else (
          chk (okr h18 a0 5) <|
          bnd (f_X5_readColumnCommand h18 a0) fun h46 _ =>
          some (h46, .inr ())
        )
      ) else (
        chk (okr h14 a0 5) <|
        chk (okr h14 (qR h14 a0 6) 7) <|
        bnd (f_X5_readMeasure h14 a0 (iN 0) (iN 2)) fun h50 r51 =>
        chk (okr h50 (qR h14 a0 6) 7) <|
        lt (putI h50 (qR h14 a0 6) 2 r51) fun h53 =>
        some (h53, .inr ())
      )
    ) else (
      chk (okr h10 a0 5) <|
      chk (okr h10 (qR h10 a0 6) 7) <|
      bnd (f_X5_readMeasure h10 a0 (iN 0) (iN 2)) fun h56 r57 =>
      chk (okr h56 (qR h10 a0 6) 7) <|
      lt (putI h56 (qR h10 a0 6) 1 r57) fun h59 =>
      some (h59, .inr ())
    )
  ) else (
    chk (okr h6 a0 5) <|
    chk (okr h6 (qR h6 a0 6) 7) <|
    bnd (f_X5_readMeasure h6 a0 (iN 8) (iN 36)) fun h62 r63 =>
    chk (okr h62 (qR h6 a0 6) 7) <|
    lt (putI h62 (qR h6 a0 6) 0 r63) fun h65 =>
    some (h65, .inr ())
  )
theorem p_X5_readCommand {l : Launch} {K : Ctx} (hl : l.stackTraces = false) {h : Hp} {a0 : Nat} {t : Rs Unit} (e : f_X5_readCommand h a0 = some t) : X l K mM_X5_readCommand (tgV t) 0 [(0, .ref a0)] [] h := by
  unfold f_X5_readCommand at e
  refine x_aload_n (pc := 0) 0 dX5_readCommand_0 rfl ?_
  obtain ⟨q1, e⟩ := chk_some e
  refine x_getI (pc := 1) gf_X5_36 rfl dX5_readCommand_1 q1 ?_
  refine x_istore_n (pc := 4) dX5_readCommand_4 (by decide) rfl ?_
  refine x_aload_n (pc := 5) 1 dX5_readCommand_5 rfl ?_
  rcases bnd_some e with ⟨h2, r3, ec, rfl⟩ | ⟨h2, r3, ec, e⟩
  · exact y_callV_x (pc := 6) (c_X5_endOfLetters hl ec) q1 mf_X5_endOfLetters tw_4_168 ts_4_7 lf_X5_45 rfl rfl dX5_readCommand_6 (by decide) rfl rfl (leb rfl) (xx_out0 rfl)
  refine y_callV_i (pc := 6) (c_X5_endOfLetters hl ec) q1 mf_X5_endOfLetters tw_4_168 ts_4_7 lf_X5_45 rfl rfl dX5_readCommand_6 (by decide) rfl rfl (leb rfl) ?_
  refine x_istore_n (pc := 9) dX5_readCommand_9 (by decide) rfl ?_
  refine x_aload_n (pc := 10) 2 dX5_readCommand_10 rfl ?_
  refine x_iload_n (pc := 11) 0 dX5_readCommand_11 rfl ?_
  obtain ⟨q4, e⟩ := chk_some e
  replace e := lt_go e
  refine x_putI (pc := 12) pf_X5_36 rfl rfl rfl dX5_readCommand_12 q4 ?_
  refine x_aload_n (pc := 15) 2 dX5_readCommand_15 rfl ?_
  refine x_iload_n (pc := 16) 1 dX5_readCommand_16 rfl ?_
  refine x_iload_n (pc := 17) 0 dX5_readCommand_17 rfl ?_
  refine x_ldcS (pc := 18) (j := 3) (tx := "width") (by decide) (by decide) dX5_readCommand_18 ?_
  rcases bnd_some e with ⟨h6, r7, ec, rfl⟩ | ⟨h6, r7, ec, e⟩
  · exact y_callV_x (pc := 20) (c_X5_spells hl ec) (okr_pI q4) mf_X5_spells tw_4_173 ts_4_8 lf_X5_51 rfl rfl dX5_readCommand_20 (by decide) rfl rfl (leb rfl) (xx_out0 rfl)
  refine y_callV_i (pc := 20) (c_X5_spells hl ec) (okr_pI q4) mf_X5_spells tw_4_173 ts_4_8 lf_X5_51 rfl rfl dX5_readCommand_20 (by decide) rfl rfl (leb rfl) ?_
  rcases ite_some e with ⟨q8, e⟩ | ⟨q8, e⟩
  · refine x_if_eq_t (pc := 23) (t := 44) dX5_readCommand_23 (by decide) q8 ?_
    refine x_aload_n (pc := 44) 2 dX5_readCommand_44 rfl ?_
    refine x_iload_n (pc := 45) 1 dX5_readCommand_45 rfl ?_
    refine x_iload_n (pc := 46) 0 dX5_readCommand_46 rfl ?_
    refine x_ldcS (pc := 47) (j := 4) (tx := "gap") (by decide) (by decide) dX5_readCommand_47 ?_
    obtain ⟨q9, e⟩ := chk_some e
    rcases bnd_some e with ⟨h10, r11, ec, rfl⟩ | ⟨h10, r11, ec, e⟩
    · exact y_callV_x (pc := 49) (c_X5_spells hl ec) q9 mf_X5_spells tw_4_173 ts_4_8 lf_X5_51 rfl rfl dX5_readCommand_49 (by decide) rfl rfl (leb rfl) (xx_out0 rfl)
    refine y_callV_i (pc := 49) (c_X5_spells hl ec) q9 mf_X5_spells tw_4_173 ts_4_8 lf_X5_51 rfl rfl dX5_readCommand_49 (by decide) rfl rfl (leb rfl) ?_
    rcases ite_some e with ⟨q12, e⟩ | ⟨q12, e⟩
    · refine x_if_eq_t (pc := 52) (t := 71) dX5_readCommand_52 (by decide) q12 ?_
      refine x_aload_n (pc := 71) 2 dX5_readCommand_71 rfl ?_
      refine x_iload_n (pc := 72) 1 dX5_readCommand_72 rfl ?_
      refine x_iload_n (pc := 73) 0 dX5_readCommand_73 rfl ?_
      refine x_ldcS (pc := 74) (j := 5) (tx := "pad") (by decide) (by decide) dX5_readCommand_74 ?_
      obtain ⟨q13, e⟩ := chk_some e
      rcases bnd_some e with ⟨h14, r15, ec, rfl⟩ | ⟨h14, r15, ec, e⟩
      · exact y_callV_x (pc := 76) (c_X5_spells hl ec) q13 mf_X5_spells tw_4_173 ts_4_8 lf_X5_51 rfl rfl dX5_readCommand_76 (by decide) rfl rfl (leb rfl) (xx_out0 rfl)
      refine y_callV_i (pc := 76) (c_X5_spells hl ec) q13 mf_X5_spells tw_4_173 ts_4_8 lf_X5_51 rfl rfl dX5_readCommand_76 (by decide) rfl rfl (leb rfl) ?_
      rcases ite_some e with ⟨q16, e⟩ | ⟨q16, e⟩
      · refine x_if_eq_t (pc := 79) (t := 98) dX5_readCommand_79 (by decide) q16 ?_
        refine x_aload_n (pc := 98) 2 dX5_readCommand_98 rfl ?_
        refine x_iload_n (pc := 99) 1 dX5_readCommand_99 rfl ?_
        refine x_iload_n (pc := 100) 0 dX5_readCommand_100 rfl ?_
        refine x_ldcS (pc := 101) (j := 6) (tx := "col") (by decide) (by decide) dX5_readCommand_101 ?_
        obtain ⟨q17, e⟩ := chk_some e
        rcases bnd_some e with ⟨h18, r19, ec, rfl⟩ | ⟨h18, r19, ec, e⟩
        · exact y_callV_x (pc := 103) (c_X5_spells hl ec) q17 mf_X5_spells tw_4_173 ts_4_8 lf_X5_51 rfl rfl dX5_readCommand_103 (by decide) rfl rfl (leb rfl) (xx_out0 rfl)
        refine y_callV_i (pc := 103) (c_X5_spells hl ec) q17 mf_X5_spells tw_4_173 ts_4_8 lf_X5_51 rfl rfl dX5_readCommand_103 (by decide) rfl rfl (leb rfl) ?_
        rcases ite_some e with ⟨q20, e⟩ | ⟨q20, e⟩
        · refine x_if_eq_t (pc := 106) (t := 116) dX5_readCommand_106 (by decide) q20 ?_
          refine x_aload_n (pc := 116) 2 dX5_readCommand_116 rfl ?_
          refine x_iload_n (pc := 117) 1 dX5_readCommand_117 rfl ?_
          refine x_iload_n (pc := 118) 0 dX5_readCommand_118 rfl ?_
          refine x_ldcS (pc := 119) (j := 7) (tx := "row") (by decide) (by decide) dX5_readCommand_119 ?_
          obtain ⟨q21, e⟩ := chk_some e
          rcases bnd_some e with ⟨h22, r23, ec, rfl⟩ | ⟨h22, r23, ec, e⟩
          · exact y_callV_x (pc := 121) (c_X5_spells hl ec) q21 mf_X5_spells tw_4_173 ts_4_8 lf_X5_51 rfl rfl dX5_readCommand_121 (by decide) rfl rfl (leb rfl) (xx_out0 rfl)
          refine y_callV_i (pc := 121) (c_X5_spells hl ec) q21 mf_X5_spells tw_4_173 ts_4_8 lf_X5_51 rfl rfl dX5_readCommand_121 (by decide) rfl rfl (leb rfl) ?_
          rcases ite_some e with ⟨q24, e⟩ | ⟨q24, e⟩
          · refine x_if_eq_t (pc := 124) (t := 135) dX5_readCommand_124 (by decide) q24 ?_
            refine x_aload_n (pc := 135) 2 dX5_readCommand_135 rfl ?_
            refine x_iload_n (pc := 136) 1 dX5_readCommand_136 rfl ?_
            refine x_iload_n (pc := 137) 0 dX5_readCommand_137 rfl ?_
            refine x_ldcS (pc := 138) (j := 8) (tx := "cell") (by decide) (by decide) dX5_readCommand_138 ?_
            obtain ⟨q25, e⟩ := chk_some e
            rcases bnd_some e with ⟨h26, r27, ec, rfl⟩ | ⟨h26, r27, ec, e⟩
            · exact y_callV_x (pc := 140) (c_X5_spells hl ec) q25 mf_X5_spells tw_4_173 ts_4_8 lf_X5_51 rfl rfl dX5_readCommand_140 (by decide) rfl rfl (leb rfl) (xx_out0 rfl)
            refine y_callV_i (pc := 140) (c_X5_spells hl ec) q25 mf_X5_spells tw_4_173 ts_4_8 lf_X5_51 rfl rfl dX5_readCommand_140 (by decide) rfl rfl (leb rfl) ?_
            rcases ite_some e with ⟨q28, e⟩ | ⟨q28, e⟩
            · refine x_if_eq_t (pc := 143) (t := 154) dX5_readCommand_143 (by decide) q28 ?_
              refine x_aload_n (pc := 154) 2 dX5_readCommand_154 rfl ?_
              refine x_iload_n (pc := 155) 1 dX5_readCommand_155 rfl ?_
              refine x_iload_n (pc := 156) 0 dX5_readCommand_156 rfl ?_
              refine x_ldcS (pc := 157) (j := 9) (tx := "pic") (by decide) (by decide) dX5_readCommand_157 ?_
              obtain ⟨q29, e⟩ := chk_some e
              rcases bnd_some e with ⟨h30, r31, ec, rfl⟩ | ⟨h30, r31, ec, e⟩
              · exact y_callV_x (pc := 159) (c_X5_spells hl ec) q29 mf_X5_spells tw_4_173 ts_4_8 lf_X5_51 rfl rfl dX5_readCommand_159 (by decide) rfl rfl (leb rfl) (xx_out0 rfl)
              refine y_callV_i (pc := 159) (c_X5_spells hl ec) q29 mf_X5_spells tw_4_173 ts_4_8 lf_X5_51 rfl rfl dX5_readCommand_159 (by decide) rfl rfl (leb rfl) ?_
              rcases ite_some e with ⟨q32, e⟩ | ⟨q32, e⟩
              · refine x_if_eq_t (pc := 162) (t := 173) dX5_readCommand_162 (by decide) q32 ?_
                refine x_aload_n (pc := 173) 2 dX5_readCommand_173 rfl ?_
                refine x_iconst (pc := 174) dX5_readCommand_174 ?_
                refine x_iload_n (pc := 175) 1 dX5_readCommand_175 rfl ?_
                obtain ⟨q33, e⟩ := chk_some e
                rcases bnd_some e with ⟨h34, r35, ec, rfl⟩ | ⟨h34, r35, ec, e⟩
                · exact y_callV_x (pc := 176) (c_X5_demand hl ec) q33 mf_X5_demand tw_4_233 ts_4_11 lf_X5_93 rfl rfl dX5_readCommand_176 (by decide) rfl rfl (leb rfl) (xx_out0 rfl)
                refine y_callV_v (pc := 176) (c_X5_demand hl ec) q33 mf_X5_demand tw_4_233 ts_4_11 lf_X5_93 rfl rfl dX5_readCommand_176 (by decide) rfl rfl (leb rfl) ?_
                cases Option.some.inj e
                exact x_vret (pc := 179) rfl dX5_readCommand_179
              · refine x_if_eq_f (pc := 162) (t := 173) dX5_readCommand_162 (by decide) q32 ?_
                refine x_aload_n (pc := 165) 2 dX5_readCommand_165 rfl ?_
                refine x_iload_n (pc := 166) 1 dX5_readCommand_166 rfl ?_
                obtain ⟨q36, e⟩ := chk_some e
                rcases bnd_some e with ⟨h37, r38, ec, rfl⟩ | ⟨h37, r38, ec, e⟩
                · exact y_callV_x (pc := 167) (c_X5_readPictureCommand hl ec) q36 mf_X5_readPictureCommand tw_5_74 ts_5_9 lf_X5_90 rfl rfl dX5_readCommand_167 (by decide) rfl rfl (leb rfl) (xx_out0 rfl)
                refine y_callV_v (pc := 167) (c_X5_readPictureCommand hl ec) q36 mf_X5_readPictureCommand tw_5_74 ts_5_9 lf_X5_90 rfl rfl dX5_readCommand_167 (by decide) rfl rfl (leb rfl) ?_
                refine x_goto (pc := 170) (t := 179) dX5_readCommand_170 (by decide) ?_
                cases Option.some.inj e
                exact x_vret (pc := 179) rfl dX5_readCommand_179
            · refine x_if_eq_f (pc := 143) (t := 154) dX5_readCommand_143 (by decide) q28 ?_
              refine x_aload_n (pc := 146) 2 dX5_readCommand_146 rfl ?_
              refine x_iload_n (pc := 147) 1 dX5_readCommand_147 rfl ?_
              obtain ⟨q39, e⟩ := chk_some e
              rcases bnd_some e with ⟨h40, r41, ec, rfl⟩ | ⟨h40, r41, ec, e⟩
              · exact y_callV_x (pc := 148) (c_X5_readCellCommand hl ec) q39 mf_X5_readCellCommand tw_5_37 ts_5_3 lf_X5_85 rfl rfl dX5_readCommand_148 (by decide) rfl rfl (leb rfl) (xx_out0 rfl)
              refine y_callV_v (pc := 148) (c_X5_readCellCommand hl ec) q39 mf_X5_readCellCommand tw_5_37 ts_5_3 lf_X5_85 rfl rfl dX5_readCommand_148 (by decide) rfl rfl (leb rfl) ?_
              refine x_goto (pc := 151) (t := 179) dX5_readCommand_151 (by decide) ?_
              cases Option.some.inj e
              exact x_vret (pc := 179) rfl dX5_readCommand_179
          · refine x_if_eq_f (pc := 124) (t := 135) dX5_readCommand_124 (by decide) q24 ?_
            refine x_aload_n (pc := 127) 2 dX5_readCommand_127 rfl ?_
            refine x_iload_n (pc := 128) 1 dX5_readCommand_128 rfl ?_
            obtain ⟨q42, e⟩ := chk_some e
            rcases bnd_some e with ⟨h43, r44, ec, rfl⟩ | ⟨h43, r44, ec, e⟩
            · exact y_callV_x (pc := 129) (c_X5_readRowCommand hl ec) q42 mf_X5_readRowCommand tw_5_28 ts_5_1 lf_X5_79 rfl rfl dX5_readCommand_129 (by decide) rfl rfl (leb rfl) (xx_out0 rfl)
            refine y_callV_v (pc := 129) (c_X5_readRowCommand hl ec) q42 mf_X5_readRowCommand tw_5_28 ts_5_1 lf_X5_79 rfl rfl dX5_readCommand_129 (by decide) rfl rfl (leb rfl) ?_
            refine x_goto (pc := 132) (t := 179) dX5_readCommand_132 (by decide) ?_
            cases Option.some.inj e
            exact x_vret (pc := 179) rfl dX5_readCommand_179
        · refine x_if_eq_f (pc := 106) (t := 116) dX5_readCommand_106 (by decide) q20 ?_
          refine x_aload_n (pc := 109) 2 dX5_readCommand_109 rfl ?_
          obtain ⟨q45, e⟩ := chk_some e
          rcases bnd_some e with ⟨h46, r47, ec, rfl⟩ | ⟨h46, r47, ec, e⟩
          · exact y_callV_x (pc := 110) (c_X5_readColumnCommand hl ec) q45 mf_X5_readColumnCommand tw_5_15 ts_4_15 lf_X5_74 rfl rfl dX5_readCommand_110 (by decide) rfl rfl (leb rfl) (xx_out0 rfl)
          refine y_callV_v (pc := 110) (c_X5_readColumnCommand hl ec) q45 mf_X5_readColumnCommand tw_5_15 ts_4_15 lf_X5_74 rfl rfl dX5_readCommand_110 (by decide) rfl rfl (leb rfl) ?_
          refine x_goto (pc := 113) (t := 179) dX5_readCommand_113 (by decide) ?_
          cases Option.some.inj e
          exact x_vret (pc := 179) rfl dX5_readCommand_179
      · refine x_if_eq_f (pc := 79) (t := 98) dX5_readCommand_79 (by decide) q16 ?_
        refine x_aload_n (pc := 82) 2 dX5_readCommand_82 rfl ?_
        obtain ⟨q48, e⟩ := chk_some e
        obtain ⟨q49, e⟩ := chk_some e
        refine x_getR (pc := 83) gf_X5_29 rfl dX5_readCommand_83 q48 q49.1 ?_
        refine x_aload_n (pc := 86) 2 dX5_readCommand_86 rfl ?_
        refine x_iconst (pc := 87) dX5_readCommand_87 ?_
        refine x_iconst (pc := 88) dX5_readCommand_88 ?_
        rcases bnd_some e with ⟨h50, r51, ec, rfl⟩ | ⟨h50, r51, ec, e⟩
        · exact y_callV_x (pc := 89) (c_X5_readMeasure hl ec) q48 mf_X5_readMeasure tw_4_225 ts_4_9 lf_X5_55 rfl rfl dX5_readCommand_89 (by decide) rfl rfl (leb rfl) (xx_out0 rfl)
        refine y_callV_i (pc := 89) (c_X5_readMeasure hl ec) q48 mf_X5_readMeasure tw_4_225 ts_4_9 lf_X5_55 rfl rfl dX5_readCommand_89 (by decide) rfl rfl (leb rfl) ?_
        obtain ⟨q52, e⟩ := chk_some e
        replace e := lt_go e
        refine x_putI (pc := 92) pf_X5_69 rfl rfl rfl dX5_readCommand_92 q52 ?_
        refine x_goto (pc := 95) (t := 179) dX5_readCommand_95 (by decide) ?_
        cases Option.some.inj e
        exact x_vret (pc := 179) rfl dX5_readCommand_179
    · refine x_if_eq_f (pc := 52) (t := 71) dX5_readCommand_52 (by decide) q12 ?_
      refine x_aload_n (pc := 55) 2 dX5_readCommand_55 rfl ?_
      obtain ⟨q54, e⟩ := chk_some e
      obtain ⟨q55, e⟩ := chk_some e
      refine x_getR (pc := 56) gf_X5_29 rfl dX5_readCommand_56 q54 q55.1 ?_
      refine x_aload_n (pc := 59) 2 dX5_readCommand_59 rfl ?_
      refine x_iconst (pc := 60) dX5_readCommand_60 ?_
      refine x_iconst (pc := 61) dX5_readCommand_61 ?_
      rcases bnd_some e with ⟨h56, r57, ec, rfl⟩ | ⟨h56, r57, ec, e⟩
      · exact y_callV_x (pc := 62) (c_X5_readMeasure hl ec) q54 mf_X5_readMeasure tw_4_225 ts_4_9 lf_X5_55 rfl rfl dX5_readCommand_62 (by decide) rfl rfl (leb rfl) (xx_out0 rfl)
      refine y_callV_i (pc := 62) (c_X5_readMeasure hl ec) q54 mf_X5_readMeasure tw_4_225 ts_4_9 lf_X5_55 rfl rfl dX5_readCommand_62 (by decide) rfl rfl (leb rfl) ?_
      obtain ⟨q58, e⟩ := chk_some e
      replace e := lt_go e
      refine x_putI (pc := 65) pf_X5_65 rfl rfl rfl dX5_readCommand_65 q58 ?_
      refine x_goto (pc := 68) (t := 179) dX5_readCommand_68 (by decide) ?_
      cases Option.some.inj e
      exact x_vret (pc := 179) rfl dX5_readCommand_179
  · refine x_if_eq_f (pc := 23) (t := 44) dX5_readCommand_23 (by decide) q8 ?_
    refine x_aload_n (pc := 26) 2 dX5_readCommand_26 rfl ?_
    obtain ⟨q60, e⟩ := chk_some e
    obtain ⟨q61, e⟩ := chk_some e
    refine x_getR (pc := 27) gf_X5_29 rfl dX5_readCommand_27 q60 q61.1 ?_
    refine x_aload_n (pc := 30) 2 dX5_readCommand_30 rfl ?_
    refine x_bipush (pc := 31) (v := iN 8) dX5_readCommand_31 rfl ?_
    refine x_bipush (pc := 33) (v := iN 36) dX5_readCommand_33 rfl ?_
    rcases bnd_some e with ⟨h62, r63, ec, rfl⟩ | ⟨h62, r63, ec, e⟩
    · exact y_callV_x (pc := 35) (c_X5_readMeasure hl ec) q60 mf_X5_readMeasure tw_4_225 ts_4_9 lf_X5_55 rfl rfl dX5_readCommand_35 (by decide) rfl rfl (leb rfl) (xx_out0 rfl)
    refine y_callV_i (pc := 35) (c_X5_readMeasure hl ec) q60 mf_X5_readMeasure tw_4_225 ts_4_9 lf_X5_55 rfl rfl dX5_readCommand_35 (by decide) rfl rfl (leb rfl) ?_
    obtain ⟨q64, e⟩ := chk_some e
    replace e := lt_go e
    refine x_putI (pc := 38) pf_X5_59 rfl rfl rfl dX5_readCommand_38 q64 ?_
    refine x_goto (pc := 41) (t := 179) dX5_readCommand_41 (by decide) ?_
    cases Option.some.inj e
    exact x_vret (pc := 179) rfl dX5_readCommand_179
abbrev w_X5_readCommand : Cond := (Cond.code yX5_readCommand cX5_readCommand 3 (Option.none : Option Jvm.ClassFile.FieldType))
theorem mf_X5_readCommand : MF yX5_readCommand w_X5_readCommand cX5_readCommand 3 (Option.none : Option Jvm.ClassFile.FieldType) 0 := ⟨⟨rfl, tw_4_165, by decide⟩, tw_1_7, ⟨by decide, by decide⟩, by decide +kernel⟩
theorem c_X5_readCommand {l : Launch} {K : Ctx} (hl : l.stackTraces = false) {h : Hp} {a0 : Nat} {t : Rs Unit} (e : f_X5_readCommand h a0 = some t) : Ctr l K 14 yX5_readCommand w_X5_readCommand [.ref a0] h (tgV t) :=
  Ctr.of hl mf_X5_readCommand false (fun q => nomatch q) rfl (leb rfl) (p_X5_readCommand hl e)
/-! ## TableColumnBalancer$Script.run -/
abbrev mM_X5_run : Mi := (15, yX5_run.cls, cX5_run, 3, (Option.some Jvm.ClassFile.FieldType.int), [], false)
noncomputable def f_X5_run_L61 (h : Hp) (a0 : Nat) (i2 : Int32) : Option (Rs Int32) :=
  chk (okr h a0 5) <|
  lt (putI h a0 4 (qI h a0 5)) fun h2 =>
  some (h2, .inr i2)
theorem p_X5_run_L61 {l : Launch} {K : Ctx} (hl : l.stackTraces = false) {h : Hp} {a0 : Nat} {i2 : Int32} {t : Rs Int32} (e : f_X5_run_L61 h a0 i2 = some t) : X l K mM_X5_run (tgI t) 61 [(0, .ref a0), (2, .int i2)] [] h := by
  unfold f_X5_run_L61 at e
  refine x_aload_n (pc := 61) 0 dX5_run_61 rfl ?_
  refine x_aload_n (pc := 62) 0 dX5_run_62 rfl ?_
  obtain ⟨q1, e⟩ := chk_some e
  refine x_getI (pc := 63) gf_X5_39 rfl dX5_run_63 q1 ?_
  replace e := lt_go e
  refine x_putI (pc := 66) pf_X5_15 rfl rfl rfl dX5_run_66 q1 ?_
  refine x_iload_n (pc := 69) 1 dX5_run_69 rfl ?_
  cases Option.some.inj e
  exact x_iret (pc := 70) rfl dX5_run_70
noncomputable def f_X5_run_B34 (k34 : Hp → Nat → Int32 → Option (Rs Int32)) (h : Hp) (a0 : Nat) (i2 : Int32) : Option (Rs Int32) :=
  chk (okr h a0 5) <|
  if (qI h a0 2) ≤ (qI h a0 3) then (
    f_X5_run_L61 h a0 i2
  ) else (
    if (iN 60) ≤ i2 then (
      f_X5_run_L61 h a0 i2
    ) else (
      bnd (f_X5_readCommand h a0) fun h4 _ =>
      k34 h4 a0 (i2 + iN 1)
    )
  )
theorem p_X5_run_B34 {l : Launch} {K : Ctx} (hl : l.stackTraces = false) {k34 : Hp → Nat → Int32 → Option (Rs Int32)} (hk34 : ∀ (h : Hp) (a0 : Nat) (i2 : Int32) (t : Rs Int32), k34 h a0 i2 = some t → X l K mM_X5_run (tgI t) 34 [(0, .ref a0), (2, .int i2)] [] h) {h : Hp} {a0 : Nat} {i2 : Int32} {t : Rs Int32} (e : f_X5_run_B34 k34 h a0 i2 = some t) : X l K mM_X5_run (tgI t) 34 [(0, .ref a0), (2, .int i2)] [] h := by
  unfold f_X5_run_B34 at e
  refine x_aload_n (pc := 34) 0 dX5_run_34 rfl ?_
  obtain ⟨q1, e⟩ := chk_some e
  refine x_getI (pc := 35) gf_X5_36 rfl dX5_run_35 q1 ?_
  refine x_aload_n (pc := 38) 0 dX5_run_38 rfl ?_
  refine x_getI (pc := 39) gf_X5_33 rfl dX5_run_39 q1 ?_
  rcases ite_some e with ⟨q2, e⟩ | ⟨q2, e⟩
  · refine x_icmp_ge_t (pc := 42) (t := 61) dX5_run_42 (by decide) q2 ?_
    exact p_X5_run_L61 hl e
  · refine x_icmp_ge_f (pc := 42) (t := 61) dX5_run_42 (by decide) q2 ?_
    refine x_iload_n (pc := 45) 1 dX5_run_45 rfl ?_
    refine x_bipush (pc := 46) (v := iN 60) dX5_run_46 rfl ?_
    rcases ite_some e with ⟨q3, e⟩ | ⟨q3, e⟩
    · refine x_icmp_ge_t (pc := 48) (t := 61) dX5_run_48 (by decide) q3 ?_
      exact p_X5_run_L61 hl e
    · refine x_icmp_ge_f (pc := 48) (t := 61) dX5_run_48 (by decide) q3 ?_
      refine x_aload_n (pc := 51) 0 dX5_run_51 rfl ?_
      rcases bnd_some e with ⟨h4, r5, ec, rfl⟩ | ⟨h4, r5, ec, e⟩
      · exact y_callV_x (pc := 52) (c_X5_readCommand hl ec) q1 mf_X5_readCommand tw_4_164 ts_4_6 lf_X5_42 rfl rfl dX5_run_52 (by decide) rfl rfl (leb rfl) (xx_out0 rfl)
      refine y_callV_v (pc := 52) (c_X5_readCommand hl ec) q1 mf_X5_readCommand tw_4_164 ts_4_6 lf_X5_42 rfl rfl dX5_run_52 (by decide) rfl rfl (leb rfl) ?_
      refine x_iinc (pc := 55) 1 dX5_run_55 rfl (by decide) rfl ?_
      refine x_goto (pc := 58) (t := 34) dX5_run_58 (by decide) ?_
      exact x_sub1 (hk34 _ _ _ _ e) [1, 0] rfl
noncomputable def f_X5_run_L34 (n : Nat) : Hp → Nat → Int32 → Option (Rs Int32) := Nat.rec (motive := fun _ => Hp → Nat → Int32 → Option (Rs Int32)) (fun _ _ _ => none) (fun _ r => f_X5_run_B34 r) n
theorem p_X5_run_L34 {l : Launch} {K : Ctx} (hl : l.stackTraces = false) : ∀ (n : Nat) (h : Hp) (a0 : Nat) (i2 : Int32) (t : Rs Int32) (e : f_X5_run_L34 n h a0 i2 = some t), X l K mM_X5_run (tgI t) 34 [(0, .ref a0), (2, .int i2)] [] h := by
  intro n
  induction n with
  | zero => exact fun _ _ _ _ e => nomatch (show (none : Option (Rs Int32)) = some _ from e)
  | succ n ih => exact fun h a0 i2 t e => p_X5_run_B34 hl (fun h a0 i2 t e => ih h a0 i2 t e) e
noncomputable def f_X5_run (h : Hp) (a0 : Nat) (a1 : Nat) : Option (Rs Int32) :=
  chk (okr h a0 5) <|
  chk (okr h a1 7) <|
  lt (putR h a0 6 a1) fun h3 =>
  lt (putI h3 a0 2 (qI h3 a0 1)) fun h4 =>
  lt (putI h4 a0 1 (iN 0)) fun h5 =>
  lt (putI h5 a0 3 (iN 0)) fun h6 =>
  lt (putI h6 a0 5 (iN (-1))) fun h7 =>
  bnd (f_X5_readCommand h7 a0) fun h8 _ =>
  f_X5_run_L34 2000 h8 a0 (iN 1)
theorem p_X5_run {l : Launch} {K : Ctx} (hl : l.stackTraces = false) {h : Hp} {a0 : Nat} {a1 : Nat} {t : Rs Int32} (e : f_X5_run h a0 a1 = some t) : X l K mM_X5_run (tgI t) 0 [(0, .ref a0), (1, .ref a1)] [] h := by
  unfold f_X5_run at e
  refine x_aload_n (pc := 0) 0 dX5_run_0 rfl ?_
  refine x_aload_n (pc := 1) 1 dX5_run_1 rfl ?_
  obtain ⟨q1, e⟩ := chk_some e
  obtain ⟨q2, e⟩ := chk_some e
  replace e := lt_go e
  refine x_putR (pc := 2) pf_X5_29 rfl q2.1 (fun _ => rfl) (fun _ => rfl) dX5_run_2 q1 ?_
  refine x_aload_n (pc := 5) 0 dX5_run_5 rfl ?_
  refine x_aload_n (pc := 6) 0 dX5_run_6 rfl ?_
  refine x_getI (pc := 7) gf_X5_26 rfl dX5_run_7 (okr_pR q1) ?_
  replace e := lt_go e
  refine x_putI (pc := 10) pf_X5_33 rfl rfl rfl dX5_run_10 (okr_pR q1) ?_
  refine x_aload_n (pc := 13) 0 dX5_run_13 rfl ?_
  refine x_iconst (pc := 14) dX5_run_14 ?_
  replace e := lt_go e
  refine x_putI (pc := 15) pf_X5_26 rfl rfl rfl dX5_run_15 (okr_pI (okr_pR q1)) ?_
  refine x_aload_n (pc := 18) 0 dX5_run_18 rfl ?_
  refine x_iconst (pc := 19) dX5_run_19 ?_
  replace e := lt_go e
  refine x_putI (pc := 20) pf_X5_36 rfl rfl rfl dX5_run_20 (okr_pI (okr_pI (okr_pR q1))) ?_
  refine x_aload_n (pc := 23) 0 dX5_run_23 rfl ?_
  refine x_iconst (pc := 24) dX5_run_24 ?_
  replace e := lt_go e
  refine x_putI (pc := 25) pf_X5_39 rfl rfl rfl dX5_run_25 (okr_pI (okr_pI (okr_pI (okr_pR q1)))) ?_
  refine x_iconst (pc := 28) dX5_run_28 ?_
  refine x_istore_n (pc := 29) dX5_run_29 (by decide) rfl ?_
  refine x_aload_n (pc := 30) 1 dX5_run_30 rfl ?_
  rcases bnd_some e with ⟨h8, r9, ec, rfl⟩ | ⟨h8, r9, ec, e⟩
  · exact y_callV_x (pc := 31) (c_X5_readCommand hl ec) (okr_pI (okr_pI (okr_pI (okr_pI (okr_pR q1))))) mf_X5_readCommand tw_4_164 ts_4_6 lf_X5_42 rfl rfl dX5_run_31 (by decide) rfl rfl (leb rfl) (xx_out0 rfl)
  refine y_callV_v (pc := 31) (c_X5_readCommand hl ec) (okr_pI (okr_pI (okr_pI (okr_pI (okr_pR q1))))) mf_X5_readCommand tw_4_164 ts_4_6 lf_X5_42 rfl rfl dX5_run_31 (by decide) rfl rfl (leb rfl) ?_
  exact x_sub1 (p_X5_run_L34 hl 2000 _ _ _ _ e) [1, 0] rfl
abbrev w_X5_run : Cond := (Cond.code yX5_run cX5_run 3 (Option.some Jvm.ClassFile.FieldType.int))
theorem mf_X5_run : MF yX5_run w_X5_run cX5_run 3 (Option.some Jvm.ClassFile.FieldType.int) 1 := ⟨⟨rfl, tw_4_161, by decide⟩, tw_1_7, ⟨by decide, by decide⟩, by decide +kernel⟩
theorem c_X5_run {l : Launch} {K : Ctx} (hl : l.stackTraces = false) {h : Hp} {a0 : Nat} {a1 : Nat} {t : Rs Int32} (e : f_X5_run h a0 a1 = some t) : Ctr l K 15 yX5_run w_X5_run [.ref a0, .ref a1] h (tgI t) :=
  Ctr.of hl mf_X5_run false (fun q => nomatch q) rfl (leb rfl) (p_X5_run hl e)
/-! ## TableColumnBalancer.execute -/
abbrev mM_X8_execute : Mi := (16, yX8_execute.cls, cX8_execute, 2, (Option.some Jvm.ClassFile.FieldType.int), [], false)
noncomputable def f_X8_execute_L38 (h : Hp) (a0 : Nat) (i1 : Int32) (s0 : Int32) : Option (Rs Int32) :=
  bnd (f_X8_requireState h s0) fun h1 _ =>
  chk (okr h1 a0 8) <|
  chk (okr h1 (qR h1 a0 0) 7) <|
  chk (okr h1 (qR h1 a0 3) 7) <|
  bnd (f_X7_copyFrom h1 (qR h1 a0 0) (qR h1 a0 3)) fun h6 _ =>
  chk (okr h6 a0 8) <|
  bnd (f_X8_changed h6 a0) fun h9 _ =>
  some (h9, .inr i1)
theorem p_X8_execute_L38 {l : Launch} {K : Ctx} (hl : l.stackTraces = false) {h : Hp} {a0 : Nat} {i1 : Int32} {s0 : Int32} {t : Rs Int32} (e : f_X8_execute_L38 h a0 i1 s0 = some t) : X l K mM_X8_execute (tgI t) 38 [(0, .ref a0), (1, .int i1)] [.int s0] h := by
  unfold f_X8_execute_L38 at e
  rcases bnd_some e with ⟨h1, r2, ec, rfl⟩ | ⟨h1, r2, ec, e⟩
  · exact y_callS_x (pc := 38) (c_X8_requireState hl ec) mf_X8_requireState tw_3_155 lf_X8_84 dX8_execute_38 (by decide) rfl rfl (leb rfl) (xx_out0 rfl)
  refine y_callS_v (pc := 38) (c_X8_requireState hl ec) mf_X8_requireState tw_3_155 lf_X8_84 dX8_execute_38 (by decide) rfl rfl (leb rfl) ?_
  refine x_aload_n (pc := 41) 0 dX8_execute_41 rfl ?_
  obtain ⟨q3, e⟩ := chk_some e
  obtain ⟨q4, e⟩ := chk_some e
  refine x_getR (pc := 42) gf_X8_10 rfl dX8_execute_42 q3 q4.1 ?_
  refine x_aload_n (pc := 45) 0 dX8_execute_45 rfl ?_
  obtain ⟨q5, e⟩ := chk_some e
  refine x_getR (pc := 46) gf_X8_34 rfl dX8_execute_46 q3 q5.1 ?_
  rcases bnd_some e with ⟨h6, r7, ec, rfl⟩ | ⟨h6, r7, ec, e⟩
  · exact y_callV_x (pc := 49) (c_X7_copyFrom hl ec) q4 mf_X7_copyFrom tw_3_60 ts_2_15 lf_X8_195 rfl rfl dX8_execute_49 (by decide) rfl rfl (leb rfl) (xx_out0 rfl)
  refine y_callV_v (pc := 49) (c_X7_copyFrom hl ec) q4 mf_X7_copyFrom tw_3_60 ts_2_15 lf_X8_195 rfl rfl dX8_execute_49 (by decide) rfl rfl (leb rfl) ?_
  refine x_aload_n (pc := 52) 0 dX8_execute_52 rfl ?_
  obtain ⟨q8, e⟩ := chk_some e
  rcases bnd_some e with ⟨h9, r10, ec, rfl⟩ | ⟨h9, r10, ec, e⟩
  · exact y_callV_x (pc := 53) (c_X8_changed hl ec) q8 mf_X8_changed tw_3_182 ts_3_5 lf_X8_93 rfl rfl dX8_execute_53 (by decide) rfl rfl (leb rfl) (xx_out0 rfl)
  refine y_callV_v (pc := 53) (c_X8_changed hl ec) q8 mf_X8_changed tw_3_182 ts_3_5 lf_X8_93 rfl rfl dX8_execute_53 (by decide) rfl rfl (leb rfl) ?_
  refine x_iload_n (pc := 56) 1 dX8_execute_56 rfl ?_
  cases Option.some.inj e
  exact x_iret (pc := 57) rfl dX8_execute_57
noncomputable def f_X8_execute (h : Hp) (a0 : Nat) : Option (Rs Int32) :=
  chk (okr h a0 8) <|
  chk (okr h (qR h a0 3) 7) <|
  chk (okr h (qR h a0 0) 7) <|
  bnd (f_X7_copyFrom h (qR h a0 3) (qR h a0 0)) fun h4 _ =>
  chk (okr h4 a0 8) <|
  chk (okr h4 (qR h4 a0 8) 5) <|
  chk (okr h4 (qR h4 a0 3) 7) <|
  bnd (f_X5_run h4 (qR h4 a0 8) (qR h4 a0 3)) fun h9 r10 =>
  chk (okr h9 a0 8) <|
  chk (okr h9 (qR h9 a0 8) 5) <|
  if 0 ≤ (qI h9 (qR h9 a0 8) 4) then (
    f_X8_execute_L38 h9 a0 r10 (iN 0)
  ) else (
    f_X8_execute_L38 h9 a0 r10 (iN 1)
  )
theorem p_X8_execute {l : Launch} {K : Ctx} (hl : l.stackTraces = false) {h : Hp} {a0 : Nat} {t : Rs Int32} (e : f_X8_execute h a0 = some t) : X l K mM_X8_execute (tgI t) 0 [(0, .ref a0)] [] h := by
  unfold f_X8_execute at e
  refine x_aload_n (pc := 0) 0 dX8_execute_0 rfl ?_
  obtain ⟨q1, e⟩ := chk_some e
  obtain ⟨q2, e⟩ := chk_some e
  refine x_getR (pc := 1) gf_X8_34 rfl dX8_execute_1 q1 q2.1 ?_
  refine x_aload_n (pc := 4) 0 dX8_execute_4 rfl ?_
  obtain ⟨q3, e⟩ := chk_some e
  refine x_getR (pc := 5) gf_X8_10 rfl dX8_execute_5 q1 q3.1 ?_
  rcases bnd_some e with ⟨h4, r5, ec, rfl⟩ | ⟨h4, r5, ec, e⟩
  · exact y_callV_x (pc := 8) (c_X7_copyFrom hl ec) q2 mf_X7_copyFrom tw_3_60 ts_2_15 lf_X8_195 rfl rfl dX8_execute_8 (by decide) rfl rfl (leb rfl) (xx_out0 rfl)
  refine y_callV_v (pc := 8) (c_X7_copyFrom hl ec) q2 mf_X7_copyFrom tw_3_60 ts_2_15 lf_X8_195 rfl rfl dX8_execute_8 (by decide) rfl rfl (leb rfl) ?_
  refine x_aload_n (pc := 11) 0 dX8_execute_11 rfl ?_
  obtain ⟨q6, e⟩ := chk_some e
  obtain ⟨q7, e⟩ := chk_some e
  refine x_getR (pc := 12) gf_X8_49 rfl dX8_execute_12 q6 q7.1 ?_
  refine x_aload_n (pc := 15) 0 dX8_execute_15 rfl ?_
  obtain ⟨q8, e⟩ := chk_some e
  refine x_getR (pc := 16) gf_X8_34 rfl dX8_execute_16 q6 q8.1 ?_
  rcases bnd_some e with ⟨h9, r10, ec, rfl⟩ | ⟨h9, r10, ec, e⟩
  · exact y_callV_x (pc := 19) (c_X5_run hl ec) q7 mf_X5_run tw_4_160 ts_4_5 lf_X8_198 rfl rfl dX8_execute_19 (by decide) rfl rfl (leb rfl) (xx_out0 rfl)
  refine y_callV_i (pc := 19) (c_X5_run hl ec) q7 mf_X5_run tw_4_160 ts_4_5 lf_X8_198 rfl rfl dX8_execute_19 (by decide) rfl rfl (leb rfl) ?_
  refine x_istore_n (pc := 22) dX8_execute_22 (by decide) rfl ?_
  refine x_aload_n (pc := 23) 1 dX8_execute_23 rfl ?_
  obtain ⟨q11, e⟩ := chk_some e
  obtain ⟨q12, e⟩ := chk_some e
  refine x_getR (pc := 24) gf_X8_49 rfl dX8_execute_24 q11 q12.1 ?_
  refine x_getI (pc := 27) gf_X8_202 rfl dX8_execute_27 q12 ?_
  rcases ite_some e with ⟨q13, e⟩ | ⟨q13, e⟩
  · refine x_if_ge_t (pc := 30) (t := 37) dX8_execute_30 (by decide) q13 ?_
    refine x_iconst (pc := 37) dX8_execute_37 ?_
    exact x_sub1 (p_X8_execute_L38 hl e) [1, 0] rfl
  · refine x_if_ge_f (pc := 30) (t := 37) dX8_execute_30 (by decide) q13 ?_
    refine x_iconst (pc := 33) dX8_execute_33 ?_
    refine x_goto (pc := 34) (t := 38) dX8_execute_34 (by decide) ?_
    exact x_sub1 (p_X8_execute_L38 hl e) [1, 0] rfl
abbrev w_X8_execute : Cond := (Cond.code yX8_execute cX8_execute 2 (Option.some Jvm.ClassFile.FieldType.int))
theorem mf_X8_execute : MF yX8_execute w_X8_execute cX8_execute 2 (Option.some Jvm.ClassFile.FieldType.int) 0 := ⟨⟨rfl, tw_4_157, by decide⟩, tw_1_1, ⟨by decide, by decide⟩, by decide +kernel⟩
theorem c_X8_execute {l : Launch} {K : Ctx} (hl : l.stackTraces = false) {h : Hp} {a0 : Nat} {t : Rs Int32} (e : f_X8_execute h a0 = some t) : Ctr l K 16 yX8_execute w_X8_execute [.ref a0] h (tgI t) :=
  Ctr.of hl mf_X8_execute false (fun q => nomatch q) rfl (leb rfl) (p_X8_execute hl e)
/-! ## TableColumnBalancerLaw.execute -/
abbrev mM_L_execute : Mi := (17, yL_execute.cls, cL_execute, 3, (Option.some Jvm.ClassFile.FieldType.int), [((0 : Nat), (8 : Nat), (11 : Nat), (13 : Nat)), ((0 : Nat), (8 : Nat), (14 : Nat), (15 : Nat))], false)
noncomputable def f_L_execute (h : Hp) (a0 : Nat) (a1 : Nat) : Option (Rs Int32) :=
  chk (okr h a0 8) <|
  bndX (f_X8_execute h a0) (fun h2 r3 => (
    chk (okr h2 a1 21) <|
    chk (vp_in (iN 0) (qW h2 a1)) <|
    lt (putL h2 a1 (Int32.toNatClampNeg (iN 0)) (Int32.toInt64 r3)) fun h6 =>
    some (h6, .inr (iN 0))
  )) fun h2 k =>
  if k = 1 then (
    some (h2, .inr (iN 1))
  ) else
  if k = 0 then (
    some (h2, .inr (iN 2))
  ) else
  none
theorem p_L_execute {l : Launch} {K : Ctx} (hl : l.stackTraces = false) {h : Hp} {a0 : Nat} {a1 : Nat} {t : Rs Int32} (e : f_L_execute h a0 a1 = some t) : X l K mM_L_execute (tgI t) 0 [(0, .ref a0), (1, .ref a1)] [] h := by
  unfold f_L_execute at e
  refine x_aload_n (pc := 0) 1 dL_execute_0 rfl ?_
  refine x_iconst (pc := 1) dL_execute_1 ?_
  refine x_aload_n (pc := 2) 0 dL_execute_2 rfl ?_
  obtain ⟨q1, e⟩ := chk_some e
  rcases bndX_some e with ⟨h2, k, ec, e⟩ | ⟨h2, r3, ec, e⟩
  · rcases ite_some e with ⟨q7, e⟩ | ⟨q7, e⟩
    · subst q7
      refine y_callV_x (pc := 3) (c_X8_execute hl ec) q1 mf_X8_execute tw_4_155 tw_4_156 lf_L_55 rfl rfl dL_execute_3 (by decide) rfl rfl (leb rfl) (xx_catch (pc := 3) [] [(0, 8, 14, 15)] (0, 8, 11, 13) rfl (by decide) (fun _ hz => absurd hz List.not_mem_nil) (by decide) (by decide) tw_3_76 tw_3_88 dL_execute_11 (by decide) rfl ?_)
      refine x_iconst (pc := 12) dL_execute_12 ?_
      cases Option.some.inj e
      exact x_iret (pc := 13) rfl dL_execute_13
    rcases ite_some e with ⟨q8, e⟩ | ⟨q8, e⟩
    · subst q8
      refine y_callV_x (pc := 3) (c_X8_execute hl ec) q1 mf_X8_execute tw_4_155 tw_4_156 lf_L_55 rfl rfl dL_execute_3 (by decide) rfl rfl (leb rfl) (xx_catch (pc := 3) [(0, 8, 11, 13)] [] (0, 8, 14, 15) rfl (by decide) (List.forall_mem_cons.mpr ⟨⟨by decide, 1, by decide, by decide, tw_3_76⟩, fun _ hz => absurd hz List.not_mem_nil⟩) (by decide) (by decide) tw_3_77 tw_3_159 dL_execute_14 (by decide) rfl ?_)
      refine x_iconst (pc := 15) dL_execute_15 ?_
      cases Option.some.inj e
      exact x_iret (pc := 16) rfl dL_execute_16
    cases e
  refine y_callV_i (pc := 3) (c_X8_execute hl ec) q1 mf_X8_execute tw_4_155 tw_4_156 lf_L_55 rfl rfl dL_execute_3 (by decide) rfl rfl (leb rfl) ?_
  refine x_i2l (pc := 6) dL_execute_6 ?_
  obtain ⟨q4, e⟩ := chk_some e
  obtain ⟨q5, e⟩ := chk_some e
  replace e := lt_go e
  refine x_last (pc := 7) dL_execute_7 q4 q5 ?_
  refine x_goto (pc := 8) (t := 17) dL_execute_8 (by decide) ?_
  refine x_iconst (pc := 17) dL_execute_17 ?_
  cases Option.some.inj e
  exact x_iret (pc := 18) rfl dL_execute_18
abbrev w_L_execute : Cond := (Cond.codeWith yL_execute cL_execute 3 (Option.some Jvm.ClassFile.FieldType.int) [((0 : Nat), (8 : Nat), (11 : Nat), (13 : Nat)), ((0 : Nat), (8 : Nat), (14 : Nat), (15 : Nat))])
theorem mf_L_execute : MFX yL_execute w_L_execute cL_execute 3 (Option.some Jvm.ClassFile.FieldType.int) 2 [((0 : Nat), (8 : Nat), (11 : Nat), (13 : Nat)), ((0 : Nat), (8 : Nat), (14 : Nat), (15 : Nat))] := ⟨⟨rfl, tw_4_153, by decide⟩, tw_1_0, ⟨by decide, by decide⟩, by decide +kernel⟩
theorem c_L_execute {l : Launch} {K : Ctx} (hl : l.stackTraces = false) {h : Hp} {a0 : Nat} {a1 : Nat} {t : Rs Int32} (e : f_L_execute h a0 a1 = some t) : Ctr l K 17 yL_execute w_L_execute [.ref a0, .ref a1] h (tgI t) :=
  Ctr.ofX hl mf_L_execute rfl (leb rfl) (p_L_execute hl e)
/-! ## TableColumnBalancerModel.isOff -/
abbrev mM_X9_isOff : Mi := (8, yX9_isOff.cls, cX9_isOff, 1, (Option.some Jvm.ClassFile.FieldType.boolean), [], false)
noncomputable def f_X9_isOff (h : Hp) (a0 : Nat) : Option (Rs Int32) :=
  chk (okr h a0 9) <|
  if (qI h a0 7) = (iN (-1)) then (
    some (h, .inr (iN 0))
  ) else (
    some (h, .inr (iN 1))
  )
theorem p_X9_isOff {l : Launch} {K : Ctx} (hl : l.stackTraces = false) {h : Hp} {a0 : Nat} {t : Rs Int32} (e : f_X9_isOff h a0 = some t) : X l K mM_X9_isOff (tgI t) 0 [(0, .ref a0)] [] h := by
  unfold f_X9_isOff at e
  refine x_aload_n (pc := 0) 0 dX9_isOff_0 rfl ?_
  obtain ⟨q1, e⟩ := chk_some e
  refine x_getI (pc := 1) gf_X9_22 rfl dX9_isOff_1 q1 ?_
  refine x_iconst (pc := 4) dX9_isOff_4 ?_
  rcases ite_some e with ⟨q2, e⟩ | ⟨q2, e⟩
  · refine x_icmp_eq_t (pc := 5) (t := 12) dX9_isOff_5 (by decide) q2 ?_
    refine x_iconst (pc := 12) dX9_isOff_12 ?_
    cases Option.some.inj e
    exact x_zret (pc := 13) rfl (Or.inl rfl) dX9_isOff_13
  · refine x_icmp_eq_f (pc := 5) (t := 12) dX9_isOff_5 (by decide) q2 ?_
    refine x_iconst (pc := 8) dX9_isOff_8 ?_
    refine x_goto (pc := 9) (t := 13) dX9_isOff_9 (by decide) ?_
    cases Option.some.inj e
    exact x_zret (pc := 13) rfl (Or.inr rfl) dX9_isOff_13
abbrev w_X9_isOff : Cond := (Cond.code yX9_isOff cX9_isOff 1 (Option.some Jvm.ClassFile.FieldType.boolean))
theorem mf_X9_isOff : MF yX9_isOff w_X9_isOff cX9_isOff 1 (Option.some Jvm.ClassFile.FieldType.boolean) 0 := ⟨⟨rfl, tw_7_124, by decide⟩, tw_1_11, ⟨by decide, by decide⟩, by decide +kernel⟩
theorem c_X9_isOff {l : Launch} {K : Ctx} (hl : l.stackTraces = false) {h : Hp} {a0 : Nat} {t : Rs Int32} (e : f_X9_isOff h a0 = some t) : Ctr l K 8 yX9_isOff w_X9_isOff [.ref a0] h (tgI t) :=
  Ctr.of hl mf_X9_isOff false (fun q => nomatch q) rfl (leb rfl) (p_X9_isOff hl e)
/-! ## TableColumnBalancerModel.here -/
abbrev mM_X9_here : Mi := (8, yX9_here.cls, cX9_here, 1, (Option.some Jvm.ClassFile.FieldType.int), [], false)
noncomputable def f_X9_here (h : Hp) (a0 : Nat) : Option (Rs Int32) :=
  chk (okr h a0 9) <|
  if (qI h a0 6) ≤ (qI h a0 12) then (
    some (h, .inr (iN (-1)))
  ) else (
    chk (okr h (qR h a0 5) 20) <|
    chk (vp_in (qI h a0 12) (qW h (qR h a0 5))) <|
    some (h, .inr (qI h (qR h a0 5) (Int32.toNatClampNeg (qI h a0 12))))
  )
theorem p_X9_here {l : Launch} {K : Ctx} (hl : l.stackTraces = false) {h : Hp} {a0 : Nat} {t : Rs Int32} (e : f_X9_here h a0 = some t) : X l K mM_X9_here (tgI t) 0 [(0, .ref a0)] [] h := by
  unfold f_X9_here at e
  refine x_aload_n (pc := 0) 0 dX9_here_0 rfl ?_
  obtain ⟨q1, e⟩ := chk_some e
  refine x_getI (pc := 1) gf_X9_137 rfl dX9_here_1 q1 ?_
  refine x_aload_n (pc := 4) 0 dX9_here_4 rfl ?_
  refine x_getI (pc := 5) gf_X9_134 rfl dX9_here_5 q1 ?_
  rcases ite_some e with ⟨q2, e⟩ | ⟨q2, e⟩
  · refine x_icmp_ge_t (pc := 8) (t := 23) dX9_here_8 (by decide) q2 ?_
    refine x_iconst (pc := 23) dX9_here_23 ?_
    cases Option.some.inj e
    exact x_iret (pc := 24) rfl dX9_here_24
  · refine x_icmp_ge_f (pc := 8) (t := 23) dX9_here_8 (by decide) q2 ?_
    refine x_aload_n (pc := 11) 0 dX9_here_11 rfl ?_
    obtain ⟨q3, e⟩ := chk_some e
    refine x_getR (pc := 12) gf_X9_19 rfl dX9_here_12 q1 q3.1 ?_
    refine x_aload_n (pc := 15) 0 dX9_here_15 rfl ?_
    refine x_getI (pc := 16) gf_X9_137 rfl dX9_here_16 q1 ?_
    obtain ⟨q4, e⟩ := chk_some e
    refine x_iald (pc := 19) dX9_here_19 q3 q4 ?_
    refine x_goto (pc := 20) (t := 24) dX9_here_20 (by decide) ?_
    cases Option.some.inj e
    exact x_iret (pc := 24) rfl dX9_here_24
abbrev w_X9_here : Cond := (Cond.code yX9_here cX9_here 1 (Option.some Jvm.ClassFile.FieldType.int))
theorem mf_X9_here : MF yX9_here w_X9_here cX9_here 1 (Option.some Jvm.ClassFile.FieldType.int) 0 := ⟨⟨rfl, tw_7_136, by decide⟩, tw_1_11, ⟨by decide, by decide⟩, by decide +kernel⟩
theorem c_X9_here {l : Launch} {K : Ctx} (hl : l.stackTraces = false) {h : Hp} {a0 : Nat} {t : Rs Int32} (e : f_X9_here h a0 = some t) : Ctr l K 8 yX9_here w_X9_here [.ref a0] h (tgI t) :=
  Ctr.of hl mf_X9_here false (fun q => nomatch q) rfl (leb rfl) (p_X9_here hl e)
/-! ## TableColumnBalancerModel.word -/
abbrev mM_X9_word : Mi := (9, yX9_word.cls, cX9_word, 3, (Option.some Jvm.ClassFile.FieldType.long), [], false)
noncomputable def f_X9_word_L78 (k10 : Hp → Nat → Int64 → Option (Rs Int64)) (h : Hp) (a0 : Nat) (s0 : Int64) : Option (Rs Int64) :=
  chk (okr h a0 9) <|
  lt (putI h a0 12 ((qI h a0 12) + (iN 1))) fun h2 =>
  k10 h2 a0 s0
theorem p_X9_word_L78 {l : Launch} {K : Ctx} (hl : l.stackTraces = false) {k10 : Hp → Nat → Int64 → Option (Rs Int64)} (hk10 : ∀ (h : Hp) (a0 : Nat) (j1 : Int64) (t : Rs Int64), k10 h a0 j1 = some t → X l K mM_X9_word (tgL t) 10 [(0, .ref a0), (1, .long j1)] [] h) {h : Hp} {a0 : Nat} {s0 : Int64} {t : Rs Int64} (e : f_X9_word_L78 k10 h a0 s0 = some t) : X l K mM_X9_word (tgL t) 78 [(0, .ref a0)] [.long s0] h := by
  unfold f_X9_word_L78 at e
  refine x_lstore_n (pc := 78) dX9_word_78 (by decide) rfl ?_
  refine x_aload_n (pc := 79) 1 dX9_word_79 rfl ?_
  refine x_dup (pc := 80) dX9_word_80 rfl ?_
  obtain ⟨q1, e⟩ := chk_some e
  refine x_getI (pc := 81) gf_X9_137 rfl dX9_word_81 q1 ?_
  refine x_iconst (pc := 84) dX9_word_84 ?_
  refine x_iadd (pc := 85) dX9_word_85 ?_
  replace e := lt_go e
  refine x_putI (pc := 86) pf_X9_137 rfl rfl rfl dX9_word_86 q1 ?_
  refine x_goto (pc := 89) (t := 10) dX9_word_89 (by decide) ?_
  exact x_sub1 (hk10 _ _ _ _ e) [1, 0] rfl
noncomputable def f_X9_word_B10 (k10 : Hp → Nat → Int64 → Option (Rs Int64)) (h : Hp) (a0 : Nat) (j1 : Int64) : Option (Rs Int64) :=
  chk (okr h a0 9) <|
  bnd (f_X9_isOff h a0) fun h2 r3 =>
  if r3 = 0 then (
    chk (okr h2 a0 9) <|
    bnd (f_X9_here h2 a0) fun h6 r7 =>
    bnd (f_X9_in h6 r7 (iN 97) (iN 122)) fun h8 r9 =>
    if r9 = 0 then (
      some (h8, .inr j1)
    ) else (
      chk (okr h8 a0 9) <|
      if ((qI h8 a0 12) - (qI h8 a0 15)) ≤ (iN 6) then (
        if 0 ≤ (lg_cmp j1 (Int64.ofNat 0)) then (
          bnd (f_X9_here h8 a0) fun h14 r15 =>
          f_X9_word_L78 k10 h14 a0 (((((27 : Int64) * j1) + (Int32.toInt64 r15)) - (97 : Int64)) + (Int64.ofNat 1))
        ) else (
          f_X9_word_L78 k10 h8 a0 j1
        )
      ) else (
        f_X9_word_L78 k10 h8 a0 (-1 : Int64)
      )
    )
  ) else (
    some (h2, .inr j1)
  )
theorem p_X9_word_B10 {l : Launch} {K : Ctx} (hl : l.stackTraces = false) {k10 : Hp → Nat → Int64 → Option (Rs Int64)} (hk10 : ∀ (h : Hp) (a0 : Nat) (j1 : Int64) (t : Rs Int64), k10 h a0 j1 = some t → X l K mM_X9_word (tgL t) 10 [(0, .ref a0), (1, .long j1)] [] h) {h : Hp} {a0 : Nat} {j1 : Int64} {t : Rs Int64} (e : f_X9_word_B10 k10 h a0 j1 = some t) : X l K mM_X9_word (tgL t) 10 [(0, .ref a0), (1, .long j1)] [] h := by
  unfold f_X9_word_B10 at e
  refine x_aload_n (pc := 10) 0 dX9_word_10 rfl ?_
  obtain ⟨q1, e⟩ := chk_some e
  rcases bnd_some e with ⟨h2, r3, ec, rfl⟩ | ⟨h2, r3, ec, e⟩
  · exact y_callV_x (pc := 11) (c_X9_isOff hl ec) q1 mf_X9_isOff tw_7_123 ts_7_3 lf_X9_140 rfl rfl dX9_word_11 (by decide) rfl rfl (leb rfl) (xx_out0 rfl)
  refine y_callV_i (pc := 11) (c_X9_isOff hl ec) q1 mf_X9_isOff tw_7_123 ts_7_3 lf_X9_140 rfl rfl dX9_word_11 (by decide) rfl rfl (leb rfl) ?_
  rcases ite_some e with ⟨q4, e⟩ | ⟨q4, e⟩
  · refine x_if_ne_f (pc := 14) (t := 92) dX9_word_14 (by decide) q4 ?_
    refine x_aload_n (pc := 17) 0 dX9_word_17 rfl ?_
    obtain ⟨q5, e⟩ := chk_some e
    rcases bnd_some e with ⟨h6, r7, ec, rfl⟩ | ⟨h6, r7, ec, e⟩
    · exact y_callV_x (pc := 18) (c_X9_here hl ec) q5 mf_X9_here tw_7_135 ts_7_6 lf_X9_144 rfl rfl dX9_word_18 (by decide) rfl rfl (leb rfl) (xx_out0 rfl)
    refine y_callV_i (pc := 18) (c_X9_here hl ec) q5 mf_X9_here tw_7_135 ts_7_6 lf_X9_144 rfl rfl dX9_word_18 (by decide) rfl rfl (leb rfl) ?_
    refine x_bipush (pc := 21) (v := iN 97) dX9_word_21 rfl ?_
    refine x_bipush (pc := 23) (v := iN 122) dX9_word_23 rfl ?_
    rcases bnd_some e with ⟨h8, r9, ec, rfl⟩ | ⟨h8, r9, ec, e⟩
    · exact y_callS_x (pc := 25) (c_X9_in hl ec) mf_X9_in tw_7_20 lf_X9_87 dX9_word_25 (by decide) rfl rfl (leb rfl) (xx_out0 rfl)
    refine y_callS_i (pc := 25) (c_X9_in hl ec) mf_X9_in tw_7_20 lf_X9_87 dX9_word_25 (by decide) rfl rfl (leb rfl) ?_
    rcases ite_some e with ⟨q10, e⟩ | ⟨q10, e⟩
    · refine x_if_eq_t (pc := 28) (t := 92) dX9_word_28 (by decide) q10 ?_
      refine x_lload_n (pc := 92) 1 dX9_word_92 rfl ?_
      cases Option.some.inj e
      exact x_lret (pc := 93) rfl dX9_word_93
    · refine x_if_eq_f (pc := 28) (t := 92) dX9_word_28 (by decide) q10 ?_
      refine x_aload_n (pc := 31) 0 dX9_word_31 rfl ?_
      obtain ⟨q11, e⟩ := chk_some e
      refine x_getI (pc := 32) gf_X9_137 rfl dX9_word_32 q11 ?_
      refine x_aload_n (pc := 35) 0 dX9_word_35 rfl ?_
      refine x_getI (pc := 36) gf_X9_154 rfl dX9_word_36 q11 ?_
      refine x_isub (pc := 39) dX9_word_39 ?_
      refine x_bipush (pc := 40) (v := iN 6) dX9_word_40 rfl ?_
      rcases ite_some e with ⟨q12, e⟩ | ⟨q12, e⟩
      · refine x_icmp_le_t (pc := 42) (t := 51) dX9_word_42 (by decide) q12 ?_
        refine x_lload_n (pc := 51) 1 dX9_word_51 rfl ?_
        refine x_lconst (pc := 52) (v := Int64.ofNat 0) dX9_word_52 rfl ?_
        refine x_lcmp (pc := 53) dX9_word_53 ?_
        rcases ite_some e with ⟨q13, e⟩ | ⟨q13, e⟩
        · refine x_if_ge_t (pc := 54) (t := 61) dX9_word_54 (by decide) q13 ?_
          refine x_ldc2 (pc := 61) tw_7_138 dX9_word_61 ?_
          refine x_lload_n (pc := 64) 1 dX9_word_64 rfl ?_
          refine x_lmul (pc := 65) dX9_word_65 ?_
          refine x_aload_n (pc := 66) 0 dX9_word_66 rfl ?_
          rcases bnd_some e with ⟨h14, r15, ec, rfl⟩ | ⟨h14, r15, ec, e⟩
          · exact y_callV_x (pc := 67) (c_X9_here hl ec) q11 mf_X9_here tw_7_135 ts_7_6 lf_X9_144 rfl rfl dX9_word_67 (by decide) rfl rfl (leb rfl) (xx_out0 rfl)
          refine y_callV_i (pc := 67) (c_X9_here hl ec) q11 mf_X9_here tw_7_135 ts_7_6 lf_X9_144 rfl rfl dX9_word_67 (by decide) rfl rfl (leb rfl) ?_
          refine x_i2l (pc := 70) dX9_word_70 ?_
          refine x_ladd (pc := 71) dX9_word_71 ?_
          refine x_ldc2 (pc := 72) tw_7_139 dX9_word_72 ?_
          refine x_lsub (pc := 75) dX9_word_75 ?_
          refine x_lconst (pc := 76) (v := Int64.ofNat 1) dX9_word_76 rfl ?_
          refine x_ladd (pc := 77) dX9_word_77 ?_
          exact x_sub1 (p_X9_word_L78 hl hk10 e) [0] rfl
        · refine x_if_ge_f (pc := 54) (t := 61) dX9_word_54 (by decide) q13 ?_
          refine x_lload_n (pc := 57) 1 dX9_word_57 rfl ?_
          refine x_goto (pc := 58) (t := 78) dX9_word_58 (by decide) ?_
          exact x_sub1 (p_X9_word_L78 hl hk10 e) [0] rfl
      · refine x_icmp_le_f (pc := 42) (t := 51) dX9_word_42 (by decide) q12 ?_
        refine x_ldc2 (pc := 45) tw_7_137 dX9_word_45 ?_
        refine x_goto (pc := 48) (t := 78) dX9_word_48 (by decide) ?_
        exact x_sub1 (p_X9_word_L78 hl hk10 e) [0] rfl
  · refine x_if_ne_t (pc := 14) (t := 92) dX9_word_14 (by decide) q4 ?_
    refine x_lload_n (pc := 92) 1 dX9_word_92 rfl ?_
    cases Option.some.inj e
    exact x_lret (pc := 93) rfl dX9_word_93
noncomputable def f_X9_word_L10 (n : Nat) : Hp → Nat → Int64 → Option (Rs Int64) := Nat.rec (motive := fun _ => Hp → Nat → Int64 → Option (Rs Int64)) (fun _ _ _ => none) (fun _ r => f_X9_word_B10 r) n
theorem p_X9_word_L10 {l : Launch} {K : Ctx} (hl : l.stackTraces = false) : ∀ (n : Nat) (h : Hp) (a0 : Nat) (j1 : Int64) (t : Rs Int64) (e : f_X9_word_L10 n h a0 j1 = some t), X l K mM_X9_word (tgL t) 10 [(0, .ref a0), (1, .long j1)] [] h := by
  intro n
  induction n with
  | zero => exact fun _ _ _ _ e => nomatch (show (none : Option (Rs Int64)) = some _ from e)
  | succ n ih => exact fun h a0 j1 t e => p_X9_word_B10 hl (fun h a0 j1 t e => ih h a0 j1 t e) e
noncomputable def f_X9_word (h : Hp) (a0 : Nat) : Option (Rs Int64) :=
  chk (okr h a0 9) <|
  lt (putI h a0 15 (qI h a0 12)) fun h2 =>
  f_X9_word_L10 2000 h2 a0 (Int64.ofNat 0)
theorem p_X9_word {l : Launch} {K : Ctx} (hl : l.stackTraces = false) {h : Hp} {a0 : Nat} {t : Rs Int64} (e : f_X9_word h a0 = some t) : X l K mM_X9_word (tgL t) 0 [(0, .ref a0)] [] h := by
  unfold f_X9_word at e
  refine x_aload_n (pc := 0) 0 dX9_word_0 rfl ?_
  refine x_aload_n (pc := 1) 0 dX9_word_1 rfl ?_
  obtain ⟨q1, e⟩ := chk_some e
  refine x_getI (pc := 2) gf_X9_137 rfl dX9_word_2 q1 ?_
  replace e := lt_go e
  refine x_putI (pc := 5) pf_X9_154 rfl rfl rfl dX9_word_5 q1 ?_
  refine x_lconst (pc := 8) (v := Int64.ofNat 0) dX9_word_8 rfl ?_
  refine x_lstore_n (pc := 9) dX9_word_9 (by decide) rfl ?_
  exact x_sub1 (p_X9_word_L10 hl 2000 _ _ _ _ e) [1, 0] rfl
abbrev w_X9_word : Cond := (Cond.code yX9_word cX9_word 3 (Option.some Jvm.ClassFile.FieldType.long))
theorem mf_X9_word : MF yX9_word w_X9_word cX9_word 3 (Option.some Jvm.ClassFile.FieldType.long) 0 := ⟨⟨rfl, tw_7_132, by decide⟩, tw_1_11, ⟨by decide, by decide⟩, by decide +kernel⟩
theorem c_X9_word {l : Launch} {K : Ctx} (hl : l.stackTraces = false) {h : Hp} {a0 : Nat} {t : Rs Int64} (e : f_X9_word h a0 = some t) : Ctr l K 9 yX9_word w_X9_word [.ref a0] h (tgL t) :=
  Ctr.of hl mf_X9_word false (fun q => nomatch q) rfl (leb rfl) (p_X9_word hl e)
/-! ## TableColumnBalancerModel.off -/
abbrev mM_X9_off : Mi := (9, yX9_off.cls, cX9_off, 2, (Option.none : Option Jvm.ClassFile.FieldType), [], false)
noncomputable def f_X9_off_L16 (h : Hp) (s0 : Int32) (s1 : Nat) : Option (Rs Unit) :=
  chk (okr h s1 9) <|
  lt (putI h s1 7 s0) fun h2 =>
  some (h2, .inr ())
theorem p_X9_off_L16 {l : Launch} {K : Ctx} (hl : l.stackTraces = false) {h : Hp} {s0 : Int32} {s1 : Nat} {t : Rs Unit} (e : f_X9_off_L16 h s0 s1 = some t) : X l K mM_X9_off (tgV t) 16 [] [.int s0, .ref s1] h := by
  unfold f_X9_off_L16 at e
  obtain ⟨q1, e⟩ := chk_some e
  replace e := lt_go e
  refine x_putI (pc := 16) pf_X9_22 rfl rfl rfl dX9_off_16 q1 ?_
  cases Option.some.inj e
  exact x_vret (pc := 19) rfl dX9_off_19
noncomputable def f_X9_off (h : Hp) (a0 : Nat) (i1 : Int32) : Option (Rs Unit) :=
  chk (okr h a0 9) <|
  bnd (f_X9_isOff h a0) fun h2 r3 =>
  if r3 = 0 then (
    f_X9_off_L16 h2 i1 a0
  ) else (
    chk (okr h2 a0 9) <|
    f_X9_off_L16 h2 (qI h2 a0 7) a0
  )
theorem p_X9_off {l : Launch} {K : Ctx} (hl : l.stackTraces = false) {h : Hp} {a0 : Nat} {i1 : Int32} {t : Rs Unit} (e : f_X9_off h a0 i1 = some t) : X l K mM_X9_off (tgV t) 0 [(0, .ref a0), (1, .int i1)] [] h := by
  unfold f_X9_off at e
  refine x_aload_n (pc := 0) 0 dX9_off_0 rfl ?_
  refine x_aload_n (pc := 1) 0 dX9_off_1 rfl ?_
  obtain ⟨q1, e⟩ := chk_some e
  rcases bnd_some e with ⟨h2, r3, ec, rfl⟩ | ⟨h2, r3, ec, e⟩
  · exact y_callV_x (pc := 2) (c_X9_isOff hl ec) q1 mf_X9_isOff tw_7_123 ts_7_3 lf_X9_140 rfl rfl dX9_off_2 (by decide) rfl rfl (leb rfl) (xx_out0 rfl)
  refine y_callV_i (pc := 2) (c_X9_isOff hl ec) q1 mf_X9_isOff tw_7_123 ts_7_3 lf_X9_140 rfl rfl dX9_off_2 (by decide) rfl rfl (leb rfl) ?_
  rcases ite_some e with ⟨q4, e⟩ | ⟨q4, e⟩
  · refine x_if_eq_t (pc := 5) (t := 15) dX9_off_5 (by decide) q4 ?_
    refine x_iload_n (pc := 15) 1 dX9_off_15 rfl ?_
    exact x_sub1 (p_X9_off_L16 hl e) [] rfl
  · refine x_if_eq_f (pc := 5) (t := 15) dX9_off_5 (by decide) q4 ?_
    refine x_aload_n (pc := 8) 0 dX9_off_8 rfl ?_
    obtain ⟨q5, e⟩ := chk_some e
    refine x_getI (pc := 9) gf_X9_22 rfl dX9_off_9 q5 ?_
    refine x_goto (pc := 12) (t := 16) dX9_off_12 (by decide) ?_
    exact x_sub1 (p_X9_off_L16 hl e) [] rfl
abbrev w_X9_off : Cond := (Cond.code yX9_off cX9_off 2 (Option.none : Option Jvm.ClassFile.FieldType))
theorem mf_X9_off : MF yX9_off w_X9_off cX9_off 2 (Option.none : Option Jvm.ClassFile.FieldType) 1 := ⟨⟨rfl, tw_7_143, by decide⟩, tw_1_11, ⟨by decide, by decide⟩, by decide +kernel⟩
theorem c_X9_off {l : Launch} {K : Ctx} (hl : l.stackTraces = false) {h : Hp} {a0 : Nat} {i1 : Int32} {t : Rs Unit} (e : f_X9_off h a0 i1 = some t) : Ctr l K 9 yX9_off w_X9_off [.ref a0, .int i1] h (tgV t) :=
  Ctr.of hl mf_X9_off false (fun q => nomatch q) rfl (leb rfl) (p_X9_off hl e)
/-! ## TableColumnBalancerModel.told -/
abbrev mM_X9_told : Mi := (12, yX9_told.cls, cX9_told, 4, (Option.some Jvm.ClassFile.FieldType.long), [], false)
noncomputable def f_X9_told_B4 (k4 : Hp → Nat → Int64 → Int32 → Option (Rs Int64)) (h : Hp) (a0 : Nat) (j1 : Int64) (i3 : Int32) : Option (Rs Int64) :=
  chk (okS a0) <|
  if (sLen a0) ≤ i3 then (
    some (h, .inr j1)
  ) else (
    chk (okS a0) <|
    chk (vp_in i3 (sLn a0)) <|
    k4 h a0 (((((27 : Int64) * j1) + (Int32.toInt64 (sCh a0 (Int32.toNatClampNeg i3)))) - (97 : Int64)) + (Int64.ofNat 1)) (i3 + iN 1)
  )
theorem p_X9_told_B4 {l : Launch} {K : Ctx} (hl : l.stackTraces = false) {k4 : Hp → Nat → Int64 → Int32 → Option (Rs Int64)} (hk4 : ∀ (h : Hp) (a0 : Nat) (j1 : Int64) (i3 : Int32) (t : Rs Int64), k4 h a0 j1 i3 = some t → X l K mM_X9_told (tgL t) 4 [(0, .ref a0), (1, .long j1), (3, .int i3)] [] h) {h : Hp} {a0 : Nat} {j1 : Int64} {i3 : Int32} {t : Rs Int64} (e : f_X9_told_B4 k4 h a0 j1 i3 = some t) : X l K mM_X9_told (tgL t) 4 [(0, .ref a0), (1, .long j1), (3, .int i3)] [] h := by
  unfold f_X9_told_B4 at e
  refine x_iload_n (pc := 4) 2 dX9_told_4 rfl ?_
  refine x_aload_n (pc := 5) 0 dX9_told_5 rfl ?_
  obtain ⟨q1, e⟩ := chk_some e
  refine x_strLen (pc := 6) hl q1 tw_7_148 dX9_told_6 (by decide) (leb rfl) ?_
  rcases ite_some e with ⟨q2, e⟩ | ⟨q2, e⟩
  · refine x_icmp_ge_t (pc := 9) (t := 37) dX9_told_9 (by decide) q2 ?_
    refine x_lload_n (pc := 37) 1 dX9_told_37 rfl ?_
    cases Option.some.inj e
    exact x_lret (pc := 38) rfl dX9_told_38
  · refine x_icmp_ge_f (pc := 9) (t := 37) dX9_told_9 (by decide) q2 ?_
    refine x_ldc2 (pc := 12) tw_7_138 dX9_told_12 ?_
    refine x_lload_n (pc := 15) 1 dX9_told_15 rfl ?_
    refine x_lmul (pc := 16) dX9_told_16 ?_
    refine x_aload_n (pc := 17) 0 dX9_told_17 rfl ?_
    refine x_iload_n (pc := 18) 2 dX9_told_18 rfl ?_
    obtain ⟨q3, e⟩ := chk_some e
    obtain ⟨q4, e⟩ := chk_some e
    refine x_strAt (pc := 19) hl q3 q4 tw_7_149 dX9_told_19 (by decide) (leb rfl) ?_
    refine x_i2l (pc := 22) dX9_told_22 ?_
    refine x_ladd (pc := 23) dX9_told_23 ?_
    refine x_ldc2 (pc := 24) tw_7_139 dX9_told_24 ?_
    refine x_lsub (pc := 27) dX9_told_27 ?_
    refine x_lconst (pc := 28) (v := Int64.ofNat 1) dX9_told_28 rfl ?_
    refine x_ladd (pc := 29) dX9_told_29 ?_
    refine x_lstore_n (pc := 30) dX9_told_30 (by decide) rfl ?_
    refine x_iinc (pc := 31) 2 dX9_told_31 rfl (by decide) rfl ?_
    refine x_goto (pc := 34) (t := 4) dX9_told_34 (by decide) ?_
    exact x_sub1 (hk4 _ _ _ _ _ e) [2, 1, 0] rfl
noncomputable def f_X9_told_L4 (n : Nat) : Hp → Nat → Int64 → Int32 → Option (Rs Int64) := Nat.rec (motive := fun _ => Hp → Nat → Int64 → Int32 → Option (Rs Int64)) (fun _ _ _ _ => none) (fun _ r => f_X9_told_B4 r) n
theorem p_X9_told_L4 {l : Launch} {K : Ctx} (hl : l.stackTraces = false) : ∀ (n : Nat) (h : Hp) (a0 : Nat) (j1 : Int64) (i3 : Int32) (t : Rs Int64) (e : f_X9_told_L4 n h a0 j1 i3 = some t), X l K mM_X9_told (tgL t) 4 [(0, .ref a0), (1, .long j1), (3, .int i3)] [] h := by
  intro n
  induction n with
  | zero => exact fun _ _ _ _ _ e => nomatch (show (none : Option (Rs Int64)) = some _ from e)
  | succ n ih => exact fun h a0 j1 i3 t e => p_X9_told_B4 hl (fun h a0 j1 i3 t e => ih h a0 j1 i3 t e) e
noncomputable def f_X9_told (h : Hp) (a0 : Nat) : Option (Rs Int64) :=
  f_X9_told_L4 2000 h a0 (Int64.ofNat 0) (iN 0)
theorem p_X9_told {l : Launch} {K : Ctx} (hl : l.stackTraces = false) {h : Hp} {a0 : Nat} {t : Rs Int64} (e : f_X9_told h a0 = some t) : X l K mM_X9_told (tgL t) 0 [(0, .ref a0)] [] h := by
  unfold f_X9_told at e
  refine x_lconst (pc := 0) (v := Int64.ofNat 0) dX9_told_0 rfl ?_
  refine x_lstore_n (pc := 1) dX9_told_1 (by decide) rfl ?_
  refine x_iconst (pc := 2) dX9_told_2 ?_
  refine x_istore_n (pc := 3) dX9_told_3 (by decide) rfl ?_
  exact x_sub1 (p_X9_told_L4 hl 2000 _ _ _ _ _ e) [2, 1, 0] rfl
abbrev w_X9_told : Cond := (Cond.code yX9_told cX9_told 4 (Option.some Jvm.ClassFile.FieldType.long))
theorem mf_X9_told : MF yX9_told w_X9_told cX9_told 4 (Option.some Jvm.ClassFile.FieldType.long) 1 := ⟨⟨rfl, tw_7_147, by decide⟩, tw_1_11, ⟨by decide, by decide⟩, by decide +kernel⟩
theorem c_X9_told {l : Launch} {K : Ctx} (hl : l.stackTraces = false) {h : Hp} {a0 : Nat} {t : Rs Int64} (e : f_X9_told h a0 = some t) : Ctr l K 12 yX9_told w_X9_told [.ref a0] h (tgL t) :=
  Ctr.of hl mf_X9_told false (fun q => nomatch q) rfl (leb rfl) (p_X9_told hl e)
/-! ## TableColumnBalancerModel.must -/
abbrev mM_X9_must : Mi := (10, yX9_must.cls, cX9_must, 2, (Option.none : Option Jvm.ClassFile.FieldType), [], false)
noncomputable def f_X9_must (h : Hp) (a0 : Nat) (i1 : Int32) : Option (Rs Unit) :=
  chk (okr h a0 9) <|
  bnd (f_X9_isOff h a0) fun h2 r3 =>
  if r3 = 0 then (
    chk (okr h2 a0 9) <|
    bnd (f_X9_here h2 a0) fun h6 r7 =>
    if r7 = i1 then (
      chk (okr h6 a0 9) <|
      lt (putI h6 a0 12 ((qI h6 a0 12) + (iN 1))) fun h10 =>
      some (h10, .inr ())
    ) else (
      chk (okr h6 a0 9) <|
      bnd (f_X9_off h6 a0 (qI h6 a0 12)) fun h12 _ =>
      some (h12, .inr ())
    )
  ) else (
    some (h2, .inr ())
  )
theorem p_X9_must {l : Launch} {K : Ctx} (hl : l.stackTraces = false) {h : Hp} {a0 : Nat} {i1 : Int32} {t : Rs Unit} (e : f_X9_must h a0 i1 = some t) : X l K mM_X9_must (tgV t) 0 [(0, .ref a0), (1, .int i1)] [] h := by
  unfold f_X9_must at e
  refine x_aload_n (pc := 0) 0 dX9_must_0 rfl ?_
  obtain ⟨q1, e⟩ := chk_some e
  rcases bnd_some e with ⟨h2, r3, ec, rfl⟩ | ⟨h2, r3, ec, e⟩
  · exact y_callV_x (pc := 1) (c_X9_isOff hl ec) q1 mf_X9_isOff tw_7_123 ts_7_3 lf_X9_140 rfl rfl dX9_must_1 (by decide) rfl rfl (leb rfl) (xx_out0 rfl)
  refine y_callV_i (pc := 1) (c_X9_isOff hl ec) q1 mf_X9_isOff tw_7_123 ts_7_3 lf_X9_140 rfl rfl dX9_must_1 (by decide) rfl rfl (leb rfl) ?_
  rcases ite_some e with ⟨q4, e⟩ | ⟨q4, e⟩
  · refine x_if_eq_t (pc := 4) (t := 8) dX9_must_4 (by decide) q4 ?_
    refine x_aload_n (pc := 8) 0 dX9_must_8 rfl ?_
    obtain ⟨q5, e⟩ := chk_some e
    rcases bnd_some e with ⟨h6, r7, ec, rfl⟩ | ⟨h6, r7, ec, e⟩
    · exact y_callV_x (pc := 9) (c_X9_here hl ec) q5 mf_X9_here tw_7_135 ts_7_6 lf_X9_144 rfl rfl dX9_must_9 (by decide) rfl rfl (leb rfl) (xx_out0 rfl)
    refine y_callV_i (pc := 9) (c_X9_here hl ec) q5 mf_X9_here tw_7_135 ts_7_6 lf_X9_144 rfl rfl dX9_must_9 (by decide) rfl rfl (leb rfl) ?_
    refine x_iload_n (pc := 12) 1 dX9_must_12 rfl ?_
    rcases ite_some e with ⟨q8, e⟩ | ⟨q8, e⟩
    · refine x_icmp_ne_f (pc := 13) (t := 29) dX9_must_13 (by decide) q8 ?_
      refine x_aload_n (pc := 16) 0 dX9_must_16 rfl ?_
      refine x_dup (pc := 17) dX9_must_17 rfl ?_
      obtain ⟨q9, e⟩ := chk_some e
      refine x_getI (pc := 18) gf_X9_137 rfl dX9_must_18 q9 ?_
      refine x_iconst (pc := 21) dX9_must_21 ?_
      refine x_iadd (pc := 22) dX9_must_22 ?_
      replace e := lt_go e
      refine x_putI (pc := 23) pf_X9_137 rfl rfl rfl dX9_must_23 q9 ?_
      refine x_goto (pc := 26) (t := 37) dX9_must_26 (by decide) ?_
      cases Option.some.inj e
      exact x_vret (pc := 37) rfl dX9_must_37
    · refine x_icmp_ne_t (pc := 13) (t := 29) dX9_must_13 (by decide) q8 ?_
      refine x_aload_n (pc := 29) 0 dX9_must_29 rfl ?_
      refine x_aload_n (pc := 30) 0 dX9_must_30 rfl ?_
      obtain ⟨q11, e⟩ := chk_some e
      refine x_getI (pc := 31) gf_X9_137 rfl dX9_must_31 q11 ?_
      rcases bnd_some e with ⟨h12, r13, ec, rfl⟩ | ⟨h12, r13, ec, e⟩
      · exact y_callV_x (pc := 34) (c_X9_off hl ec) q11 mf_X9_off tw_7_142 ts_7_7 lf_X9_148 rfl rfl dX9_must_34 (by decide) rfl rfl (leb rfl) (xx_out0 rfl)
      refine y_callV_v (pc := 34) (c_X9_off hl ec) q11 mf_X9_off tw_7_142 ts_7_7 lf_X9_148 rfl rfl dX9_must_34 (by decide) rfl rfl (leb rfl) ?_
      cases Option.some.inj e
      exact x_vret (pc := 37) rfl dX9_must_37
  · refine x_if_eq_f (pc := 4) (t := 8) dX9_must_4 (by decide) q4 ?_
    cases Option.some.inj e
    exact x_vret (pc := 7) rfl dX9_must_7
abbrev w_X9_must : Cond := (Cond.code yX9_must cX9_must 2 (Option.none : Option Jvm.ClassFile.FieldType))
theorem mf_X9_must : MF yX9_must w_X9_must cX9_must 2 (Option.none : Option Jvm.ClassFile.FieldType) 1 := ⟨⟨rfl, tw_7_157, by decide⟩, tw_1_11, ⟨by decide, by decide⟩, by decide +kernel⟩
theorem c_X9_must {l : Launch} {K : Ctx} (hl : l.stackTraces = false) {h : Hp} {a0 : Nat} {i1 : Int32} {t : Rs Unit} (e : f_X9_must h a0 i1 = some t) : Ctr l K 10 yX9_must w_X9_must [.ref a0, .int i1] h (tgV t) :=
  Ctr.of hl mf_X9_must false (fun q => nomatch q) rfl (leb rfl) (p_X9_must hl e)
/-! ## TableColumnBalancerModel.digit -/
abbrev mM_X9_digit : Mi := (10, yX9_digit.cls, cX9_digit, 1, (Option.some Jvm.ClassFile.FieldType.int), [], false)
noncomputable def f_X9_digit (h : Hp) (a0 : Nat) : Option (Rs Int32) :=
  chk (okr h a0 9) <|
  bnd (f_X9_isOff h a0) fun h2 r3 =>
  if r3 = 0 then (
    chk (okr h2 a0 9) <|
    bnd (f_X9_here h2 a0) fun h6 r7 =>
    bnd (f_X9_in h6 r7 (iN 48) (iN 57)) fun h8 r9 =>
    if r9 = 0 then (
      chk (okr h8 a0 9) <|
      bnd (f_X9_off h8 a0 (qI h8 a0 12)) fun h12 _ =>
      some (h12, .inr (iN 0))
    ) else (
      chk (okr h8 a0 9) <|
      lt (putI h8 a0 12 ((qI h8 a0 12) + (iN 1))) fun h15 =>
      chk (okr h15 (qR h15 a0 5) 20) <|
      chk (vp_in ((qI h15 a0 12) - (iN 1)) (qW h15 (qR h15 a0 5))) <|
      some (h15, .inr ((qI h15 (qR h15 a0 5) (Int32.toNatClampNeg ((qI h15 a0 12) - (iN 1)))) - (iN 48)))
    )
  ) else (
    some (h2, .inr (iN 0))
  )
theorem p_X9_digit {l : Launch} {K : Ctx} (hl : l.stackTraces = false) {h : Hp} {a0 : Nat} {t : Rs Int32} (e : f_X9_digit h a0 = some t) : X l K mM_X9_digit (tgI t) 0 [(0, .ref a0)] [] h := by
  unfold f_X9_digit at e
  refine x_aload_n (pc := 0) 0 dX9_digit_0 rfl ?_
  obtain ⟨q1, e⟩ := chk_some e
  rcases bnd_some e with ⟨h2, r3, ec, rfl⟩ | ⟨h2, r3, ec, e⟩
  · exact y_callV_x (pc := 1) (c_X9_isOff hl ec) q1 mf_X9_isOff tw_7_123 ts_7_3 lf_X9_140 rfl rfl dX9_digit_1 (by decide) rfl rfl (leb rfl) (xx_out0 rfl)
  refine y_callV_i (pc := 1) (c_X9_isOff hl ec) q1 mf_X9_isOff tw_7_123 ts_7_3 lf_X9_140 rfl rfl dX9_digit_1 (by decide) rfl rfl (leb rfl) ?_
  rcases ite_some e with ⟨q4, e⟩ | ⟨q4, e⟩
  · refine x_if_eq_t (pc := 4) (t := 9) dX9_digit_4 (by decide) q4 ?_
    refine x_aload_n (pc := 9) 0 dX9_digit_9 rfl ?_
    obtain ⟨q5, e⟩ := chk_some e
    rcases bnd_some e with ⟨h6, r7, ec, rfl⟩ | ⟨h6, r7, ec, e⟩
    · exact y_callV_x (pc := 10) (c_X9_here hl ec) q5 mf_X9_here tw_7_135 ts_7_6 lf_X9_144 rfl rfl dX9_digit_10 (by decide) rfl rfl (leb rfl) (xx_out0 rfl)
    refine y_callV_i (pc := 10) (c_X9_here hl ec) q5 mf_X9_here tw_7_135 ts_7_6 lf_X9_144 rfl rfl dX9_digit_10 (by decide) rfl rfl (leb rfl) ?_
    refine x_bipush (pc := 13) (v := iN 48) dX9_digit_13 rfl ?_
    refine x_bipush (pc := 15) (v := iN 57) dX9_digit_15 rfl ?_
    rcases bnd_some e with ⟨h8, r9, ec, rfl⟩ | ⟨h8, r9, ec, e⟩
    · exact y_callS_x (pc := 17) (c_X9_in hl ec) mf_X9_in tw_7_20 lf_X9_87 dX9_digit_17 (by decide) rfl rfl (leb rfl) (xx_out0 rfl)
    refine y_callS_i (pc := 17) (c_X9_in hl ec) mf_X9_in tw_7_20 lf_X9_87 dX9_digit_17 (by decide) rfl rfl (leb rfl) ?_
    rcases ite_some e with ⟨q10, e⟩ | ⟨q10, e⟩
    · refine x_if_ne_f (pc := 20) (t := 33) dX9_digit_20 (by decide) q10 ?_
      refine x_aload_n (pc := 23) 0 dX9_digit_23 rfl ?_
      refine x_aload_n (pc := 24) 0 dX9_digit_24 rfl ?_
      obtain ⟨q11, e⟩ := chk_some e
      refine x_getI (pc := 25) gf_X9_137 rfl dX9_digit_25 q11 ?_
      rcases bnd_some e with ⟨h12, r13, ec, rfl⟩ | ⟨h12, r13, ec, e⟩
      · exact y_callV_x (pc := 28) (c_X9_off hl ec) q11 mf_X9_off tw_7_142 ts_7_7 lf_X9_148 rfl rfl dX9_digit_28 (by decide) rfl rfl (leb rfl) (xx_out0 rfl)
      refine y_callV_v (pc := 28) (c_X9_off hl ec) q11 mf_X9_off tw_7_142 ts_7_7 lf_X9_148 rfl rfl dX9_digit_28 (by decide) rfl rfl (leb rfl) ?_
      refine x_iconst (pc := 31) dX9_digit_31 ?_
      cases Option.some.inj e
      exact x_iret (pc := 32) rfl dX9_digit_32
    · refine x_if_ne_t (pc := 20) (t := 33) dX9_digit_20 (by decide) q10 ?_
      refine x_aload_n (pc := 33) 0 dX9_digit_33 rfl ?_
      refine x_dup (pc := 34) dX9_digit_34 rfl ?_
      obtain ⟨q14, e⟩ := chk_some e
      refine x_getI (pc := 35) gf_X9_137 rfl dX9_digit_35 q14 ?_
      refine x_iconst (pc := 38) dX9_digit_38 ?_
      refine x_iadd (pc := 39) dX9_digit_39 ?_
      replace e := lt_go e
      refine x_putI (pc := 40) pf_X9_137 rfl rfl rfl dX9_digit_40 q14 ?_
      refine x_aload_n (pc := 43) 0 dX9_digit_43 rfl ?_
      obtain ⟨q16, e⟩ := chk_some e
      refine x_getR (pc := 44) gf_X9_19 rfl dX9_digit_44 (okr_pI q14) q16.1 ?_
      refine x_aload_n (pc := 47) 0 dX9_digit_47 rfl ?_
      refine x_getI (pc := 48) gf_X9_137 rfl dX9_digit_48 (okr_pI q14) ?_
      refine x_iconst (pc := 51) dX9_digit_51 ?_
      refine x_isub (pc := 52) dX9_digit_52 ?_
      obtain ⟨q17, e⟩ := chk_some e
      refine x_iald (pc := 53) dX9_digit_53 q16 q17 ?_
      refine x_bipush (pc := 54) (v := iN 48) dX9_digit_54 rfl ?_
      refine x_isub (pc := 56) dX9_digit_56 ?_
      cases Option.some.inj e
      exact x_iret (pc := 57) rfl dX9_digit_57
  · refine x_if_eq_f (pc := 4) (t := 9) dX9_digit_4 (by decide) q4 ?_
    refine x_iconst (pc := 7) dX9_digit_7 ?_
    cases Option.some.inj e
    exact x_iret (pc := 8) rfl dX9_digit_8
abbrev w_X9_digit : Cond := (Cond.code yX9_digit cX9_digit 1 (Option.some Jvm.ClassFile.FieldType.int))
theorem mf_X9_digit : MF yX9_digit w_X9_digit cX9_digit 1 (Option.some Jvm.ClassFile.FieldType.int) 0 := ⟨⟨rfl, tw_7_165, by decide⟩, tw_1_11, ⟨by decide, by decide⟩, by decide +kernel⟩
theorem c_X9_digit {l : Launch} {K : Ctx} (hl : l.stackTraces = false) {h : Hp} {a0 : Nat} {t : Rs Int32} (e : f_X9_digit h a0 = some t) : Ctr l K 10 yX9_digit w_X9_digit [.ref a0] h (tgI t) :=
  Ctr.of hl mf_X9_digit false (fun q => nomatch q) rfl (leb rfl) (p_X9_digit hl e)
/-! ## TableColumnBalancerModel.number -/
abbrev mM_X9_number : Mi := (11, yX9_number.cls, cX9_number, 5, (Option.some Jvm.ClassFile.FieldType.int), [], false)
noncomputable def f_X9_number_L49 (h : Hp) (a0 : Nat) (i1 : Int32) (i2 : Int32) (i3 : Int32) (i4 : Int32) : Option (Rs Int32) :=
  chk (okr h a0 9) <|
  bnd (f_X9_isOff h a0) fun h2 r3 =>
  if r3 = 0 then (
    bnd (f_X9_in h2 i4 i1 i2) fun h5 r6 =>
    if r6 = 0 then (
      chk (okr h5 a0 9) <|
      bnd (f_X9_off h5 a0 i3) fun h9 _ =>
      some (h9, .inr i4)
    ) else (
      some (h5, .inr i4)
    )
  ) else (
    some (h2, .inr i4)
  )
theorem p_X9_number_L49 {l : Launch} {K : Ctx} (hl : l.stackTraces = false) {h : Hp} {a0 : Nat} {i1 : Int32} {i2 : Int32} {i3 : Int32} {i4 : Int32} {t : Rs Int32} (e : f_X9_number_L49 h a0 i1 i2 i3 i4 = some t) : X l K mM_X9_number (tgI t) 49 [(0, .ref a0), (1, .int i1), (2, .int i2), (3, .int i3), (4, .int i4)] [] h := by
  unfold f_X9_number_L49 at e
  refine x_aload_n (pc := 49) 0 dX9_number_49 rfl ?_
  obtain ⟨q1, e⟩ := chk_some e
  rcases bnd_some e with ⟨h2, r3, ec, rfl⟩ | ⟨h2, r3, ec, e⟩
  · exact y_callV_x (pc := 50) (c_X9_isOff hl ec) q1 mf_X9_isOff tw_7_123 ts_7_3 lf_X9_140 rfl rfl dX9_number_50 (by decide) rfl rfl (leb rfl) (xx_out0 rfl)
  refine y_callV_i (pc := 50) (c_X9_isOff hl ec) q1 mf_X9_isOff tw_7_123 ts_7_3 lf_X9_140 rfl rfl dX9_number_50 (by decide) rfl rfl (leb rfl) ?_
  rcases ite_some e with ⟨q4, e⟩ | ⟨q4, e⟩
  · refine x_if_ne_f (pc := 53) (t := 71) dX9_number_53 (by decide) q4 ?_
    refine x_iload (pc := 56) 4 dX9_number_56 rfl ?_
    refine x_iload_n (pc := 58) 1 dX9_number_58 rfl ?_
    refine x_iload_n (pc := 59) 2 dX9_number_59 rfl ?_
    rcases bnd_some e with ⟨h5, r6, ec, rfl⟩ | ⟨h5, r6, ec, e⟩
    · exact y_callS_x (pc := 60) (c_X9_in hl ec) mf_X9_in tw_7_20 lf_X9_87 dX9_number_60 (by decide) rfl rfl (leb rfl) (xx_out0 rfl)
    refine y_callS_i (pc := 60) (c_X9_in hl ec) mf_X9_in tw_7_20 lf_X9_87 dX9_number_60 (by decide) rfl rfl (leb rfl) ?_
    rcases ite_some e with ⟨q7, e⟩ | ⟨q7, e⟩
    · refine x_if_ne_f (pc := 63) (t := 71) dX9_number_63 (by decide) q7 ?_
      refine x_aload_n (pc := 66) 0 dX9_number_66 rfl ?_
      refine x_iload_n (pc := 67) 3 dX9_number_67 rfl ?_
      obtain ⟨q8, e⟩ := chk_some e
      rcases bnd_some e with ⟨h9, r10, ec, rfl⟩ | ⟨h9, r10, ec, e⟩
      · exact y_callV_x (pc := 68) (c_X9_off hl ec) q8 mf_X9_off tw_7_142 ts_7_7 lf_X9_148 rfl rfl dX9_number_68 (by decide) rfl rfl (leb rfl) (xx_out0 rfl)
      refine y_callV_v (pc := 68) (c_X9_off hl ec) q8 mf_X9_off tw_7_142 ts_7_7 lf_X9_148 rfl rfl dX9_number_68 (by decide) rfl rfl (leb rfl) ?_
      refine x_iload (pc := 71) 4 dX9_number_71 rfl ?_
      cases Option.some.inj e
      exact x_iret (pc := 73) rfl dX9_number_73
    · refine x_if_ne_t (pc := 63) (t := 71) dX9_number_63 (by decide) q7 ?_
      refine x_iload (pc := 71) 4 dX9_number_71 rfl ?_
      cases Option.some.inj e
      exact x_iret (pc := 73) rfl dX9_number_73
  · refine x_if_ne_t (pc := 53) (t := 71) dX9_number_53 (by decide) q4 ?_
    refine x_iload (pc := 71) 4 dX9_number_71 rfl ?_
    cases Option.some.inj e
    exact x_iret (pc := 73) rfl dX9_number_73
noncomputable def f_X9_number (h : Hp) (a0 : Nat) (i1 : Int32) (i2 : Int32) : Option (Rs Int32) :=
  chk (okr h a0 9) <|
  bnd (f_X9_digit h a0) fun h2 r3 =>
  chk (okr h2 a0 9) <|
  bnd (f_X9_isOff h2 a0) fun h5 r6 =>
  if r6 = 0 then (
    if r3 ≤ 0 then (
      f_X9_number_L49 h5 a0 i1 i2 (qI h a0 12) r3
    ) else (
      chk (okr h5 a0 9) <|
      bnd (f_X9_here h5 a0) fun h10 r11 =>
      bnd (f_X9_in h10 r11 (iN 48) (iN 57)) fun h12 r13 =>
      if r13 = 0 then (
        f_X9_number_L49 h12 a0 i1 i2 (qI h a0 12) r3
      ) else (
        chk (okr h12 a0 9) <|
        bnd (f_X9_digit h12 a0) fun h16 r17 =>
        f_X9_number_L49 h16 a0 i1 i2 (qI h a0 12) (((iN 10) * r3) + r17)
      )
    )
  ) else (
    f_X9_number_L49 h5 a0 i1 i2 (qI h a0 12) r3
  )
theorem p_X9_number {l : Launch} {K : Ctx} (hl : l.stackTraces = false) {h : Hp} {a0 : Nat} {i1 : Int32} {i2 : Int32} {t : Rs Int32} (e : f_X9_number h a0 i1 i2 = some t) : X l K mM_X9_number (tgI t) 0 [(0, .ref a0), (1, .int i1), (2, .int i2)] [] h := by
  unfold f_X9_number at e
  refine x_aload_n (pc := 0) 0 dX9_number_0 rfl ?_
  obtain ⟨q1, e⟩ := chk_some e
  refine x_getI (pc := 1) gf_X9_137 rfl dX9_number_1 q1 ?_
  refine x_istore_n (pc := 4) dX9_number_4 (by decide) rfl ?_
  refine x_aload_n (pc := 5) 1 dX9_number_5 rfl ?_
  rcases bnd_some e with ⟨h2, r3, ec, rfl⟩ | ⟨h2, r3, ec, e⟩
  · exact y_callV_x (pc := 6) (c_X9_digit hl ec) q1 mf_X9_digit tw_7_164 ts_7_11 lf_X9_151 rfl rfl dX9_number_6 (by decide) rfl rfl (leb rfl) (xx_out0 rfl)
  refine y_callV_i (pc := 6) (c_X9_digit hl ec) q1 mf_X9_digit tw_7_164 ts_7_11 lf_X9_151 rfl rfl dX9_number_6 (by decide) rfl rfl (leb rfl) ?_
  refine x_istore (pc := 9) dX9_number_9 (by decide) rfl ?_
  refine x_aload_n (pc := 11) 2 dX9_number_11 rfl ?_
  obtain ⟨q4, e⟩ := chk_some e
  rcases bnd_some e with ⟨h5, r6, ec, rfl⟩ | ⟨h5, r6, ec, e⟩
  · exact y_callV_x (pc := 12) (c_X9_isOff hl ec) q4 mf_X9_isOff tw_7_123 ts_7_3 lf_X9_140 rfl rfl dX9_number_12 (by decide) rfl rfl (leb rfl) (xx_out0 rfl)
  refine y_callV_i (pc := 12) (c_X9_isOff hl ec) q4 mf_X9_isOff tw_7_123 ts_7_3 lf_X9_140 rfl rfl dX9_number_12 (by decide) rfl rfl (leb rfl) ?_
  rcases ite_some e with ⟨q7, e⟩ | ⟨q7, e⟩
  · refine x_if_ne_f (pc := 15) (t := 49) dX9_number_15 (by decide) q7 ?_
    refine x_iload (pc := 18) 0 dX9_number_18 rfl ?_
    rcases ite_some e with ⟨q8, e⟩ | ⟨q8, e⟩
    · refine x_if_le_t (pc := 20) (t := 49) dX9_number_20 (by decide) q8 ?_
      exact x_sub1 (p_X9_number_L49 hl e) [2, 3, 4, 1, 0] rfl
    · refine x_if_le_f (pc := 20) (t := 49) dX9_number_20 (by decide) q8 ?_
      refine x_aload_n (pc := 23) 2 dX9_number_23 rfl ?_
      obtain ⟨q9, e⟩ := chk_some e
      rcases bnd_some e with ⟨h10, r11, ec, rfl⟩ | ⟨h10, r11, ec, e⟩
      · exact y_callV_x (pc := 24) (c_X9_here hl ec) q9 mf_X9_here tw_7_135 ts_7_6 lf_X9_144 rfl rfl dX9_number_24 (by decide) rfl rfl (leb rfl) (xx_out0 rfl)
      refine y_callV_i (pc := 24) (c_X9_here hl ec) q9 mf_X9_here tw_7_135 ts_7_6 lf_X9_144 rfl rfl dX9_number_24 (by decide) rfl rfl (leb rfl) ?_
      refine x_bipush (pc := 27) (v := iN 48) dX9_number_27 rfl ?_
      refine x_bipush (pc := 29) (v := iN 57) dX9_number_29 rfl ?_
      rcases bnd_some e with ⟨h12, r13, ec, rfl⟩ | ⟨h12, r13, ec, e⟩
      · exact y_callS_x (pc := 31) (c_X9_in hl ec) mf_X9_in tw_7_20 lf_X9_87 dX9_number_31 (by decide) rfl rfl (leb rfl) (xx_out0 rfl)
      refine y_callS_i (pc := 31) (c_X9_in hl ec) mf_X9_in tw_7_20 lf_X9_87 dX9_number_31 (by decide) rfl rfl (leb rfl) ?_
      rcases ite_some e with ⟨q14, e⟩ | ⟨q14, e⟩
      · refine x_if_eq_t (pc := 34) (t := 49) dX9_number_34 (by decide) q14 ?_
        exact x_sub1 (p_X9_number_L49 hl e) [2, 3, 4, 1, 0] rfl
      · refine x_if_eq_f (pc := 34) (t := 49) dX9_number_34 (by decide) q14 ?_
        refine x_bipush (pc := 37) (v := iN 10) dX9_number_37 rfl ?_
        refine x_iload (pc := 39) 0 dX9_number_39 rfl ?_
        refine x_imul (pc := 41) dX9_number_41 ?_
        refine x_aload_n (pc := 42) 2 dX9_number_42 rfl ?_
        obtain ⟨q15, e⟩ := chk_some e
        rcases bnd_some e with ⟨h16, r17, ec, rfl⟩ | ⟨h16, r17, ec, e⟩
        · exact y_callV_x (pc := 43) (c_X9_digit hl ec) q15 mf_X9_digit tw_7_164 ts_7_11 lf_X9_151 rfl rfl dX9_number_43 (by decide) rfl rfl (leb rfl) (xx_out0 rfl)
        refine y_callV_i (pc := 43) (c_X9_digit hl ec) q15 mf_X9_digit tw_7_164 ts_7_11 lf_X9_151 rfl rfl dX9_number_43 (by decide) rfl rfl (leb rfl) ?_
        refine x_iadd (pc := 46) dX9_number_46 ?_
        refine x_istore (pc := 47) dX9_number_47 (by decide) rfl ?_
        exact x_sub1 (p_X9_number_L49 hl e) [2, 3, 4, 1, 0] rfl
  · refine x_if_ne_t (pc := 15) (t := 49) dX9_number_15 (by decide) q7 ?_
    exact x_sub1 (p_X9_number_L49 hl e) [2, 3, 4, 1, 0] rfl
abbrev w_X9_number : Cond := (Cond.code yX9_number cX9_number 5 (Option.some Jvm.ClassFile.FieldType.int))
theorem mf_X9_number : MF yX9_number w_X9_number cX9_number 5 (Option.some Jvm.ClassFile.FieldType.int) 2 := ⟨⟨rfl, tw_7_161, by decide⟩, tw_1_11, ⟨by decide, by decide⟩, by decide +kernel⟩
theorem c_X9_number {l : Launch} {K : Ctx} (hl : l.stackTraces = false) {h : Hp} {a0 : Nat} {i1 : Int32} {i2 : Int32} {t : Rs Int32} (e : f_X9_number h a0 i1 i2 = some t) : Ctr l K 11 yX9_number w_X9_number [.ref a0, .int i1, .int i2] h (tgI t) :=
  Ctr.of hl mf_X9_number false (fun q => nomatch q) rfl (leb rfl) (p_X9_number hl e)
/-! ## TableColumnBalancerModel.measures -/
abbrev mM_X9_measures : Mi := (12, yX9_measures.cls, cX9_measures, 3, (Option.none : Option Jvm.ClassFile.FieldType), [], false)
noncomputable def f_X9_measures_L27 (h : Hp) (a0 : Nat) (i1 : Int32) (s0 : Int32) (s1 : Int32) (s2 : Nat) : Option (Rs Unit) :=
  chk (okr h s2 9) <|
  bnd (f_X9_number h s2 s1 s0) fun h2 r3 =>
  chk (okr h2 a0 9) <|
  bnd (f_X9_must h2 a0 (iN 59)) fun h5 _ =>
  chk (okr h5 a0 9) <|
  if (qI h5 a0 13) = 0 then (
    some (h5, .inr ())
  ) else (
    chk (okr h5 (qR h5 a0 1) 20) <|
    chk (vp_in ((iN 1) + i1) (qW h5 (qR h5 a0 1))) <|
    lt (putI h5 (qR h5 a0 1) (Int32.toNatClampNeg ((iN 1) + i1)) r3) fun h11 =>
    some (h11, .inr ())
  )
theorem p_X9_measures_L27 {l : Launch} {K : Ctx} (hl : l.stackTraces = false) {h : Hp} {a0 : Nat} {i1 : Int32} {s0 : Int32} {s1 : Int32} {s2 : Nat} {t : Rs Unit} (e : f_X9_measures_L27 h a0 i1 s0 s1 s2 = some t) : X l K mM_X9_measures (tgV t) 27 [(0, .ref a0), (1, .int i1)] [.int s0, .int s1, .ref s2] h := by
  unfold f_X9_measures_L27 at e
  obtain ⟨q1, e⟩ := chk_some e
  rcases bnd_some e with ⟨h2, r3, ec, rfl⟩ | ⟨h2, r3, ec, e⟩
  · exact y_callV_x (pc := 27) (c_X9_number hl ec) q1 mf_X9_number tw_7_160 ts_7_10 lf_X9_181 rfl rfl dX9_measures_27 (by decide) rfl rfl (leb rfl) (xx_out0 rfl)
  refine y_callV_i (pc := 27) (c_X9_number hl ec) q1 mf_X9_number tw_7_160 ts_7_10 lf_X9_181 rfl rfl dX9_measures_27 (by decide) rfl rfl (leb rfl) ?_
  refine x_istore_n (pc := 30) dX9_measures_30 (by decide) rfl ?_
  refine x_aload_n (pc := 31) 1 dX9_measures_31 rfl ?_
  refine x_bipush (pc := 32) (v := iN 59) dX9_measures_32 rfl ?_
  obtain ⟨q4, e⟩ := chk_some e
  rcases bnd_some e with ⟨h5, r6, ec, rfl⟩ | ⟨h5, r6, ec, e⟩
  · exact y_callV_x (pc := 34) (c_X9_must hl ec) q4 mf_X9_must tw_7_156 ts_7_9 lf_X9_178 rfl rfl dX9_measures_34 (by decide) rfl rfl (leb rfl) (xx_out0 rfl)
  refine y_callV_v (pc := 34) (c_X9_must hl ec) q4 mf_X9_must tw_7_156 ts_7_9 lf_X9_178 rfl rfl dX9_measures_34 (by decide) rfl rfl (leb rfl) ?_
  refine x_aload_n (pc := 37) 1 dX9_measures_37 rfl ?_
  obtain ⟨q7, e⟩ := chk_some e
  refine x_getI (pc := 38) gf_X9_175 rfl dX9_measures_38 q7 ?_
  rcases ite_some e with ⟨q8, e⟩ | ⟨q8, e⟩
  · refine x_if_eq_t (pc := 41) (t := 53) dX9_measures_41 (by decide) q8 ?_
    cases Option.some.inj e
    exact x_vret (pc := 53) rfl dX9_measures_53
  · refine x_if_eq_f (pc := 41) (t := 53) dX9_measures_41 (by decide) q8 ?_
    refine x_aload_n (pc := 44) 1 dX9_measures_44 rfl ?_
    obtain ⟨q9, e⟩ := chk_some e
    refine x_getR (pc := 45) gf_X9_9 rfl dX9_measures_45 q7 q9.1 ?_
    refine x_iconst (pc := 48) dX9_measures_48 ?_
    refine x_iload_n (pc := 49) 2 dX9_measures_49 rfl ?_
    refine x_iadd (pc := 50) dX9_measures_50 ?_
    refine x_iload_n (pc := 51) 0 dX9_measures_51 rfl ?_
    obtain ⟨q10, e⟩ := chk_some e
    replace e := lt_go e
    refine x_iast (pc := 52) dX9_measures_52 q9 q10 ?_
    cases Option.some.inj e
    exact x_vret (pc := 53) rfl dX9_measures_53
noncomputable def f_X9_measures_L17 (h : Hp) (a0 : Nat) (i1 : Int32) (s0 : Int32) (s1 : Nat) : Option (Rs Unit) :=
  if i1 = 0 then (
    f_X9_measures_L27 h a0 i1 (iN 36) s0 s1
  ) else (
    f_X9_measures_L27 h a0 i1 (iN 2) s0 s1
  )
theorem p_X9_measures_L17 {l : Launch} {K : Ctx} (hl : l.stackTraces = false) {h : Hp} {a0 : Nat} {i1 : Int32} {s0 : Int32} {s1 : Nat} {t : Rs Unit} (e : f_X9_measures_L17 h a0 i1 s0 s1 = some t) : X l K mM_X9_measures (tgV t) 17 [(0, .ref a0), (1, .int i1)] [.int s0, .ref s1] h := by
  unfold f_X9_measures_L17 at e
  refine x_iload_n (pc := 17) 1 dX9_measures_17 rfl ?_
  rcases ite_some e with ⟨q1, e⟩ | ⟨q1, e⟩
  · refine x_if_ne_f (pc := 18) (t := 26) dX9_measures_18 (by decide) q1 ?_
    refine x_bipush (pc := 21) (v := iN 36) dX9_measures_21 rfl ?_
    refine x_goto (pc := 23) (t := 27) dX9_measures_23 (by decide) ?_
    exact p_X9_measures_L27 hl e
  · refine x_if_ne_t (pc := 18) (t := 26) dX9_measures_18 (by decide) q1 ?_
    refine x_iconst (pc := 26) dX9_measures_26 ?_
    exact p_X9_measures_L27 hl e
noncomputable def f_X9_measures (h : Hp) (a0 : Nat) (i1 : Int32) : Option (Rs Unit) :=
  chk (okr h a0 9) <|
  bnd (f_X9_must h a0 (iN 61)) fun h2 _ =>
  if i1 = 0 then (
    f_X9_measures_L17 h2 a0 i1 (iN 8) a0
  ) else (
    f_X9_measures_L17 h2 a0 i1 (iN 0) a0
  )
theorem p_X9_measures {l : Launch} {K : Ctx} (hl : l.stackTraces = false) {h : Hp} {a0 : Nat} {i1 : Int32} {t : Rs Unit} (e : f_X9_measures h a0 i1 = some t) : X l K mM_X9_measures (tgV t) 0 [(0, .ref a0), (1, .int i1)] [] h := by
  unfold f_X9_measures at e
  refine x_aload_n (pc := 0) 0 dX9_measures_0 rfl ?_
  refine x_bipush (pc := 1) (v := iN 61) dX9_measures_1 rfl ?_
  obtain ⟨q1, e⟩ := chk_some e
  rcases bnd_some e with ⟨h2, r3, ec, rfl⟩ | ⟨h2, r3, ec, e⟩
  · exact y_callV_x (pc := 3) (c_X9_must hl ec) q1 mf_X9_must tw_7_156 ts_7_9 lf_X9_178 rfl rfl dX9_measures_3 (by decide) rfl rfl (leb rfl) (xx_out0 rfl)
  refine y_callV_v (pc := 3) (c_X9_must hl ec) q1 mf_X9_must tw_7_156 ts_7_9 lf_X9_178 rfl rfl dX9_measures_3 (by decide) rfl rfl (leb rfl) ?_
  refine x_aload_n (pc := 6) 0 dX9_measures_6 rfl ?_
  refine x_iload_n (pc := 7) 1 dX9_measures_7 rfl ?_
  rcases ite_some e with ⟨q4, e⟩ | ⟨q4, e⟩
  · refine x_if_ne_f (pc := 8) (t := 16) dX9_measures_8 (by decide) q4 ?_
    refine x_bipush (pc := 11) (v := iN 8) dX9_measures_11 rfl ?_
    refine x_goto (pc := 13) (t := 17) dX9_measures_13 (by decide) ?_
    exact p_X9_measures_L17 hl e
  · refine x_if_ne_t (pc := 8) (t := 16) dX9_measures_8 (by decide) q4 ?_
    refine x_iconst (pc := 16) dX9_measures_16 ?_
    exact p_X9_measures_L17 hl e
abbrev w_X9_measures : Cond := (Cond.code yX9_measures cX9_measures 3 (Option.none : Option Jvm.ClassFile.FieldType))
theorem mf_X9_measures : MF yX9_measures w_X9_measures cX9_measures 3 (Option.none : Option Jvm.ClassFile.FieldType) 1 := ⟨⟨rfl, tw_7_153, by decide⟩, tw_1_11, ⟨by decide, by decide⟩, by decide +kernel⟩
theorem c_X9_measures {l : Launch} {K : Ctx} (hl : l.stackTraces = false) {h : Hp} {a0 : Nat} {i1 : Int32} {t : Rs Unit} (e : f_X9_measures h a0 i1 = some t) : Ctr l K 12 yX9_measures w_X9_measures [.ref a0, .int i1] h (tgV t) :=
  Ctr.of hl mf_X9_measures false (fun q => nomatch q) rfl (leb rfl) (p_X9_measures hl e)
/-! ## TableColumnBalancerModel.columnHere -/
abbrev mM_X9_columnHere : Mi := (11, yX9_columnHere.cls, cX9_columnHere, 3, (Option.some Jvm.ClassFile.FieldType.int), [], false)
noncomputable def f_X9_columnHere (h : Hp) (a0 : Nat) : Option (Rs Int32) :=
  chk (okr h a0 9) <|
  bnd (f_X9_digit h a0) fun h2 r3 =>
  chk (okr h2 a0 9) <|
  bnd (f_X9_isOff h2 a0) fun h5 r6 =>
  if r6 = 0 then (
    chk (okr h5 a0 9) <|
    bnd (f_X9_isColumn h5 a0 r3) fun h9 r10 =>
    if r10 = 0 then (
      chk (okr h9 a0 9) <|
      bnd (f_X9_off h9 a0 (qI h a0 12)) fun h13 _ =>
      some (h13, .inr r3)
    ) else (
      some (h9, .inr r3)
    )
  ) else (
    some (h5, .inr r3)
  )
theorem p_X9_columnHere {l : Launch} {K : Ctx} (hl : l.stackTraces = false) {h : Hp} {a0 : Nat} {t : Rs Int32} (e : f_X9_columnHere h a0 = some t) : X l K mM_X9_columnHere (tgI t) 0 [(0, .ref a0)] [] h := by
  unfold f_X9_columnHere at e
  refine x_aload_n (pc := 0) 0 dX9_columnHere_0 rfl ?_
  obtain ⟨q1, e⟩ := chk_some e
  refine x_getI (pc := 1) gf_X9_137 rfl dX9_columnHere_1 q1 ?_
  refine x_istore_n (pc := 4) dX9_columnHere_4 (by decide) rfl ?_
  refine x_aload_n (pc := 5) 1 dX9_columnHere_5 rfl ?_
  rcases bnd_some e with ⟨h2, r3, ec, rfl⟩ | ⟨h2, r3, ec, e⟩
  · exact y_callV_x (pc := 6) (c_X9_digit hl ec) q1 mf_X9_digit tw_7_164 ts_7_11 lf_X9_151 rfl rfl dX9_columnHere_6 (by decide) rfl rfl (leb rfl) (xx_out0 rfl)
  refine y_callV_i (pc := 6) (c_X9_digit hl ec) q1 mf_X9_digit tw_7_164 ts_7_11 lf_X9_151 rfl rfl dX9_columnHere_6 (by decide) rfl rfl (leb rfl) ?_
  refine x_istore_n (pc := 9) dX9_columnHere_9 (by decide) rfl ?_
  refine x_aload_n (pc := 10) 2 dX9_columnHere_10 rfl ?_
  obtain ⟨q4, e⟩ := chk_some e
  rcases bnd_some e with ⟨h5, r6, ec, rfl⟩ | ⟨h5, r6, ec, e⟩
  · exact y_callV_x (pc := 11) (c_X9_isOff hl ec) q4 mf_X9_isOff tw_7_123 ts_7_3 lf_X9_140 rfl rfl dX9_columnHere_11 (by decide) rfl rfl (leb rfl) (xx_out0 rfl)
  refine y_callV_i (pc := 11) (c_X9_isOff hl ec) q4 mf_X9_isOff tw_7_123 ts_7_3 lf_X9_140 rfl rfl dX9_columnHere_11 (by decide) rfl rfl (leb rfl) ?_
  rcases ite_some e with ⟨q7, e⟩ | ⟨q7, e⟩
  · refine x_if_ne_f (pc := 14) (t := 30) dX9_columnHere_14 (by decide) q7 ?_
    refine x_aload_n (pc := 17) 2 dX9_columnHere_17 rfl ?_
    refine x_iload_n (pc := 18) 0 dX9_columnHere_18 rfl ?_
    obtain ⟨q8, e⟩ := chk_some e
    rcases bnd_some e with ⟨h9, r10, ec, rfl⟩ | ⟨h9, r10, ec, e⟩
    · exact y_callV_x (pc := 19) (c_X9_isColumn hl ec) q8 mf_X9_isColumn tw_7_39 ts_6_8 lf_X9_103 rfl rfl dX9_columnHere_19 (by decide) rfl rfl (leb rfl) (xx_out0 rfl)
    refine y_callV_i (pc := 19) (c_X9_isColumn hl ec) q8 mf_X9_isColumn tw_7_39 ts_6_8 lf_X9_103 rfl rfl dX9_columnHere_19 (by decide) rfl rfl (leb rfl) ?_
    rcases ite_some e with ⟨q11, e⟩ | ⟨q11, e⟩
    · refine x_if_ne_f (pc := 22) (t := 30) dX9_columnHere_22 (by decide) q11 ?_
      refine x_aload_n (pc := 25) 2 dX9_columnHere_25 rfl ?_
      refine x_iload_n (pc := 26) 1 dX9_columnHere_26 rfl ?_
      obtain ⟨q12, e⟩ := chk_some e
      rcases bnd_some e with ⟨h13, r14, ec, rfl⟩ | ⟨h13, r14, ec, e⟩
      · exact y_callV_x (pc := 27) (c_X9_off hl ec) q12 mf_X9_off tw_7_142 ts_7_7 lf_X9_148 rfl rfl dX9_columnHere_27 (by decide) rfl rfl (leb rfl) (xx_out0 rfl)
      refine y_callV_v (pc := 27) (c_X9_off hl ec) q12 mf_X9_off tw_7_142 ts_7_7 lf_X9_148 rfl rfl dX9_columnHere_27 (by decide) rfl rfl (leb rfl) ?_
      refine x_iload_n (pc := 30) 0 dX9_columnHere_30 rfl ?_
      cases Option.some.inj e
      exact x_iret (pc := 31) rfl dX9_columnHere_31
    · refine x_if_ne_t (pc := 22) (t := 30) dX9_columnHere_22 (by decide) q11 ?_
      refine x_iload_n (pc := 30) 0 dX9_columnHere_30 rfl ?_
      cases Option.some.inj e
      exact x_iret (pc := 31) rfl dX9_columnHere_31
  · refine x_if_ne_t (pc := 14) (t := 30) dX9_columnHere_14 (by decide) q7 ?_
    refine x_iload_n (pc := 30) 0 dX9_columnHere_30 rfl ?_
    cases Option.some.inj e
    exact x_iret (pc := 31) rfl dX9_columnHere_31
abbrev w_X9_columnHere : Cond := (Cond.code yX9_columnHere cX9_columnHere 3 (Option.some Jvm.ClassFile.FieldType.int))
theorem mf_X9_columnHere : MF yX9_columnHere w_X9_columnHere cX9_columnHere 3 (Option.some Jvm.ClassFile.FieldType.int) 0 := ⟨⟨rfl, tw_7_176, by decide⟩, tw_1_11, ⟨by decide, by decide⟩, by decide +kernel⟩
theorem c_X9_columnHere {l : Launch} {K : Ctx} (hl : l.stackTraces = false) {h : Hp} {a0 : Nat} {t : Rs Int32} (e : f_X9_columnHere h a0 = some t) : Ctr l K 11 yX9_columnHere w_X9_columnHere [.ref a0] h (tgI t) :=
  Ctr.of hl mf_X9_columnHere false (fun q => nomatch q) rfl (leb rfl) (p_X9_columnHere hl e)
/-! ## TableColumnBalancerModel.specifies -/
abbrev mM_X9_specifies : Mi := (13, yX9_specifies.cls, cX9_specifies, 5, (Option.none : Option Jvm.ClassFile.FieldType), [], false)
noncomputable def f_X9_specifies_L96 (h : Hp) (a0 : Nat) (i1 : Int32) (i4 : Int32) : Option (Rs Unit) :=
  chk (okr h a0 9) <|
  bnd (f_X9_must h a0 (iN 59)) fun h2 _ =>
  chk (okr h2 a0 9) <|
  if (qI h2 a0 13) = 0 then (
    some (h2, .inr ())
  ) else (
    chk (okr h2 (qR h2 a0 1) 20) <|
    chk (vp_in ((iN 6) + i1) (qW h2 (qR h2 a0 1))) <|
    lt (putI h2 (qR h2 a0 1) (Int32.toNatClampNeg ((iN 6) + i1)) i4) fun h8 =>
    some (h8, .inr ())
  )
theorem p_X9_specifies_L96 {l : Launch} {K : Ctx} (hl : l.stackTraces = false) {h : Hp} {a0 : Nat} {i1 : Int32} {i4 : Int32} {t : Rs Unit} (e : f_X9_specifies_L96 h a0 i1 i4 = some t) : X l K mM_X9_specifies (tgV t) 96 [(0, .ref a0), (1, .int i1), (4, .int i4)] [] h := by
  unfold f_X9_specifies_L96 at e
  refine x_aload_n (pc := 96) 0 dX9_specifies_96 rfl ?_
  refine x_bipush (pc := 97) (v := iN 59) dX9_specifies_97 rfl ?_
  obtain ⟨q1, e⟩ := chk_some e
  rcases bnd_some e with ⟨h2, r3, ec, rfl⟩ | ⟨h2, r3, ec, e⟩
  · exact y_callV_x (pc := 99) (c_X9_must hl ec) q1 mf_X9_must tw_7_156 ts_7_9 lf_X9_178 rfl rfl dX9_specifies_99 (by decide) rfl rfl (leb rfl) (xx_out0 rfl)
  refine y_callV_v (pc := 99) (c_X9_must hl ec) q1 mf_X9_must tw_7_156 ts_7_9 lf_X9_178 rfl rfl dX9_specifies_99 (by decide) rfl rfl (leb rfl) ?_
  refine x_aload_n (pc := 102) 0 dX9_specifies_102 rfl ?_
  obtain ⟨q4, e⟩ := chk_some e
  refine x_getI (pc := 103) gf_X9_175 rfl dX9_specifies_103 q4 ?_
  rcases ite_some e with ⟨q5, e⟩ | ⟨q5, e⟩
  · refine x_if_eq_t (pc := 106) (t := 120) dX9_specifies_106 (by decide) q5 ?_
    cases Option.some.inj e
    exact x_vret (pc := 120) rfl dX9_specifies_120
  · refine x_if_eq_f (pc := 106) (t := 120) dX9_specifies_106 (by decide) q5 ?_
    refine x_aload_n (pc := 109) 0 dX9_specifies_109 rfl ?_
    obtain ⟨q6, e⟩ := chk_some e
    refine x_getR (pc := 110) gf_X9_9 rfl dX9_specifies_110 q4 q6.1 ?_
    refine x_bipush (pc := 113) (v := iN 6) dX9_specifies_113 rfl ?_
    refine x_iload_n (pc := 115) 1 dX9_specifies_115 rfl ?_
    refine x_iadd (pc := 116) dX9_specifies_116 ?_
    refine x_iload (pc := 117) 2 dX9_specifies_117 rfl ?_
    obtain ⟨q7, e⟩ := chk_some e
    replace e := lt_go e
    refine x_iast (pc := 119) dX9_specifies_119 q6 q7 ?_
    cases Option.some.inj e
    exact x_vret (pc := 120) rfl dX9_specifies_120
noncomputable def f_X9_specifies (h : Hp) (a0 : Nat) : Option (Rs Unit) :=
  chk (okr h a0 9) <|
  bnd (f_X9_columnHere h a0) fun h2 r3 =>
  chk (okr h2 a0 9) <|
  bnd (f_X9_must h2 a0 (iN 61)) fun h5 _ =>
  chk (okr h5 a0 9) <|
  bnd (f_X9_word h5 a0) fun h8 r9 =>
  chk (okr h8 a0 9) <|
  bnd (f_X9_isOff h8 a0) fun h11 r12 =>
  if r12 = 0 then (
    bnd (f_X9_told h11 (1000000 + 0)) fun h14 r15 =>
    if (lg_cmp r9 r15) = 0 then (
      chk (okr h14 a0 9) <|
      bnd (f_X9_number h14 a0 (iN 1) (iN 36)) fun h18 r19 =>
      f_X9_specifies_L96 h18 a0 r3 ((iN 100) + r19)
    ) else (
      bnd (f_X9_told h14 (1000000 + 1)) fun h20 r21 =>
      if (lg_cmp r9 r21) = 0 then (
        chk (okr h20 a0 9) <|
        bnd (f_X9_number h20 a0 (iN 1) (iN 99)) fun h24 r25 =>
        f_X9_specifies_L96 h24 a0 r3 ((iN 200) + r25)
      ) else (
        bnd (f_X9_told h20 (1000000 + 2)) fun h26 r27 =>
        if (lg_cmp r9 r27) = 0 then (
          f_X9_specifies_L96 h26 a0 r3 (iN 0)
        ) else (
          chk (okr h26 a0 9) <|
          bnd (f_X9_off h26 a0 (qI h26 a0 15)) fun h30 _ =>
          f_X9_specifies_L96 h30 a0 r3 (iN 0)
        )
      )
    )
  ) else (
    some (h11, .inr ())
  )
theorem p_X9_specifies {l : Launch} {K : Ctx} (hl : l.stackTraces = false) {h : Hp} {a0 : Nat} {t : Rs Unit} (e : f_X9_specifies h a0 = some t) : X l K mM_X9_specifies (tgV t) 0 [(0, .ref a0)] [] h := by
  unfold f_X9_specifies at e
  refine x_aload_n (pc := 0) 0 dX9_specifies_0 rfl ?_
  obtain ⟨q1, e⟩ := chk_some e
  rcases bnd_some e with ⟨h2, r3, ec, rfl⟩ | ⟨h2, r3, ec, e⟩
  · exact y_callV_x (pc := 1) (c_X9_columnHere hl ec) q1 mf_X9_columnHere tw_7_175 ts_7_13 lf_X9_184 rfl rfl dX9_specifies_1 (by decide) rfl rfl (leb rfl) (xx_out0 rfl)
  refine y_callV_i (pc := 1) (c_X9_columnHere hl ec) q1 mf_X9_columnHere tw_7_175 ts_7_13 lf_X9_184 rfl rfl dX9_specifies_1 (by decide) rfl rfl (leb rfl) ?_
  refine x_istore_n (pc := 4) dX9_specifies_4 (by decide) rfl ?_
  refine x_aload_n (pc := 5) 1 dX9_specifies_5 rfl ?_
  refine x_bipush (pc := 6) (v := iN 61) dX9_specifies_6 rfl ?_
  obtain ⟨q4, e⟩ := chk_some e
  rcases bnd_some e with ⟨h5, r6, ec, rfl⟩ | ⟨h5, r6, ec, e⟩
  · exact y_callV_x (pc := 8) (c_X9_must hl ec) q4 mf_X9_must tw_7_156 ts_7_9 lf_X9_178 rfl rfl dX9_specifies_8 (by decide) rfl rfl (leb rfl) (xx_out0 rfl)
  refine y_callV_v (pc := 8) (c_X9_must hl ec) q4 mf_X9_must tw_7_156 ts_7_9 lf_X9_178 rfl rfl dX9_specifies_8 (by decide) rfl rfl (leb rfl) ?_
  refine x_aload_n (pc := 11) 1 dX9_specifies_11 rfl ?_
  obtain ⟨q7, e⟩ := chk_some e
  rcases bnd_some e with ⟨h8, r9, ec, rfl⟩ | ⟨h8, r9, ec, e⟩
  · exact y_callV_x (pc := 12) (c_X9_word hl ec) q7 mf_X9_word tw_7_131 ts_7_5 lf_X9_187 rfl rfl dX9_specifies_12 (by decide) rfl rfl (leb rfl) (xx_out0 rfl)
  refine y_callV_i (pc := 12) (c_X9_word hl ec) q7 mf_X9_word tw_7_131 ts_7_5 lf_X9_187 rfl rfl dX9_specifies_12 (by decide) rfl rfl (leb rfl) ?_
  refine x_lstore_n (pc := 15) dX9_specifies_15 (by decide) rfl ?_
  refine x_aload_n (pc := 16) 2 dX9_specifies_16 rfl ?_
  obtain ⟨q10, e⟩ := chk_some e
  rcases bnd_some e with ⟨h11, r12, ec, rfl⟩ | ⟨h11, r12, ec, e⟩
  · exact y_callV_x (pc := 17) (c_X9_isOff hl ec) q10 mf_X9_isOff tw_7_123 ts_7_3 lf_X9_140 rfl rfl dX9_specifies_17 (by decide) rfl rfl (leb rfl) (xx_out0 rfl)
  refine y_callV_i (pc := 17) (c_X9_isOff hl ec) q10 mf_X9_isOff tw_7_123 ts_7_3 lf_X9_140 rfl rfl dX9_specifies_17 (by decide) rfl rfl (leb rfl) ?_
  rcases ite_some e with ⟨q13, e⟩ | ⟨q13, e⟩
  · refine x_if_eq_t (pc := 20) (t := 24) dX9_specifies_20 (by decide) q13 ?_
    refine x_iconst (pc := 24) dX9_specifies_24 ?_
    refine x_istore (pc := 25) dX9_specifies_25 (by decide) rfl ?_
    refine x_lload_n (pc := 27) 1 dX9_specifies_27 rfl ?_
    refine x_ldcS (pc := 28) (j := 0) (tx := "fix") (by decide) (by decide) dX9_specifies_28 ?_
    rcases bnd_some e with ⟨h14, r15, ec, rfl⟩ | ⟨h14, r15, ec, e⟩
    · exact y_callS_x (pc := 30) (c_X9_told hl ec) mf_X9_told tw_7_146 lf_X9_193 dX9_specifies_30 (by decide) rfl rfl (leb rfl) (xx_out0 rfl)
    refine y_callS_i (pc := 30) (c_X9_told hl ec) mf_X9_told tw_7_146 lf_X9_193 dX9_specifies_30 (by decide) rfl rfl (leb rfl) ?_
    refine x_lcmp (pc := 33) dX9_specifies_33 ?_
    rcases ite_some e with ⟨q16, e⟩ | ⟨q16, e⟩
    · refine x_if_ne_f (pc := 34) (t := 52) dX9_specifies_34 (by decide) q16 ?_
      refine x_bipush (pc := 37) (v := iN 100) dX9_specifies_37 rfl ?_
      refine x_aload_n (pc := 39) 3 dX9_specifies_39 rfl ?_
      refine x_iconst (pc := 40) dX9_specifies_40 ?_
      refine x_bipush (pc := 41) (v := iN 36) dX9_specifies_41 rfl ?_
      obtain ⟨q17, e⟩ := chk_some e
      rcases bnd_some e with ⟨h18, r19, ec, rfl⟩ | ⟨h18, r19, ec, e⟩
      · exact y_callV_x (pc := 43) (c_X9_number hl ec) q17 mf_X9_number tw_7_160 ts_7_10 lf_X9_181 rfl rfl dX9_specifies_43 (by decide) rfl rfl (leb rfl) (xx_out0 rfl)
      refine y_callV_i (pc := 43) (c_X9_number hl ec) q17 mf_X9_number tw_7_160 ts_7_10 lf_X9_181 rfl rfl dX9_specifies_43 (by decide) rfl rfl (leb rfl) ?_
      refine x_iadd (pc := 46) dX9_specifies_46 ?_
      refine x_istore (pc := 47) dX9_specifies_47 (by decide) rfl ?_
      refine x_goto (pc := 49) (t := 96) dX9_specifies_49 (by decide) ?_
      exact x_sub1 (p_X9_specifies_L96 hl e) [3, 2, 0] rfl
    · refine x_if_ne_t (pc := 34) (t := 52) dX9_specifies_34 (by decide) q16 ?_
      refine x_lload_n (pc := 52) 1 dX9_specifies_52 rfl ?_
      refine x_ldcS (pc := 53) (j := 1) (tx := "pct") (by decide) (by decide) dX9_specifies_53 ?_
      rcases bnd_some e with ⟨h20, r21, ec, rfl⟩ | ⟨h20, r21, ec, e⟩
      · exact y_callS_x (pc := 55) (c_X9_told hl ec) mf_X9_told tw_7_146 lf_X9_193 dX9_specifies_55 (by decide) rfl rfl (leb rfl) (xx_out0 rfl)
      refine y_callS_i (pc := 55) (c_X9_told hl ec) mf_X9_told tw_7_146 lf_X9_193 dX9_specifies_55 (by decide) rfl rfl (leb rfl) ?_
      refine x_lcmp (pc := 58) dX9_specifies_58 ?_
      rcases ite_some e with ⟨q22, e⟩ | ⟨q22, e⟩
      · refine x_if_ne_f (pc := 59) (t := 78) dX9_specifies_59 (by decide) q22 ?_
        refine x_sipush (pc := 62) (v := iN 200) dX9_specifies_62 rfl ?_
        refine x_aload_n (pc := 65) 3 dX9_specifies_65 rfl ?_
        refine x_iconst (pc := 66) dX9_specifies_66 ?_
        refine x_bipush (pc := 67) (v := iN 99) dX9_specifies_67 rfl ?_
        obtain ⟨q23, e⟩ := chk_some e
        rcases bnd_some e with ⟨h24, r25, ec, rfl⟩ | ⟨h24, r25, ec, e⟩
        · exact y_callV_x (pc := 69) (c_X9_number hl ec) q23 mf_X9_number tw_7_160 ts_7_10 lf_X9_181 rfl rfl dX9_specifies_69 (by decide) rfl rfl (leb rfl) (xx_out0 rfl)
        refine y_callV_i (pc := 69) (c_X9_number hl ec) q23 mf_X9_number tw_7_160 ts_7_10 lf_X9_181 rfl rfl dX9_specifies_69 (by decide) rfl rfl (leb rfl) ?_
        refine x_iadd (pc := 72) dX9_specifies_72 ?_
        refine x_istore (pc := 73) dX9_specifies_73 (by decide) rfl ?_
        refine x_goto (pc := 75) (t := 96) dX9_specifies_75 (by decide) ?_
        exact x_sub1 (p_X9_specifies_L96 hl e) [3, 2, 0] rfl
      · refine x_if_ne_t (pc := 59) (t := 78) dX9_specifies_59 (by decide) q22 ?_
        refine x_lload_n (pc := 78) 1 dX9_specifies_78 rfl ?_
        refine x_ldcS (pc := 79) (j := 2) (tx := "auto") (by decide) (by decide) dX9_specifies_79 ?_
        rcases bnd_some e with ⟨h26, r27, ec, rfl⟩ | ⟨h26, r27, ec, e⟩
        · exact y_callS_x (pc := 81) (c_X9_told hl ec) mf_X9_told tw_7_146 lf_X9_193 dX9_specifies_81 (by decide) rfl rfl (leb rfl) (xx_out0 rfl)
        refine y_callS_i (pc := 81) (c_X9_told hl ec) mf_X9_told tw_7_146 lf_X9_193 dX9_specifies_81 (by decide) rfl rfl (leb rfl) ?_
        refine x_lcmp (pc := 84) dX9_specifies_84 ?_
        rcases ite_some e with ⟨q28, e⟩ | ⟨q28, e⟩
        · refine x_if_eq_t (pc := 85) (t := 96) dX9_specifies_85 (by decide) q28 ?_
          exact x_sub1 (p_X9_specifies_L96 hl e) [3, 2, 0] rfl
        · refine x_if_eq_f (pc := 85) (t := 96) dX9_specifies_85 (by decide) q28 ?_
          refine x_aload_n (pc := 88) 3 dX9_specifies_88 rfl ?_
          refine x_aload_n (pc := 89) 3 dX9_specifies_89 rfl ?_
          obtain ⟨q29, e⟩ := chk_some e
          refine x_getI (pc := 90) gf_X9_154 rfl dX9_specifies_90 q29 ?_
          rcases bnd_some e with ⟨h30, r31, ec, rfl⟩ | ⟨h30, r31, ec, e⟩
          · exact y_callV_x (pc := 93) (c_X9_off hl ec) q29 mf_X9_off tw_7_142 ts_7_7 lf_X9_148 rfl rfl dX9_specifies_93 (by decide) rfl rfl (leb rfl) (xx_out0 rfl)
          refine y_callV_v (pc := 93) (c_X9_off hl ec) q29 mf_X9_off tw_7_142 ts_7_7 lf_X9_148 rfl rfl dX9_specifies_93 (by decide) rfl rfl (leb rfl) ?_
          exact x_sub1 (p_X9_specifies_L96 hl e) [3, 2, 0] rfl
  · refine x_if_eq_f (pc := 20) (t := 24) dX9_specifies_20 (by decide) q13 ?_
    cases Option.some.inj e
    exact x_vret (pc := 23) rfl dX9_specifies_23
abbrev w_X9_specifies : Cond := (Cond.code yX9_specifies cX9_specifies 5 (Option.none : Option Jvm.ClassFile.FieldType))
theorem mf_X9_specifies : MF yX9_specifies w_X9_specifies cX9_specifies 5 (Option.none : Option Jvm.ClassFile.FieldType) 0 := ⟨⟨rfl, tw_7_172, by decide⟩, tw_1_11, ⟨by decide, by decide⟩, by decide +kernel⟩
theorem c_X9_specifies {l : Launch} {K : Ctx} (hl : l.stackTraces = false) {h : Hp} {a0 : Nat} {t : Rs Unit} (e : f_X9_specifies h a0 = some t) : Ctr l K 13 yX9_specifies w_X9_specifies [.ref a0] h (tgV t) :=
  Ctr.of hl mf_X9_specifies false (fun q => nomatch q) rfl (leb rfl) (p_X9_specifies hl e)
/-! ## TableColumnBalancerModel.undone -/
abbrev mM_X9_undone : Mi := (8, yX9_undone.cls, cX9_undone, 2, (Option.none : Option Jvm.ClassFile.FieldType), [], false)
noncomputable def f_X9_undone (h : Hp) (a0 : Nat) (i1 : Int32) : Option (Rs Unit) :=
  chk (okr h a0 9) <|
  if (qI h a0 14) = 0 then (
    if (qI h a0 13) = 0 then (
      some (h, .inr ())
    ) else (
      lt (putI h a0 14 (iN 1)) fun h4 =>
      lt (putI h4 a0 7 i1) fun h5 =>
      some (h5, .inr ())
    )
  ) else (
    some (h, .inr ())
  )
theorem p_X9_undone {l : Launch} {K : Ctx} (hl : l.stackTraces = false) {h : Hp} {a0 : Nat} {i1 : Int32} {t : Rs Unit} (e : f_X9_undone h a0 i1 = some t) : X l K mM_X9_undone (tgV t) 0 [(0, .ref a0), (1, .int i1)] [] h := by
  unfold f_X9_undone at e
  refine x_aload_n (pc := 0) 0 dX9_undone_0 rfl ?_
  obtain ⟨q1, e⟩ := chk_some e
  refine x_getI (pc := 1) gf_X9_171 rfl dX9_undone_1 q1 ?_
  rcases ite_some e with ⟨q2, e⟩ | ⟨q2, e⟩
  · refine x_if_ne_f (pc := 4) (t := 24) dX9_undone_4 (by decide) q2 ?_
    refine x_aload_n (pc := 7) 0 dX9_undone_7 rfl ?_
    refine x_getI (pc := 8) gf_X9_175 rfl dX9_undone_8 q1 ?_
    rcases ite_some e with ⟨q3, e⟩ | ⟨q3, e⟩
    · refine x_if_eq_t (pc := 11) (t := 24) dX9_undone_11 (by decide) q3 ?_
      cases Option.some.inj e
      exact x_vret (pc := 24) rfl dX9_undone_24
    · refine x_if_eq_f (pc := 11) (t := 24) dX9_undone_11 (by decide) q3 ?_
      refine x_aload_n (pc := 14) 0 dX9_undone_14 rfl ?_
      refine x_iconst (pc := 15) dX9_undone_15 ?_
      replace e := lt_go e
      refine x_putI (pc := 16) pf_X9_171 rfl (nar_z (Or.inr rfl)) (fit_z (Or.inr rfl)) dX9_undone_16 q1 ?_
      refine x_aload_n (pc := 19) 0 dX9_undone_19 rfl ?_
      refine x_iload_n (pc := 20) 1 dX9_undone_20 rfl ?_
      replace e := lt_go e
      refine x_putI (pc := 21) pf_X9_22 rfl rfl rfl dX9_undone_21 (okr_pI q1) ?_
      cases Option.some.inj e
      exact x_vret (pc := 24) rfl dX9_undone_24
  · refine x_if_ne_t (pc := 4) (t := 24) dX9_undone_4 (by decide) q2 ?_
    cases Option.some.inj e
    exact x_vret (pc := 24) rfl dX9_undone_24
abbrev w_X9_undone : Cond := (Cond.code yX9_undone cX9_undone 2 (Option.none : Option Jvm.ClassFile.FieldType))
theorem mf_X9_undone : MF yX9_undone w_X9_undone cX9_undone 2 (Option.none : Option Jvm.ClassFile.FieldType) 1 := ⟨⟨rfl, tw_7_188, by decide⟩, tw_1_11, ⟨by decide, by decide⟩, by decide +kernel⟩
theorem c_X9_undone {l : Launch} {K : Ctx} (hl : l.stackTraces = false) {h : Hp} {a0 : Nat} {i1 : Int32} {t : Rs Unit} (e : f_X9_undone h a0 i1 = some t) : Ctr l K 8 yX9_undone w_X9_undone [.ref a0, .int i1] h (tgV t) :=
  Ctr.of hl mf_X9_undone false (fun q => nomatch q) rfl (leb rfl) (p_X9_undone hl e)
/-! ## TableColumnBalancerModel.rows -/
abbrev mM_X9_rows : Mi := (11, yX9_rows.cls, cX9_rows, 2, (Option.none : Option Jvm.ClassFile.FieldType), [], false)
noncomputable def f_X9_rows_L32 (h : Hp) (a0 : Nat) : Option (Rs Unit) :=
  chk (okr h a0 9) <|
  if (qI h a0 13) = 0 then (
    some (h, .inr ())
  ) else (
    chk (okr h (qR h a0 1) 20) <|
    chk (vp_in (iN 4) (qW h (qR h a0 1))) <|
    lt (putI h (qR h a0 1) (Int32.toNatClampNeg (iN 4)) ((qI h (qR h a0 1) (Int32.toNatClampNeg (iN 4))) + (iN 1))) fun h5 =>
    some (h5, .inr ())
  )
theorem p_X9_rows_L32 {l : Launch} {K : Ctx} (hl : l.stackTraces = false) {h : Hp} {a0 : Nat} {t : Rs Unit} (e : f_X9_rows_L32 h a0 = some t) : X l K mM_X9_rows (tgV t) 32 [(0, .ref a0)] [] h := by
  unfold f_X9_rows_L32 at e
  refine x_aload_n (pc := 32) 0 dX9_rows_32 rfl ?_
  obtain ⟨q1, e⟩ := chk_some e
  refine x_getI (pc := 33) gf_X9_175 rfl dX9_rows_33 q1 ?_
  rcases ite_some e with ⟨q2, e⟩ | ⟨q2, e⟩
  · refine x_if_eq_t (pc := 36) (t := 49) dX9_rows_36 (by decide) q2 ?_
    cases Option.some.inj e
    exact x_vret (pc := 49) rfl dX9_rows_49
  · refine x_if_eq_f (pc := 36) (t := 49) dX9_rows_36 (by decide) q2 ?_
    refine x_aload_n (pc := 39) 0 dX9_rows_39 rfl ?_
    obtain ⟨q3, e⟩ := chk_some e
    refine x_getR (pc := 40) gf_X9_9 rfl dX9_rows_40 q1 q3.1 ?_
    refine x_iconst (pc := 43) dX9_rows_43 ?_
    refine x_dup2 (pc := 44) dX9_rows_44 rfl rfl ?_
    obtain ⟨q4, e⟩ := chk_some e
    refine x_iald (pc := 45) dX9_rows_45 q3 q4 ?_
    refine x_iconst (pc := 46) dX9_rows_46 ?_
    refine x_iadd (pc := 47) dX9_rows_47 ?_
    replace e := lt_go e
    refine x_iast (pc := 48) dX9_rows_48 q3 q4 ?_
    cases Option.some.inj e
    exact x_vret (pc := 49) rfl dX9_rows_49
noncomputable def f_X9_rows (h : Hp) (a0 : Nat) (i1 : Int32) : Option (Rs Unit) :=
  chk (okr h a0 9) <|
  bnd (f_X9_must h a0 (iN 59)) fun h2 _ =>
  chk (okr h2 a0 9) <|
  if (qI h2 a0 13) = 0 then (
    f_X9_rows_L32 h2 a0
  ) else (
    chk (okr h2 (qR h2 a0 1) 20) <|
    chk (vp_in (iN 4) (qW h2 (qR h2 a0 1))) <|
    if (qI h2 (qR h2 a0 1) (Int32.toNatClampNeg (iN 4))) = (iN 6) then (
      bnd (f_X9_undone h2 a0 i1) fun h9 _ =>
      some (h9, .inr ())
    ) else (
      f_X9_rows_L32 h2 a0
    )
  )
theorem p_X9_rows {l : Launch} {K : Ctx} (hl : l.stackTraces = false) {h : Hp} {a0 : Nat} {i1 : Int32} {t : Rs Unit} (e : f_X9_rows h a0 i1 = some t) : X l K mM_X9_rows (tgV t) 0 [(0, .ref a0), (1, .int i1)] [] h := by
  unfold f_X9_rows at e
  refine x_aload_n (pc := 0) 0 dX9_rows_0 rfl ?_
  refine x_bipush (pc := 1) (v := iN 59) dX9_rows_1 rfl ?_
  obtain ⟨q1, e⟩ := chk_some e
  rcases bnd_some e with ⟨h2, r3, ec, rfl⟩ | ⟨h2, r3, ec, e⟩
  · exact y_callV_x (pc := 3) (c_X9_must hl ec) q1 mf_X9_must tw_7_156 ts_7_9 lf_X9_178 rfl rfl dX9_rows_3 (by decide) rfl rfl (leb rfl) (xx_out0 rfl)
  refine y_callV_v (pc := 3) (c_X9_must hl ec) q1 mf_X9_must tw_7_156 ts_7_9 lf_X9_178 rfl rfl dX9_rows_3 (by decide) rfl rfl (leb rfl) ?_
  refine x_aload_n (pc := 6) 0 dX9_rows_6 rfl ?_
  obtain ⟨q4, e⟩ := chk_some e
  refine x_getI (pc := 7) gf_X9_175 rfl dX9_rows_7 q4 ?_
  rcases ite_some e with ⟨q5, e⟩ | ⟨q5, e⟩
  · refine x_if_eq_t (pc := 10) (t := 32) dX9_rows_10 (by decide) q5 ?_
    exact x_sub1 (p_X9_rows_L32 hl e) [0] rfl
  · refine x_if_eq_f (pc := 10) (t := 32) dX9_rows_10 (by decide) q5 ?_
    refine x_aload_n (pc := 13) 0 dX9_rows_13 rfl ?_
    obtain ⟨q6, e⟩ := chk_some e
    refine x_getR (pc := 14) gf_X9_9 rfl dX9_rows_14 q4 q6.1 ?_
    refine x_iconst (pc := 17) dX9_rows_17 ?_
    obtain ⟨q7, e⟩ := chk_some e
    refine x_iald (pc := 18) dX9_rows_18 q6 q7 ?_
    refine x_bipush (pc := 19) (v := iN 6) dX9_rows_19 rfl ?_
    rcases ite_some e with ⟨q8, e⟩ | ⟨q8, e⟩
    · refine x_icmp_ne_f (pc := 21) (t := 32) dX9_rows_21 (by decide) q8 ?_
      refine x_aload_n (pc := 24) 0 dX9_rows_24 rfl ?_
      refine x_iload_n (pc := 25) 1 dX9_rows_25 rfl ?_
      rcases bnd_some e with ⟨h9, r10, ec, rfl⟩ | ⟨h9, r10, ec, e⟩
      · exact y_callV_x (pc := 26) (c_X9_undone hl ec) q4 mf_X9_undone tw_7_187 ts_7_15 lf_X9_200 rfl rfl dX9_rows_26 (by decide) rfl rfl (leb rfl) (xx_out0 rfl)
      refine y_callV_v (pc := 26) (c_X9_undone hl ec) q4 mf_X9_undone tw_7_187 ts_7_15 lf_X9_200 rfl rfl dX9_rows_26 (by decide) rfl rfl (leb rfl) ?_
      refine x_goto (pc := 29) (t := 49) dX9_rows_29 (by decide) ?_
      cases Option.some.inj e
      exact x_vret (pc := 49) rfl dX9_rows_49
    · refine x_icmp_ne_t (pc := 21) (t := 32) dX9_rows_21 (by decide) q8 ?_
      exact x_sub1 (p_X9_rows_L32 hl e) [0] rfl
abbrev w_X9_rows : Cond := (Cond.code yX9_rows cX9_rows 2 (Option.none : Option Jvm.ClassFile.FieldType))
theorem mf_X9_rows : MF yX9_rows w_X9_rows cX9_rows 2 (Option.none : Option Jvm.ClassFile.FieldType) 1 := ⟨⟨rfl, tw_7_184, by decide⟩, tw_1_11, ⟨by decide, by decide⟩, by decide +kernel⟩
theorem c_X9_rows {l : Launch} {K : Ctx} (hl : l.stackTraces = false) {h : Hp} {a0 : Nat} {i1 : Int32} {t : Rs Unit} (e : f_X9_rows h a0 i1 = some t) : Ctr l K 11 yX9_rows w_X9_rows [.ref a0, .int i1] h (tgV t) :=
  Ctr.of hl mf_X9_rows false (fun q => nomatch q) rfl (leb rfl) (p_X9_rows hl e)
/-! ## TableColumnBalancerModel.spanHere -/
abbrev mM_X9_spanHere : Mi := (11, yX9_spanHere.cls, cX9_spanHere, 4, (Option.some Jvm.ClassFile.FieldType.int), [], false)
noncomputable def f_X9_spanHere_L33 (h : Hp) (a0 : Nat) (i2 : Int32) (i3 : Int32) : Option (Rs Int32) :=
  chk (okr h a0 9) <|
  bnd (f_X9_off h a0 i2) fun h2 _ =>
  some (h2, .inr i3)
theorem p_X9_spanHere_L33 {l : Launch} {K : Ctx} (hl : l.stackTraces = false) {h : Hp} {a0 : Nat} {i2 : Int32} {i3 : Int32} {t : Rs Int32} (e : f_X9_spanHere_L33 h a0 i2 i3 = some t) : X l K mM_X9_spanHere (tgI t) 33 [(0, .ref a0), (2, .int i2), (3, .int i3)] [] h := by
  unfold f_X9_spanHere_L33 at e
  refine x_aload_n (pc := 33) 0 dX9_spanHere_33 rfl ?_
  refine x_iload_n (pc := 34) 1 dX9_spanHere_34 rfl ?_
  obtain ⟨q1, e⟩ := chk_some e
  rcases bnd_some e with ⟨h2, r3, ec, rfl⟩ | ⟨h2, r3, ec, e⟩
  · exact y_callV_x (pc := 35) (c_X9_off hl ec) q1 mf_X9_off tw_7_142 ts_7_7 lf_X9_148 rfl rfl dX9_spanHere_35 (by decide) rfl rfl (leb rfl) (xx_out0 rfl)
  refine y_callV_v (pc := 35) (c_X9_off hl ec) q1 mf_X9_off tw_7_142 ts_7_7 lf_X9_148 rfl rfl dX9_spanHere_35 (by decide) rfl rfl (leb rfl) ?_
  refine x_iload_n (pc := 38) 2 dX9_spanHere_38 rfl ?_
  cases Option.some.inj e
  exact x_iret (pc := 39) rfl dX9_spanHere_39
noncomputable def f_X9_spanHere (h : Hp) (a0 : Nat) (i1 : Int32) : Option (Rs Int32) :=
  chk (okr h a0 9) <|
  bnd (f_X9_digit h a0) fun h2 r3 =>
  chk (okr h2 a0 9) <|
  bnd (f_X9_isOff h2 a0) fun h5 r6 =>
  if r6 = 0 then (
    if r3 = 0 then (
      f_X9_spanHere_L33 h5 a0 (qI h a0 12) r3
    ) else (
      chk (okr h5 a0 9) <|
      chk (okr h5 (qR h5 a0 1) 20) <|
      chk (vp_in (iN 0) (qW h5 (qR h5 a0 1))) <|
      if (i1 + r3) ≤ (qI h5 (qR h5 a0 1) (Int32.toNatClampNeg (iN 0))) then (
        some (h5, .inr r3)
      ) else (
        f_X9_spanHere_L33 h5 a0 (qI h a0 12) r3
      )
    )
  ) else (
    some (h5, .inr r3)
  )
theorem p_X9_spanHere {l : Launch} {K : Ctx} (hl : l.stackTraces = false) {h : Hp} {a0 : Nat} {i1 : Int32} {t : Rs Int32} (e : f_X9_spanHere h a0 i1 = some t) : X l K mM_X9_spanHere (tgI t) 0 [(0, .ref a0), (1, .int i1)] [] h := by
  unfold f_X9_spanHere at e
  refine x_aload_n (pc := 0) 0 dX9_spanHere_0 rfl ?_
  obtain ⟨q1, e⟩ := chk_some e
  refine x_getI (pc := 1) gf_X9_137 rfl dX9_spanHere_1 q1 ?_
  refine x_istore_n (pc := 4) dX9_spanHere_4 (by decide) rfl ?_
  refine x_aload_n (pc := 5) 1 dX9_spanHere_5 rfl ?_
  rcases bnd_some e with ⟨h2, r3, ec, rfl⟩ | ⟨h2, r3, ec, e⟩
  · exact y_callV_x (pc := 6) (c_X9_digit hl ec) q1 mf_X9_digit tw_7_164 ts_7_11 lf_X9_151 rfl rfl dX9_spanHere_6 (by decide) rfl rfl (leb rfl) (xx_out0 rfl)
  refine y_callV_i (pc := 6) (c_X9_digit hl ec) q1 mf_X9_digit tw_7_164 ts_7_11 lf_X9_151 rfl rfl dX9_spanHere_6 (by decide) rfl rfl (leb rfl) ?_
  refine x_istore_n (pc := 9) dX9_spanHere_9 (by decide) rfl ?_
  refine x_aload_n (pc := 10) 2 dX9_spanHere_10 rfl ?_
  obtain ⟨q4, e⟩ := chk_some e
  rcases bnd_some e with ⟨h5, r6, ec, rfl⟩ | ⟨h5, r6, ec, e⟩
  · exact y_callV_x (pc := 11) (c_X9_isOff hl ec) q4 mf_X9_isOff tw_7_123 ts_7_3 lf_X9_140 rfl rfl dX9_spanHere_11 (by decide) rfl rfl (leb rfl) (xx_out0 rfl)
  refine y_callV_i (pc := 11) (c_X9_isOff hl ec) q4 mf_X9_isOff tw_7_123 ts_7_3 lf_X9_140 rfl rfl dX9_spanHere_11 (by decide) rfl rfl (leb rfl) ?_
  rcases ite_some e with ⟨q7, e⟩ | ⟨q7, e⟩
  · refine x_if_ne_f (pc := 14) (t := 38) dX9_spanHere_14 (by decide) q7 ?_
    refine x_iload_n (pc := 17) 0 dX9_spanHere_17 rfl ?_
    rcases ite_some e with ⟨q8, e⟩ | ⟨q8, e⟩
    · refine x_if_eq_t (pc := 18) (t := 33) dX9_spanHere_18 (by decide) q8 ?_
      exact x_sub1 (p_X9_spanHere_L33 hl e) [2, 1, 0] rfl
    · refine x_if_eq_f (pc := 18) (t := 33) dX9_spanHere_18 (by decide) q8 ?_
      refine x_iload_n (pc := 21) 3 dX9_spanHere_21 rfl ?_
      refine x_iload_n (pc := 22) 0 dX9_spanHere_22 rfl ?_
      refine x_iadd (pc := 23) dX9_spanHere_23 ?_
      refine x_aload_n (pc := 24) 2 dX9_spanHere_24 rfl ?_
      obtain ⟨q9, e⟩ := chk_some e
      obtain ⟨q10, e⟩ := chk_some e
      refine x_getR (pc := 25) gf_X9_9 rfl dX9_spanHere_25 q9 q10.1 ?_
      refine x_iconst (pc := 28) dX9_spanHere_28 ?_
      obtain ⟨q11, e⟩ := chk_some e
      refine x_iald (pc := 29) dX9_spanHere_29 q10 q11 ?_
      rcases ite_some e with ⟨q12, e⟩ | ⟨q12, e⟩
      · refine x_icmp_le_t (pc := 30) (t := 38) dX9_spanHere_30 (by decide) q12 ?_
        refine x_iload_n (pc := 38) 0 dX9_spanHere_38 rfl ?_
        cases Option.some.inj e
        exact x_iret (pc := 39) rfl dX9_spanHere_39
      · refine x_icmp_le_f (pc := 30) (t := 38) dX9_spanHere_30 (by decide) q12 ?_
        exact x_sub1 (p_X9_spanHere_L33 hl e) [2, 1, 0] rfl
  · refine x_if_ne_t (pc := 14) (t := 38) dX9_spanHere_14 (by decide) q7 ?_
    refine x_iload_n (pc := 38) 0 dX9_spanHere_38 rfl ?_
    cases Option.some.inj e
    exact x_iret (pc := 39) rfl dX9_spanHere_39
abbrev w_X9_spanHere : Cond := (Cond.code yX9_spanHere cX9_spanHere 4 (Option.some Jvm.ClassFile.FieldType.int))
theorem mf_X9_spanHere : MF yX9_spanHere w_X9_spanHere cX9_spanHere 4 (Option.some Jvm.ClassFile.FieldType.int) 1 := ⟨⟨rfl, tw_7_197, by decide⟩, tw_1_11, ⟨by decide, by decide⟩, by decide +kernel⟩
theorem c_X9_spanHere {l : Launch} {K : Ctx} (hl : l.stackTraces = false) {h : Hp} {a0 : Nat} {i1 : Int32} {t : Rs Int32} (e : f_X9_spanHere h a0 i1 = some t) : Ctr l K 11 yX9_spanHere w_X9_spanHere [.ref a0, .int i1] h (tgI t) :=
  Ctr.of hl mf_X9_spanHere false (fun q => nomatch q) rfl (leb rfl) (p_X9_spanHere hl e)
/-! ## TableColumnBalancerModel.letterOf -/
abbrev mM_X9_letterOf : Mi := (12, yX9_letterOf.cls, cX9_letterOf, 4, (Option.some Jvm.ClassFile.FieldType.int), [], false)
noncomputable def f_X9_letterOf_L29 (k4 : Hp → Nat → Nat → Int32 → Int32 → Option (Rs Int32)) (h : Hp) (a0 : Nat) (a1 : Nat) (i3 : Int32) (s0 : Int32) : Option (Rs Int32) :=
  k4 h a0 a1 s0 (i3 + iN 1)
theorem p_X9_letterOf_L29 {l : Launch} {K : Ctx} (hl : l.stackTraces = false) {k4 : Hp → Nat → Nat → Int32 → Int32 → Option (Rs Int32)} (hk4 : ∀ (h : Hp) (a0 : Nat) (a1 : Nat) (i2 : Int32) (i3 : Int32) (t : Rs Int32), k4 h a0 a1 i2 i3 = some t → X l K mM_X9_letterOf (tgI t) 4 [(0, .ref a0), (1, .ref a1), (2, .int i2), (3, .int i3)] [] h) {h : Hp} {a0 : Nat} {a1 : Nat} {i3 : Int32} {s0 : Int32} {t : Rs Int32} (e : f_X9_letterOf_L29 k4 h a0 a1 i3 s0 = some t) : X l K mM_X9_letterOf (tgI t) 29 [(0, .ref a0), (1, .ref a1), (3, .int i3)] [.int s0] h := by
  unfold f_X9_letterOf_L29 at e
  refine x_istore_n (pc := 29) dX9_letterOf_29 (by decide) rfl ?_
  refine x_iinc (pc := 30) 3 dX9_letterOf_30 rfl (by decide) rfl ?_
  refine x_goto (pc := 33) (t := 4) dX9_letterOf_33 (by decide) ?_
  exact x_sub1 (hk4 _ _ _ _ _ _ e) [2, 3, 1, 0] rfl
noncomputable def f_X9_letterOf_B4 (k4 : Hp → Nat → Nat → Int32 → Int32 → Option (Rs Int32)) (h : Hp) (a0 : Nat) (a1 : Nat) (i2 : Int32) (i3 : Int32) : Option (Rs Int32) :=
  chk (okS a1) <|
  if (sLen a1) ≤ i3 then (
    if i2 = (iN (-1)) then (
      chk (okr h a0 9) <|
      bnd (f_X9_off h a0 (qI h a0 12)) fun h5 _ =>
      some (h5, .inr i2)
    ) else (
      chk (okr h a0 9) <|
      lt (putI h a0 12 ((qI h a0 12) + (iN 1))) fun h8 =>
      some (h8, .inr i2)
    )
  ) else (
    chk (okr h a0 9) <|
    bnd (f_X9_here h a0) fun h10 r11 =>
    chk (okS a1) <|
    chk (vp_in i3 (sLn a1)) <|
    if r11 = (sCh a1 (Int32.toNatClampNeg i3)) then (
      f_X9_letterOf_L29 k4 h10 a0 a1 i3 i3
    ) else (
      f_X9_letterOf_L29 k4 h10 a0 a1 i3 i2
    )
  )
theorem p_X9_letterOf_B4 {l : Launch} {K : Ctx} (hl : l.stackTraces = false) {k4 : Hp → Nat → Nat → Int32 → Int32 → Option (Rs Int32)} (hk4 : ∀ (h : Hp) (a0 : Nat) (a1 : Nat) (i2 : Int32) (i3 : Int32) (t : Rs Int32), k4 h a0 a1 i2 i3 = some t → X l K mM_X9_letterOf (tgI t) 4 [(0, .ref a0), (1, .ref a1), (2, .int i2), (3, .int i3)] [] h) {h : Hp} {a0 : Nat} {a1 : Nat} {i2 : Int32} {i3 : Int32} {t : Rs Int32} (e : f_X9_letterOf_B4 k4 h a0 a1 i2 i3 = some t) : X l K mM_X9_letterOf (tgI t) 4 [(0, .ref a0), (1, .ref a1), (2, .int i2), (3, .int i3)] [] h := by
  unfold f_X9_letterOf_B4 at e
  refine x_iload_n (pc := 4) 3 dX9_letterOf_4 rfl ?_
  refine x_aload_n (pc := 5) 1 dX9_letterOf_5 rfl ?_
  obtain ⟨q1, e⟩ := chk_some e
  refine x_strLen (pc := 6) hl q1 tw_7_148 dX9_letterOf_6 (by decide) (leb rfl) ?_
  rcases ite_some e with ⟨q2, e⟩ | ⟨q2, e⟩
  · refine x_icmp_ge_t (pc := 9) (t := 36) dX9_letterOf_9 (by decide) q2 ?_
    refine x_iload_n (pc := 36) 2 dX9_letterOf_36 rfl ?_
    refine x_iconst (pc := 37) dX9_letterOf_37 ?_
    rcases ite_some e with ⟨q3, e⟩ | ⟨q3, e⟩
    · refine x_icmp_ne_f (pc := 38) (t := 52) dX9_letterOf_38 (by decide) q3 ?_
      refine x_aload_n (pc := 41) 0 dX9_letterOf_41 rfl ?_
      refine x_aload_n (pc := 42) 0 dX9_letterOf_42 rfl ?_
      obtain ⟨q4, e⟩ := chk_some e
      refine x_getI (pc := 43) gf_X9_137 rfl dX9_letterOf_43 q4 ?_
      rcases bnd_some e with ⟨h5, r6, ec, rfl⟩ | ⟨h5, r6, ec, e⟩
      · exact y_callV_x (pc := 46) (c_X9_off hl ec) q4 mf_X9_off tw_7_142 ts_7_7 lf_X9_148 rfl rfl dX9_letterOf_46 (by decide) rfl rfl (leb rfl) (xx_out0 rfl)
      refine y_callV_v (pc := 46) (c_X9_off hl ec) q4 mf_X9_off tw_7_142 ts_7_7 lf_X9_148 rfl rfl dX9_letterOf_46 (by decide) rfl rfl (leb rfl) ?_
      refine x_goto (pc := 49) (t := 62) dX9_letterOf_49 (by decide) ?_
      refine x_iload_n (pc := 62) 2 dX9_letterOf_62 rfl ?_
      cases Option.some.inj e
      exact x_iret (pc := 63) rfl dX9_letterOf_63
    · refine x_icmp_ne_t (pc := 38) (t := 52) dX9_letterOf_38 (by decide) q3 ?_
      refine x_aload_n (pc := 52) 0 dX9_letterOf_52 rfl ?_
      refine x_dup (pc := 53) dX9_letterOf_53 rfl ?_
      obtain ⟨q7, e⟩ := chk_some e
      refine x_getI (pc := 54) gf_X9_137 rfl dX9_letterOf_54 q7 ?_
      refine x_iconst (pc := 57) dX9_letterOf_57 ?_
      refine x_iadd (pc := 58) dX9_letterOf_58 ?_
      replace e := lt_go e
      refine x_putI (pc := 59) pf_X9_137 rfl rfl rfl dX9_letterOf_59 q7 ?_
      refine x_iload_n (pc := 62) 2 dX9_letterOf_62 rfl ?_
      cases Option.some.inj e
      exact x_iret (pc := 63) rfl dX9_letterOf_63
  · refine x_icmp_ge_f (pc := 9) (t := 36) dX9_letterOf_9 (by decide) q2 ?_
    refine x_aload_n (pc := 12) 0 dX9_letterOf_12 rfl ?_
    obtain ⟨q9, e⟩ := chk_some e
    rcases bnd_some e with ⟨h10, r11, ec, rfl⟩ | ⟨h10, r11, ec, e⟩
    · exact y_callV_x (pc := 13) (c_X9_here hl ec) q9 mf_X9_here tw_7_135 ts_7_6 lf_X9_144 rfl rfl dX9_letterOf_13 (by decide) rfl rfl (leb rfl) (xx_out0 rfl)
    refine y_callV_i (pc := 13) (c_X9_here hl ec) q9 mf_X9_here tw_7_135 ts_7_6 lf_X9_144 rfl rfl dX9_letterOf_13 (by decide) rfl rfl (leb rfl) ?_
    refine x_aload_n (pc := 16) 1 dX9_letterOf_16 rfl ?_
    refine x_iload_n (pc := 17) 3 dX9_letterOf_17 rfl ?_
    obtain ⟨q12, e⟩ := chk_some e
    obtain ⟨q13, e⟩ := chk_some e
    refine x_strAt (pc := 18) hl q12 q13 tw_7_149 dX9_letterOf_18 (by decide) (leb rfl) ?_
    rcases ite_some e with ⟨q14, e⟩ | ⟨q14, e⟩
    · refine x_icmp_ne_f (pc := 21) (t := 28) dX9_letterOf_21 (by decide) q14 ?_
      refine x_iload_n (pc := 24) 3 dX9_letterOf_24 rfl ?_
      refine x_goto (pc := 25) (t := 29) dX9_letterOf_25 (by decide) ?_
      exact x_sub1 (p_X9_letterOf_L29 hl hk4 e) [0, 1, 3] rfl
    · refine x_icmp_ne_t (pc := 21) (t := 28) dX9_letterOf_21 (by decide) q14 ?_
      refine x_iload_n (pc := 28) 2 dX9_letterOf_28 rfl ?_
      exact x_sub1 (p_X9_letterOf_L29 hl hk4 e) [0, 1, 3] rfl
noncomputable def f_X9_letterOf_L4 (n : Nat) : Hp → Nat → Nat → Int32 → Int32 → Option (Rs Int32) := Nat.rec (motive := fun _ => Hp → Nat → Nat → Int32 → Int32 → Option (Rs Int32)) (fun _ _ _ _ _ => none) (fun _ r => f_X9_letterOf_B4 r) n
theorem p_X9_letterOf_L4 {l : Launch} {K : Ctx} (hl : l.stackTraces = false) : ∀ (n : Nat) (h : Hp) (a0 : Nat) (a1 : Nat) (i2 : Int32) (i3 : Int32) (t : Rs Int32) (e : f_X9_letterOf_L4 n h a0 a1 i2 i3 = some t), X l K mM_X9_letterOf (tgI t) 4 [(0, .ref a0), (1, .ref a1), (2, .int i2), (3, .int i3)] [] h := by
  intro n
  induction n with
  | zero => exact fun _ _ _ _ _ _ e => nomatch (show (none : Option (Rs Int32)) = some _ from e)
  | succ n ih => exact fun h a0 a1 i2 i3 t e => p_X9_letterOf_B4 hl (fun h a0 a1 i2 i3 t e => ih h a0 a1 i2 i3 t e) e
noncomputable def f_X9_letterOf (h : Hp) (a0 : Nat) (a1 : Nat) : Option (Rs Int32) :=
  f_X9_letterOf_L4 2000 h a0 a1 (iN (-1)) (iN 0)
theorem p_X9_letterOf {l : Launch} {K : Ctx} (hl : l.stackTraces = false) {h : Hp} {a0 : Nat} {a1 : Nat} {t : Rs Int32} (e : f_X9_letterOf h a0 a1 = some t) : X l K mM_X9_letterOf (tgI t) 0 [(0, .ref a0), (1, .ref a1)] [] h := by
  unfold f_X9_letterOf at e
  refine x_iconst (pc := 0) dX9_letterOf_0 ?_
  refine x_istore_n (pc := 1) dX9_letterOf_1 (by decide) rfl ?_
  refine x_iconst (pc := 2) dX9_letterOf_2 ?_
  refine x_istore_n (pc := 3) dX9_letterOf_3 (by decide) rfl ?_
  exact x_sub1 (p_X9_letterOf_L4 hl 2000 _ _ _ _ _ _ e) [2, 3, 1, 0] rfl
abbrev w_X9_letterOf : Cond := (Cond.code yX9_letterOf cX9_letterOf 4 (Option.some Jvm.ClassFile.FieldType.int))
theorem mf_X9_letterOf : MF yX9_letterOf w_X9_letterOf cX9_letterOf 4 (Option.some Jvm.ClassFile.FieldType.int) 1 := ⟨⟨rfl, tw_7_202, by decide⟩, tw_1_11, ⟨by decide, by decide⟩, by decide +kernel⟩
theorem c_X9_letterOf {l : Launch} {K : Ctx} (hl : l.stackTraces = false) {h : Hp} {a0 : Nat} {a1 : Nat} {t : Rs Int32} (e : f_X9_letterOf h a0 a1 = some t) : Ctr l K 12 yX9_letterOf w_X9_letterOf [.ref a0, .ref a1] h (tgI t) :=
  Ctr.of hl mf_X9_letterOf false (fun q => nomatch q) rfl (leb rfl) (p_X9_letterOf hl e)
/-! ## TableColumnBalancerModel.addsHere -/
abbrev mM_X9_addsHere : Mi := (11, yX9_addsHere.cls, cX9_addsHere, 5, (Option.some Jvm.ClassFile.FieldType.int), [], false)
noncomputable def f_X9_addsHere_L46 (h : Hp) (a0 : Nat) (i4 : Int32) : Option (Rs Int32) :=
  chk (okr h a0 9) <|
  bnd (f_X9_undone h a0 i4) fun h2 _ =>
  some (h2, .inr (iN (-1)))
theorem p_X9_addsHere_L46 {l : Launch} {K : Ctx} (hl : l.stackTraces = false) {h : Hp} {a0 : Nat} {i4 : Int32} {t : Rs Int32} (e : f_X9_addsHere_L46 h a0 i4 = some t) : X l K mM_X9_addsHere (tgI t) 46 [(0, .ref a0), (4, .int i4)] [] h := by
  unfold f_X9_addsHere_L46 at e
  refine x_aload_n (pc := 46) 0 dX9_addsHere_46 rfl ?_
  refine x_iload (pc := 47) 1 dX9_addsHere_47 rfl ?_
  obtain ⟨q1, e⟩ := chk_some e
  rcases bnd_some e with ⟨h2, r3, ec, rfl⟩ | ⟨h2, r3, ec, e⟩
  · exact y_callV_x (pc := 49) (c_X9_undone hl ec) q1 mf_X9_undone tw_7_187 ts_7_15 lf_X9_200 rfl rfl dX9_addsHere_49 (by decide) rfl rfl (leb rfl) (xx_out0 rfl)
  refine y_callV_v (pc := 49) (c_X9_undone hl ec) q1 mf_X9_undone tw_7_187 ts_7_15 lf_X9_200 rfl rfl dX9_addsHere_49 (by decide) rfl rfl (leb rfl) ?_
  refine x_iconst (pc := 52) dX9_addsHere_52 ?_
  cases Option.some.inj e
  exact x_iret (pc := 53) rfl dX9_addsHere_53
noncomputable def f_X9_addsHere (h : Hp) (a0 : Nat) (i1 : Int32) (i2 : Int32) (i3 : Int32) (i4 : Int32) : Option (Rs Int32) :=
  chk (okr h a0 9) <|
  if (qI h a0 13) = 0 then (
    some (h, .inr (iN (-1)))
  ) else (
    chk (okr h (qR h a0 1) 20) <|
    chk (vp_in (iN 4) (qW h (qR h a0 1))) <|
    if (qI h (qR h a0 1) (Int32.toNatClampNeg (iN 4))) = 0 then (
      f_X9_addsHere_L46 h a0 i4
    ) else (
      chk (vp_in (iN 5) (qW h (qR h a0 1))) <|
      if (qI h (qR h a0 1) (Int32.toNatClampNeg (iN 5))) = (iN 16) then (
        f_X9_addsHere_L46 h a0 i4
      ) else (
        bnd (f_X9_isFree h a0 ((qI h (qR h a0 1) (Int32.toNatClampNeg (iN 4))) - (iN 1)) i1 i2) fun h8 r9 =>
        if r9 = 0 then (
          f_X9_addsHere_L46 h8 a0 i4
        ) else (
          chk (okr h8 a0 9) <|
          chk (okr h8 (qR h8 a0 1) 20) <|
          chk (vp_in (iN 4) (qW h8 (qR h8 a0 1))) <|
          bnd (f_X9_adds h8 a0 ((qI h8 (qR h8 a0 1) (Int32.toNatClampNeg (iN 4))) - (iN 1)) i1 i2 i3) fun h14 r15 =>
          some (h14, .inr r15)
        )
      )
    )
  )
theorem p_X9_addsHere {l : Launch} {K : Ctx} (hl : l.stackTraces = false) {h : Hp} {a0 : Nat} {i1 : Int32} {i2 : Int32} {i3 : Int32} {i4 : Int32} {t : Rs Int32} (e : f_X9_addsHere h a0 i1 i2 i3 i4 = some t) : X l K mM_X9_addsHere (tgI t) 0 [(0, .ref a0), (1, .int i1), (2, .int i2), (3, .int i3), (4, .int i4)] [] h := by
  unfold f_X9_addsHere at e
  refine x_aload_n (pc := 0) 0 dX9_addsHere_0 rfl ?_
  obtain ⟨q1, e⟩ := chk_some e
  refine x_getI (pc := 1) gf_X9_175 rfl dX9_addsHere_1 q1 ?_
  rcases ite_some e with ⟨q2, e⟩ | ⟨q2, e⟩
  · refine x_if_ne_f (pc := 4) (t := 9) dX9_addsHere_4 (by decide) q2 ?_
    refine x_iconst (pc := 7) dX9_addsHere_7 ?_
    cases Option.some.inj e
    exact x_iret (pc := 8) rfl dX9_addsHere_8
  · refine x_if_ne_t (pc := 4) (t := 9) dX9_addsHere_4 (by decide) q2 ?_
    refine x_aload_n (pc := 9) 0 dX9_addsHere_9 rfl ?_
    obtain ⟨q3, e⟩ := chk_some e
    refine x_getR (pc := 10) gf_X9_9 rfl dX9_addsHere_10 q1 q3.1 ?_
    refine x_iconst (pc := 13) dX9_addsHere_13 ?_
    obtain ⟨q4, e⟩ := chk_some e
    refine x_iald (pc := 14) dX9_addsHere_14 q3 q4 ?_
    rcases ite_some e with ⟨q5, e⟩ | ⟨q5, e⟩
    · refine x_if_eq_t (pc := 15) (t := 46) dX9_addsHere_15 (by decide) q5 ?_
      exact x_sub1 (p_X9_addsHere_L46 hl e) [0, 4] rfl
    · refine x_if_eq_f (pc := 15) (t := 46) dX9_addsHere_15 (by decide) q5 ?_
      refine x_aload_n (pc := 18) 0 dX9_addsHere_18 rfl ?_
      refine x_getR (pc := 19) gf_X9_9 rfl dX9_addsHere_19 q1 q3.1 ?_
      refine x_iconst (pc := 22) dX9_addsHere_22 ?_
      obtain ⟨q6, e⟩ := chk_some e
      refine x_iald (pc := 23) dX9_addsHere_23 q3 q6 ?_
      refine x_bipush (pc := 24) (v := iN 16) dX9_addsHere_24 rfl ?_
      rcases ite_some e with ⟨q7, e⟩ | ⟨q7, e⟩
      · refine x_icmp_eq_t (pc := 26) (t := 46) dX9_addsHere_26 (by decide) q7 ?_
        exact x_sub1 (p_X9_addsHere_L46 hl e) [0, 4] rfl
      · refine x_icmp_eq_f (pc := 26) (t := 46) dX9_addsHere_26 (by decide) q7 ?_
        refine x_aload_n (pc := 29) 0 dX9_addsHere_29 rfl ?_
        refine x_aload_n (pc := 30) 0 dX9_addsHere_30 rfl ?_
        refine x_getR (pc := 31) gf_X9_9 rfl dX9_addsHere_31 q1 q3.1 ?_
        refine x_iconst (pc := 34) dX9_addsHere_34 ?_
        refine x_iald (pc := 35) dX9_addsHere_35 q3 q4 ?_
        refine x_iconst (pc := 36) dX9_addsHere_36 ?_
        refine x_isub (pc := 37) dX9_addsHere_37 ?_
        refine x_iload_n (pc := 38) 1 dX9_addsHere_38 rfl ?_
        refine x_iload_n (pc := 39) 2 dX9_addsHere_39 rfl ?_
        rcases bnd_some e with ⟨h8, r9, ec, rfl⟩ | ⟨h8, r9, ec, e⟩
        · exact y_callV_x (pc := 40) (c_X9_isFree hl ec) q1 mf_X9_isFree tw_7_55 ts_6_10 lf_X9_113 rfl rfl dX9_addsHere_40 (by decide) rfl rfl (leb rfl) (xx_out0 rfl)
        refine y_callV_i (pc := 40) (c_X9_isFree hl ec) q1 mf_X9_isFree tw_7_55 ts_6_10 lf_X9_113 rfl rfl dX9_addsHere_40 (by decide) rfl rfl (leb rfl) ?_
        rcases ite_some e with ⟨q10, e⟩ | ⟨q10, e⟩
        · refine x_if_ne_f (pc := 43) (t := 54) dX9_addsHere_43 (by decide) q10 ?_
          exact x_sub1 (p_X9_addsHere_L46 hl e) [0, 4] rfl
        · refine x_if_ne_t (pc := 43) (t := 54) dX9_addsHere_43 (by decide) q10 ?_
          refine x_aload_n (pc := 54) 0 dX9_addsHere_54 rfl ?_
          refine x_aload_n (pc := 55) 0 dX9_addsHere_55 rfl ?_
          obtain ⟨q11, e⟩ := chk_some e
          obtain ⟨q12, e⟩ := chk_some e
          refine x_getR (pc := 56) gf_X9_9 rfl dX9_addsHere_56 q11 q12.1 ?_
          refine x_iconst (pc := 59) dX9_addsHere_59 ?_
          obtain ⟨q13, e⟩ := chk_some e
          refine x_iald (pc := 60) dX9_addsHere_60 q12 q13 ?_
          refine x_iconst (pc := 61) dX9_addsHere_61 ?_
          refine x_isub (pc := 62) dX9_addsHere_62 ?_
          refine x_iload_n (pc := 63) 1 dX9_addsHere_63 rfl ?_
          refine x_iload_n (pc := 64) 2 dX9_addsHere_64 rfl ?_
          refine x_iload_n (pc := 65) 3 dX9_addsHere_65 rfl ?_
          rcases bnd_some e with ⟨h14, r15, ec, rfl⟩ | ⟨h14, r15, ec, e⟩
          · exact y_callV_x (pc := 66) (c_X9_adds hl ec) q11 mf_X9_adds tw_7_67 ts_6_13 lf_X9_116 rfl rfl dX9_addsHere_66 (by decide) rfl rfl (leb rfl) (xx_out0 rfl)
          refine y_callV_i (pc := 66) (c_X9_adds hl ec) q11 mf_X9_adds tw_7_67 ts_6_13 lf_X9_116 rfl rfl dX9_addsHere_66 (by decide) rfl rfl (leb rfl) ?_
          cases Option.some.inj e
          exact x_iret (pc := 69) rfl dX9_addsHere_69
abbrev w_X9_addsHere : Cond := (Cond.code yX9_addsHere cX9_addsHere 5 (Option.some Jvm.ClassFile.FieldType.int))
theorem mf_X9_addsHere : MF yX9_addsHere w_X9_addsHere cX9_addsHere 5 (Option.some Jvm.ClassFile.FieldType.int) 4 := ⟨⟨rfl, tw_7_206, by decide⟩, tw_1_11, ⟨by decide, by decide⟩, by decide +kernel⟩
theorem c_X9_addsHere {l : Launch} {K : Ctx} (hl : l.stackTraces = false) {h : Hp} {a0 : Nat} {i1 : Int32} {i2 : Int32} {i3 : Int32} {i4 : Int32} {t : Rs Int32} (e : f_X9_addsHere h a0 i1 i2 i3 i4 = some t) : Ctr l K 11 yX9_addsHere w_X9_addsHere [.ref a0, .int i1, .int i2, .int i3, .int i4] h (tgI t) :=
  Ctr.of hl mf_X9_addsHere false (fun q => nomatch q) rfl (leb rfl) (p_X9_addsHere hl e)
/-! ## TableColumnBalancerModel.wordLength -/
abbrev mM_X9_wordLength : Mi := (10, yX9_wordLength.cls, cX9_wordLength, 2, (Option.some Jvm.ClassFile.FieldType.int), [], false)
noncomputable def f_X9_wordLength_L56 (h : Hp) (a0 : Nat) (i1 : Int32) : Option (Rs Int32) :=
  chk (okr h a0 9) <|
  bnd (f_X9_isOff h a0) fun h2 r3 =>
  if r3 = 0 then (
    if i1 = 0 then (
      chk (okr h2 a0 9) <|
      bnd (f_X9_off h2 a0 (qI h2 a0 12)) fun h7 _ =>
      some (h7, .inr i1)
    ) else (
      some (h2, .inr i1)
    )
  ) else (
    some (h2, .inr i1)
  )
theorem p_X9_wordLength_L56 {l : Launch} {K : Ctx} (hl : l.stackTraces = false) {h : Hp} {a0 : Nat} {i1 : Int32} {t : Rs Int32} (e : f_X9_wordLength_L56 h a0 i1 = some t) : X l K mM_X9_wordLength (tgI t) 56 [(0, .ref a0), (1, .int i1)] [] h := by
  unfold f_X9_wordLength_L56 at e
  refine x_aload_n (pc := 56) 0 dX9_wordLength_56 rfl ?_
  obtain ⟨q1, e⟩ := chk_some e
  rcases bnd_some e with ⟨h2, r3, ec, rfl⟩ | ⟨h2, r3, ec, e⟩
  · exact y_callV_x (pc := 57) (c_X9_isOff hl ec) q1 mf_X9_isOff tw_7_123 ts_7_3 lf_X9_140 rfl rfl dX9_wordLength_57 (by decide) rfl rfl (leb rfl) (xx_out0 rfl)
  refine y_callV_i (pc := 57) (c_X9_isOff hl ec) q1 mf_X9_isOff tw_7_123 ts_7_3 lf_X9_140 rfl rfl dX9_wordLength_57 (by decide) rfl rfl (leb rfl) ?_
  rcases ite_some e with ⟨q4, e⟩ | ⟨q4, e⟩
  · refine x_if_ne_f (pc := 60) (t := 75) dX9_wordLength_60 (by decide) q4 ?_
    refine x_iload_n (pc := 63) 1 dX9_wordLength_63 rfl ?_
    rcases ite_some e with ⟨q5, e⟩ | ⟨q5, e⟩
    · refine x_if_ne_f (pc := 64) (t := 75) dX9_wordLength_64 (by decide) q5 ?_
      refine x_aload_n (pc := 67) 0 dX9_wordLength_67 rfl ?_
      refine x_aload_n (pc := 68) 0 dX9_wordLength_68 rfl ?_
      obtain ⟨q6, e⟩ := chk_some e
      refine x_getI (pc := 69) gf_X9_137 rfl dX9_wordLength_69 q6 ?_
      rcases bnd_some e with ⟨h7, r8, ec, rfl⟩ | ⟨h7, r8, ec, e⟩
      · exact y_callV_x (pc := 72) (c_X9_off hl ec) q6 mf_X9_off tw_7_142 ts_7_7 lf_X9_148 rfl rfl dX9_wordLength_72 (by decide) rfl rfl (leb rfl) (xx_out0 rfl)
      refine y_callV_v (pc := 72) (c_X9_off hl ec) q6 mf_X9_off tw_7_142 ts_7_7 lf_X9_148 rfl rfl dX9_wordLength_72 (by decide) rfl rfl (leb rfl) ?_
      refine x_iload_n (pc := 75) 1 dX9_wordLength_75 rfl ?_
      cases Option.some.inj e
      exact x_iret (pc := 76) rfl dX9_wordLength_76
    · refine x_if_ne_t (pc := 64) (t := 75) dX9_wordLength_64 (by decide) q5 ?_
      refine x_iload_n (pc := 75) 1 dX9_wordLength_75 rfl ?_
      cases Option.some.inj e
      exact x_iret (pc := 76) rfl dX9_wordLength_76
  · refine x_if_ne_t (pc := 60) (t := 75) dX9_wordLength_60 (by decide) q4 ?_
    refine x_iload_n (pc := 75) 1 dX9_wordLength_75 rfl ?_
    cases Option.some.inj e
    exact x_iret (pc := 76) rfl dX9_wordLength_76
noncomputable def f_X9_wordLength_L50 (k2 : Hp → Nat → Int32 → Option (Rs Int32)) (h : Hp) (a0 : Nat) (i1 : Int32) : Option (Rs Int32) :=
  k2 h a0 (i1 + iN 1)
theorem p_X9_wordLength_L50 {l : Launch} {K : Ctx} (hl : l.stackTraces = false) {k2 : Hp → Nat → Int32 → Option (Rs Int32)} (hk2 : ∀ (h : Hp) (a0 : Nat) (i1 : Int32) (t : Rs Int32), k2 h a0 i1 = some t → X l K mM_X9_wordLength (tgI t) 2 [(0, .ref a0), (1, .int i1)] [] h) {h : Hp} {a0 : Nat} {i1 : Int32} {t : Rs Int32} (e : f_X9_wordLength_L50 k2 h a0 i1 = some t) : X l K mM_X9_wordLength (tgI t) 50 [(0, .ref a0), (1, .int i1)] [] h := by
  unfold f_X9_wordLength_L50 at e
  refine x_iinc (pc := 50) 1 dX9_wordLength_50 rfl (by decide) rfl ?_
  refine x_goto (pc := 53) (t := 2) dX9_wordLength_53 (by decide) ?_
  exact x_sub1 (hk2 _ _ _ _ e) [1, 0] rfl
noncomputable def f_X9_wordLength_B2 (k2 : Hp → Nat → Int32 → Option (Rs Int32)) (h : Hp) (a0 : Nat) (i1 : Int32) : Option (Rs Int32) :=
  chk (okr h a0 9) <|
  bnd (f_X9_isOff h a0) fun h2 r3 =>
  if r3 = 0 then (
    chk (okr h2 a0 9) <|
    bnd (f_X9_here h2 a0) fun h6 r7 =>
    bnd (f_X9_in h6 r7 (iN 97) (iN 122)) fun h8 r9 =>
    if r9 = 0 then (
      f_X9_wordLength_L56 h8 a0 i1
    ) else (
      if i1 = (iN 12) then (
        chk (okr h8 a0 9) <|
        bnd (f_X9_off h8 a0 (qI h8 a0 12)) fun h13 _ =>
        f_X9_wordLength_L50 k2 h13 a0 i1
      ) else (
        chk (okr h8 a0 9) <|
        lt (putI h8 a0 12 ((qI h8 a0 12) + (iN 1))) fun h16 =>
        f_X9_wordLength_L50 k2 h16 a0 i1
      )
    )
  ) else (
    f_X9_wordLength_L56 h2 a0 i1
  )
theorem p_X9_wordLength_B2 {l : Launch} {K : Ctx} (hl : l.stackTraces = false) {k2 : Hp → Nat → Int32 → Option (Rs Int32)} (hk2 : ∀ (h : Hp) (a0 : Nat) (i1 : Int32) (t : Rs Int32), k2 h a0 i1 = some t → X l K mM_X9_wordLength (tgI t) 2 [(0, .ref a0), (1, .int i1)] [] h) {h : Hp} {a0 : Nat} {i1 : Int32} {t : Rs Int32} (e : f_X9_wordLength_B2 k2 h a0 i1 = some t) : X l K mM_X9_wordLength (tgI t) 2 [(0, .ref a0), (1, .int i1)] [] h := by
  unfold f_X9_wordLength_B2 at e
  refine x_aload_n (pc := 2) 0 dX9_wordLength_2 rfl ?_
  obtain ⟨q1, e⟩ := chk_some e
  rcases bnd_some e with ⟨h2, r3, ec, rfl⟩ | ⟨h2, r3, ec, e⟩
  · exact y_callV_x (pc := 3) (c_X9_isOff hl ec) q1 mf_X9_isOff tw_7_123 ts_7_3 lf_X9_140 rfl rfl dX9_wordLength_3 (by decide) rfl rfl (leb rfl) (xx_out0 rfl)
  refine y_callV_i (pc := 3) (c_X9_isOff hl ec) q1 mf_X9_isOff tw_7_123 ts_7_3 lf_X9_140 rfl rfl dX9_wordLength_3 (by decide) rfl rfl (leb rfl) ?_
  rcases ite_some e with ⟨q4, e⟩ | ⟨q4, e⟩
  · refine x_if_ne_f (pc := 6) (t := 56) dX9_wordLength_6 (by decide) q4 ?_
    refine x_aload_n (pc := 9) 0 dX9_wordLength_9 rfl ?_
    obtain ⟨q5, e⟩ := chk_some e
    rcases bnd_some e with ⟨h6, r7, ec, rfl⟩ | ⟨h6, r7, ec, e⟩
    · exact y_callV_x (pc := 10) (c_X9_here hl ec) q5 mf_X9_here tw_7_135 ts_7_6 lf_X9_144 rfl rfl dX9_wordLength_10 (by decide) rfl rfl (leb rfl) (xx_out0 rfl)
    refine y_callV_i (pc := 10) (c_X9_here hl ec) q5 mf_X9_here tw_7_135 ts_7_6 lf_X9_144 rfl rfl dX9_wordLength_10 (by decide) rfl rfl (leb rfl) ?_
    refine x_bipush (pc := 13) (v := iN 97) dX9_wordLength_13 rfl ?_
    refine x_bipush (pc := 15) (v := iN 122) dX9_wordLength_15 rfl ?_
    rcases bnd_some e with ⟨h8, r9, ec, rfl⟩ | ⟨h8, r9, ec, e⟩
    · exact y_callS_x (pc := 17) (c_X9_in hl ec) mf_X9_in tw_7_20 lf_X9_87 dX9_wordLength_17 (by decide) rfl rfl (leb rfl) (xx_out0 rfl)
    refine y_callS_i (pc := 17) (c_X9_in hl ec) mf_X9_in tw_7_20 lf_X9_87 dX9_wordLength_17 (by decide) rfl rfl (leb rfl) ?_
    rcases ite_some e with ⟨q10, e⟩ | ⟨q10, e⟩
    · refine x_if_eq_t (pc := 20) (t := 56) dX9_wordLength_20 (by decide) q10 ?_
      exact p_X9_wordLength_L56 hl e
    · refine x_if_eq_f (pc := 20) (t := 56) dX9_wordLength_20 (by decide) q10 ?_
      refine x_iload_n (pc := 23) 1 dX9_wordLength_23 rfl ?_
      refine x_bipush (pc := 24) (v := iN 12) dX9_wordLength_24 rfl ?_
      rcases ite_some e with ⟨q11, e⟩ | ⟨q11, e⟩
      · refine x_icmp_ne_f (pc := 26) (t := 40) dX9_wordLength_26 (by decide) q11 ?_
        refine x_aload_n (pc := 29) 0 dX9_wordLength_29 rfl ?_
        refine x_aload_n (pc := 30) 0 dX9_wordLength_30 rfl ?_
        obtain ⟨q12, e⟩ := chk_some e
        refine x_getI (pc := 31) gf_X9_137 rfl dX9_wordLength_31 q12 ?_
        rcases bnd_some e with ⟨h13, r14, ec, rfl⟩ | ⟨h13, r14, ec, e⟩
        · exact y_callV_x (pc := 34) (c_X9_off hl ec) q12 mf_X9_off tw_7_142 ts_7_7 lf_X9_148 rfl rfl dX9_wordLength_34 (by decide) rfl rfl (leb rfl) (xx_out0 rfl)
        refine y_callV_v (pc := 34) (c_X9_off hl ec) q12 mf_X9_off tw_7_142 ts_7_7 lf_X9_148 rfl rfl dX9_wordLength_34 (by decide) rfl rfl (leb rfl) ?_
        refine x_goto (pc := 37) (t := 50) dX9_wordLength_37 (by decide) ?_
        exact p_X9_wordLength_L50 hl hk2 e
      · refine x_icmp_ne_t (pc := 26) (t := 40) dX9_wordLength_26 (by decide) q11 ?_
        refine x_aload_n (pc := 40) 0 dX9_wordLength_40 rfl ?_
        refine x_dup (pc := 41) dX9_wordLength_41 rfl ?_
        obtain ⟨q15, e⟩ := chk_some e
        refine x_getI (pc := 42) gf_X9_137 rfl dX9_wordLength_42 q15 ?_
        refine x_iconst (pc := 45) dX9_wordLength_45 ?_
        refine x_iadd (pc := 46) dX9_wordLength_46 ?_
        replace e := lt_go e
        refine x_putI (pc := 47) pf_X9_137 rfl rfl rfl dX9_wordLength_47 q15 ?_
        exact p_X9_wordLength_L50 hl hk2 e
  · refine x_if_ne_t (pc := 6) (t := 56) dX9_wordLength_6 (by decide) q4 ?_
    exact p_X9_wordLength_L56 hl e
noncomputable def f_X9_wordLength_L2 (n : Nat) : Hp → Nat → Int32 → Option (Rs Int32) := Nat.rec (motive := fun _ => Hp → Nat → Int32 → Option (Rs Int32)) (fun _ _ _ => none) (fun _ r => f_X9_wordLength_B2 r) n
theorem p_X9_wordLength_L2 {l : Launch} {K : Ctx} (hl : l.stackTraces = false) : ∀ (n : Nat) (h : Hp) (a0 : Nat) (i1 : Int32) (t : Rs Int32) (e : f_X9_wordLength_L2 n h a0 i1 = some t), X l K mM_X9_wordLength (tgI t) 2 [(0, .ref a0), (1, .int i1)] [] h := by
  intro n
  induction n with
  | zero => exact fun _ _ _ _ e => nomatch (show (none : Option (Rs Int32)) = some _ from e)
  | succ n ih => exact fun h a0 i1 t e => p_X9_wordLength_B2 hl (fun h a0 i1 t e => ih h a0 i1 t e) e
noncomputable def f_X9_wordLength (h : Hp) (a0 : Nat) : Option (Rs Int32) :=
  f_X9_wordLength_L2 2000 h a0 (iN 0)
theorem p_X9_wordLength {l : Launch} {K : Ctx} (hl : l.stackTraces = false) {h : Hp} {a0 : Nat} {t : Rs Int32} (e : f_X9_wordLength h a0 = some t) : X l K mM_X9_wordLength (tgI t) 0 [(0, .ref a0)] [] h := by
  unfold f_X9_wordLength at e
  refine x_iconst (pc := 0) dX9_wordLength_0 ?_
  refine x_istore_n (pc := 1) dX9_wordLength_1 (by decide) rfl ?_
  exact x_sub1 (p_X9_wordLength_L2 hl 2000 _ _ _ _ e) [1, 0] rfl
abbrev w_X9_wordLength : Cond := (Cond.code yX9_wordLength cX9_wordLength 2 (Option.some Jvm.ClassFile.FieldType.int))
theorem mf_X9_wordLength : MF yX9_wordLength w_X9_wordLength cX9_wordLength 2 (Option.some Jvm.ClassFile.FieldType.int) 0 := ⟨⟨rfl, tw_7_210, by decide⟩, tw_1_11, ⟨by decide, by decide⟩, by decide +kernel⟩
theorem c_X9_wordLength {l : Launch} {K : Ctx} (hl : l.stackTraces = false) {h : Hp} {a0 : Nat} {t : Rs Int32} (e : f_X9_wordLength h a0 = some t) : Ctr l K 10 yX9_wordLength w_X9_wordLength [.ref a0] h (tgI t) :=
  Ctr.of hl mf_X9_wordLength false (fun q => nomatch q) rfl (leb rfl) (p_X9_wordLength hl e)
/-! ## TableColumnBalancerModel.writes -/
abbrev mM_X9_writes : Mi := (13, yX9_writes.cls, cX9_writes, 11, (Option.none : Option Jvm.ClassFile.FieldType), [], false)
noncomputable def f_X9_writes_L198 (k72 : Hp → Nat → Int32 → Int32 → Int32 → Option (Rs Unit)) (h : Hp) (a0 : Nat) (i5 : Int32) (i7 : Int32) (s0 : Int32) : Option (Rs Unit) :=
  k72 h a0 i5 s0 (i7 + iN 1)
theorem p_X9_writes_L198 {l : Launch} {K : Ctx} (hl : l.stackTraces = false) {k72 : Hp → Nat → Int32 → Int32 → Int32 → Option (Rs Unit)} (hk72 : ∀ (h : Hp) (a0 : Nat) (i5 : Int32) (i6 : Int32) (i7 : Int32) (t : Rs Unit), k72 h a0 i5 i6 i7 = some t → X l K mM_X9_writes (tgV t) 72 [(0, .ref a0), (5, .int i5), (6, .int i6), (7, .int i7)] [] h) {h : Hp} {a0 : Nat} {i5 : Int32} {i7 : Int32} {s0 : Int32} {t : Rs Unit} (e : f_X9_writes_L198 k72 h a0 i5 i7 s0 = some t) : X l K mM_X9_writes (tgV t) 198 [(0, .ref a0), (5, .int i5), (7, .int i7)] [.int s0] h := by
  unfold f_X9_writes_L198 at e
  refine x_istore (pc := 198) dX9_writes_198 (by decide) rfl ?_
  refine x_iinc (pc := 200) 3 dX9_writes_200 rfl (by decide) rfl ?_
  refine x_goto (pc := 203) (t := 72) dX9_writes_203 (by decide) ?_
  exact x_sub1 (hk72 _ _ _ _ _ _ e) [2, 3, 1, 0] rfl
noncomputable def f_X9_writes_L197 (k72 : Hp → Nat → Int32 → Int32 → Int32 → Option (Rs Unit)) (h : Hp) (a0 : Nat) (i5 : Int32) (i7 : Int32) : Option (Rs Unit) :=
  f_X9_writes_L198 k72 h a0 i5 i7 (iN 0)
theorem p_X9_writes_L197 {l : Launch} {K : Ctx} (hl : l.stackTraces = false) {k72 : Hp → Nat → Int32 → Int32 → Int32 → Option (Rs Unit)} (hk72 : ∀ (h : Hp) (a0 : Nat) (i5 : Int32) (i6 : Int32) (i7 : Int32) (t : Rs Unit), k72 h a0 i5 i6 i7 = some t → X l K mM_X9_writes (tgV t) 72 [(0, .ref a0), (5, .int i5), (6, .int i6), (7, .int i7)] [] h) {h : Hp} {a0 : Nat} {i5 : Int32} {i7 : Int32} {t : Rs Unit} (e : f_X9_writes_L197 k72 h a0 i5 i7 = some t) : X l K mM_X9_writes (tgV t) 197 [(0, .ref a0), (5, .int i5), (7, .int i7)] [] h := by
  unfold f_X9_writes_L197 at e
  refine x_iconst (pc := 197) dX9_writes_197 ?_
  exact p_X9_writes_L198 hl hk72 e
noncomputable def f_X9_writes_L181 (k72 : Hp → Nat → Int32 → Int32 → Int32 → Option (Rs Unit)) (h : Hp) (a0 : Nat) (i5 : Int32) (i7 : Int32) (i9 : Int32) : Option (Rs Unit) :=
  if i9 = 0 then (
    f_X9_writes_L197 k72 h a0 i5 i7
  ) else (
    chk (okr h a0 9) <|
    bnd (f_X9_isOff h a0) fun h3 r4 =>
    if r4 = 0 then (
      f_X9_writes_L198 k72 h3 a0 i5 i7 (iN 1)
    ) else (
      f_X9_writes_L197 k72 h3 a0 i5 i7
    )
  )
theorem p_X9_writes_L181 {l : Launch} {K : Ctx} (hl : l.stackTraces = false) {k72 : Hp → Nat → Int32 → Int32 → Int32 → Option (Rs Unit)} (hk72 : ∀ (h : Hp) (a0 : Nat) (i5 : Int32) (i6 : Int32) (i7 : Int32) (t : Rs Unit), k72 h a0 i5 i6 i7 = some t → X l K mM_X9_writes (tgV t) 72 [(0, .ref a0), (5, .int i5), (6, .int i6), (7, .int i7)] [] h) {h : Hp} {a0 : Nat} {i5 : Int32} {i7 : Int32} {i9 : Int32} {t : Rs Unit} (e : f_X9_writes_L181 k72 h a0 i5 i7 i9 = some t) : X l K mM_X9_writes (tgV t) 181 [(0, .ref a0), (5, .int i5), (7, .int i7), (9, .int i9)] [] h := by
  unfold f_X9_writes_L181 at e
  refine x_iload (pc := 181) 3 dX9_writes_181 rfl ?_
  rcases ite_some e with ⟨q1, e⟩ | ⟨q1, e⟩
  · refine x_if_eq_t (pc := 183) (t := 197) dX9_writes_183 (by decide) q1 ?_
    exact x_sub1 (p_X9_writes_L197 hl hk72 e) [0, 1, 2] rfl
  · refine x_if_eq_f (pc := 183) (t := 197) dX9_writes_183 (by decide) q1 ?_
    refine x_aload_n (pc := 186) 0 dX9_writes_186 rfl ?_
    obtain ⟨q2, e⟩ := chk_some e
    rcases bnd_some e with ⟨h3, r4, ec, rfl⟩ | ⟨h3, r4, ec, e⟩
    · exact y_callV_x (pc := 187) (c_X9_isOff hl ec) q2 mf_X9_isOff tw_7_123 ts_7_3 lf_X9_140 rfl rfl dX9_writes_187 (by decide) rfl rfl (leb rfl) (xx_out0 rfl)
    refine y_callV_i (pc := 187) (c_X9_isOff hl ec) q2 mf_X9_isOff tw_7_123 ts_7_3 lf_X9_140 rfl rfl dX9_writes_187 (by decide) rfl rfl (leb rfl) ?_
    rcases ite_some e with ⟨q5, e⟩ | ⟨q5, e⟩
    · refine x_if_ne_f (pc := 190) (t := 197) dX9_writes_190 (by decide) q5 ?_
      refine x_iconst (pc := 193) dX9_writes_193 ?_
      refine x_goto (pc := 194) (t := 198) dX9_writes_194 (by decide) ?_
      exact x_sub1 (p_X9_writes_L198 hl hk72 e) [0, 1, 2] rfl
    · refine x_if_ne_t (pc := 190) (t := 197) dX9_writes_190 (by decide) q5 ?_
      exact x_sub1 (p_X9_writes_L197 hl hk72 e) [0, 1, 2] rfl
noncomputable def f_X9_writes_L158 (k72 : Hp → Nat → Int32 → Int32 → Int32 → Option (Rs Unit)) (h : Hp) (a0 : Nat) (i5 : Int32) (i7 : Int32) (i8 : Int32) (i9 : Int32) (i10 : Int32) : Option (Rs Unit) :=
  if i5 = (iN (-1)) then (
    f_X9_writes_L181 k72 h a0 i5 i7 i9
  ) else (
    chk (okr h a0 9) <|
    bnd (f_X9_isOff h a0) fun h3 r4 =>
    if r4 = 0 then (
      chk (okr h3 a0 9) <|
      bnd (f_X9_puts h3 a0 i5 i8 i10) fun h7 _ =>
      f_X9_writes_L181 k72 h7 a0 i5 i7 i9
    ) else (
      f_X9_writes_L181 k72 h3 a0 i5 i7 i9
    )
  )
theorem p_X9_writes_L158 {l : Launch} {K : Ctx} (hl : l.stackTraces = false) {k72 : Hp → Nat → Int32 → Int32 → Int32 → Option (Rs Unit)} (hk72 : ∀ (h : Hp) (a0 : Nat) (i5 : Int32) (i6 : Int32) (i7 : Int32) (t : Rs Unit), k72 h a0 i5 i6 i7 = some t → X l K mM_X9_writes (tgV t) 72 [(0, .ref a0), (5, .int i5), (6, .int i6), (7, .int i7)] [] h) {h : Hp} {a0 : Nat} {i5 : Int32} {i7 : Int32} {i8 : Int32} {i9 : Int32} {i10 : Int32} {t : Rs Unit} (e : f_X9_writes_L158 k72 h a0 i5 i7 i8 i9 i10 = some t) : X l K mM_X9_writes (tgV t) 158 [(0, .ref a0), (5, .int i5), (7, .int i7), (8, .int i8), (9, .int i9), (10, .int i10)] [] h := by
  unfold f_X9_writes_L158 at e
  refine x_iload (pc := 158) 1 dX9_writes_158 rfl ?_
  refine x_iconst (pc := 160) dX9_writes_160 ?_
  rcases ite_some e with ⟨q1, e⟩ | ⟨q1, e⟩
  · refine x_icmp_eq_t (pc := 161) (t := 181) dX9_writes_161 (by decide) q1 ?_
    exact x_sub1 (p_X9_writes_L181 hl hk72 e) [0, 1, 2, 4] rfl
  · refine x_icmp_eq_f (pc := 161) (t := 181) dX9_writes_161 (by decide) q1 ?_
    refine x_aload_n (pc := 164) 0 dX9_writes_164 rfl ?_
    obtain ⟨q2, e⟩ := chk_some e
    rcases bnd_some e with ⟨h3, r4, ec, rfl⟩ | ⟨h3, r4, ec, e⟩
    · exact y_callV_x (pc := 165) (c_X9_isOff hl ec) q2 mf_X9_isOff tw_7_123 ts_7_3 lf_X9_140 rfl rfl dX9_writes_165 (by decide) rfl rfl (leb rfl) (xx_out0 rfl)
    refine y_callV_i (pc := 165) (c_X9_isOff hl ec) q2 mf_X9_isOff tw_7_123 ts_7_3 lf_X9_140 rfl rfl dX9_writes_165 (by decide) rfl rfl (leb rfl) ?_
    rcases ite_some e with ⟨q5, e⟩ | ⟨q5, e⟩
    · refine x_if_ne_f (pc := 168) (t := 181) dX9_writes_168 (by decide) q5 ?_
      refine x_aload_n (pc := 171) 0 dX9_writes_171 rfl ?_
      refine x_iload (pc := 172) 1 dX9_writes_172 rfl ?_
      refine x_iload (pc := 174) 3 dX9_writes_174 rfl ?_
      refine x_iload (pc := 176) 5 dX9_writes_176 rfl ?_
      obtain ⟨q6, e⟩ := chk_some e
      rcases bnd_some e with ⟨h7, r8, ec, rfl⟩ | ⟨h7, r8, ec, e⟩
      · exact y_callV_x (pc := 178) (c_X9_puts hl ec) q6 mf_X9_puts tw_7_91 ts_7_1 lf_X9_130 rfl rfl dX9_writes_178 (by decide) rfl rfl (leb rfl) (xx_out0 rfl)
      refine y_callV_v (pc := 178) (c_X9_puts hl ec) q6 mf_X9_puts tw_7_91 ts_7_1 lf_X9_130 rfl rfl dX9_writes_178 (by decide) rfl rfl (leb rfl) ?_
      exact x_sub1 (p_X9_writes_L181 hl hk72 e) [0, 1, 2, 4] rfl
    · refine x_if_ne_t (pc := 168) (t := 181) dX9_writes_168 (by decide) q5 ?_
      exact x_sub1 (p_X9_writes_L181 hl hk72 e) [0, 1, 2, 4] rfl
noncomputable def f_X9_writes_L136 (k72 : Hp → Nat → Int32 → Int32 → Int32 → Option (Rs Unit)) (h : Hp) (a0 : Nat) (i5 : Int32) (i7 : Int32) (i8 : Int32) (i9 : Int32) (s0 : Int32) : Option (Rs Unit) :=
  if i9 = 0 then (
    f_X9_writes_L158 k72 h a0 i5 i7 i8 i9 s0
  ) else (
    if i7 = (iN 12) then (
      chk (okr h a0 9) <|
      bnd (f_X9_off h a0 (qI h a0 12)) fun h4 _ =>
      f_X9_writes_L158 k72 h4 a0 i5 i7 i8 i9 s0
    ) else (
      f_X9_writes_L158 k72 h a0 i5 i7 i8 i9 s0
    )
  )
theorem p_X9_writes_L136 {l : Launch} {K : Ctx} (hl : l.stackTraces = false) {k72 : Hp → Nat → Int32 → Int32 → Int32 → Option (Rs Unit)} (hk72 : ∀ (h : Hp) (a0 : Nat) (i5 : Int32) (i6 : Int32) (i7 : Int32) (t : Rs Unit), k72 h a0 i5 i6 i7 = some t → X l K mM_X9_writes (tgV t) 72 [(0, .ref a0), (5, .int i5), (6, .int i6), (7, .int i7)] [] h) {h : Hp} {a0 : Nat} {i5 : Int32} {i7 : Int32} {i8 : Int32} {i9 : Int32} {s0 : Int32} {t : Rs Unit} (e : f_X9_writes_L136 k72 h a0 i5 i7 i8 i9 s0 = some t) : X l K mM_X9_writes (tgV t) 136 [(0, .ref a0), (5, .int i5), (7, .int i7), (8, .int i8), (9, .int i9)] [.int s0] h := by
  unfold f_X9_writes_L136 at e
  refine x_istore (pc := 136) dX9_writes_136 (by decide) rfl ?_
  refine x_iload (pc := 138) 5 dX9_writes_138 rfl ?_
  rcases ite_some e with ⟨q1, e⟩ | ⟨q1, e⟩
  · refine x_if_eq_t (pc := 140) (t := 158) dX9_writes_140 (by decide) q1 ?_
    exact x_sub1 (p_X9_writes_L158 hl hk72 e) [1, 2, 3, 4, 5, 0] rfl
  · refine x_if_eq_f (pc := 140) (t := 158) dX9_writes_140 (by decide) q1 ?_
    refine x_iload (pc := 143) 3 dX9_writes_143 rfl ?_
    refine x_bipush (pc := 145) (v := iN 12) dX9_writes_145 rfl ?_
    rcases ite_some e with ⟨q2, e⟩ | ⟨q2, e⟩
    · refine x_icmp_ne_f (pc := 147) (t := 158) dX9_writes_147 (by decide) q2 ?_
      refine x_aload_n (pc := 150) 1 dX9_writes_150 rfl ?_
      refine x_aload_n (pc := 151) 1 dX9_writes_151 rfl ?_
      obtain ⟨q3, e⟩ := chk_some e
      refine x_getI (pc := 152) gf_X9_137 rfl dX9_writes_152 q3 ?_
      rcases bnd_some e with ⟨h4, r5, ec, rfl⟩ | ⟨h4, r5, ec, e⟩
      · exact y_callV_x (pc := 155) (c_X9_off hl ec) q3 mf_X9_off tw_7_142 ts_7_7 lf_X9_148 rfl rfl dX9_writes_155 (by decide) rfl rfl (leb rfl) (xx_out0 rfl)
      refine y_callV_v (pc := 155) (c_X9_off hl ec) q3 mf_X9_off tw_7_142 ts_7_7 lf_X9_148 rfl rfl dX9_writes_155 (by decide) rfl rfl (leb rfl) ?_
      exact x_sub1 (p_X9_writes_L158 hl hk72 e) [1, 2, 3, 4, 5, 0] rfl
    · refine x_icmp_ne_t (pc := 147) (t := 158) dX9_writes_147 (by decide) q2 ?_
      exact x_sub1 (p_X9_writes_L158 hl hk72 e) [1, 2, 3, 4, 5, 0] rfl
noncomputable def f_X9_writes_L135 (k72 : Hp → Nat → Int32 → Int32 → Int32 → Option (Rs Unit)) (h : Hp) (a0 : Nat) (i5 : Int32) (i7 : Int32) (i8 : Int32) (i9 : Int32) : Option (Rs Unit) :=
  f_X9_writes_L136 k72 h a0 i5 i7 i8 i9 (iN 0)
theorem p_X9_writes_L135 {l : Launch} {K : Ctx} (hl : l.stackTraces = false) {k72 : Hp → Nat → Int32 → Int32 → Int32 → Option (Rs Unit)} (hk72 : ∀ (h : Hp) (a0 : Nat) (i5 : Int32) (i6 : Int32) (i7 : Int32) (t : Rs Unit), k72 h a0 i5 i6 i7 = some t → X l K mM_X9_writes (tgV t) 72 [(0, .ref a0), (5, .int i5), (6, .int i6), (7, .int i7)] [] h) {h : Hp} {a0 : Nat} {i5 : Int32} {i7 : Int32} {i8 : Int32} {i9 : Int32} {t : Rs Unit} (e : f_X9_writes_L135 k72 h a0 i5 i7 i8 i9 = some t) : X l K mM_X9_writes (tgV t) 135 [(0, .ref a0), (5, .int i5), (7, .int i7), (8, .int i8), (9, .int i9)] [] h := by
  unfold f_X9_writes_L135 at e
  refine x_iconst (pc := 135) dX9_writes_135 ?_
  exact p_X9_writes_L136 hl hk72 e
noncomputable def f_X9_writes_L112 (k72 : Hp → Nat → Int32 → Int32 → Int32 → Option (Rs Unit)) (h : Hp) (a0 : Nat) (i5 : Int32) (i7 : Int32) (i8 : Int32) (s0 : Int32) : Option (Rs Unit) :=
  if s0 = 0 then (
    f_X9_writes_L135 k72 h a0 i5 i7 i8 s0
  ) else (
    if (iN 12) ≤ i7 then (
      f_X9_writes_L135 k72 h a0 i5 i7 i8 s0
    ) else (
      chk (okr h a0 9) <|
      bnd (f_X9_letterOf h a0 (1000000 + 11)) fun h4 r5 =>
      f_X9_writes_L136 k72 h4 a0 i5 i7 i8 s0 r5
    )
  )
theorem p_X9_writes_L112 {l : Launch} {K : Ctx} (hl : l.stackTraces = false) {k72 : Hp → Nat → Int32 → Int32 → Int32 → Option (Rs Unit)} (hk72 : ∀ (h : Hp) (a0 : Nat) (i5 : Int32) (i6 : Int32) (i7 : Int32) (t : Rs Unit), k72 h a0 i5 i6 i7 = some t → X l K mM_X9_writes (tgV t) 72 [(0, .ref a0), (5, .int i5), (6, .int i6), (7, .int i7)] [] h) {h : Hp} {a0 : Nat} {i5 : Int32} {i7 : Int32} {i8 : Int32} {s0 : Int32} {t : Rs Unit} (e : f_X9_writes_L112 k72 h a0 i5 i7 i8 s0 = some t) : X l K mM_X9_writes (tgV t) 112 [(0, .ref a0), (5, .int i5), (7, .int i7), (8, .int i8)] [.int s0] h := by
  unfold f_X9_writes_L112 at e
  refine x_istore (pc := 112) dX9_writes_112 (by decide) rfl ?_
  refine x_iload (pc := 114) 0 dX9_writes_114 rfl ?_
  rcases ite_some e with ⟨q1, e⟩ | ⟨q1, e⟩
  · refine x_if_eq_t (pc := 116) (t := 135) dX9_writes_116 (by decide) q1 ?_
    exact x_sub1 (p_X9_writes_L135 hl hk72 e) [1, 2, 3, 4, 0] rfl
  · refine x_if_eq_f (pc := 116) (t := 135) dX9_writes_116 (by decide) q1 ?_
    refine x_iload (pc := 119) 3 dX9_writes_119 rfl ?_
    refine x_bipush (pc := 121) (v := iN 12) dX9_writes_121 rfl ?_
    rcases ite_some e with ⟨q2, e⟩ | ⟨q2, e⟩
    · refine x_icmp_ge_t (pc := 123) (t := 135) dX9_writes_123 (by decide) q2 ?_
      exact x_sub1 (p_X9_writes_L135 hl hk72 e) [1, 2, 3, 4, 0] rfl
    · refine x_icmp_ge_f (pc := 123) (t := 135) dX9_writes_123 (by decide) q2 ?_
      refine x_aload_n (pc := 126) 1 dX9_writes_126 rfl ?_
      refine x_ldcS (pc := 127) (j := 11) (tx := "_/~-") (by decide) (by decide) dX9_writes_127 ?_
      obtain ⟨q3, e⟩ := chk_some e
      rcases bnd_some e with ⟨h4, r5, ec, rfl⟩ | ⟨h4, r5, ec, e⟩
      · exact y_callV_x (pc := 129) (c_X9_letterOf hl ec) q3 mf_X9_letterOf tw_7_201 ts_8_2 lf_X9_208 rfl rfl dX9_writes_129 (by decide) rfl rfl (leb rfl) (xx_out0 rfl)
      refine y_callV_i (pc := 129) (c_X9_letterOf hl ec) q3 mf_X9_letterOf tw_7_201 ts_8_2 lf_X9_208 rfl rfl dX9_writes_129 (by decide) rfl rfl (leb rfl) ?_
      refine x_goto (pc := 132) (t := 136) dX9_writes_132 (by decide) ?_
      exact x_sub1 (p_X9_writes_L136 hl hk72 e) [1, 2, 3, 4, 0] rfl
noncomputable def f_X9_writes_L111 (k72 : Hp → Nat → Int32 → Int32 → Int32 → Option (Rs Unit)) (h : Hp) (a0 : Nat) (i5 : Int32) (i7 : Int32) (i8 : Int32) : Option (Rs Unit) :=
  f_X9_writes_L112 k72 h a0 i5 i7 i8 (iN 0)
theorem p_X9_writes_L111 {l : Launch} {K : Ctx} (hl : l.stackTraces = false) {k72 : Hp → Nat → Int32 → Int32 → Int32 → Option (Rs Unit)} (hk72 : ∀ (h : Hp) (a0 : Nat) (i5 : Int32) (i6 : Int32) (i7 : Int32) (t : Rs Unit), k72 h a0 i5 i6 i7 = some t → X l K mM_X9_writes (tgV t) 72 [(0, .ref a0), (5, .int i5), (6, .int i6), (7, .int i7)] [] h) {h : Hp} {a0 : Nat} {i5 : Int32} {i7 : Int32} {i8 : Int32} {t : Rs Unit} (e : f_X9_writes_L111 k72 h a0 i5 i7 i8 = some t) : X l K mM_X9_writes (tgV t) 111 [(0, .ref a0), (5, .int i5), (7, .int i7), (8, .int i8)] [] h := by
  unfold f_X9_writes_L111 at e
  refine x_iconst (pc := 111) dX9_writes_111 ?_
  exact p_X9_writes_L112 hl hk72 e
noncomputable def f_X9_writes_B72 (k72 : Hp → Nat → Int32 → Int32 → Int32 → Option (Rs Unit)) (h : Hp) (a0 : Nat) (i5 : Int32) (i6 : Int32) (i7 : Int32) : Option (Rs Unit) :=
  if i6 = 0 then (
    chk (okr h a0 9) <|
    bnd (f_X9_must h a0 (iN 59)) fun h3 _ =>
    some (h3, .inr ())
  ) else (
    chk (okr h a0 9) <|
    bnd (f_X9_wordLength h a0) fun h6 r7 =>
    chk (okr h6 a0 9) <|
    bnd (f_X9_isOff h6 a0) fun h9 r10 =>
    if r10 = 0 then (
      chk (okr h9 a0 9) <|
      bnd (f_X9_here h9 a0) fun h13 r14 =>
      if r14 = (iN 59) then (
        f_X9_writes_L111 k72 h13 a0 i5 i7 r7
      ) else (
        chk (okr h13 a0 9) <|
        bnd (f_X9_here h13 a0) fun h17 r18 =>
        if r18 = (iN (-1)) then (
          f_X9_writes_L111 k72 h17 a0 i5 i7 r7
        ) else (
          f_X9_writes_L112 k72 h17 a0 i5 i7 r7 (iN 1)
        )
      )
    ) else (
      f_X9_writes_L111 k72 h9 a0 i5 i7 r7
    )
  )
theorem p_X9_writes_B72 {l : Launch} {K : Ctx} (hl : l.stackTraces = false) {k72 : Hp → Nat → Int32 → Int32 → Int32 → Option (Rs Unit)} (hk72 : ∀ (h : Hp) (a0 : Nat) (i5 : Int32) (i6 : Int32) (i7 : Int32) (t : Rs Unit), k72 h a0 i5 i6 i7 = some t → X l K mM_X9_writes (tgV t) 72 [(0, .ref a0), (5, .int i5), (6, .int i6), (7, .int i7)] [] h) {h : Hp} {a0 : Nat} {i5 : Int32} {i6 : Int32} {i7 : Int32} {t : Rs Unit} (e : f_X9_writes_B72 k72 h a0 i5 i6 i7 = some t) : X l K mM_X9_writes (tgV t) 72 [(0, .ref a0), (5, .int i5), (6, .int i6), (7, .int i7)] [] h := by
  unfold f_X9_writes_B72 at e
  refine x_iload (pc := 72) 2 dX9_writes_72 rfl ?_
  rcases ite_some e with ⟨q1, e⟩ | ⟨q1, e⟩
  · refine x_if_eq_t (pc := 74) (t := 206) dX9_writes_74 (by decide) q1 ?_
    refine x_aload_n (pc := 206) 0 dX9_writes_206 rfl ?_
    refine x_bipush (pc := 207) (v := iN 59) dX9_writes_207 rfl ?_
    obtain ⟨q2, e⟩ := chk_some e
    rcases bnd_some e with ⟨h3, r4, ec, rfl⟩ | ⟨h3, r4, ec, e⟩
    · exact y_callV_x (pc := 209) (c_X9_must hl ec) q2 mf_X9_must tw_7_156 ts_7_9 lf_X9_178 rfl rfl dX9_writes_209 (by decide) rfl rfl (leb rfl) (xx_out0 rfl)
    refine y_callV_v (pc := 209) (c_X9_must hl ec) q2 mf_X9_must tw_7_156 ts_7_9 lf_X9_178 rfl rfl dX9_writes_209 (by decide) rfl rfl (leb rfl) ?_
    cases Option.some.inj e
    exact x_vret (pc := 212) rfl dX9_writes_212
  · refine x_if_eq_f (pc := 74) (t := 206) dX9_writes_74 (by decide) q1 ?_
    refine x_aload_n (pc := 77) 0 dX9_writes_77 rfl ?_
    obtain ⟨q5, e⟩ := chk_some e
    rcases bnd_some e with ⟨h6, r7, ec, rfl⟩ | ⟨h6, r7, ec, e⟩
    · exact y_callV_x (pc := 78) (c_X9_wordLength hl ec) q5 mf_X9_wordLength tw_7_209 ts_8_4 lf_X9_215 rfl rfl dX9_writes_78 (by decide) rfl rfl (leb rfl) (xx_out0 rfl)
    refine y_callV_i (pc := 78) (c_X9_wordLength hl ec) q5 mf_X9_wordLength tw_7_209 ts_8_4 lf_X9_215 rfl rfl dX9_writes_78 (by decide) rfl rfl (leb rfl) ?_
    refine x_istore (pc := 81) dX9_writes_81 (by decide) rfl ?_
    refine x_aload_n (pc := 83) 1 dX9_writes_83 rfl ?_
    obtain ⟨q8, e⟩ := chk_some e
    rcases bnd_some e with ⟨h9, r10, ec, rfl⟩ | ⟨h9, r10, ec, e⟩
    · exact y_callV_x (pc := 84) (c_X9_isOff hl ec) q8 mf_X9_isOff tw_7_123 ts_7_3 lf_X9_140 rfl rfl dX9_writes_84 (by decide) rfl rfl (leb rfl) (xx_out0 rfl)
    refine y_callV_i (pc := 84) (c_X9_isOff hl ec) q8 mf_X9_isOff tw_7_123 ts_7_3 lf_X9_140 rfl rfl dX9_writes_84 (by decide) rfl rfl (leb rfl) ?_
    rcases ite_some e with ⟨q11, e⟩ | ⟨q11, e⟩
    · refine x_if_ne_f (pc := 87) (t := 111) dX9_writes_87 (by decide) q11 ?_
      refine x_aload_n (pc := 90) 1 dX9_writes_90 rfl ?_
      obtain ⟨q12, e⟩ := chk_some e
      rcases bnd_some e with ⟨h13, r14, ec, rfl⟩ | ⟨h13, r14, ec, e⟩
      · exact y_callV_x (pc := 91) (c_X9_here hl ec) q12 mf_X9_here tw_7_135 ts_7_6 lf_X9_144 rfl rfl dX9_writes_91 (by decide) rfl rfl (leb rfl) (xx_out0 rfl)
      refine y_callV_i (pc := 91) (c_X9_here hl ec) q12 mf_X9_here tw_7_135 ts_7_6 lf_X9_144 rfl rfl dX9_writes_91 (by decide) rfl rfl (leb rfl) ?_
      refine x_bipush (pc := 94) (v := iN 59) dX9_writes_94 rfl ?_
      rcases ite_some e with ⟨q15, e⟩ | ⟨q15, e⟩
      · refine x_icmp_eq_t (pc := 96) (t := 111) dX9_writes_96 (by decide) q15 ?_
        exact x_sub1 (p_X9_writes_L111 hl hk72 e) [1, 2, 4, 0] rfl
      · refine x_icmp_eq_f (pc := 96) (t := 111) dX9_writes_96 (by decide) q15 ?_
        refine x_aload_n (pc := 99) 1 dX9_writes_99 rfl ?_
        obtain ⟨q16, e⟩ := chk_some e
        rcases bnd_some e with ⟨h17, r18, ec, rfl⟩ | ⟨h17, r18, ec, e⟩
        · exact y_callV_x (pc := 100) (c_X9_here hl ec) q16 mf_X9_here tw_7_135 ts_7_6 lf_X9_144 rfl rfl dX9_writes_100 (by decide) rfl rfl (leb rfl) (xx_out0 rfl)
        refine y_callV_i (pc := 100) (c_X9_here hl ec) q16 mf_X9_here tw_7_135 ts_7_6 lf_X9_144 rfl rfl dX9_writes_100 (by decide) rfl rfl (leb rfl) ?_
        refine x_iconst (pc := 103) dX9_writes_103 ?_
        rcases ite_some e with ⟨q19, e⟩ | ⟨q19, e⟩
        · refine x_icmp_eq_t (pc := 104) (t := 111) dX9_writes_104 (by decide) q19 ?_
          exact x_sub1 (p_X9_writes_L111 hl hk72 e) [1, 2, 4, 0] rfl
        · refine x_icmp_eq_f (pc := 104) (t := 111) dX9_writes_104 (by decide) q19 ?_
          refine x_iconst (pc := 107) dX9_writes_107 ?_
          refine x_goto (pc := 108) (t := 112) dX9_writes_108 (by decide) ?_
          exact x_sub1 (p_X9_writes_L112 hl hk72 e) [1, 2, 4, 0] rfl
    · refine x_if_ne_t (pc := 87) (t := 111) dX9_writes_87 (by decide) q11 ?_
      exact x_sub1 (p_X9_writes_L111 hl hk72 e) [1, 2, 4, 0] rfl
noncomputable def f_X9_writes_L72 (n : Nat) : Hp → Nat → Int32 → Int32 → Int32 → Option (Rs Unit) := Nat.rec (motive := fun _ => Hp → Nat → Int32 → Int32 → Int32 → Option (Rs Unit)) (fun _ _ _ _ _ => none) (fun _ r => f_X9_writes_B72 r) n
theorem p_X9_writes_L72 {l : Launch} {K : Ctx} (hl : l.stackTraces = false) : ∀ (n : Nat) (h : Hp) (a0 : Nat) (i5 : Int32) (i6 : Int32) (i7 : Int32) (t : Rs Unit) (e : f_X9_writes_L72 n h a0 i5 i6 i7 = some t), X l K mM_X9_writes (tgV t) 72 [(0, .ref a0), (5, .int i5), (6, .int i6), (7, .int i7)] [] h := by
  intro n
  induction n with
  | zero => exact fun _ _ _ _ _ _ e => nomatch (show (none : Option (Rs Unit)) = some _ from e)
  | succ n ih => exact fun h a0 i5 i6 i7 t e => p_X9_writes_B72 hl (fun h a0 i5 i6 i7 t e => ih h a0 i5 i6 i7 t e) e
noncomputable def f_X9_writes_L67 (h : Hp) (a0 : Nat) (i5 : Int32) (s0 : Int32) : Option (Rs Unit) :=
  f_X9_writes_L72 2000 h a0 i5 s0 (iN 1)
theorem p_X9_writes_L67 {l : Launch} {K : Ctx} (hl : l.stackTraces = false) {h : Hp} {a0 : Nat} {i5 : Int32} {s0 : Int32} {t : Rs Unit} (e : f_X9_writes_L67 h a0 i5 s0 = some t) : X l K mM_X9_writes (tgV t) 67 [(0, .ref a0), (5, .int i5)] [.int s0] h := by
  unfold f_X9_writes_L67 at e
  refine x_istore (pc := 67) dX9_writes_67 (by decide) rfl ?_
  refine x_iconst (pc := 69) dX9_writes_69 ?_
  refine x_istore (pc := 70) dX9_writes_70 (by decide) rfl ?_
  exact x_sub1 (p_X9_writes_L72 hl 2000 _ _ _ _ _ _ e) [2, 3, 1, 0] rfl
noncomputable def f_X9_writes_L53 (h : Hp) (a0 : Nat) (s0 : Int32) : Option (Rs Unit) :=
  chk (okr h a0 9) <|
  bnd (f_X9_isOff h a0) fun h2 r3 =>
  if r3 = 0 then (
    f_X9_writes_L67 h2 a0 s0 (iN 1)
  ) else (
    f_X9_writes_L67 h2 a0 s0 (iN 0)
  )
theorem p_X9_writes_L53 {l : Launch} {K : Ctx} (hl : l.stackTraces = false) {h : Hp} {a0 : Nat} {s0 : Int32} {t : Rs Unit} (e : f_X9_writes_L53 h a0 s0 = some t) : X l K mM_X9_writes (tgV t) 53 [(0, .ref a0)] [.int s0] h := by
  unfold f_X9_writes_L53 at e
  refine x_istore (pc := 53) dX9_writes_53 (by decide) rfl ?_
  refine x_aload_n (pc := 55) 1 dX9_writes_55 rfl ?_
  obtain ⟨q1, e⟩ := chk_some e
  rcases bnd_some e with ⟨h2, r3, ec, rfl⟩ | ⟨h2, r3, ec, e⟩
  · exact y_callV_x (pc := 56) (c_X9_isOff hl ec) q1 mf_X9_isOff tw_7_123 ts_7_3 lf_X9_140 rfl rfl dX9_writes_56 (by decide) rfl rfl (leb rfl) (xx_out0 rfl)
  refine y_callV_i (pc := 56) (c_X9_isOff hl ec) q1 mf_X9_isOff tw_7_123 ts_7_3 lf_X9_140 rfl rfl dX9_writes_56 (by decide) rfl rfl (leb rfl) ?_
  rcases ite_some e with ⟨q4, e⟩ | ⟨q4, e⟩
  · refine x_if_ne_f (pc := 59) (t := 66) dX9_writes_59 (by decide) q4 ?_
    refine x_iconst (pc := 62) dX9_writes_62 ?_
    refine x_goto (pc := 63) (t := 67) dX9_writes_63 (by decide) ?_
    exact x_sub1 (p_X9_writes_L67 hl e) [1, 0] rfl
  · refine x_if_ne_t (pc := 59) (t := 66) dX9_writes_59 (by decide) q4 ?_
    refine x_iconst (pc := 66) dX9_writes_66 ?_
    exact x_sub1 (p_X9_writes_L67 hl e) [1, 0] rfl
noncomputable def f_X9_writes (h : Hp) (a0 : Nat) (i1 : Int32) : Option (Rs Unit) :=
  chk (okr h a0 9) <|
  bnd (f_X9_columnHere h a0) fun h2 r3 =>
  chk (okr h2 a0 9) <|
  bnd (f_X9_spanHere h2 a0 r3) fun h5 r6 =>
  chk (okr h5 a0 9) <|
  bnd (f_X9_isOff h5 a0) fun h8 r9 =>
  if r9 = 0 then (
    chk (okr h8 a0 9) <|
    bnd (f_X9_letterOf h8 a0 (1000000 + 10)) fun h12 r13 =>
    chk (okr h12 a0 9) <|
    bnd (f_X9_must h12 a0 (iN 61)) fun h15 _ =>
    chk (okr h15 a0 9) <|
    bnd (f_X9_isOff h15 a0) fun h18 r19 =>
    if r19 = 0 then (
      chk (okr h18 a0 9) <|
      bnd (f_X9_addsHere h18 a0 r3 r6 r13 i1) fun h22 r23 =>
      f_X9_writes_L53 h22 a0 r23
    ) else (
      f_X9_writes_L53 h18 a0 (iN (-1))
    )
  ) else (
    some (h8, .inr ())
  )
theorem p_X9_writes {l : Launch} {K : Ctx} (hl : l.stackTraces = false) {h : Hp} {a0 : Nat} {i1 : Int32} {t : Rs Unit} (e : f_X9_writes h a0 i1 = some t) : X l K mM_X9_writes (tgV t) 0 [(0, .ref a0), (1, .int i1)] [] h := by
  unfold f_X9_writes at e
  refine x_aload_n (pc := 0) 0 dX9_writes_0 rfl ?_
  obtain ⟨q1, e⟩ := chk_some e
  rcases bnd_some e with ⟨h2, r3, ec, rfl⟩ | ⟨h2, r3, ec, e⟩
  · exact y_callV_x (pc := 1) (c_X9_columnHere hl ec) q1 mf_X9_columnHere tw_7_175 ts_7_13 lf_X9_184 rfl rfl dX9_writes_1 (by decide) rfl rfl (leb rfl) (xx_out0 rfl)
  refine y_callV_i (pc := 1) (c_X9_columnHere hl ec) q1 mf_X9_columnHere tw_7_175 ts_7_13 lf_X9_184 rfl rfl dX9_writes_1 (by decide) rfl rfl (leb rfl) ?_
  refine x_istore_n (pc := 4) dX9_writes_4 (by decide) rfl ?_
  refine x_aload_n (pc := 5) 1 dX9_writes_5 rfl ?_
  refine x_iload_n (pc := 6) 0 dX9_writes_6 rfl ?_
  obtain ⟨q4, e⟩ := chk_some e
  rcases bnd_some e with ⟨h5, r6, ec, rfl⟩ | ⟨h5, r6, ec, e⟩
  · exact y_callV_x (pc := 7) (c_X9_spanHere hl ec) q4 mf_X9_spanHere tw_7_196 ts_8_1 lf_X9_203 rfl rfl dX9_writes_7 (by decide) rfl rfl (leb rfl) (xx_out0 rfl)
  refine y_callV_i (pc := 7) (c_X9_spanHere hl ec) q4 mf_X9_spanHere tw_7_196 ts_8_1 lf_X9_203 rfl rfl dX9_writes_7 (by decide) rfl rfl (leb rfl) ?_
  refine x_istore_n (pc := 10) dX9_writes_10 (by decide) rfl ?_
  refine x_aload_n (pc := 11) 2 dX9_writes_11 rfl ?_
  obtain ⟨q7, e⟩ := chk_some e
  rcases bnd_some e with ⟨h8, r9, ec, rfl⟩ | ⟨h8, r9, ec, e⟩
  · exact y_callV_x (pc := 12) (c_X9_isOff hl ec) q7 mf_X9_isOff tw_7_123 ts_7_3 lf_X9_140 rfl rfl dX9_writes_12 (by decide) rfl rfl (leb rfl) (xx_out0 rfl)
  refine y_callV_i (pc := 12) (c_X9_isOff hl ec) q7 mf_X9_isOff tw_7_123 ts_7_3 lf_X9_140 rfl rfl dX9_writes_12 (by decide) rfl rfl (leb rfl) ?_
  rcases ite_some e with ⟨q10, e⟩ | ⟨q10, e⟩
  · refine x_if_eq_t (pc := 15) (t := 19) dX9_writes_15 (by decide) q10 ?_
    refine x_aload_n (pc := 19) 2 dX9_writes_19 rfl ?_
    refine x_ldcS (pc := 20) (j := 10) (tx := "phqc") (by decide) (by decide) dX9_writes_20 ?_
    obtain ⟨q11, e⟩ := chk_some e
    rcases bnd_some e with ⟨h12, r13, ec, rfl⟩ | ⟨h12, r13, ec, e⟩
    · exact y_callV_x (pc := 22) (c_X9_letterOf hl ec) q11 mf_X9_letterOf tw_7_201 ts_8_2 lf_X9_208 rfl rfl dX9_writes_22 (by decide) rfl rfl (leb rfl) (xx_out0 rfl)
    refine y_callV_i (pc := 22) (c_X9_letterOf hl ec) q11 mf_X9_letterOf tw_7_201 ts_8_2 lf_X9_208 rfl rfl dX9_writes_22 (by decide) rfl rfl (leb rfl) ?_
    refine x_istore (pc := 25) dX9_writes_25 (by decide) rfl ?_
    refine x_aload_n (pc := 27) 3 dX9_writes_27 rfl ?_
    refine x_bipush (pc := 28) (v := iN 61) dX9_writes_28 rfl ?_
    obtain ⟨q14, e⟩ := chk_some e
    rcases bnd_some e with ⟨h15, r16, ec, rfl⟩ | ⟨h15, r16, ec, e⟩
    · exact y_callV_x (pc := 30) (c_X9_must hl ec) q14 mf_X9_must tw_7_156 ts_7_9 lf_X9_178 rfl rfl dX9_writes_30 (by decide) rfl rfl (leb rfl) (xx_out0 rfl)
    refine y_callV_v (pc := 30) (c_X9_must hl ec) q14 mf_X9_must tw_7_156 ts_7_9 lf_X9_178 rfl rfl dX9_writes_30 (by decide) rfl rfl (leb rfl) ?_
    refine x_aload_n (pc := 33) 3 dX9_writes_33 rfl ?_
    obtain ⟨q17, e⟩ := chk_some e
    rcases bnd_some e with ⟨h18, r19, ec, rfl⟩ | ⟨h18, r19, ec, e⟩
    · exact y_callV_x (pc := 34) (c_X9_isOff hl ec) q17 mf_X9_isOff tw_7_123 ts_7_3 lf_X9_140 rfl rfl dX9_writes_34 (by decide) rfl rfl (leb rfl) (xx_out0 rfl)
    refine y_callV_i (pc := 34) (c_X9_isOff hl ec) q17 mf_X9_isOff tw_7_123 ts_7_3 lf_X9_140 rfl rfl dX9_writes_34 (by decide) rfl rfl (leb rfl) ?_
    rcases ite_some e with ⟨q20, e⟩ | ⟨q20, e⟩
    · refine x_if_eq_t (pc := 37) (t := 44) dX9_writes_37 (by decide) q20 ?_
      refine x_aload_n (pc := 44) 3 dX9_writes_44 rfl ?_
      refine x_iload_n (pc := 45) 2 dX9_writes_45 rfl ?_
      refine x_iload_n (pc := 46) 1 dX9_writes_46 rfl ?_
      refine x_iload (pc := 47) 0 dX9_writes_47 rfl ?_
      refine x_iload_n (pc := 49) 4 dX9_writes_49 rfl ?_
      obtain ⟨q21, e⟩ := chk_some e
      rcases bnd_some e with ⟨h22, r23, ec, rfl⟩ | ⟨h22, r23, ec, e⟩
      · exact y_callV_x (pc := 50) (c_X9_addsHere hl ec) q21 mf_X9_addsHere tw_7_205 ts_8_3 lf_X9_212 rfl rfl dX9_writes_50 (by decide) rfl rfl (leb rfl) (xx_out0 rfl)
      refine y_callV_i (pc := 50) (c_X9_addsHere hl ec) q21 mf_X9_addsHere tw_7_205 ts_8_3 lf_X9_212 rfl rfl dX9_writes_50 (by decide) rfl rfl (leb rfl) ?_
      exact x_sub1 (p_X9_writes_L53 hl e) [3] rfl
    · refine x_if_eq_f (pc := 37) (t := 44) dX9_writes_37 (by decide) q20 ?_
      refine x_iconst (pc := 40) dX9_writes_40 ?_
      refine x_goto (pc := 41) (t := 53) dX9_writes_41 (by decide) ?_
      exact x_sub1 (p_X9_writes_L53 hl e) [3] rfl
  · refine x_if_eq_f (pc := 15) (t := 19) dX9_writes_15 (by decide) q10 ?_
    cases Option.some.inj e
    exact x_vret (pc := 18) rfl dX9_writes_18
abbrev w_X9_writes : Cond := (Cond.code yX9_writes cX9_writes 11 (Option.none : Option Jvm.ClassFile.FieldType))
theorem mf_X9_writes : MF yX9_writes w_X9_writes cX9_writes 11 (Option.none : Option Jvm.ClassFile.FieldType) 1 := ⟨⟨rfl, tw_7_193, by decide⟩, tw_1_11, ⟨by decide, by decide⟩, by decide +kernel⟩
theorem c_X9_writes {l : Launch} {K : Ctx} (hl : l.stackTraces = false) {h : Hp} {a0 : Nat} {i1 : Int32} {t : Rs Unit} (e : f_X9_writes h a0 i1 = some t) : Ctr l K 13 yX9_writes w_X9_writes [.ref a0, .int i1] h (tgV t) :=
  Ctr.of hl mf_X9_writes false (fun q => nomatch q) rfl (leb rfl) (p_X9_writes hl e)
/-! ## TableColumnBalancerModel.draws -/
abbrev mM_X9_draws : Mi := (12, yX9_draws.cls, cX9_draws, 7, (Option.none : Option Jvm.ClassFile.FieldType), [], false)
noncomputable def f_X9_draws_L66 (h : Hp) (a0 : Nat) (i4 : Int32) (i5 : Int32) (s0 : Int32) : Option (Rs Unit) :=
  if s0 = (iN (-1)) then (
    some (h, .inr ())
  ) else (
    chk (okr h a0 9) <|
    chk (okr h (qR h a0 1) 20) <|
    chk (vp_in (((iN 10) + ((iN 31) * s0)) + (iN 5)) (qW h (qR h a0 1))) <|
    lt (putI h (qR h a0 1) (Int32.toNatClampNeg (((iN 10) + ((iN 31) * s0)) + (iN 5))) i4) fun h5 =>
    chk (okr h5 (qR h5 a0 1) 20) <|
    chk (vp_in (((iN 10) + ((iN 31) * s0)) + (iN 6)) (qW h5 (qR h5 a0 1))) <|
    lt (putI h5 (qR h5 a0 1) (Int32.toNatClampNeg (((iN 10) + ((iN 31) * s0)) + (iN 6))) i5) fun h8 =>
    some (h8, .inr ())
  )
theorem p_X9_draws_L66 {l : Launch} {K : Ctx} (hl : l.stackTraces = false) {h : Hp} {a0 : Nat} {i4 : Int32} {i5 : Int32} {s0 : Int32} {t : Rs Unit} (e : f_X9_draws_L66 h a0 i4 i5 s0 = some t) : X l K mM_X9_draws (tgV t) 66 [(0, .ref a0), (4, .int i4), (5, .int i5)] [.int s0] h := by
  unfold f_X9_draws_L66 at e
  refine x_istore (pc := 66) dX9_draws_66 (by decide) rfl ?_
  refine x_iload (pc := 68) 0 dX9_draws_68 rfl ?_
  refine x_iconst (pc := 70) dX9_draws_70 ?_
  rcases ite_some e with ⟨q1, e⟩ | ⟨q1, e⟩
  · refine x_icmp_eq_t (pc := 71) (t := 109) dX9_draws_71 (by decide) q1 ?_
    cases Option.some.inj e
    exact x_vret (pc := 109) rfl dX9_draws_109
  · refine x_icmp_eq_f (pc := 71) (t := 109) dX9_draws_71 (by decide) q1 ?_
    refine x_aload_n (pc := 74) 1 dX9_draws_74 rfl ?_
    obtain ⟨q2, e⟩ := chk_some e
    obtain ⟨q3, e⟩ := chk_some e
    refine x_getR (pc := 75) gf_X9_9 rfl dX9_draws_75 q2 q3.1 ?_
    refine x_bipush (pc := 78) (v := iN 10) dX9_draws_78 rfl ?_
    refine x_bipush (pc := 80) (v := iN 31) dX9_draws_80 rfl ?_
    refine x_iload (pc := 82) 0 dX9_draws_82 rfl ?_
    refine x_imul (pc := 84) dX9_draws_84 ?_
    refine x_iadd (pc := 85) dX9_draws_85 ?_
    refine x_iconst (pc := 86) dX9_draws_86 ?_
    refine x_iadd (pc := 87) dX9_draws_87 ?_
    refine x_iload (pc := 88) 2 dX9_draws_88 rfl ?_
    obtain ⟨q4, e⟩ := chk_some e
    replace e := lt_go e
    refine x_iast (pc := 90) dX9_draws_90 q3 q4 ?_
    refine x_aload_n (pc := 91) 1 dX9_draws_91 rfl ?_
    obtain ⟨q6, e⟩ := chk_some e
    refine x_getR (pc := 92) gf_X9_9 rfl dX9_draws_92 (okr_pI q2) q6.1 ?_
    refine x_bipush (pc := 95) (v := iN 10) dX9_draws_95 rfl ?_
    refine x_bipush (pc := 97) (v := iN 31) dX9_draws_97 rfl ?_
    refine x_iload (pc := 99) 0 dX9_draws_99 rfl ?_
    refine x_imul (pc := 101) dX9_draws_101 ?_
    refine x_iadd (pc := 102) dX9_draws_102 ?_
    refine x_bipush (pc := 103) (v := iN 6) dX9_draws_103 rfl ?_
    refine x_iadd (pc := 105) dX9_draws_105 ?_
    refine x_iload (pc := 106) 3 dX9_draws_106 rfl ?_
    obtain ⟨q7, e⟩ := chk_some e
    replace e := lt_go e
    refine x_iast (pc := 108) dX9_draws_108 q6 q7 ?_
    cases Option.some.inj e
    exact x_vret (pc := 109) rfl dX9_draws_109
noncomputable def f_X9_draws (h : Hp) (a0 : Nat) (i1 : Int32) : Option (Rs Unit) :=
  chk (okr h a0 9) <|
  bnd (f_X9_columnHere h a0) fun h2 r3 =>
  chk (okr h2 a0 9) <|
  bnd (f_X9_spanHere h2 a0 r3) fun h5 r6 =>
  chk (okr h5 a0 9) <|
  bnd (f_X9_must h5 a0 (iN 61)) fun h8 _ =>
  chk (okr h8 a0 9) <|
  bnd (f_X9_number h8 a0 (iN 1) (iN 20)) fun h11 r12 =>
  chk (okr h11 a0 9) <|
  bnd (f_X9_must h11 a0 (iN 120)) fun h14 _ =>
  chk (okr h14 a0 9) <|
  bnd (f_X9_number h14 a0 (iN 1) (iN 20)) fun h17 r18 =>
  chk (okr h17 a0 9) <|
  bnd (f_X9_must h17 a0 (iN 59)) fun h20 _ =>
  chk (okr h20 a0 9) <|
  bnd (f_X9_isOff h20 a0) fun h23 r24 =>
  if r24 = 0 then (
    chk (okr h23 a0 9) <|
    bnd (f_X9_addsHere h23 a0 r3 r6 (iN 4) i1) fun h27 r28 =>
    f_X9_draws_L66 h27 a0 r12 r18 r28
  ) else (
    f_X9_draws_L66 h23 a0 r12 r18 (iN (-1))
  )
theorem p_X9_draws {l : Launch} {K : Ctx} (hl : l.stackTraces = false) {h : Hp} {a0 : Nat} {i1 : Int32} {t : Rs Unit} (e : f_X9_draws h a0 i1 = some t) : X l K mM_X9_draws (tgV t) 0 [(0, .ref a0), (1, .int i1)] [] h := by
  unfold f_X9_draws at e
  refine x_aload_n (pc := 0) 0 dX9_draws_0 rfl ?_
  obtain ⟨q1, e⟩ := chk_some e
  rcases bnd_some e with ⟨h2, r3, ec, rfl⟩ | ⟨h2, r3, ec, e⟩
  · exact y_callV_x (pc := 1) (c_X9_columnHere hl ec) q1 mf_X9_columnHere tw_7_175 ts_7_13 lf_X9_184 rfl rfl dX9_draws_1 (by decide) rfl rfl (leb rfl) (xx_out0 rfl)
  refine y_callV_i (pc := 1) (c_X9_columnHere hl ec) q1 mf_X9_columnHere tw_7_175 ts_7_13 lf_X9_184 rfl rfl dX9_draws_1 (by decide) rfl rfl (leb rfl) ?_
  refine x_istore_n (pc := 4) dX9_draws_4 (by decide) rfl ?_
  refine x_aload_n (pc := 5) 1 dX9_draws_5 rfl ?_
  refine x_iload_n (pc := 6) 0 dX9_draws_6 rfl ?_
  obtain ⟨q4, e⟩ := chk_some e
  rcases bnd_some e with ⟨h5, r6, ec, rfl⟩ | ⟨h5, r6, ec, e⟩
  · exact y_callV_x (pc := 7) (c_X9_spanHere hl ec) q4 mf_X9_spanHere tw_7_196 ts_8_1 lf_X9_203 rfl rfl dX9_draws_7 (by decide) rfl rfl (leb rfl) (xx_out0 rfl)
  refine y_callV_i (pc := 7) (c_X9_spanHere hl ec) q4 mf_X9_spanHere tw_7_196 ts_8_1 lf_X9_203 rfl rfl dX9_draws_7 (by decide) rfl rfl (leb rfl) ?_
  refine x_istore_n (pc := 10) dX9_draws_10 (by decide) rfl ?_
  refine x_aload_n (pc := 11) 2 dX9_draws_11 rfl ?_
  refine x_bipush (pc := 12) (v := iN 61) dX9_draws_12 rfl ?_
  obtain ⟨q7, e⟩ := chk_some e
  rcases bnd_some e with ⟨h8, r9, ec, rfl⟩ | ⟨h8, r9, ec, e⟩
  · exact y_callV_x (pc := 14) (c_X9_must hl ec) q7 mf_X9_must tw_7_156 ts_7_9 lf_X9_178 rfl rfl dX9_draws_14 (by decide) rfl rfl (leb rfl) (xx_out0 rfl)
  refine y_callV_v (pc := 14) (c_X9_must hl ec) q7 mf_X9_must tw_7_156 ts_7_9 lf_X9_178 rfl rfl dX9_draws_14 (by decide) rfl rfl (leb rfl) ?_
  refine x_aload_n (pc := 17) 2 dX9_draws_17 rfl ?_
  refine x_iconst (pc := 18) dX9_draws_18 ?_
  refine x_bipush (pc := 19) (v := iN 20) dX9_draws_19 rfl ?_
  obtain ⟨q10, e⟩ := chk_some e
  rcases bnd_some e with ⟨h11, r12, ec, rfl⟩ | ⟨h11, r12, ec, e⟩
  · exact y_callV_x (pc := 21) (c_X9_number hl ec) q10 mf_X9_number tw_7_160 ts_7_10 lf_X9_181 rfl rfl dX9_draws_21 (by decide) rfl rfl (leb rfl) (xx_out0 rfl)
  refine y_callV_i (pc := 21) (c_X9_number hl ec) q10 mf_X9_number tw_7_160 ts_7_10 lf_X9_181 rfl rfl dX9_draws_21 (by decide) rfl rfl (leb rfl) ?_
  refine x_istore (pc := 24) dX9_draws_24 (by decide) rfl ?_
  refine x_aload_n (pc := 26) 3 dX9_draws_26 rfl ?_
  refine x_bipush (pc := 27) (v := iN 120) dX9_draws_27 rfl ?_
  obtain ⟨q13, e⟩ := chk_some e
  rcases bnd_some e with ⟨h14, r15, ec, rfl⟩ | ⟨h14, r15, ec, e⟩
  · exact y_callV_x (pc := 29) (c_X9_must hl ec) q13 mf_X9_must tw_7_156 ts_7_9 lf_X9_178 rfl rfl dX9_draws_29 (by decide) rfl rfl (leb rfl) (xx_out0 rfl)
  refine y_callV_v (pc := 29) (c_X9_must hl ec) q13 mf_X9_must tw_7_156 ts_7_9 lf_X9_178 rfl rfl dX9_draws_29 (by decide) rfl rfl (leb rfl) ?_
  refine x_aload_n (pc := 32) 3 dX9_draws_32 rfl ?_
  refine x_iconst (pc := 33) dX9_draws_33 ?_
  refine x_bipush (pc := 34) (v := iN 20) dX9_draws_34 rfl ?_
  obtain ⟨q16, e⟩ := chk_some e
  rcases bnd_some e with ⟨h17, r18, ec, rfl⟩ | ⟨h17, r18, ec, e⟩
  · exact y_callV_x (pc := 36) (c_X9_number hl ec) q16 mf_X9_number tw_7_160 ts_7_10 lf_X9_181 rfl rfl dX9_draws_36 (by decide) rfl rfl (leb rfl) (xx_out0 rfl)
  refine y_callV_i (pc := 36) (c_X9_number hl ec) q16 mf_X9_number tw_7_160 ts_7_10 lf_X9_181 rfl rfl dX9_draws_36 (by decide) rfl rfl (leb rfl) ?_
  refine x_istore (pc := 39) dX9_draws_39 (by decide) rfl ?_
  refine x_aload_n (pc := 41) 4 dX9_draws_41 rfl ?_
  refine x_bipush (pc := 42) (v := iN 59) dX9_draws_42 rfl ?_
  obtain ⟨q19, e⟩ := chk_some e
  rcases bnd_some e with ⟨h20, r21, ec, rfl⟩ | ⟨h20, r21, ec, e⟩
  · exact y_callV_x (pc := 44) (c_X9_must hl ec) q19 mf_X9_must tw_7_156 ts_7_9 lf_X9_178 rfl rfl dX9_draws_44 (by decide) rfl rfl (leb rfl) (xx_out0 rfl)
  refine y_callV_v (pc := 44) (c_X9_must hl ec) q19 mf_X9_must tw_7_156 ts_7_9 lf_X9_178 rfl rfl dX9_draws_44 (by decide) rfl rfl (leb rfl) ?_
  refine x_aload_n (pc := 47) 4 dX9_draws_47 rfl ?_
  obtain ⟨q22, e⟩ := chk_some e
  rcases bnd_some e with ⟨h23, r24, ec, rfl⟩ | ⟨h23, r24, ec, e⟩
  · exact y_callV_x (pc := 48) (c_X9_isOff hl ec) q22 mf_X9_isOff tw_7_123 ts_7_3 lf_X9_140 rfl rfl dX9_draws_48 (by decide) rfl rfl (leb rfl) (xx_out0 rfl)
  refine y_callV_i (pc := 48) (c_X9_isOff hl ec) q22 mf_X9_isOff tw_7_123 ts_7_3 lf_X9_140 rfl rfl dX9_draws_48 (by decide) rfl rfl (leb rfl) ?_
  rcases ite_some e with ⟨q25, e⟩ | ⟨q25, e⟩
  · refine x_if_eq_t (pc := 51) (t := 58) dX9_draws_51 (by decide) q25 ?_
    refine x_aload_n (pc := 58) 4 dX9_draws_58 rfl ?_
    refine x_iload_n (pc := 59) 3 dX9_draws_59 rfl ?_
    refine x_iload_n (pc := 60) 2 dX9_draws_60 rfl ?_
    refine x_iconst (pc := 61) dX9_draws_61 ?_
    refine x_iload_n (pc := 62) 5 dX9_draws_62 rfl ?_
    obtain ⟨q26, e⟩ := chk_some e
    rcases bnd_some e with ⟨h27, r28, ec, rfl⟩ | ⟨h27, r28, ec, e⟩
    · exact y_callV_x (pc := 63) (c_X9_addsHere hl ec) q26 mf_X9_addsHere tw_7_205 ts_8_3 lf_X9_212 rfl rfl dX9_draws_63 (by decide) rfl rfl (leb rfl) (xx_out0 rfl)
    refine y_callV_i (pc := 63) (c_X9_addsHere hl ec) q26 mf_X9_addsHere tw_7_205 ts_8_3 lf_X9_212 rfl rfl dX9_draws_63 (by decide) rfl rfl (leb rfl) ?_
    exact x_sub1 (p_X9_draws_L66 hl e) [4, 1, 0] rfl
  · refine x_if_eq_f (pc := 51) (t := 58) dX9_draws_51 (by decide) q25 ?_
    refine x_iconst (pc := 54) dX9_draws_54 ?_
    refine x_goto (pc := 55) (t := 66) dX9_draws_55 (by decide) ?_
    exact x_sub1 (p_X9_draws_L66 hl e) [4, 1, 0] rfl
abbrev w_X9_draws : Cond := (Cond.code yX9_draws cX9_draws 7 (Option.none : Option Jvm.ClassFile.FieldType))
theorem mf_X9_draws : MF yX9_draws w_X9_draws cX9_draws 7 (Option.none : Option Jvm.ClassFile.FieldType) 1 := ⟨⟨rfl, tw_7_216, by decide⟩, tw_1_11, ⟨by decide, by decide⟩, by decide +kernel⟩
theorem c_X9_draws {l : Launch} {K : Ctx} (hl : l.stackTraces = false) {h : Hp} {a0 : Nat} {i1 : Int32} {t : Rs Unit} (e : f_X9_draws h a0 i1 = some t) : Ctr l K 12 yX9_draws w_X9_draws [.ref a0, .int i1] h (tgV t) :=
  Ctr.of hl mf_X9_draws false (fun q => nomatch q) rfl (leb rfl) (p_X9_draws hl e)
/-! ## TableColumnBalancerModel.command -/
abbrev mM_X9_command : Mi := (14, yX9_command.cls, cX9_command, 4, (Option.none : Option Jvm.ClassFile.FieldType), [], false)
noncomputable def f_X9_command (h : Hp) (a0 : Nat) : Option (Rs Unit) :=
  chk (okr h a0 9) <|
  bnd (f_X9_word h a0) fun h2 r3 =>
  chk (okr h2 a0 9) <|
  if (qI h2 a0 12) = (qI h a0 12) then (
    bnd (f_X9_off h2 a0 (qI h2 a0 12)) fun h6 _ =>
    some (h6, .inr ())
  ) else (
    bnd (f_X9_told h2 (1000000 + 3)) fun h8 r9 =>
    if (lg_cmp r3 r9) = 0 then (
      chk (okr h8 a0 9) <|
      bnd (f_X9_measures h8 a0 (iN 0)) fun h12 _ =>
      some (h12, .inr ())
    ) else (
      bnd (f_X9_told h8 (1000000 + 4)) fun h14 r15 =>
      if (lg_cmp r3 r15) = 0 then (
        chk (okr h14 a0 9) <|
        bnd (f_X9_measures h14 a0 (iN 1)) fun h18 _ =>
        some (h18, .inr ())
      ) else (
        bnd (f_X9_told h14 (1000000 + 5)) fun h20 r21 =>
        if (lg_cmp r3 r21) = 0 then (
          chk (okr h20 a0 9) <|
          bnd (f_X9_measures h20 a0 (iN 2)) fun h24 _ =>
          some (h24, .inr ())
        ) else (
          bnd (f_X9_told h20 (1000000 + 6)) fun h26 r27 =>
          if (lg_cmp r3 r27) = 0 then (
            chk (okr h26 a0 9) <|
            bnd (f_X9_specifies h26 a0) fun h30 _ =>
            some (h30, .inr ())
          ) else (
            bnd (f_X9_told h26 (1000000 + 7)) fun h32 r33 =>
            if (lg_cmp r3 r33) = 0 then (
              chk (okr h32 a0 9) <|
              bnd (f_X9_rows h32 a0 (qI h a0 12)) fun h36 _ =>
              some (h36, .inr ())
            ) else (
              bnd (f_X9_told h32 (1000000 + 8)) fun h38 r39 =>
              if (lg_cmp r3 r39) = 0 then (
                chk (okr h38 a0 9) <|
                bnd (f_X9_writes h38 a0 (qI h a0 12)) fun h42 _ =>
                some (h42, .inr ())
              ) else (
                bnd (f_X9_told h38 (1000000 + 9)) fun h44 r45 =>
                if (lg_cmp r3 r45) = 0 then (
                  chk (okr h44 a0 9) <|
                  bnd (f_X9_draws h44 a0 (qI h a0 12)) fun h48 _ =>
                  some (h48, .inr ())
                ) else (
                  chk (okr h44 a0 9) <|
                  bnd (f_X9_off h44 a0 (qI h a0 12)) fun h51 _ =>
                  some (h51, .inr ())
                )
              )
            )
          )
        )
      )
    )
  )
theorem p_X9_command {l : Launch} {K : Ctx} (hl : l.stackTraces = false) {h : Hp} {a0 : Nat} {t : Rs Unit} (e : f_X9_command h a0 = some t) : X l K mM_X9_command (tgV t) 0 [(0, .ref a0)] [] h := by
  unfold f_X9_command at e
  refine x_aload_n (pc := 0) 0 dX9_command_0 rfl ?_
  obtain ⟨q1, e⟩ := chk_some e
  refine x_getI (pc := 1) gf_X9_137 rfl dX9_command_1 q1 ?_
  refine x_istore_n (pc := 4) dX9_command_4 (by decide) rfl ?_
  refine x_aload_n (pc := 5) 1 dX9_command_5 rfl ?_
  rcases bnd_some e with ⟨h2, r3, ec, rfl⟩ | ⟨h2, r3, ec, e⟩
  · exact y_callV_x (pc := 6) (c_X9_word hl ec) q1 mf_X9_word tw_7_131 ts_7_5 lf_X9_187 rfl rfl dX9_command_6 (by decide) rfl rfl (leb rfl) (xx_out0 rfl)
  refine y_callV_i (pc := 6) (c_X9_word hl ec) q1 mf_X9_word tw_7_131 ts_7_5 lf_X9_187 rfl rfl dX9_command_6 (by decide) rfl rfl (leb rfl) ?_
  refine x_lstore_n (pc := 9) dX9_command_9 (by decide) rfl ?_
  refine x_aload_n (pc := 10) 2 dX9_command_10 rfl ?_
  obtain ⟨q4, e⟩ := chk_some e
  refine x_getI (pc := 11) gf_X9_137 rfl dX9_command_11 q4 ?_
  refine x_iload_n (pc := 14) 1 dX9_command_14 rfl ?_
  rcases ite_some e with ⟨q5, e⟩ | ⟨q5, e⟩
  · refine x_icmp_ne_f (pc := 15) (t := 29) dX9_command_15 (by decide) q5 ?_
    refine x_aload_n (pc := 18) 2 dX9_command_18 rfl ?_
    refine x_aload_n (pc := 19) 2 dX9_command_19 rfl ?_
    refine x_getI (pc := 20) gf_X9_137 rfl dX9_command_20 q4 ?_
    rcases bnd_some e with ⟨h6, r7, ec, rfl⟩ | ⟨h6, r7, ec, e⟩
    · exact y_callV_x (pc := 23) (c_X9_off hl ec) q4 mf_X9_off tw_7_142 ts_7_7 lf_X9_148 rfl rfl dX9_command_23 (by decide) rfl rfl (leb rfl) (xx_out0 rfl)
    refine y_callV_v (pc := 23) (c_X9_off hl ec) q4 mf_X9_off tw_7_142 ts_7_7 lf_X9_148 rfl rfl dX9_command_23 (by decide) rfl rfl (leb rfl) ?_
    refine x_goto (pc := 26) (t := 159) dX9_command_26 (by decide) ?_
    cases Option.some.inj e
    exact x_vret (pc := 159) rfl dX9_command_159
  · refine x_icmp_ne_t (pc := 15) (t := 29) dX9_command_15 (by decide) q5 ?_
    refine x_lload_n (pc := 29) 0 dX9_command_29 rfl ?_
    refine x_ldcS (pc := 30) (j := 3) (tx := "width") (by decide) (by decide) dX9_command_30 ?_
    rcases bnd_some e with ⟨h8, r9, ec, rfl⟩ | ⟨h8, r9, ec, e⟩
    · exact y_callS_x (pc := 32) (c_X9_told hl ec) mf_X9_told tw_7_146 lf_X9_193 dX9_command_32 (by decide) rfl rfl (leb rfl) (xx_out0 rfl)
    refine y_callS_i (pc := 32) (c_X9_told hl ec) mf_X9_told tw_7_146 lf_X9_193 dX9_command_32 (by decide) rfl rfl (leb rfl) ?_
    refine x_lcmp (pc := 35) dX9_command_35 ?_
    rcases ite_some e with ⟨q10, e⟩ | ⟨q10, e⟩
    · refine x_if_ne_f (pc := 36) (t := 47) dX9_command_36 (by decide) q10 ?_
      refine x_aload_n (pc := 39) 2 dX9_command_39 rfl ?_
      refine x_iconst (pc := 40) dX9_command_40 ?_
      obtain ⟨q11, e⟩ := chk_some e
      rcases bnd_some e with ⟨h12, r13, ec, rfl⟩ | ⟨h12, r13, ec, e⟩
      · exact y_callV_x (pc := 41) (c_X9_measures hl ec) q11 mf_X9_measures tw_7_152 ts_7_8 lf_X9_222 rfl rfl dX9_command_41 (by decide) rfl rfl (leb rfl) (xx_out0 rfl)
      refine y_callV_v (pc := 41) (c_X9_measures hl ec) q11 mf_X9_measures tw_7_152 ts_7_8 lf_X9_222 rfl rfl dX9_command_41 (by decide) rfl rfl (leb rfl) ?_
      refine x_goto (pc := 44) (t := 159) dX9_command_44 (by decide) ?_
      cases Option.some.inj e
      exact x_vret (pc := 159) rfl dX9_command_159
    · refine x_if_ne_t (pc := 36) (t := 47) dX9_command_36 (by decide) q10 ?_
      refine x_lload_n (pc := 47) 0 dX9_command_47 rfl ?_
      refine x_ldcS (pc := 48) (j := 4) (tx := "gap") (by decide) (by decide) dX9_command_48 ?_
      rcases bnd_some e with ⟨h14, r15, ec, rfl⟩ | ⟨h14, r15, ec, e⟩
      · exact y_callS_x (pc := 50) (c_X9_told hl ec) mf_X9_told tw_7_146 lf_X9_193 dX9_command_50 (by decide) rfl rfl (leb rfl) (xx_out0 rfl)
      refine y_callS_i (pc := 50) (c_X9_told hl ec) mf_X9_told tw_7_146 lf_X9_193 dX9_command_50 (by decide) rfl rfl (leb rfl) ?_
      refine x_lcmp (pc := 53) dX9_command_53 ?_
      rcases ite_some e with ⟨q16, e⟩ | ⟨q16, e⟩
      · refine x_if_ne_f (pc := 54) (t := 65) dX9_command_54 (by decide) q16 ?_
        refine x_aload_n (pc := 57) 2 dX9_command_57 rfl ?_
        refine x_iconst (pc := 58) dX9_command_58 ?_
        obtain ⟨q17, e⟩ := chk_some e
        rcases bnd_some e with ⟨h18, r19, ec, rfl⟩ | ⟨h18, r19, ec, e⟩
        · exact y_callV_x (pc := 59) (c_X9_measures hl ec) q17 mf_X9_measures tw_7_152 ts_7_8 lf_X9_222 rfl rfl dX9_command_59 (by decide) rfl rfl (leb rfl) (xx_out0 rfl)
        refine y_callV_v (pc := 59) (c_X9_measures hl ec) q17 mf_X9_measures tw_7_152 ts_7_8 lf_X9_222 rfl rfl dX9_command_59 (by decide) rfl rfl (leb rfl) ?_
        refine x_goto (pc := 62) (t := 159) dX9_command_62 (by decide) ?_
        cases Option.some.inj e
        exact x_vret (pc := 159) rfl dX9_command_159
      · refine x_if_ne_t (pc := 54) (t := 65) dX9_command_54 (by decide) q16 ?_
        refine x_lload_n (pc := 65) 0 dX9_command_65 rfl ?_
        refine x_ldcS (pc := 66) (j := 5) (tx := "pad") (by decide) (by decide) dX9_command_66 ?_
        rcases bnd_some e with ⟨h20, r21, ec, rfl⟩ | ⟨h20, r21, ec, e⟩
        · exact y_callS_x (pc := 68) (c_X9_told hl ec) mf_X9_told tw_7_146 lf_X9_193 dX9_command_68 (by decide) rfl rfl (leb rfl) (xx_out0 rfl)
        refine y_callS_i (pc := 68) (c_X9_told hl ec) mf_X9_told tw_7_146 lf_X9_193 dX9_command_68 (by decide) rfl rfl (leb rfl) ?_
        refine x_lcmp (pc := 71) dX9_command_71 ?_
        rcases ite_some e with ⟨q22, e⟩ | ⟨q22, e⟩
        · refine x_if_ne_f (pc := 72) (t := 83) dX9_command_72 (by decide) q22 ?_
          refine x_aload_n (pc := 75) 2 dX9_command_75 rfl ?_
          refine x_iconst (pc := 76) dX9_command_76 ?_
          obtain ⟨q23, e⟩ := chk_some e
          rcases bnd_some e with ⟨h24, r25, ec, rfl⟩ | ⟨h24, r25, ec, e⟩
          · exact y_callV_x (pc := 77) (c_X9_measures hl ec) q23 mf_X9_measures tw_7_152 ts_7_8 lf_X9_222 rfl rfl dX9_command_77 (by decide) rfl rfl (leb rfl) (xx_out0 rfl)
          refine y_callV_v (pc := 77) (c_X9_measures hl ec) q23 mf_X9_measures tw_7_152 ts_7_8 lf_X9_222 rfl rfl dX9_command_77 (by decide) rfl rfl (leb rfl) ?_
          refine x_goto (pc := 80) (t := 159) dX9_command_80 (by decide) ?_
          cases Option.some.inj e
          exact x_vret (pc := 159) rfl dX9_command_159
        · refine x_if_ne_t (pc := 72) (t := 83) dX9_command_72 (by decide) q22 ?_
          refine x_lload_n (pc := 83) 0 dX9_command_83 rfl ?_
          refine x_ldcS (pc := 84) (j := 6) (tx := "col") (by decide) (by decide) dX9_command_84 ?_
          rcases bnd_some e with ⟨h26, r27, ec, rfl⟩ | ⟨h26, r27, ec, e⟩
          · exact y_callS_x (pc := 86) (c_X9_told hl ec) mf_X9_told tw_7_146 lf_X9_193 dX9_command_86 (by decide) rfl rfl (leb rfl) (xx_out0 rfl)
          refine y_callS_i (pc := 86) (c_X9_told hl ec) mf_X9_told tw_7_146 lf_X9_193 dX9_command_86 (by decide) rfl rfl (leb rfl) ?_
          refine x_lcmp (pc := 89) dX9_command_89 ?_
          rcases ite_some e with ⟨q28, e⟩ | ⟨q28, e⟩
          · refine x_if_ne_f (pc := 90) (t := 100) dX9_command_90 (by decide) q28 ?_
            refine x_aload_n (pc := 93) 2 dX9_command_93 rfl ?_
            obtain ⟨q29, e⟩ := chk_some e
            rcases bnd_some e with ⟨h30, r31, ec, rfl⟩ | ⟨h30, r31, ec, e⟩
            · exact y_callV_x (pc := 94) (c_X9_specifies hl ec) q29 mf_X9_specifies tw_7_171 ts_7_12 lf_X9_231 rfl rfl dX9_command_94 (by decide) rfl rfl (leb rfl) (xx_out0 rfl)
            refine y_callV_v (pc := 94) (c_X9_specifies hl ec) q29 mf_X9_specifies tw_7_171 ts_7_12 lf_X9_231 rfl rfl dX9_command_94 (by decide) rfl rfl (leb rfl) ?_
            refine x_goto (pc := 97) (t := 159) dX9_command_97 (by decide) ?_
            cases Option.some.inj e
            exact x_vret (pc := 159) rfl dX9_command_159
          · refine x_if_ne_t (pc := 90) (t := 100) dX9_command_90 (by decide) q28 ?_
            refine x_lload_n (pc := 100) 0 dX9_command_100 rfl ?_
            refine x_ldcS (pc := 101) (j := 7) (tx := "row") (by decide) (by decide) dX9_command_101 ?_
            rcases bnd_some e with ⟨h32, r33, ec, rfl⟩ | ⟨h32, r33, ec, e⟩
            · exact y_callS_x (pc := 103) (c_X9_told hl ec) mf_X9_told tw_7_146 lf_X9_193 dX9_command_103 (by decide) rfl rfl (leb rfl) (xx_out0 rfl)
            refine y_callS_i (pc := 103) (c_X9_told hl ec) mf_X9_told tw_7_146 lf_X9_193 dX9_command_103 (by decide) rfl rfl (leb rfl) ?_
            refine x_lcmp (pc := 106) dX9_command_106 ?_
            rcases ite_some e with ⟨q34, e⟩ | ⟨q34, e⟩
            · refine x_if_ne_f (pc := 107) (t := 118) dX9_command_107 (by decide) q34 ?_
              refine x_aload_n (pc := 110) 2 dX9_command_110 rfl ?_
              refine x_iload_n (pc := 111) 1 dX9_command_111 rfl ?_
              obtain ⟨q35, e⟩ := chk_some e
              rcases bnd_some e with ⟨h36, r37, ec, rfl⟩ | ⟨h36, r37, ec, e⟩
              · exact y_callV_x (pc := 112) (c_X9_rows hl ec) q35 mf_X9_rows tw_7_183 ts_7_14 lf_X9_236 rfl rfl dX9_command_112 (by decide) rfl rfl (leb rfl) (xx_out0 rfl)
              refine y_callV_v (pc := 112) (c_X9_rows hl ec) q35 mf_X9_rows tw_7_183 ts_7_14 lf_X9_236 rfl rfl dX9_command_112 (by decide) rfl rfl (leb rfl) ?_
              refine x_goto (pc := 115) (t := 159) dX9_command_115 (by decide) ?_
              cases Option.some.inj e
              exact x_vret (pc := 159) rfl dX9_command_159
            · refine x_if_ne_t (pc := 107) (t := 118) dX9_command_107 (by decide) q34 ?_
              refine x_lload_n (pc := 118) 0 dX9_command_118 rfl ?_
              refine x_ldcS (pc := 119) (j := 8) (tx := "cell") (by decide) (by decide) dX9_command_119 ?_
              rcases bnd_some e with ⟨h38, r39, ec, rfl⟩ | ⟨h38, r39, ec, e⟩
              · exact y_callS_x (pc := 121) (c_X9_told hl ec) mf_X9_told tw_7_146 lf_X9_193 dX9_command_121 (by decide) rfl rfl (leb rfl) (xx_out0 rfl)
              refine y_callS_i (pc := 121) (c_X9_told hl ec) mf_X9_told tw_7_146 lf_X9_193 dX9_command_121 (by decide) rfl rfl (leb rfl) ?_
              refine x_lcmp (pc := 124) dX9_command_124 ?_
              rcases ite_some e with ⟨q40, e⟩ | ⟨q40, e⟩
              · refine x_if_ne_f (pc := 125) (t := 136) dX9_command_125 (by decide) q40 ?_
                refine x_aload_n (pc := 128) 2 dX9_command_128 rfl ?_
                refine x_iload_n (pc := 129) 1 dX9_command_129 rfl ?_
                obtain ⟨q41, e⟩ := chk_some e
                rcases bnd_some e with ⟨h42, r43, ec, rfl⟩ | ⟨h42, r43, ec, e⟩
                · exact y_callV_x (pc := 130) (c_X9_writes hl ec) q41 mf_X9_writes tw_7_192 ts_8_0 lf_X9_241 rfl rfl dX9_command_130 (by decide) rfl rfl (leb rfl) (xx_out0 rfl)
                refine y_callV_v (pc := 130) (c_X9_writes hl ec) q41 mf_X9_writes tw_7_192 ts_8_0 lf_X9_241 rfl rfl dX9_command_130 (by decide) rfl rfl (leb rfl) ?_
                refine x_goto (pc := 133) (t := 159) dX9_command_133 (by decide) ?_
                cases Option.some.inj e
                exact x_vret (pc := 159) rfl dX9_command_159
              · refine x_if_ne_t (pc := 125) (t := 136) dX9_command_125 (by decide) q40 ?_
                refine x_lload_n (pc := 136) 0 dX9_command_136 rfl ?_
                refine x_ldcS (pc := 137) (j := 9) (tx := "pic") (by decide) (by decide) dX9_command_137 ?_
                rcases bnd_some e with ⟨h44, r45, ec, rfl⟩ | ⟨h44, r45, ec, e⟩
                · exact y_callS_x (pc := 139) (c_X9_told hl ec) mf_X9_told tw_7_146 lf_X9_193 dX9_command_139 (by decide) rfl rfl (leb rfl) (xx_out0 rfl)
                refine y_callS_i (pc := 139) (c_X9_told hl ec) mf_X9_told tw_7_146 lf_X9_193 dX9_command_139 (by decide) rfl rfl (leb rfl) ?_
                refine x_lcmp (pc := 142) dX9_command_142 ?_
                rcases ite_some e with ⟨q46, e⟩ | ⟨q46, e⟩
                · refine x_if_ne_f (pc := 143) (t := 154) dX9_command_143 (by decide) q46 ?_
                  refine x_aload_n (pc := 146) 2 dX9_command_146 rfl ?_
                  refine x_iload_n (pc := 147) 1 dX9_command_147 rfl ?_
                  obtain ⟨q47, e⟩ := chk_some e
                  rcases bnd_some e with ⟨h48, r49, ec, rfl⟩ | ⟨h48, r49, ec, e⟩
                  · exact y_callV_x (pc := 148) (c_X9_draws hl ec) q47 mf_X9_draws tw_7_215 ts_8_5 lf_X9_246 rfl rfl dX9_command_148 (by decide) rfl rfl (leb rfl) (xx_out0 rfl)
                  refine y_callV_v (pc := 148) (c_X9_draws hl ec) q47 mf_X9_draws tw_7_215 ts_8_5 lf_X9_246 rfl rfl dX9_command_148 (by decide) rfl rfl (leb rfl) ?_
                  refine x_goto (pc := 151) (t := 159) dX9_command_151 (by decide) ?_
                  cases Option.some.inj e
                  exact x_vret (pc := 159) rfl dX9_command_159
                · refine x_if_ne_t (pc := 143) (t := 154) dX9_command_143 (by decide) q46 ?_
                  refine x_aload_n (pc := 154) 2 dX9_command_154 rfl ?_
                  refine x_iload_n (pc := 155) 1 dX9_command_155 rfl ?_
                  obtain ⟨q50, e⟩ := chk_some e
                  rcases bnd_some e with ⟨h51, r52, ec, rfl⟩ | ⟨h51, r52, ec, e⟩
                  · exact y_callV_x (pc := 156) (c_X9_off hl ec) q50 mf_X9_off tw_7_142 ts_7_7 lf_X9_148 rfl rfl dX9_command_156 (by decide) rfl rfl (leb rfl) (xx_out0 rfl)
                  refine y_callV_v (pc := 156) (c_X9_off hl ec) q50 mf_X9_off tw_7_142 ts_7_7 lf_X9_148 rfl rfl dX9_command_156 (by decide) rfl rfl (leb rfl) ?_
                  cases Option.some.inj e
                  exact x_vret (pc := 159) rfl dX9_command_159
abbrev w_X9_command : Cond := (Cond.code yX9_command cX9_command 4 (Option.none : Option Jvm.ClassFile.FieldType))
theorem mf_X9_command : MF yX9_command w_X9_command cX9_command 4 (Option.none : Option Jvm.ClassFile.FieldType) 0 := ⟨⟨rfl, tw_7_128, by decide⟩, tw_1_11, ⟨by decide, by decide⟩, by decide +kernel⟩
theorem c_X9_command {l : Launch} {K : Ctx} (hl : l.stackTraces = false) {h : Hp} {a0 : Nat} {t : Rs Unit} (e : f_X9_command h a0 = some t) : Ctr l K 14 yX9_command w_X9_command [.ref a0] h (tgV t) :=
  Ctr.of hl mf_X9_command false (fun q => nomatch q) rfl (leb rfl) (p_X9_command hl e)
/-! ## TableColumnBalancerModel.commands -/
abbrev mM_X9_commands : Mi := (15, yX9_commands.cls, cX9_commands, 3, (Option.some Jvm.ClassFile.FieldType.int), [], false)
noncomputable def f_X9_commands_L41 (k12 : Hp → Nat → Int32 → Option (Rs Int32)) (h : Hp) (a0 : Nat) (i2 : Int32) : Option (Rs Int32) :=
  chk (okr h a0 9) <|
  bnd (f_X9_command h a0) fun h2 _ =>
  k12 h2 a0 (i2 + iN 1)
theorem p_X9_commands_L41 {l : Launch} {K : Ctx} (hl : l.stackTraces = false) {k12 : Hp → Nat → Int32 → Option (Rs Int32)} (hk12 : ∀ (h : Hp) (a0 : Nat) (i2 : Int32) (t : Rs Int32), k12 h a0 i2 = some t → X l K mM_X9_commands (tgI t) 12 [(0, .ref a0), (2, .int i2)] [] h) {h : Hp} {a0 : Nat} {i2 : Int32} {t : Rs Int32} (e : f_X9_commands_L41 k12 h a0 i2 = some t) : X l K mM_X9_commands (tgI t) 41 [(0, .ref a0), (2, .int i2)] [] h := by
  unfold f_X9_commands_L41 at e
  refine x_aload_n (pc := 41) 0 dX9_commands_41 rfl ?_
  obtain ⟨q1, e⟩ := chk_some e
  rcases bnd_some e with ⟨h2, r3, ec, rfl⟩ | ⟨h2, r3, ec, e⟩
  · exact y_callV_x (pc := 42) (c_X9_command hl ec) q1 mf_X9_command tw_7_127 ts_7_4 lf_X9_249 rfl rfl dX9_commands_42 (by decide) rfl rfl (leb rfl) (xx_out0 rfl)
  refine y_callV_v (pc := 42) (c_X9_command hl ec) q1 mf_X9_command tw_7_127 ts_7_4 lf_X9_249 rfl rfl dX9_commands_42 (by decide) rfl rfl (leb rfl) ?_
  refine x_iinc (pc := 45) 1 dX9_commands_45 rfl (by decide) rfl ?_
  refine x_goto (pc := 48) (t := 12) dX9_commands_48 (by decide) ?_
  exact x_sub1 (hk12 _ _ _ _ e) [1, 0] rfl
noncomputable def f_X9_commands_B12 (k12 : Hp → Nat → Int32 → Option (Rs Int32)) (h : Hp) (a0 : Nat) (i2 : Int32) : Option (Rs Int32) :=
  chk (okr h a0 9) <|
  bnd (f_X9_isOff h a0) fun h2 r3 =>
  if r3 = 0 then (
    chk (okr h2 a0 9) <|
    if (qI h2 a0 14) = 0 then (
      if i2 = 0 then (
        f_X9_commands_L41 k12 h2 a0 i2
      ) else (
        if (qI h2 a0 6) ≤ (qI h2 a0 12) then (
          some (h2, .inr i2)
        ) else (
          f_X9_commands_L41 k12 h2 a0 i2
        )
      )
    ) else (
      some (h2, .inr i2)
    )
  ) else (
    some (h2, .inr i2)
  )
theorem p_X9_commands_B12 {l : Launch} {K : Ctx} (hl : l.stackTraces = false) {k12 : Hp → Nat → Int32 → Option (Rs Int32)} (hk12 : ∀ (h : Hp) (a0 : Nat) (i2 : Int32) (t : Rs Int32), k12 h a0 i2 = some t → X l K mM_X9_commands (tgI t) 12 [(0, .ref a0), (2, .int i2)] [] h) {h : Hp} {a0 : Nat} {i2 : Int32} {t : Rs Int32} (e : f_X9_commands_B12 k12 h a0 i2 = some t) : X l K mM_X9_commands (tgI t) 12 [(0, .ref a0), (2, .int i2)] [] h := by
  unfold f_X9_commands_B12 at e
  refine x_aload_n (pc := 12) 0 dX9_commands_12 rfl ?_
  obtain ⟨q1, e⟩ := chk_some e
  rcases bnd_some e with ⟨h2, r3, ec, rfl⟩ | ⟨h2, r3, ec, e⟩
  · exact y_callV_x (pc := 13) (c_X9_isOff hl ec) q1 mf_X9_isOff tw_7_123 ts_7_3 lf_X9_140 rfl rfl dX9_commands_13 (by decide) rfl rfl (leb rfl) (xx_out0 rfl)
  refine y_callV_i (pc := 13) (c_X9_isOff hl ec) q1 mf_X9_isOff tw_7_123 ts_7_3 lf_X9_140 rfl rfl dX9_commands_13 (by decide) rfl rfl (leb rfl) ?_
  rcases ite_some e with ⟨q4, e⟩ | ⟨q4, e⟩
  · refine x_if_ne_f (pc := 16) (t := 51) dX9_commands_16 (by decide) q4 ?_
    refine x_aload_n (pc := 19) 0 dX9_commands_19 rfl ?_
    obtain ⟨q5, e⟩ := chk_some e
    refine x_getI (pc := 20) gf_X9_171 rfl dX9_commands_20 q5 ?_
    rcases ite_some e with ⟨q6, e⟩ | ⟨q6, e⟩
    · refine x_if_ne_f (pc := 23) (t := 51) dX9_commands_23 (by decide) q6 ?_
      refine x_iload_n (pc := 26) 1 dX9_commands_26 rfl ?_
      rcases ite_some e with ⟨q7, e⟩ | ⟨q7, e⟩
      · refine x_if_eq_t (pc := 27) (t := 41) dX9_commands_27 (by decide) q7 ?_
        exact p_X9_commands_L41 hl hk12 e
      · refine x_if_eq_f (pc := 27) (t := 41) dX9_commands_27 (by decide) q7 ?_
        refine x_aload_n (pc := 30) 0 dX9_commands_30 rfl ?_
        refine x_getI (pc := 31) gf_X9_137 rfl dX9_commands_31 q5 ?_
        refine x_aload_n (pc := 34) 0 dX9_commands_34 rfl ?_
        refine x_getI (pc := 35) gf_X9_134 rfl dX9_commands_35 q5 ?_
        rcases ite_some e with ⟨q8, e⟩ | ⟨q8, e⟩
        · refine x_icmp_ge_t (pc := 38) (t := 51) dX9_commands_38 (by decide) q8 ?_
          refine x_iload_n (pc := 51) 1 dX9_commands_51 rfl ?_
          cases Option.some.inj e
          exact x_iret (pc := 52) rfl dX9_commands_52
        · refine x_icmp_ge_f (pc := 38) (t := 51) dX9_commands_38 (by decide) q8 ?_
          exact p_X9_commands_L41 hl hk12 e
    · refine x_if_ne_t (pc := 23) (t := 51) dX9_commands_23 (by decide) q6 ?_
      refine x_iload_n (pc := 51) 1 dX9_commands_51 rfl ?_
      cases Option.some.inj e
      exact x_iret (pc := 52) rfl dX9_commands_52
  · refine x_if_ne_t (pc := 16) (t := 51) dX9_commands_16 (by decide) q4 ?_
    refine x_iload_n (pc := 51) 1 dX9_commands_51 rfl ?_
    cases Option.some.inj e
    exact x_iret (pc := 52) rfl dX9_commands_52
noncomputable def f_X9_commands_L12 (n : Nat) : Hp → Nat → Int32 → Option (Rs Int32) := Nat.rec (motive := fun _ => Hp → Nat → Int32 → Option (Rs Int32)) (fun _ _ _ => none) (fun _ r => f_X9_commands_B12 r) n
theorem p_X9_commands_L12 {l : Launch} {K : Ctx} (hl : l.stackTraces = false) : ∀ (n : Nat) (h : Hp) (a0 : Nat) (i2 : Int32) (t : Rs Int32) (e : f_X9_commands_L12 n h a0 i2 = some t), X l K mM_X9_commands (tgI t) 12 [(0, .ref a0), (2, .int i2)] [] h := by
  intro n
  induction n with
  | zero => exact fun _ _ _ _ e => nomatch (show (none : Option (Rs Int32)) = some _ from e)
  | succ n ih => exact fun h a0 i2 t e => p_X9_commands_B12 hl (fun h a0 i2 t e => ih h a0 i2 t e) e
noncomputable def f_X9_commands (h : Hp) (a0 : Nat) (i1 : Int32) : Option (Rs Int32) :=
  chk (okr h a0 9) <|
  chk (i1 = 0 ∨ i1 = 1) <|
  lt (putI h a0 13 i1) fun h3 =>
  lt (putI h3 a0 12 (iN 0)) fun h4 =>
  f_X9_commands_L12 2000 h4 a0 (iN 0)
theorem p_X9_commands {l : Launch} {K : Ctx} (hl : l.stackTraces = false) {h : Hp} {a0 : Nat} {i1 : Int32} {t : Rs Int32} (e : f_X9_commands h a0 i1 = some t) : X l K mM_X9_commands (tgI t) 0 [(0, .ref a0), (1, .int i1)] [] h := by
  unfold f_X9_commands at e
  refine x_aload_n (pc := 0) 0 dX9_commands_0 rfl ?_
  refine x_iload_n (pc := 1) 1 dX9_commands_1 rfl ?_
  obtain ⟨q1, e⟩ := chk_some e
  obtain ⟨q2, e⟩ := chk_some e
  replace e := lt_go e
  refine x_putI (pc := 2) pf_X9_175 rfl (nar_z q2) (fit_z q2) dX9_commands_2 q1 ?_
  refine x_aload_n (pc := 5) 0 dX9_commands_5 rfl ?_
  refine x_iconst (pc := 6) dX9_commands_6 ?_
  replace e := lt_go e
  refine x_putI (pc := 7) pf_X9_137 rfl rfl rfl dX9_commands_7 (okr_pI q1) ?_
  refine x_iconst (pc := 10) dX9_commands_10 ?_
  refine x_istore_n (pc := 11) dX9_commands_11 (by decide) rfl ?_
  exact x_sub1 (p_X9_commands_L12 hl 2000 _ _ _ _ e) [1, 0] rfl
abbrev w_X9_commands : Cond := (Cond.code yX9_commands cX9_commands 3 (Option.some Jvm.ClassFile.FieldType.int))
theorem mf_X9_commands : MF yX9_commands w_X9_commands cX9_commands 3 (Option.some Jvm.ClassFile.FieldType.int) 1 := ⟨⟨rfl, tw_7_120, by decide⟩, tw_1_11, ⟨by decide, by decide⟩, by decide +kernel⟩
theorem c_X9_commands {l : Launch} {K : Ctx} (hl : l.stackTraces = false) {h : Hp} {a0 : Nat} {i1 : Int32} {t : Rs Int32} (e : f_X9_commands h a0 i1 = some t) : Ctr l K 15 yX9_commands w_X9_commands [.ref a0, .int i1] h (tgI t) :=
  Ctr.of hl mf_X9_commands false (fun q => nomatch q) rfl (leb rfl) (p_X9_commands hl e)
/-! ## TableColumnBalancerModel.keeps -/
abbrev mM_X9_keeps : Mi := (8, yX9_keeps.cls, cX9_keeps, 2, (Option.none : Option Jvm.ClassFile.FieldType), [], false)
noncomputable def f_X9_keeps_B2 (k2 : Hp → Nat → Int32 → Option (Rs Unit)) (h : Hp) (a0 : Nat) (i1 : Int32) : Option (Rs Unit) :=
  if (iN 506) ≤ i1 then (
    some (h, .inr ())
  ) else (
    chk (okr h a0 9) <|
    chk (okr h (qR h a0 3) 20) <|
    chk (okr h (qR h a0 1) 20) <|
    chk (vp_in i1 (qW h (qR h a0 1))) <|
    chk (vp_in i1 (qW h (qR h a0 3))) <|
    lt (putI h (qR h a0 3) (Int32.toNatClampNeg i1) (qI h (qR h a0 1) (Int32.toNatClampNeg i1))) fun h7 =>
    k2 h7 a0 (i1 + iN 1)
  )
theorem p_X9_keeps_B2 {l : Launch} {K : Ctx} (hl : l.stackTraces = false) {k2 : Hp → Nat → Int32 → Option (Rs Unit)} (hk2 : ∀ (h : Hp) (a0 : Nat) (i1 : Int32) (t : Rs Unit), k2 h a0 i1 = some t → X l K mM_X9_keeps (tgV t) 2 [(0, .ref a0), (1, .int i1)] [] h) {h : Hp} {a0 : Nat} {i1 : Int32} {t : Rs Unit} (e : f_X9_keeps_B2 k2 h a0 i1 = some t) : X l K mM_X9_keeps (tgV t) 2 [(0, .ref a0), (1, .int i1)] [] h := by
  unfold f_X9_keeps_B2 at e
  refine x_iload_n (pc := 2) 1 dX9_keeps_2 rfl ?_
  refine x_sipush (pc := 3) (v := iN 506) dX9_keeps_3 rfl ?_
  rcases ite_some e with ⟨q1, e⟩ | ⟨q1, e⟩
  · refine x_icmp_ge_t (pc := 6) (t := 27) dX9_keeps_6 (by decide) q1 ?_
    cases Option.some.inj e
    exact x_vret (pc := 27) rfl dX9_keeps_27
  · refine x_icmp_ge_f (pc := 6) (t := 27) dX9_keeps_6 (by decide) q1 ?_
    refine x_aload_n (pc := 9) 0 dX9_keeps_9 rfl ?_
    obtain ⟨q2, e⟩ := chk_some e
    obtain ⟨q3, e⟩ := chk_some e
    refine x_getR (pc := 10) gf_X9_16 rfl dX9_keeps_10 q2 q3.1 ?_
    refine x_iload_n (pc := 13) 1 dX9_keeps_13 rfl ?_
    refine x_aload_n (pc := 14) 0 dX9_keeps_14 rfl ?_
    obtain ⟨q4, e⟩ := chk_some e
    refine x_getR (pc := 15) gf_X9_9 rfl dX9_keeps_15 q2 q4.1 ?_
    refine x_iload_n (pc := 18) 1 dX9_keeps_18 rfl ?_
    obtain ⟨q5, e⟩ := chk_some e
    refine x_iald (pc := 19) dX9_keeps_19 q4 q5 ?_
    obtain ⟨q6, e⟩ := chk_some e
    replace e := lt_go e
    refine x_iast (pc := 20) dX9_keeps_20 q3 q6 ?_
    refine x_iinc (pc := 21) 1 dX9_keeps_21 rfl (by decide) rfl ?_
    refine x_goto (pc := 24) (t := 2) dX9_keeps_24 (by decide) ?_
    exact x_sub1 (hk2 _ _ _ _ e) [1, 0] rfl
noncomputable def f_X9_keeps_L2 (n : Nat) : Hp → Nat → Int32 → Option (Rs Unit) := Nat.rec (motive := fun _ => Hp → Nat → Int32 → Option (Rs Unit)) (fun _ _ _ => none) (fun _ r => f_X9_keeps_B2 r) n
theorem p_X9_keeps_L2 {l : Launch} {K : Ctx} (hl : l.stackTraces = false) : ∀ (n : Nat) (h : Hp) (a0 : Nat) (i1 : Int32) (t : Rs Unit) (e : f_X9_keeps_L2 n h a0 i1 = some t), X l K mM_X9_keeps (tgV t) 2 [(0, .ref a0), (1, .int i1)] [] h := by
  intro n
  induction n with
  | zero => exact fun _ _ _ _ e => nomatch (show (none : Option (Rs Unit)) = some _ from e)
  | succ n ih => exact fun h a0 i1 t e => p_X9_keeps_B2 hl (fun h a0 i1 t e => ih h a0 i1 t e) e
noncomputable def f_X9_keeps (h : Hp) (a0 : Nat) : Option (Rs Unit) :=
  f_X9_keeps_L2 2000 h a0 (iN 0)
theorem p_X9_keeps {l : Launch} {K : Ctx} (hl : l.stackTraces = false) {h : Hp} {a0 : Nat} {t : Rs Unit} (e : f_X9_keeps h a0 = some t) : X l K mM_X9_keeps (tgV t) 0 [(0, .ref a0)] [] h := by
  unfold f_X9_keeps at e
  refine x_iconst (pc := 0) dX9_keeps_0 ?_
  refine x_istore_n (pc := 1) dX9_keeps_1 (by decide) rfl ?_
  exact x_sub1 (p_X9_keeps_L2 hl 2000 _ _ _ _ e) [1, 0] rfl
abbrev w_X9_keeps : Cond := (Cond.code yX9_keeps cX9_keeps 2 (Option.none : Option Jvm.ClassFile.FieldType))
theorem mf_X9_keeps : MF yX9_keeps w_X9_keeps cX9_keeps 2 (Option.none : Option Jvm.ClassFile.FieldType) 0 := ⟨⟨rfl, tw_7_220, by decide⟩, tw_1_11, ⟨by decide, by decide⟩, by decide +kernel⟩
theorem c_X9_keeps {l : Launch} {K : Ctx} (hl : l.stackTraces = false) {h : Hp} {a0 : Nat} {t : Rs Unit} (e : f_X9_keeps h a0 = some t) : Ctr l K 8 yX9_keeps w_X9_keeps [.ref a0] h (tgV t) :=
  Ctr.of hl mf_X9_keeps false (fun q => nomatch q) rfl (leb rfl) (p_X9_keeps hl e)
/-! ## TableColumnBalancerModel.goesBack -/
abbrev mM_X9_goesBack : Mi := (8, yX9_goesBack.cls, cX9_goesBack, 2, (Option.none : Option Jvm.ClassFile.FieldType), [], false)
noncomputable def f_X9_goesBack_B2 (k2 : Hp → Nat → Int32 → Option (Rs Unit)) (h : Hp) (a0 : Nat) (i1 : Int32) : Option (Rs Unit) :=
  if (iN 506) ≤ i1 then (
    some (h, .inr ())
  ) else (
    chk (okr h a0 9) <|
    chk (okr h (qR h a0 1) 20) <|
    chk (okr h (qR h a0 3) 20) <|
    chk (vp_in i1 (qW h (qR h a0 3))) <|
    chk (vp_in i1 (qW h (qR h a0 1))) <|
    lt (putI h (qR h a0 1) (Int32.toNatClampNeg i1) (qI h (qR h a0 3) (Int32.toNatClampNeg i1))) fun h7 =>
    k2 h7 a0 (i1 + iN 1)
  )
theorem p_X9_goesBack_B2 {l : Launch} {K : Ctx} (hl : l.stackTraces = false) {k2 : Hp → Nat → Int32 → Option (Rs Unit)} (hk2 : ∀ (h : Hp) (a0 : Nat) (i1 : Int32) (t : Rs Unit), k2 h a0 i1 = some t → X l K mM_X9_goesBack (tgV t) 2 [(0, .ref a0), (1, .int i1)] [] h) {h : Hp} {a0 : Nat} {i1 : Int32} {t : Rs Unit} (e : f_X9_goesBack_B2 k2 h a0 i1 = some t) : X l K mM_X9_goesBack (tgV t) 2 [(0, .ref a0), (1, .int i1)] [] h := by
  unfold f_X9_goesBack_B2 at e
  refine x_iload_n (pc := 2) 1 dX9_goesBack_2 rfl ?_
  refine x_sipush (pc := 3) (v := iN 506) dX9_goesBack_3 rfl ?_
  rcases ite_some e with ⟨q1, e⟩ | ⟨q1, e⟩
  · refine x_icmp_ge_t (pc := 6) (t := 27) dX9_goesBack_6 (by decide) q1 ?_
    cases Option.some.inj e
    exact x_vret (pc := 27) rfl dX9_goesBack_27
  · refine x_icmp_ge_f (pc := 6) (t := 27) dX9_goesBack_6 (by decide) q1 ?_
    refine x_aload_n (pc := 9) 0 dX9_goesBack_9 rfl ?_
    obtain ⟨q2, e⟩ := chk_some e
    obtain ⟨q3, e⟩ := chk_some e
    refine x_getR (pc := 10) gf_X9_9 rfl dX9_goesBack_10 q2 q3.1 ?_
    refine x_iload_n (pc := 13) 1 dX9_goesBack_13 rfl ?_
    refine x_aload_n (pc := 14) 0 dX9_goesBack_14 rfl ?_
    obtain ⟨q4, e⟩ := chk_some e
    refine x_getR (pc := 15) gf_X9_16 rfl dX9_goesBack_15 q2 q4.1 ?_
    refine x_iload_n (pc := 18) 1 dX9_goesBack_18 rfl ?_
    obtain ⟨q5, e⟩ := chk_some e
    refine x_iald (pc := 19) dX9_goesBack_19 q4 q5 ?_
    obtain ⟨q6, e⟩ := chk_some e
    replace e := lt_go e
    refine x_iast (pc := 20) dX9_goesBack_20 q3 q6 ?_
    refine x_iinc (pc := 21) 1 dX9_goesBack_21 rfl (by decide) rfl ?_
    refine x_goto (pc := 24) (t := 2) dX9_goesBack_24 (by decide) ?_
    exact x_sub1 (hk2 _ _ _ _ e) [1, 0] rfl
noncomputable def f_X9_goesBack_L2 (n : Nat) : Hp → Nat → Int32 → Option (Rs Unit) := Nat.rec (motive := fun _ => Hp → Nat → Int32 → Option (Rs Unit)) (fun _ _ _ => none) (fun _ r => f_X9_goesBack_B2 r) n
theorem p_X9_goesBack_L2 {l : Launch} {K : Ctx} (hl : l.stackTraces = false) : ∀ (n : Nat) (h : Hp) (a0 : Nat) (i1 : Int32) (t : Rs Unit) (e : f_X9_goesBack_L2 n h a0 i1 = some t), X l K mM_X9_goesBack (tgV t) 2 [(0, .ref a0), (1, .int i1)] [] h := by
  intro n
  induction n with
  | zero => exact fun _ _ _ _ e => nomatch (show (none : Option (Rs Unit)) = some _ from e)
  | succ n ih => exact fun h a0 i1 t e => p_X9_goesBack_B2 hl (fun h a0 i1 t e => ih h a0 i1 t e) e
noncomputable def f_X9_goesBack (h : Hp) (a0 : Nat) : Option (Rs Unit) :=
  f_X9_goesBack_L2 2000 h a0 (iN 0)
theorem p_X9_goesBack {l : Launch} {K : Ctx} (hl : l.stackTraces = false) {h : Hp} {a0 : Nat} {t : Rs Unit} (e : f_X9_goesBack h a0 = some t) : X l K mM_X9_goesBack (tgV t) 0 [(0, .ref a0)] [] h := by
  unfold f_X9_goesBack at e
  refine x_iconst (pc := 0) dX9_goesBack_0 ?_
  refine x_istore_n (pc := 1) dX9_goesBack_1 (by decide) rfl ?_
  exact x_sub1 (p_X9_goesBack_L2 hl 2000 _ _ _ _ e) [1, 0] rfl
abbrev w_X9_goesBack : Cond := (Cond.code yX9_goesBack cX9_goesBack 2 (Option.none : Option Jvm.ClassFile.FieldType))
theorem mf_X9_goesBack : MF yX9_goesBack w_X9_goesBack cX9_goesBack 2 (Option.none : Option Jvm.ClassFile.FieldType) 0 := ⟨⟨rfl, tw_7_224, by decide⟩, tw_1_11, ⟨by decide, by decide⟩, by decide +kernel⟩
theorem c_X9_goesBack {l : Launch} {K : Ctx} (hl : l.stackTraces = false) {h : Hp} {a0 : Nat} {t : Rs Unit} (e : f_X9_goesBack h a0 = some t) : Ctr l K 8 yX9_goesBack w_X9_goesBack [.ref a0] h (tgV t) :=
  Ctr.of hl mf_X9_goesBack false (fun q => nomatch q) rfl (leb rfl) (p_X9_goesBack hl e)
/-! ## TableColumnBalancerModel.execute -/
abbrev mM_X9_execute : Mi := (16, yX9_execute.cls, cX9_execute, 2, (Option.some Jvm.ClassFile.FieldType.int), [], false)
noncomputable def f_X9_execute (h : Hp) (a0 : Nat) : Option (Rs Int32) :=
  chk (okr h a0 9) <|
  lt (putI h a0 0 (iN 0)) fun h2 =>
  lt (putI h2 a0 7 (iN (-1))) fun h3 =>
  lt (putI h3 a0 14 (iN 0)) fun h4 =>
  bnd (f_X9_commands h4 a0 (iN 0)) fun h5 r6 =>
  chk (okr h5 a0 9) <|
  bnd (f_X9_isOff h5 a0) fun h8 r9 =>
  if r9 = 0 then (
    chk (okr h8 a0 9) <|
    bnd (f_X9_keeps h8 a0) fun h12 _ =>
    chk (okr h12 a0 9) <|
    bnd (f_X9_commands h12 a0 (iN 1)) fun h15 r16 =>
    chk (okr h15 a0 9) <|
    lt (putI h15 a0 6 (iN 0)) fun h18 =>
    if (qI h18 a0 14) = 0 then (
      some (h18, .inr r16)
    ) else (
      bnd (f_X9_goesBack h18 a0) fun h20 _ =>
      chk (okr h20 a0 9) <|
      bnd (f_X9_fails h20 a0 (iN 2)) fun h23 r24 =>
      some (h23, .inr r24)
    )
  ) else (
    chk (okr h8 a0 9) <|
    lt (putI h8 a0 6 (iN 0)) fun h26 =>
    bnd (f_X9_fails h26 a0 (iN 1)) fun h27 r28 =>
    some (h27, .inr r28)
  )
theorem p_X9_execute {l : Launch} {K : Ctx} (hl : l.stackTraces = false) {h : Hp} {a0 : Nat} {t : Rs Int32} (e : f_X9_execute h a0 = some t) : X l K mM_X9_execute (tgI t) 0 [(0, .ref a0)] [] h := by
  unfold f_X9_execute at e
  refine x_aload_n (pc := 0) 0 dX9_execute_0 rfl ?_
  refine x_iconst (pc := 1) dX9_execute_1 ?_
  obtain ⟨q1, e⟩ := chk_some e
  replace e := lt_go e
  refine x_putI (pc := 2) pf_X9_84 rfl rfl rfl dX9_execute_2 q1 ?_
  refine x_aload_n (pc := 5) 0 dX9_execute_5 rfl ?_
  refine x_iconst (pc := 6) dX9_execute_6 ?_
  replace e := lt_go e
  refine x_putI (pc := 7) pf_X9_22 rfl rfl rfl dX9_execute_7 (okr_pI q1) ?_
  refine x_aload_n (pc := 10) 0 dX9_execute_10 rfl ?_
  refine x_iconst (pc := 11) dX9_execute_11 ?_
  replace e := lt_go e
  refine x_putI (pc := 12) pf_X9_171 rfl (nar_z (Or.inl rfl)) (fit_z (Or.inl rfl)) dX9_execute_12 (okr_pI (okr_pI q1)) ?_
  refine x_aload_n (pc := 15) 0 dX9_execute_15 rfl ?_
  refine x_iconst (pc := 16) dX9_execute_16 ?_
  rcases bnd_some e with ⟨h5, r6, ec, rfl⟩ | ⟨h5, r6, ec, e⟩
  · exact y_callV_x (pc := 17) (c_X9_commands hl ec) (okr_pI (okr_pI (okr_pI q1))) mf_X9_commands tw_7_119 ts_7_2 lf_X9_252 rfl rfl dX9_execute_17 (by decide) rfl rfl (leb rfl) (xx_out0 rfl)
  refine y_callV_i (pc := 17) (c_X9_commands hl ec) (okr_pI (okr_pI (okr_pI q1))) mf_X9_commands tw_7_119 ts_7_2 lf_X9_252 rfl rfl dX9_execute_17 (by decide) rfl rfl (leb rfl) ?_
  refine x_istore_n (pc := 20) dX9_execute_20 (by decide) rfl ?_
  refine x_aload_n (pc := 21) 1 dX9_execute_21 rfl ?_
  obtain ⟨q7, e⟩ := chk_some e
  rcases bnd_some e with ⟨h8, r9, ec, rfl⟩ | ⟨h8, r9, ec, e⟩
  · exact y_callV_x (pc := 22) (c_X9_isOff hl ec) q7 mf_X9_isOff tw_7_123 ts_7_3 lf_X9_140 rfl rfl dX9_execute_22 (by decide) rfl rfl (leb rfl) (xx_out0 rfl)
  refine y_callV_i (pc := 22) (c_X9_isOff hl ec) q7 mf_X9_isOff tw_7_123 ts_7_3 lf_X9_140 rfl rfl dX9_execute_22 (by decide) rfl rfl (leb rfl) ?_
  rcases ite_some e with ⟨q10, e⟩ | ⟨q10, e⟩
  · refine x_if_eq_t (pc := 25) (t := 39) dX9_execute_25 (by decide) q10 ?_
    refine x_aload_n (pc := 39) 1 dX9_execute_39 rfl ?_
    obtain ⟨q11, e⟩ := chk_some e
    rcases bnd_some e with ⟨h12, r13, ec, rfl⟩ | ⟨h12, r13, ec, e⟩
    · exact y_callV_x (pc := 40) (c_X9_keeps hl ec) q11 mf_X9_keeps tw_7_219 ts_8_6 lf_X9_256 rfl rfl dX9_execute_40 (by decide) rfl rfl (leb rfl) (xx_out0 rfl)
    refine y_callV_v (pc := 40) (c_X9_keeps hl ec) q11 mf_X9_keeps tw_7_219 ts_8_6 lf_X9_256 rfl rfl dX9_execute_40 (by decide) rfl rfl (leb rfl) ?_
    refine x_aload_n (pc := 43) 1 dX9_execute_43 rfl ?_
    refine x_iconst (pc := 44) dX9_execute_44 ?_
    obtain ⟨q14, e⟩ := chk_some e
    rcases bnd_some e with ⟨h15, r16, ec, rfl⟩ | ⟨h15, r16, ec, e⟩
    · exact y_callV_x (pc := 45) (c_X9_commands hl ec) q14 mf_X9_commands tw_7_119 ts_7_2 lf_X9_252 rfl rfl dX9_execute_45 (by decide) rfl rfl (leb rfl) (xx_out0 rfl)
    refine y_callV_i (pc := 45) (c_X9_commands hl ec) q14 mf_X9_commands tw_7_119 ts_7_2 lf_X9_252 rfl rfl dX9_execute_45 (by decide) rfl rfl (leb rfl) ?_
    refine x_istore_n (pc := 48) dX9_execute_48 (by decide) rfl ?_
    refine x_aload_n (pc := 49) 1 dX9_execute_49 rfl ?_
    refine x_iconst (pc := 50) dX9_execute_50 ?_
    obtain ⟨q17, e⟩ := chk_some e
    replace e := lt_go e
    refine x_putI (pc := 51) pf_X9_134 rfl rfl rfl dX9_execute_51 q17 ?_
    refine x_aload_n (pc := 54) 1 dX9_execute_54 rfl ?_
    refine x_getI (pc := 55) gf_X9_171 rfl dX9_execute_55 (okr_pI q17) ?_
    rcases ite_some e with ⟨q19, e⟩ | ⟨q19, e⟩
    · refine x_if_eq_t (pc := 58) (t := 71) dX9_execute_58 (by decide) q19 ?_
      refine x_iload_n (pc := 71) 0 dX9_execute_71 rfl ?_
      cases Option.some.inj e
      exact x_iret (pc := 72) rfl dX9_execute_72
    · refine x_if_eq_f (pc := 58) (t := 71) dX9_execute_58 (by decide) q19 ?_
      refine x_aload_n (pc := 61) 1 dX9_execute_61 rfl ?_
      rcases bnd_some e with ⟨h20, r21, ec, rfl⟩ | ⟨h20, r21, ec, e⟩
      · exact y_callV_x (pc := 62) (c_X9_goesBack hl ec) (okr_pI q17) mf_X9_goesBack tw_7_223 ts_8_7 lf_X9_259 rfl rfl dX9_execute_62 (by decide) rfl rfl (leb rfl) (xx_out0 rfl)
      refine y_callV_v (pc := 62) (c_X9_goesBack hl ec) (okr_pI q17) mf_X9_goesBack tw_7_223 ts_8_7 lf_X9_259 rfl rfl dX9_execute_62 (by decide) rfl rfl (leb rfl) ?_
      refine x_aload_n (pc := 65) 1 dX9_execute_65 rfl ?_
      refine x_iconst (pc := 66) dX9_execute_66 ?_
      obtain ⟨q22, e⟩ := chk_some e
      rcases bnd_some e with ⟨h23, r24, ec, rfl⟩ | ⟨h23, r24, ec, e⟩
      · exact y_callV_x (pc := 67) (c_X9_fails hl ec) q22 mf_X9_fails tw_7_24 ts_6_7 lf_X9_95 rfl rfl dX9_execute_67 (by decide) rfl rfl (leb rfl) (xx_out0 rfl)
      refine y_callV_i (pc := 67) (c_X9_fails hl ec) q22 mf_X9_fails tw_7_24 ts_6_7 lf_X9_95 rfl rfl dX9_execute_67 (by decide) rfl rfl (leb rfl) ?_
      cases Option.some.inj e
      exact x_iret (pc := 70) rfl dX9_execute_70
  · refine x_if_eq_f (pc := 25) (t := 39) dX9_execute_25 (by decide) q10 ?_
    refine x_aload_n (pc := 28) 1 dX9_execute_28 rfl ?_
    refine x_iconst (pc := 29) dX9_execute_29 ?_
    obtain ⟨q25, e⟩ := chk_some e
    replace e := lt_go e
    refine x_putI (pc := 30) pf_X9_134 rfl rfl rfl dX9_execute_30 q25 ?_
    refine x_aload_n (pc := 33) 1 dX9_execute_33 rfl ?_
    refine x_iconst (pc := 34) dX9_execute_34 ?_
    rcases bnd_some e with ⟨h27, r28, ec, rfl⟩ | ⟨h27, r28, ec, e⟩
    · exact y_callV_x (pc := 35) (c_X9_fails hl ec) (okr_pI q25) mf_X9_fails tw_7_24 ts_6_7 lf_X9_95 rfl rfl dX9_execute_35 (by decide) rfl rfl (leb rfl) (xx_out0 rfl)
    refine y_callV_i (pc := 35) (c_X9_fails hl ec) (okr_pI q25) mf_X9_fails tw_7_24 ts_6_7 lf_X9_95 rfl rfl dX9_execute_35 (by decide) rfl rfl (leb rfl) ?_
    cases Option.some.inj e
    exact x_iret (pc := 38) rfl dX9_execute_38
abbrev w_X9_execute : Cond := (Cond.code yX9_execute cX9_execute 2 (Option.some Jvm.ClassFile.FieldType.int))
theorem mf_X9_execute : MF yX9_execute w_X9_execute cX9_execute 2 (Option.some Jvm.ClassFile.FieldType.int) 0 := ⟨⟨rfl, tw_7_116, by decide⟩, tw_1_11, ⟨by decide, by decide⟩, by decide +kernel⟩
theorem c_X9_execute {l : Launch} {K : Ctx} (hl : l.stackTraces = false) {h : Hp} {a0 : Nat} {t : Rs Int32} (e : f_X9_execute h a0 = some t) : Ctr l K 16 yX9_execute w_X9_execute [.ref a0] h (tgI t) :=
  Ctr.of hl mf_X9_execute false (fun q => nomatch q) rfl (leb rfl) (p_X9_execute hl e)
/-! ## TableColumnBalancer.errorPosition -/
abbrev mM_X8_errorPosition : Mi := (8, yX8_errorPosition.cls, cX8_errorPosition, 1, (Option.some Jvm.ClassFile.FieldType.int), [], false)
noncomputable def f_X8_errorPosition (h : Hp) (a0 : Nat) : Option (Rs Int32) :=
  chk (okr h a0 8) <|
  chk (okr h (qR h a0 8) 5) <|
  some (h, .inr (qI h (qR h a0 8) 4))
theorem p_X8_errorPosition {l : Launch} {K : Ctx} (hl : l.stackTraces = false) {h : Hp} {a0 : Nat} {t : Rs Int32} (e : f_X8_errorPosition h a0 = some t) : X l K mM_X8_errorPosition (tgI t) 0 [(0, .ref a0)] [] h := by
  unfold f_X8_errorPosition at e
  refine x_aload_n (pc := 0) 0 dX8_errorPosition_0 rfl ?_
  obtain ⟨q1, e⟩ := chk_some e
  obtain ⟨q2, e⟩ := chk_some e
  refine x_getR (pc := 1) gf_X8_49 rfl dX8_errorPosition_1 q1 q2.1 ?_
  refine x_getI (pc := 4) gf_X8_202 rfl dX8_errorPosition_4 q2 ?_
  cases Option.some.inj e
  exact x_iret (pc := 7) rfl dX8_errorPosition_7
abbrev w_X8_errorPosition : Cond := (Cond.code yX8_errorPosition cX8_errorPosition 1 (Option.some Jvm.ClassFile.FieldType.int))
theorem mf_X8_errorPosition : MF yX8_errorPosition w_X8_errorPosition cX8_errorPosition 1 (Option.some Jvm.ClassFile.FieldType.int) 0 := ⟨⟨rfl, tw_2_234, by decide⟩, tw_1_1, ⟨by decide, by decide⟩, by decide +kernel⟩
theorem c_X8_errorPosition {l : Launch} {K : Ctx} (hl : l.stackTraces = false) {h : Hp} {a0 : Nat} {t : Rs Int32} (e : f_X8_errorPosition h a0 = some t) : Ctr l K 8 yX8_errorPosition w_X8_errorPosition [.ref a0] h (tgI t) :=
  Ctr.of hl mf_X8_errorPosition false (fun q => nomatch q) rfl (leb rfl) (p_X8_errorPosition hl e)
/-! ## TableColumnBalancerModel.errorPosition -/
abbrev mM_X9_errorPosition : Mi := (8, yX9_errorPosition.cls, cX9_errorPosition, 1, (Option.some Jvm.ClassFile.FieldType.int), [], false)
noncomputable def f_X9_errorPosition (h : Hp) (a0 : Nat) : Option (Rs Int32) :=
  chk (okr h a0 9) <|
  lt (putI h a0 0 (iN 0)) fun h2 =>
  some (h2, .inr (qI h2 a0 7))
theorem p_X9_errorPosition {l : Launch} {K : Ctx} (hl : l.stackTraces = false) {h : Hp} {a0 : Nat} {t : Rs Int32} (e : f_X9_errorPosition h a0 = some t) : X l K mM_X9_errorPosition (tgI t) 0 [(0, .ref a0)] [] h := by
  unfold f_X9_errorPosition at e
  refine x_aload_n (pc := 0) 0 dX9_errorPosition_0 rfl ?_
  refine x_iconst (pc := 1) dX9_errorPosition_1 ?_
  obtain ⟨q1, e⟩ := chk_some e
  replace e := lt_go e
  refine x_putI (pc := 2) pf_X9_84 rfl rfl rfl dX9_errorPosition_2 q1 ?_
  refine x_aload_n (pc := 5) 0 dX9_errorPosition_5 rfl ?_
  refine x_getI (pc := 6) gf_X9_22 rfl dX9_errorPosition_6 (okr_pI q1) ?_
  cases Option.some.inj e
  exact x_iret (pc := 9) rfl dX9_errorPosition_9
abbrev w_X9_errorPosition : Cond := (Cond.code yX9_errorPosition cX9_errorPosition 1 (Option.some Jvm.ClassFile.FieldType.int))
theorem mf_X9_errorPosition : MF yX9_errorPosition w_X9_errorPosition cX9_errorPosition 1 (Option.some Jvm.ClassFile.FieldType.int) 0 := ⟨⟨rfl, tw_7_112, by decide⟩, tw_1_11, ⟨by decide, by decide⟩, by decide +kernel⟩
theorem c_X9_errorPosition {l : Launch} {K : Ctx} (hl : l.stackTraces = false) {h : Hp} {a0 : Nat} {t : Rs Int32} (e : f_X9_errorPosition h a0 = some t) : Ctr l K 8 yX9_errorPosition w_X9_errorPosition [.ref a0] h (tgI t) :=
  Ctr.of hl mf_X9_errorPosition false (fun q => nomatch q) rfl (leb rfl) (p_X9_errorPosition hl e)
/-! ## TableColumnBalancer.count -/
abbrev mM_X8_count : Mi := (9, yX8_count.cls, cX8_count, 2, (Option.some Jvm.ClassFile.FieldType.int), [], false)
noncomputable def f_X8_count (h : Hp) (a0 : Nat) (i1 : Int32) : Option (Rs Int32) :=
  bnd (f_X8_isWithin h i1 (iN 0) (iN 2)) fun h1 r2 =>
  bnd (f_X8_requireArgument h1 r2) fun h3 _ =>
  if i1 = 0 then (
    chk (okr h3 a0 8) <|
    chk (okr h3 (qR h3 a0 0) 7) <|
    some (h3, .inr (qI h3 (qR h3 a0 0) 3))
  ) else (
    if i1 = (iN 1) then (
      chk (okr h3 a0 8) <|
      chk (okr h3 (qR h3 a0 0) 7) <|
      some (h3, .inr (qI h3 (qR h3 a0 0) 4))
    ) else (
      chk (okr h3 a0 8) <|
      chk (okr h3 (qR h3 a0 0) 7) <|
      some (h3, .inr (qI h3 (qR h3 a0 0) 5))
    )
  )
theorem p_X8_count {l : Launch} {K : Ctx} (hl : l.stackTraces = false) {h : Hp} {a0 : Nat} {i1 : Int32} {t : Rs Int32} (e : f_X8_count h a0 i1 = some t) : X l K mM_X8_count (tgI t) 0 [(0, .ref a0), (1, .int i1)] [] h := by
  unfold f_X8_count at e
  refine x_iload_n (pc := 0) 1 dX8_count_0 rfl ?_
  refine x_iconst (pc := 1) dX8_count_1 ?_
  refine x_iconst (pc := 2) dX8_count_2 ?_
  rcases bnd_some e with ⟨h1, r2, ec, rfl⟩ | ⟨h1, r2, ec, e⟩
  · exact y_callS_x (pc := 3) (c_X8_isWithin hl ec) mf_X8_isWithin tw_3_26 lf_X8_72 dX8_count_3 (by decide) rfl rfl (leb rfl) (xx_out0 rfl)
  refine y_callS_i (pc := 3) (c_X8_isWithin hl ec) mf_X8_isWithin tw_3_26 lf_X8_72 dX8_count_3 (by decide) rfl rfl (leb rfl) ?_
  rcases bnd_some e with ⟨h3, r4, ec, rfl⟩ | ⟨h3, r4, ec, e⟩
  · exact y_callS_x (pc := 6) (c_X8_requireArgument hl ec) mf_X8_requireArgument tw_3_84 lf_X8_76 dX8_count_6 (by decide) rfl rfl (leb rfl) (xx_out0 rfl)
  refine y_callS_v (pc := 6) (c_X8_requireArgument hl ec) mf_X8_requireArgument tw_3_84 lf_X8_76 dX8_count_6 (by decide) rfl rfl (leb rfl) ?_
  refine x_iload_n (pc := 9) 1 dX8_count_9 rfl ?_
  rcases ite_some e with ⟨q5, e⟩ | ⟨q5, e⟩
  · refine x_if_ne_f (pc := 10) (t := 21) dX8_count_10 (by decide) q5 ?_
    refine x_aload_n (pc := 13) 0 dX8_count_13 rfl ?_
    obtain ⟨q6, e⟩ := chk_some e
    obtain ⟨q7, e⟩ := chk_some e
    refine x_getR (pc := 14) gf_X8_10 rfl dX8_count_14 q6 q7.1 ?_
    refine x_getI (pc := 17) gf_X8_87 rfl dX8_count_17 q7 ?_
    cases Option.some.inj e
    exact x_iret (pc := 20) rfl dX8_count_20
  · refine x_if_ne_t (pc := 10) (t := 21) dX8_count_10 (by decide) q5 ?_
    refine x_iload_n (pc := 21) 1 dX8_count_21 rfl ?_
    refine x_iconst (pc := 22) dX8_count_22 ?_
    rcases ite_some e with ⟨q8, e⟩ | ⟨q8, e⟩
    · refine x_icmp_ne_f (pc := 23) (t := 36) dX8_count_23 (by decide) q8 ?_
      refine x_aload_n (pc := 26) 0 dX8_count_26 rfl ?_
      obtain ⟨q9, e⟩ := chk_some e
      obtain ⟨q10, e⟩ := chk_some e
      refine x_getR (pc := 27) gf_X8_10 rfl dX8_count_27 q9 q10.1 ?_
      refine x_getI (pc := 30) gf_X8_121 rfl dX8_count_30 q10 ?_
      refine x_goto (pc := 33) (t := 43) dX8_count_33 (by decide) ?_
      cases Option.some.inj e
      exact x_iret (pc := 43) rfl dX8_count_43
    · refine x_icmp_ne_t (pc := 23) (t := 36) dX8_count_23 (by decide) q8 ?_
      refine x_aload_n (pc := 36) 0 dX8_count_36 rfl ?_
      obtain ⟨q11, e⟩ := chk_some e
      obtain ⟨q12, e⟩ := chk_some e
      refine x_getR (pc := 37) gf_X8_10 rfl dX8_count_37 q11 q12.1 ?_
      refine x_getI (pc := 40) gf_X8_80 rfl dX8_count_40 q12 ?_
      cases Option.some.inj e
      exact x_iret (pc := 43) rfl dX8_count_43
abbrev w_X8_count : Cond := (Cond.code yX8_count cX8_count 2 (Option.some Jvm.ClassFile.FieldType.int))
theorem mf_X8_count : MF yX8_count w_X8_count cX8_count 2 (Option.some Jvm.ClassFile.FieldType.int) 1 := ⟨⟨rfl, tw_5_83, by decide⟩, tw_1_1, ⟨by decide, by decide⟩, by decide +kernel⟩
theorem c_X8_count {l : Launch} {K : Ctx} (hl : l.stackTraces = false) {h : Hp} {a0 : Nat} {i1 : Int32} {t : Rs Int32} (e : f_X8_count h a0 i1 = some t) : Ctr l K 9 yX8_count w_X8_count [.ref a0, .int i1] h (tgI t) :=
  Ctr.of hl mf_X8_count false (fun q => nomatch q) rfl (leb rfl) (p_X8_count hl e)
/-! ## TableColumnBalancerLaw.count -/
abbrev mM_L_count : Mi := (10, yL_count.cls, cL_count, 4, (Option.some Jvm.ClassFile.FieldType.int), [((0 : Nat), (9 : Nat), (12 : Nat), (13 : Nat))], false)
noncomputable def f_L_count (h : Hp) (a0 : Nat) (i1 : Int32) (a2 : Nat) : Option (Rs Int32) :=
  chk (okr h a0 8) <|
  bndX (f_X8_count h a0 i1) (fun h2 r3 => (
    chk (okr h2 a2 21) <|
    chk (vp_in (iN 0) (qW h2 a2)) <|
    lt (putL h2 a2 (Int32.toNatClampNeg (iN 0)) (Int32.toInt64 r3)) fun h6 =>
    some (h6, .inr (iN 0))
  )) fun h2 k =>
  if k = 1 then (
    some (h2, .inr (iN 1))
  ) else
  none
theorem p_L_count {l : Launch} {K : Ctx} (hl : l.stackTraces = false) {h : Hp} {a0 : Nat} {i1 : Int32} {a2 : Nat} {t : Rs Int32} (e : f_L_count h a0 i1 a2 = some t) : X l K mM_L_count (tgI t) 0 [(0, .ref a0), (1, .int i1), (2, .ref a2)] [] h := by
  unfold f_L_count at e
  refine x_aload_n (pc := 0) 2 dL_count_0 rfl ?_
  refine x_iconst (pc := 1) dL_count_1 ?_
  refine x_aload_n (pc := 2) 0 dL_count_2 rfl ?_
  refine x_iload_n (pc := 3) 1 dL_count_3 rfl ?_
  obtain ⟨q1, e⟩ := chk_some e
  rcases bndX_some e with ⟨h2, k, ec, e⟩ | ⟨h2, r3, ec, e⟩
  · rcases ite_some e with ⟨q7, e⟩ | ⟨q7, e⟩
    · subst q7
      refine y_callV_x (pc := 4) (c_X8_count hl ec) q1 mf_X8_count tw_5_81 tw_5_82 lf_L_58 rfl rfl dL_count_4 (by decide) rfl rfl (leb rfl) (xx_catch (pc := 4) [] [] (0, 9, 12, 13) rfl (by decide) (fun _ hz => absurd hz List.not_mem_nil) (by decide) (by decide) tw_3_76 tw_3_88 dL_count_12 (by decide) rfl ?_)
      refine x_iconst (pc := 13) dL_count_13 ?_
      cases Option.some.inj e
      exact x_iret (pc := 14) rfl dL_count_14
    cases e
  refine y_callV_i (pc := 4) (c_X8_count hl ec) q1 mf_X8_count tw_5_81 tw_5_82 lf_L_58 rfl rfl dL_count_4 (by decide) rfl rfl (leb rfl) ?_
  refine x_i2l (pc := 7) dL_count_7 ?_
  obtain ⟨q4, e⟩ := chk_some e
  obtain ⟨q5, e⟩ := chk_some e
  replace e := lt_go e
  refine x_last (pc := 8) dL_count_8 q4 q5 ?_
  refine x_goto (pc := 9) (t := 15) dL_count_9 (by decide) ?_
  refine x_iconst (pc := 15) dL_count_15 ?_
  cases Option.some.inj e
  exact x_iret (pc := 16) rfl dL_count_16
abbrev w_L_count : Cond := (Cond.codeWith yL_count cL_count 4 (Option.some Jvm.ClassFile.FieldType.int) [((0 : Nat), (9 : Nat), (12 : Nat), (13 : Nat))])
theorem mf_L_count : MFX yL_count w_L_count cL_count 4 (Option.some Jvm.ClassFile.FieldType.int) 3 [((0 : Nat), (9 : Nat), (12 : Nat), (13 : Nat))] := ⟨⟨rfl, tw_5_79, by decide⟩, tw_1_0, ⟨by decide, by decide⟩, by decide +kernel⟩
theorem c_L_count {l : Launch} {K : Ctx} (hl : l.stackTraces = false) {h : Hp} {a0 : Nat} {i1 : Int32} {a2 : Nat} {t : Rs Int32} (e : f_L_count h a0 i1 a2 = some t) : Ctr l K 10 yL_count w_L_count [.ref a0, .int i1, .ref a2] h (tgI t) :=
  Ctr.ofX hl mf_L_count rfl (leb rfl) (p_L_count hl e)
