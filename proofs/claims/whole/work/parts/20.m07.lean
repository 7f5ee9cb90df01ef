/-! ===== the methods as functions, each with its proof: made by program (gen_fun.py) ===== -/
theorem ltb {a b : Nat} (h : Nat.ble (a + 1) b = true) : a < b := Nat.le_of_ble_eq_true h
/-! ## TableColumnBalancer.autoHeight -/
abbrev mM_X8_autoHeight : Mi := (14, yX8_autoHeight.cls, cX8_autoHeight, 1, (Option.some Jvm.ClassFile.FieldType.int), [], false)
noncomputable def f_X8_autoHeight (h : Hp) (a0 : Nat) : Option (Rs Int32) :=
  chk (okr h a0 8) <|
  chk (okr h (qR h a0 0) 7) <|
  bnd (f_X8_automaticWidths h a0) fun h3 r4 =>
  chk (okr h3 (qR h a0 0) 7) <|
  bnd (f_X7_heightOfAll h3 (qR h a0 0) r4) fun h6 r7 =>
  some (h6, .inr r7)
theorem p_X8_autoHeight {l : Launch} {K : Ctx} (hl : l.stackTraces = false) {h : Hp} {a0 : Nat} {t : Rs Int32} (e : f_X8_autoHeight h a0 = some t) : X l K mM_X8_autoHeight (tgI t) 0 [(0, .ref a0)] [] h := by
  unfold f_X8_autoHeight at e
  refine x_aload_n (pc := 0) 0 dX8_autoHeight_0 rfl ?_
  obtain ⟨q1, e⟩ := chk_some e
  obtain ⟨q2, e⟩ := chk_some e
  refine x_getR (pc := 1) gf_X8_10 rfl dX8_autoHeight_1 q1 q2.1 ?_
  refine x_aload_n (pc := 4) 0 dX8_autoHeight_4 rfl ?_
  rcases bnd_some e with ⟨h3, r4, ec, rfl⟩ | ⟨h3, r4, ec, e⟩
  · exact y_callV_x (pc := 5) (c_X8_automaticWidths hl ec) q1 mf_X8_automaticWidths tw_5_177 ts_5_11 lf_X8_259 rfl rfl dX8_autoHeight_5 (by decide) rfl rfl (leb rfl) (xx_out0 rfl)
  refine y_callV_i (pc := 5) (c_X8_automaticWidths hl ec) q1 mf_X8_automaticWidths tw_5_177 ts_5_11 lf_X8_259 rfl rfl dX8_autoHeight_5 (by decide) rfl rfl (leb rfl) ?_
  obtain ⟨q5, e⟩ := chk_some e
  rcases bnd_some e with ⟨h6, r7, ec, rfl⟩ | ⟨h6, r7, ec, e⟩
  · exact y_callV_x (pc := 8) (c_X7_heightOfAll hl ec) q5 mf_X7_heightOfAll tw_5_188 ts_5_12 lf_X8_263 rfl rfl dX8_autoHeight_8 (by decide) rfl rfl (leb rfl) (xx_out0 rfl)
  refine y_callV_i (pc := 8) (c_X7_heightOfAll hl ec) q5 mf_X7_heightOfAll tw_5_188 ts_5_12 lf_X8_263 rfl rfl dX8_autoHeight_8 (by decide) rfl rfl (leb rfl) ?_
  cases Option.some.inj e
  exact x_iret (pc := 11) rfl dX8_autoHeight_11
abbrev w_X8_autoHeight : Cond := (Cond.code yX8_autoHeight cX8_autoHeight 1 (Option.some Jvm.ClassFile.FieldType.int))
theorem mf_X8_autoHeight : MF yX8_autoHeight w_X8_autoHeight cX8_autoHeight 1 (Option.some Jvm.ClassFile.FieldType.int) 0 := ⟨⟨rfl, tw_5_185, by decide⟩, tw_1_1, ⟨by decide, by decide⟩, by decide +kernel⟩
theorem c_X8_autoHeight {l : Launch} {K : Ctx} (hl : l.stackTraces = false) {h : Hp} {a0 : Nat} {t : Rs Int32} (e : f_X8_autoHeight h a0 = some t) : Ctr l K 14 yX8_autoHeight w_X8_autoHeight [.ref a0] h (tgI t) :=
  Ctr.of hl mf_X8_autoHeight false (fun q => nomatch q) rfl (leb rfl) (p_X8_autoHeight hl e)
/-! ## TableColumnBalancerLaw.autoHeight -/
abbrev mM_L_autoHeight : Mi := (15, yL_autoHeight.cls, cL_autoHeight, 3, (Option.some Jvm.ClassFile.FieldType.int), [((0 : Nat), (8 : Nat), (11 : Nat), (15 : Nat))], false)
noncomputable def f_L_autoHeight (h : Hp) (a0 : Nat) (a1 : Nat) : Option (Rs Int32) :=
  chk (okr h a0 8) <|
  bndX (f_X8_autoHeight h a0) (fun h2 r3 => (
    chk (okr h2 a1 21) <|
    chk (vp_in (iN 0) (qW h2 a1)) <|
    lt (putL h2 a1 (Int32.toNatClampNeg (iN 0)) (Int32.toInt64 r3)) fun h6 =>
    some (h6, .inr (iN 0))
  )) fun h2 k =>
  if k = 0 then (
    some (h2, .inr (iN 1))
  ) else
  none
theorem p_L_autoHeight {l : Launch} {K : Ctx} (hl : l.stackTraces = false) {h : Hp} {a0 : Nat} {a1 : Nat} {t : Rs Int32} (e : f_L_autoHeight h a0 a1 = some t) : X l K mM_L_autoHeight (tgI t) 0 [(0, .ref a0), (1, .ref a1)] [] h := by
  unfold f_L_autoHeight at e
  refine x_aload_n (pc := 0) 1 dL_autoHeight_0 rfl ?_
  refine x_iconst (pc := 1) dL_autoHeight_1 ?_
  refine x_aload_n (pc := 2) 0 dL_autoHeight_2 rfl ?_
  obtain ⟨q1, e⟩ := chk_some e
  rcases bndX_some e with ⟨h2, k, ec, e⟩ | ⟨h2, r3, ec, e⟩
  · rcases ite_some e with ⟨q7, e⟩ | ⟨q7, e⟩
    · subst q7
      refine y_callV_x (pc := 3) (c_X8_autoHeight hl ec) q1 mf_X8_autoHeight tw_5_183 tw_5_184 lf_L_90 rfl rfl dL_autoHeight_3 (by decide) rfl rfl (leb rfl) (xx_catch (pc := 3) [] [] (0, 8, 11, 15) rfl (by decide) (fun _ hz => absurd hz List.not_mem_nil) (by decide) (by decide) tw_3_77 tw_3_159 dL_autoHeight_11 (by decide) rfl ?_)
      refine x_iconst (pc := 12) dL_autoHeight_12 ?_
      cases Option.some.inj e
      exact x_iret (pc := 13) rfl dL_autoHeight_13
    cases e
  refine y_callV_i (pc := 3) (c_X8_autoHeight hl ec) q1 mf_X8_autoHeight tw_5_183 tw_5_184 lf_L_90 rfl rfl dL_autoHeight_3 (by decide) rfl rfl (leb rfl) ?_
  refine x_i2l (pc := 6) dL_autoHeight_6 ?_
  obtain ⟨q4, e⟩ := chk_some e
  obtain ⟨q5, e⟩ := chk_some e
  replace e := lt_go e
  refine x_last (pc := 7) dL_autoHeight_7 q4 q5 ?_
  refine x_goto (pc := 8) (t := 14) dL_autoHeight_8 (by decide) ?_
  refine x_iconst (pc := 14) dL_autoHeight_14 ?_
  cases Option.some.inj e
  exact x_iret (pc := 15) rfl dL_autoHeight_15
abbrev w_L_autoHeight : Cond := (Cond.codeWith yL_autoHeight cL_autoHeight 3 (Option.some Jvm.ClassFile.FieldType.int) [((0 : Nat), (8 : Nat), (11 : Nat), (15 : Nat))])
theorem mf_L_autoHeight : MFX yL_autoHeight w_L_autoHeight cL_autoHeight 3 (Option.some Jvm.ClassFile.FieldType.int) 2 [((0 : Nat), (8 : Nat), (11 : Nat), (15 : Nat))] := ⟨⟨rfl, tw_5_181, by decide⟩, tw_1_0, ⟨by decide, by decide⟩, by decide +kernel⟩
theorem c_L_autoHeight {l : Launch} {K : Ctx} (hl : l.stackTraces = false) {h : Hp} {a0 : Nat} {a1 : Nat} {t : Rs Int32} (e : f_L_autoHeight h a0 a1 = some t) : Ctr l K 15 yL_autoHeight w_L_autoHeight [.ref a0, .ref a1] h (tgI t) :=
  Ctr.ofX hl mf_L_autoHeight rfl (leb rfl) (p_L_autoHeight hl e)
/-! ## TableColumnBalancerModel.widthOf -/
abbrev mM_X9_widthOf : Mi := (9, yX9_widthOf.cls, cX9_widthOf, 5, (Option.some Jvm.ClassFile.FieldType.int), [], false)
noncomputable def f_X9_widthOf_B24 (k24 : Hp → Nat → Int32 → Nat → Int32 → Int32 → Option (Rs Int32)) (h : Hp) (a0 : Nat) (i1 : Int32) (a2 : Nat) (i3 : Int32) (i4 : Int32) : Option (Rs Int32) :=
  chk (okr h a0 9) <|
  bnd (f_X9_of h a0 i1 (iN 1)) fun h2 r3 =>
  chk (okr h2 a0 9) <|
  bnd (f_X9_of h2 a0 i1 (iN 2)) fun h5 r6 =>
  if (r3 + r6) ≤ i4 then (
    some (h5, .inr i3)
  ) else (
    chk (okr h5 a2 20) <|
    chk (vp_in i4 (qW h5 a2)) <|
    k24 h5 a0 i1 a2 (i3 + (qI h5 a2 (Int32.toNatClampNeg i4))) (i4 + iN 1)
  )
theorem p_X9_widthOf_B24 {l : Launch} {K : Ctx} (hl : l.stackTraces = false) {k24 : Hp → Nat → Int32 → Nat → Int32 → Int32 → Option (Rs Int32)} (hk24 : ∀ (h : Hp) (a0 : Nat) (i1 : Int32) (a2 : Nat) (i3 : Int32) (i4 : Int32) (t : Rs Int32), k24 h a0 i1 a2 i3 i4 = some t → X l K mM_X9_widthOf (tgI t) 24 [(0, .ref a0), (1, .int i1), (2, .ref a2), (3, .int i3), (4, .int i4)] [] h) {h : Hp} {a0 : Nat} {i1 : Int32} {a2 : Nat} {i3 : Int32} {i4 : Int32} {t : Rs Int32} (e : f_X9_widthOf_B24 k24 h a0 i1 a2 i3 i4 = some t) : X l K mM_X9_widthOf (tgI t) 24 [(0, .ref a0), (1, .int i1), (2, .ref a2), (3, .int i3), (4, .int i4)] [] h := by
  unfold f_X9_widthOf_B24 at e
  refine x_iload (pc := 24) 4 dX9_widthOf_24 rfl ?_
  refine x_aload_n (pc := 26) 0 dX9_widthOf_26 rfl ?_
  refine x_iload_n (pc := 27) 1 dX9_widthOf_27 rfl ?_
  refine x_iconst (pc := 28) dX9_widthOf_28 ?_
  obtain ⟨q1, e⟩ := chk_some e
  rcases bnd_some e with ⟨h2, r3, ec, rfl⟩ | ⟨h2, r3, ec, e⟩
  · exact y_callV_x (pc := 29) (c_X9_of hl ec) q1 mf_X9_of tw_7_63 ts_6_12 lf_X9_91 rfl rfl dX9_widthOf_29 (by decide) rfl rfl (leb rfl) (xx_out0 rfl)
  refine y_callV_i (pc := 29) (c_X9_of hl ec) q1 mf_X9_of tw_7_63 ts_6_12 lf_X9_91 rfl rfl dX9_widthOf_29 (by decide) rfl rfl (leb rfl) ?_
  refine x_aload_n (pc := 32) 0 dX9_widthOf_32 rfl ?_
  refine x_iload_n (pc := 33) 1 dX9_widthOf_33 rfl ?_
  refine x_iconst (pc := 34) dX9_widthOf_34 ?_
  obtain ⟨q4, e⟩ := chk_some e
  rcases bnd_some e with ⟨h5, r6, ec, rfl⟩ | ⟨h5, r6, ec, e⟩
  · exact y_callV_x (pc := 35) (c_X9_of hl ec) q4 mf_X9_of tw_7_63 ts_6_12 lf_X9_91 rfl rfl dX9_widthOf_35 (by decide) rfl rfl (leb rfl) (xx_out0 rfl)
  refine y_callV_i (pc := 35) (c_X9_of hl ec) q4 mf_X9_of tw_7_63 ts_6_12 lf_X9_91 rfl rfl dX9_widthOf_35 (by decide) rfl rfl (leb rfl) ?_
  refine x_iadd (pc := 38) dX9_widthOf_38 ?_
  rcases ite_some e with ⟨q7, e⟩ | ⟨q7, e⟩
  · refine x_icmp_ge_t (pc := 39) (t := 55) dX9_widthOf_39 (by decide) q7 ?_
    refine x_iload_n (pc := 55) 3 dX9_widthOf_55 rfl ?_
    cases Option.some.inj e
    exact x_iret (pc := 56) rfl dX9_widthOf_56
  · refine x_icmp_ge_f (pc := 39) (t := 55) dX9_widthOf_39 (by decide) q7 ?_
    refine x_iload_n (pc := 42) 3 dX9_widthOf_42 rfl ?_
    refine x_aload_n (pc := 43) 2 dX9_widthOf_43 rfl ?_
    refine x_iload (pc := 44) 4 dX9_widthOf_44 rfl ?_
    obtain ⟨q8, e⟩ := chk_some e
    obtain ⟨q9, e⟩ := chk_some e
    refine x_iald (pc := 46) dX9_widthOf_46 q8 q9 ?_
    refine x_iadd (pc := 47) dX9_widthOf_47 ?_
    refine x_istore_n (pc := 48) dX9_widthOf_48 (by decide) rfl ?_
    refine x_iinc (pc := 49) 4 dX9_widthOf_49 rfl (by decide) rfl ?_
    refine x_goto (pc := 52) (t := 24) dX9_widthOf_52 (by decide) ?_
    exact x_sub1 (hk24 _ _ _ _ _ _ _ e) [2, 3, 4, 1, 0] rfl
noncomputable def f_X9_widthOf_L24 (n : Nat) : Hp → Nat → Int32 → Nat → Int32 → Int32 → Option (Rs Int32) := Nat.rec (motive := fun _ => Hp → Nat → Int32 → Nat → Int32 → Int32 → Option (Rs Int32)) (fun _ _ _ _ _ _ => none) (fun _ r => f_X9_widthOf_B24 r) n
theorem p_X9_widthOf_L24 {l : Launch} {K : Ctx} (hl : l.stackTraces = false) : ∀ (n : Nat) (h : Hp) (a0 : Nat) (i1 : Int32) (a2 : Nat) (i3 : Int32) (i4 : Int32) (t : Rs Int32) (e : f_X9_widthOf_L24 n h a0 i1 a2 i3 i4 = some t), X l K mM_X9_widthOf (tgI t) 24 [(0, .ref a0), (1, .int i1), (2, .ref a2), (3, .int i3), (4, .int i4)] [] h := by
  intro n
  induction n with
  | zero => exact fun _ _ _ _ _ _ _ e => nomatch (show (none : Option (Rs Int32)) = some _ from e)
  | succ n ih => exact fun h a0 i1 a2 i3 i4 t e => p_X9_widthOf_B24 hl (fun h a0 i1 a2 i3 i4 t e => ih h a0 i1 a2 i3 i4 t e) e
noncomputable def f_X9_widthOf (h : Hp) (a0 : Nat) (i1 : Int32) (a2 : Nat) : Option (Rs Int32) :=
  chk (okr h a0 9) <|
  chk (okr h (qR h a0 1) 20) <|
  chk (vp_in (iN 2) (qW h (qR h a0 1))) <|
  bnd (f_X9_of h a0 i1 (iN 2)) fun h4 r5 =>
  chk (okr h4 a0 9) <|
  bnd (f_X9_of h4 a0 i1 (iN 1)) fun h7 r8 =>
  f_X9_widthOf_L24 2000 h7 a0 i1 a2 ((qI h (qR h a0 1) (Int32.toNatClampNeg (iN 2))) * (r5 - (iN 1))) r8
theorem p_X9_widthOf {l : Launch} {K : Ctx} (hl : l.stackTraces = false) {h : Hp} {a0 : Nat} {i1 : Int32} {a2 : Nat} {t : Rs Int32} (e : f_X9_widthOf h a0 i1 a2 = some t) : X l K mM_X9_widthOf (tgI t) 0 [(0, .ref a0), (1, .int i1), (2, .ref a2)] [] h := by
  unfold f_X9_widthOf at e
  refine x_aload_n (pc := 0) 0 dX9_widthOf_0 rfl ?_
  obtain ⟨q1, e⟩ := chk_some e
  obtain ⟨q2, e⟩ := chk_some e
  refine x_getR (pc := 1) gf_X9_9 rfl dX9_widthOf_1 q1 q2.1 ?_
  refine x_iconst (pc := 4) dX9_widthOf_4 ?_
  obtain ⟨q3, e⟩ := chk_some e
  refine x_iald (pc := 5) dX9_widthOf_5 q2 q3 ?_
  refine x_aload_n (pc := 6) 0 dX9_widthOf_6 rfl ?_
  refine x_iload_n (pc := 7) 1 dX9_widthOf_7 rfl ?_
  refine x_iconst (pc := 8) dX9_widthOf_8 ?_
  rcases bnd_some e with ⟨h4, r5, ec, rfl⟩ | ⟨h4, r5, ec, e⟩
  · exact y_callV_x (pc := 9) (c_X9_of hl ec) q1 mf_X9_of tw_7_63 ts_6_12 lf_X9_91 rfl rfl dX9_widthOf_9 (by decide) rfl rfl (leb rfl) (xx_out0 rfl)
  refine y_callV_i (pc := 9) (c_X9_of hl ec) q1 mf_X9_of tw_7_63 ts_6_12 lf_X9_91 rfl rfl dX9_widthOf_9 (by decide) rfl rfl (leb rfl) ?_
  refine x_iconst (pc := 12) dX9_widthOf_12 ?_
  refine x_isub (pc := 13) dX9_widthOf_13 ?_
  refine x_imul (pc := 14) dX9_widthOf_14 ?_
  refine x_istore_n (pc := 15) dX9_widthOf_15 (by decide) rfl ?_
  refine x_aload_n (pc := 16) 1 dX9_widthOf_16 rfl ?_
  refine x_iload_n (pc := 17) 2 dX9_widthOf_17 rfl ?_
  refine x_iconst (pc := 18) dX9_widthOf_18 ?_
  obtain ⟨q6, e⟩ := chk_some e
  rcases bnd_some e with ⟨h7, r8, ec, rfl⟩ | ⟨h7, r8, ec, e⟩
  · exact y_callV_x (pc := 19) (c_X9_of hl ec) q6 mf_X9_of tw_7_63 ts_6_12 lf_X9_91 rfl rfl dX9_widthOf_19 (by decide) rfl rfl (leb rfl) (xx_out0 rfl)
  refine y_callV_i (pc := 19) (c_X9_of hl ec) q6 mf_X9_of tw_7_63 ts_6_12 lf_X9_91 rfl rfl dX9_widthOf_19 (by decide) rfl rfl (leb rfl) ?_
  refine x_istore (pc := 22) dX9_widthOf_22 (by decide) rfl ?_
  exact x_sub1 (p_X9_widthOf_L24 hl 2000 _ _ _ _ _ _ _ e) [2, 3, 4, 1, 0] rfl
abbrev w_X9_widthOf : Cond := (Cond.code yX9_widthOf cX9_widthOf 5 (Option.some Jvm.ClassFile.FieldType.int))
theorem mf_X9_widthOf : MF yX9_widthOf w_X9_widthOf cX9_widthOf 5 (Option.some Jvm.ClassFile.FieldType.int) 2 := ⟨⟨rfl, tw_8_139, by decide⟩, tw_1_11, ⟨by decide, by decide⟩, by decide +kernel⟩
theorem c_X9_widthOf {l : Launch} {K : Ctx} (hl : l.stackTraces = false) {h : Hp} {a0 : Nat} {i1 : Int32} {a2 : Nat} {t : Rs Int32} (e : f_X9_widthOf h a0 i1 a2 = some t) : Ctr l K 9 yX9_widthOf w_X9_widthOf [.ref a0, .int i1, .ref a2] h (tgI t) :=
  Ctr.of hl mf_X9_widthOf false (fun q => nomatch q) rfl (leb rfl) (p_X9_widthOf hl e)
/-! ## TableColumnBalancerModel.rowHigh -/
abbrev mM_X9_rowHigh : Mi := (13, yX9_rowHigh.cls, cX9_rowHigh, 5, (Option.some Jvm.ClassFile.FieldType.int), [], false)
noncomputable def f_X9_rowHigh_L48 (k5 : Hp → Nat → Int32 → Nat → Int32 → Int32 → Option (Rs Int32)) (h : Hp) (a0 : Nat) (i1 : Int32) (a2 : Nat) (i4 : Int32) (s0 : Int32) : Option (Rs Int32) :=
  k5 h a0 i1 a2 s0 (i4 + iN 1)
theorem p_X9_rowHigh_L48 {l : Launch} {K : Ctx} (hl : l.stackTraces = false) {k5 : Hp → Nat → Int32 → Nat → Int32 → Int32 → Option (Rs Int32)} (hk5 : ∀ (h : Hp) (a0 : Nat) (i1 : Int32) (a2 : Nat) (i3 : Int32) (i4 : Int32) (t : Rs Int32), k5 h a0 i1 a2 i3 i4 = some t → X l K mM_X9_rowHigh (tgI t) 5 [(0, .ref a0), (1, .int i1), (2, .ref a2), (3, .int i3), (4, .int i4)] [] h) {h : Hp} {a0 : Nat} {i1 : Int32} {a2 : Nat} {i4 : Int32} {s0 : Int32} {t : Rs Int32} (e : f_X9_rowHigh_L48 k5 h a0 i1 a2 i4 s0 = some t) : X l K mM_X9_rowHigh (tgI t) 48 [(0, .ref a0), (1, .int i1), (2, .ref a2), (4, .int i4)] [.int s0] h := by
  unfold f_X9_rowHigh_L48 at e
  refine x_istore_n (pc := 48) dX9_rowHigh_48 (by decide) rfl ?_
  refine x_iinc (pc := 49) 4 dX9_rowHigh_49 rfl (by decide) rfl ?_
  refine x_goto (pc := 52) (t := 5) dX9_rowHigh_52 (by decide) ?_
  exact x_sub1 (hk5 _ _ _ _ _ _ _ e) [2, 3, 4, 1, 0] rfl
noncomputable def f_X9_rowHigh_B5 (k5 : Hp → Nat → Int32 → Nat → Int32 → Int32 → Option (Rs Int32)) (h : Hp) (a0 : Nat) (i1 : Int32) (a2 : Nat) (i3 : Int32) (i4 : Int32) : Option (Rs Int32) :=
  chk (okr h a0 9) <|
  chk (okr h (qR h a0 1) 20) <|
  chk (vp_in (iN 5) (qW h (qR h a0 1))) <|
  if (qI h (qR h a0 1) (Int32.toNatClampNeg (iN 5))) ≤ i4 then (
    some (h, .inr i3)
  ) else (
    bnd (f_X9_of h a0 i4 (iN 0)) fun h5 r6 =>
    if r6 = i1 then (
      chk (okr h5 a0 9) <|
      bnd (f_X9_widthOf h5 a0 i4 a2) fun h9 r10 =>
      chk (okr h9 a0 9) <|
      bnd (f_X9_heightOf h9 a0 i4 r10) fun h12 r13 =>
      bnd (f_X9_greater h12 i3 r13) fun h14 r15 =>
      f_X9_rowHigh_L48 k5 h14 a0 i1 a2 i4 r15
    ) else (
      f_X9_rowHigh_L48 k5 h5 a0 i1 a2 i4 i3
    )
  )
theorem p_X9_rowHigh_B5 {l : Launch} {K : Ctx} (hl : l.stackTraces = false) {k5 : Hp → Nat → Int32 → Nat → Int32 → Int32 → Option (Rs Int32)} (hk5 : ∀ (h : Hp) (a0 : Nat) (i1 : Int32) (a2 : Nat) (i3 : Int32) (i4 : Int32) (t : Rs Int32), k5 h a0 i1 a2 i3 i4 = some t → X l K mM_X9_rowHigh (tgI t) 5 [(0, .ref a0), (1, .int i1), (2, .ref a2), (3, .int i3), (4, .int i4)] [] h) {h : Hp} {a0 : Nat} {i1 : Int32} {a2 : Nat} {i3 : Int32} {i4 : Int32} {t : Rs Int32} (e : f_X9_rowHigh_B5 k5 h a0 i1 a2 i3 i4 = some t) : X l K mM_X9_rowHigh (tgI t) 5 [(0, .ref a0), (1, .int i1), (2, .ref a2), (3, .int i3), (4, .int i4)] [] h := by
  unfold f_X9_rowHigh_B5 at e
  refine x_iload (pc := 5) 4 dX9_rowHigh_5 rfl ?_
  refine x_aload_n (pc := 7) 0 dX9_rowHigh_7 rfl ?_
  obtain ⟨q1, e⟩ := chk_some e
  obtain ⟨q2, e⟩ := chk_some e
  refine x_getR (pc := 8) gf_X9_9 rfl dX9_rowHigh_8 q1 q2.1 ?_
  refine x_iconst (pc := 11) dX9_rowHigh_11 ?_
  obtain ⟨q3, e⟩ := chk_some e
  refine x_iald (pc := 12) dX9_rowHigh_12 q2 q3 ?_
  rcases ite_some e with ⟨q4, e⟩ | ⟨q4, e⟩
  · refine x_icmp_ge_t (pc := 13) (t := 55) dX9_rowHigh_13 (by decide) q4 ?_
    refine x_iload_n (pc := 55) 3 dX9_rowHigh_55 rfl ?_
    cases Option.some.inj e
    exact x_iret (pc := 56) rfl dX9_rowHigh_56
  · refine x_icmp_ge_f (pc := 13) (t := 55) dX9_rowHigh_13 (by decide) q4 ?_
    refine x_aload_n (pc := 16) 0 dX9_rowHigh_16 rfl ?_
    refine x_iload (pc := 17) 4 dX9_rowHigh_17 rfl ?_
    refine x_iconst (pc := 19) dX9_rowHigh_19 ?_
    rcases bnd_some e with ⟨h5, r6, ec, rfl⟩ | ⟨h5, r6, ec, e⟩
    · exact y_callV_x (pc := 20) (c_X9_of hl ec) q1 mf_X9_of tw_7_63 ts_6_12 lf_X9_91 rfl rfl dX9_rowHigh_20 (by decide) rfl rfl (leb rfl) (xx_out0 rfl)
    refine y_callV_i (pc := 20) (c_X9_of hl ec) q1 mf_X9_of tw_7_63 ts_6_12 lf_X9_91 rfl rfl dX9_rowHigh_20 (by decide) rfl rfl (leb rfl) ?_
    refine x_iload_n (pc := 23) 1 dX9_rowHigh_23 rfl ?_
    rcases ite_some e with ⟨q7, e⟩ | ⟨q7, e⟩
    · refine x_icmp_ne_f (pc := 24) (t := 47) dX9_rowHigh_24 (by decide) q7 ?_
      refine x_iload_n (pc := 27) 3 dX9_rowHigh_27 rfl ?_
      refine x_aload_n (pc := 28) 0 dX9_rowHigh_28 rfl ?_
      refine x_iload (pc := 29) 4 dX9_rowHigh_29 rfl ?_
      refine x_aload_n (pc := 31) 0 dX9_rowHigh_31 rfl ?_
      refine x_iload (pc := 32) 4 dX9_rowHigh_32 rfl ?_
      refine x_aload_n (pc := 34) 2 dX9_rowHigh_34 rfl ?_
      obtain ⟨q8, e⟩ := chk_some e
      rcases bnd_some e with ⟨h9, r10, ec, rfl⟩ | ⟨h9, r10, ec, e⟩
      · exact y_callV_x (pc := 35) (c_X9_widthOf hl ec) q8 mf_X9_widthOf tw_8_138 ts_10_1 lf_X9_341 rfl rfl dX9_rowHigh_35 (by decide) rfl rfl (leb rfl) (xx_out0 rfl)
      refine y_callV_i (pc := 35) (c_X9_widthOf hl ec) q8 mf_X9_widthOf tw_8_138 ts_10_1 lf_X9_341 rfl rfl dX9_rowHigh_35 (by decide) rfl rfl (leb rfl) ?_
      obtain ⟨q11, e⟩ := chk_some e
      rcases bnd_some e with ⟨h12, r13, ec, rfl⟩ | ⟨h12, r13, ec, e⟩
      · exact y_callV_x (pc := 38) (c_X9_heightOf hl ec) q11 mf_X9_heightOf tw_8_46 ts_9_0 lf_X9_299 rfl rfl dX9_rowHigh_38 (by decide) rfl rfl (leb rfl) (xx_out0 rfl)
      refine y_callV_i (pc := 38) (c_X9_heightOf hl ec) q11 mf_X9_heightOf tw_8_46 ts_9_0 lf_X9_299 rfl rfl dX9_rowHigh_38 (by decide) rfl rfl (leb rfl) ?_
      rcases bnd_some e with ⟨h14, r15, ec, rfl⟩ | ⟨h14, r15, ec, e⟩
      · exact y_callS_x (pc := 41) (c_X9_greater hl ec) mf_X9_greater tw_8_10 lf_X9_277 dX9_rowHigh_41 (by decide) rfl rfl (leb rfl) (xx_out0 rfl)
      refine y_callS_i (pc := 41) (c_X9_greater hl ec) mf_X9_greater tw_8_10 lf_X9_277 dX9_rowHigh_41 (by decide) rfl rfl (leb rfl) ?_
      refine x_goto (pc := 44) (t := 48) dX9_rowHigh_44 (by decide) ?_
      exact x_sub1 (p_X9_rowHigh_L48 hl hk5 e) [0, 1, 2, 4] rfl
    · refine x_icmp_ne_t (pc := 24) (t := 47) dX9_rowHigh_24 (by decide) q7 ?_
      refine x_iload_n (pc := 47) 3 dX9_rowHigh_47 rfl ?_
      exact x_sub1 (p_X9_rowHigh_L48 hl hk5 e) [0, 1, 2, 4] rfl
noncomputable def f_X9_rowHigh_L5 (n : Nat) : Hp → Nat → Int32 → Nat → Int32 → Int32 → Option (Rs Int32) := Nat.rec (motive := fun _ => Hp → Nat → Int32 → Nat → Int32 → Int32 → Option (Rs Int32)) (fun _ _ _ _ _ _ => none) (fun _ r => f_X9_rowHigh_B5 r) n
theorem p_X9_rowHigh_L5 {l : Launch} {K : Ctx} (hl : l.stackTraces = false) : ∀ (n : Nat) (h : Hp) (a0 : Nat) (i1 : Int32) (a2 : Nat) (i3 : Int32) (i4 : Int32) (t : Rs Int32) (e : f_X9_rowHigh_L5 n h a0 i1 a2 i3 i4 = some t), X l K mM_X9_rowHigh (tgI t) 5 [(0, .ref a0), (1, .int i1), (2, .ref a2), (3, .int i3), (4, .int i4)] [] h := by
  intro n
  induction n with
  | zero => exact fun _ _ _ _ _ _ _ e => nomatch (show (none : Option (Rs Int32)) = some _ from e)
  | succ n ih => exact fun h a0 i1 a2 i3 i4 t e => p_X9_rowHigh_B5 hl (fun h a0 i1 a2 i3 i4 t e => ih h a0 i1 a2 i3 i4 t e) e
noncomputable def f_X9_rowHigh (h : Hp) (a0 : Nat) (i1 : Int32) (a2 : Nat) : Option (Rs Int32) :=
  f_X9_rowHigh_L5 2000 h a0 i1 a2 (iN 0) (iN 0)
theorem p_X9_rowHigh {l : Launch} {K : Ctx} (hl : l.stackTraces = false) {h : Hp} {a0 : Nat} {i1 : Int32} {a2 : Nat} {t : Rs Int32} (e : f_X9_rowHigh h a0 i1 a2 = some t) : X l K mM_X9_rowHigh (tgI t) 0 [(0, .ref a0), (1, .int i1), (2, .ref a2)] [] h := by
  unfold f_X9_rowHigh at e
  refine x_iconst (pc := 0) dX9_rowHigh_0 ?_
  refine x_istore_n (pc := 1) dX9_rowHigh_1 (by decide) rfl ?_
  refine x_iconst (pc := 2) dX9_rowHigh_2 ?_
  refine x_istore (pc := 3) dX9_rowHigh_3 (by decide) rfl ?_
  exact x_sub1 (p_X9_rowHigh_L5 hl 2000 _ _ _ _ _ _ _ e) [2, 3, 4, 1, 0] rfl
abbrev w_X9_rowHigh : Cond := (Cond.code yX9_rowHigh cX9_rowHigh 5 (Option.some Jvm.ClassFile.FieldType.int))
theorem mf_X9_rowHigh : MF yX9_rowHigh w_X9_rowHigh cX9_rowHigh 5 (Option.some Jvm.ClassFile.FieldType.int) 2 := ⟨⟨rfl, tw_8_135, by decide⟩, tw_1_11, ⟨by decide, by decide⟩, by decide +kernel⟩
theorem c_X9_rowHigh {l : Launch} {K : Ctx} (hl : l.stackTraces = false) {h : Hp} {a0 : Nat} {i1 : Int32} {a2 : Nat} {t : Rs Int32} (e : f_X9_rowHigh h a0 i1 a2 = some t) : Ctr l K 13 yX9_rowHigh w_X9_rowHigh [.ref a0, .int i1, .ref a2] h (tgI t) :=
  Ctr.of hl mf_X9_rowHigh false (fun q => nomatch q) rfl (leb rfl) (p_X9_rowHigh hl e)
/-! ## TableColumnBalancerModel.tableHigh -/
abbrev mM_X9_tableHigh : Mi := (14, yX9_tableHigh.cls, cX9_tableHigh, 4, (Option.some Jvm.ClassFile.FieldType.int), [], false)
noncomputable def f_X9_tableHigh_B18 (k18 : Hp → Nat → Nat → Int32 → Int32 → Option (Rs Int32)) (h : Hp) (a0 : Nat) (a1 : Nat) (i2 : Int32) (i3 : Int32) : Option (Rs Int32) :=
  chk (okr h a0 9) <|
  chk (okr h (qR h a0 1) 20) <|
  chk (vp_in (iN 4) (qW h (qR h a0 1))) <|
  if (qI h (qR h a0 1) (Int32.toNatClampNeg (iN 4))) ≤ i3 then (
    some (h, .inr i2)
  ) else (
    bnd (f_X9_rowHigh h a0 i3 a1) fun h5 r6 =>
    k18 h5 a0 a1 (i2 + r6) (i3 + iN 1)
  )
theorem p_X9_tableHigh_B18 {l : Launch} {K : Ctx} (hl : l.stackTraces = false) {k18 : Hp → Nat → Nat → Int32 → Int32 → Option (Rs Int32)} (hk18 : ∀ (h : Hp) (a0 : Nat) (a1 : Nat) (i2 : Int32) (i3 : Int32) (t : Rs Int32), k18 h a0 a1 i2 i3 = some t → X l K mM_X9_tableHigh (tgI t) 18 [(0, .ref a0), (1, .ref a1), (2, .int i2), (3, .int i3)] [] h) {h : Hp} {a0 : Nat} {a1 : Nat} {i2 : Int32} {i3 : Int32} {t : Rs Int32} (e : f_X9_tableHigh_B18 k18 h a0 a1 i2 i3 = some t) : X l K mM_X9_tableHigh (tgI t) 18 [(0, .ref a0), (1, .ref a1), (2, .int i2), (3, .int i3)] [] h := by
  unfold f_X9_tableHigh_B18 at e
  refine x_iload_n (pc := 18) 3 dX9_tableHigh_18 rfl ?_
  refine x_aload_n (pc := 19) 0 dX9_tableHigh_19 rfl ?_
  obtain ⟨q1, e⟩ := chk_some e
  obtain ⟨q2, e⟩ := chk_some e
  refine x_getR (pc := 20) gf_X9_9 rfl dX9_tableHigh_20 q1 q2.1 ?_
  refine x_iconst (pc := 23) dX9_tableHigh_23 ?_
  obtain ⟨q3, e⟩ := chk_some e
  refine x_iald (pc := 24) dX9_tableHigh_24 q2 q3 ?_
  rcases ite_some e with ⟨q4, e⟩ | ⟨q4, e⟩
  · refine x_icmp_ge_t (pc := 25) (t := 43) dX9_tableHigh_25 (by decide) q4 ?_
    refine x_iload_n (pc := 43) 2 dX9_tableHigh_43 rfl ?_
    cases Option.some.inj e
    exact x_iret (pc := 44) rfl dX9_tableHigh_44
  · refine x_icmp_ge_f (pc := 25) (t := 43) dX9_tableHigh_25 (by decide) q4 ?_
    refine x_iload_n (pc := 28) 2 dX9_tableHigh_28 rfl ?_
    refine x_aload_n (pc := 29) 0 dX9_tableHigh_29 rfl ?_
    refine x_iload_n (pc := 30) 3 dX9_tableHigh_30 rfl ?_
    refine x_aload_n (pc := 31) 1 dX9_tableHigh_31 rfl ?_
    rcases bnd_some e with ⟨h5, r6, ec, rfl⟩ | ⟨h5, r6, ec, e⟩
    · exact y_callV_x (pc := 32) (c_X9_rowHigh hl ec) q1 mf_X9_rowHigh tw_8_134 ts_10_0 lf_X9_345 rfl rfl dX9_tableHigh_32 (by decide) rfl rfl (leb rfl) (xx_out0 rfl)
    refine y_callV_i (pc := 32) (c_X9_rowHigh hl ec) q1 mf_X9_rowHigh tw_8_134 ts_10_0 lf_X9_345 rfl rfl dX9_tableHigh_32 (by decide) rfl rfl (leb rfl) ?_
    refine x_iadd (pc := 35) dX9_tableHigh_35 ?_
    refine x_istore_n (pc := 36) dX9_tableHigh_36 (by decide) rfl ?_
    refine x_iinc (pc := 37) 3 dX9_tableHigh_37 rfl (by decide) rfl ?_
    refine x_goto (pc := 40) (t := 18) dX9_tableHigh_40 (by decide) ?_
    exact x_sub1 (hk18 _ _ _ _ _ _ e) [2, 3, 1, 0] rfl
noncomputable def f_X9_tableHigh_L18 (n : Nat) : Hp → Nat → Nat → Int32 → Int32 → Option (Rs Int32) := Nat.rec (motive := fun _ => Hp → Nat → Nat → Int32 → Int32 → Option (Rs Int32)) (fun _ _ _ _ _ => none) (fun _ r => f_X9_tableHigh_B18 r) n
theorem p_X9_tableHigh_L18 {l : Launch} {K : Ctx} (hl : l.stackTraces = false) : ∀ (n : Nat) (h : Hp) (a0 : Nat) (a1 : Nat) (i2 : Int32) (i3 : Int32) (t : Rs Int32) (e : f_X9_tableHigh_L18 n h a0 a1 i2 i3 = some t), X l K mM_X9_tableHigh (tgI t) 18 [(0, .ref a0), (1, .ref a1), (2, .int i2), (3, .int i3)] [] h := by
  intro n
  induction n with
  | zero => exact fun _ _ _ _ _ _ e => nomatch (show (none : Option (Rs Int32)) = some _ from e)
  | succ n ih => exact fun h a0 a1 i2 i3 t e => p_X9_tableHigh_B18 hl (fun h a0 a1 i2 i3 t e => ih h a0 a1 i2 i3 t e) e
noncomputable def f_X9_tableHigh (h : Hp) (a0 : Nat) (a1 : Nat) : Option (Rs Int32) :=
  chk (okr h a0 9) <|
  chk (okr h (qR h a0 1) 20) <|
  chk (vp_in (iN 2) (qW h (qR h a0 1))) <|
  chk (vp_in (iN 4) (qW h (qR h a0 1))) <|
  f_X9_tableHigh_L18 2000 h a0 a1 ((qI h (qR h a0 1) (Int32.toNatClampNeg (iN 2))) * ((qI h (qR h a0 1) (Int32.toNatClampNeg (iN 4))) + (iN 1))) (iN 0)
theorem p_X9_tableHigh {l : Launch} {K : Ctx} (hl : l.stackTraces = false) {h : Hp} {a0 : Nat} {a1 : Nat} {t : Rs Int32} (e : f_X9_tableHigh h a0 a1 = some t) : X l K mM_X9_tableHigh (tgI t) 0 [(0, .ref a0), (1, .ref a1)] [] h := by
  unfold f_X9_tableHigh at e
  refine x_aload_n (pc := 0) 0 dX9_tableHigh_0 rfl ?_
  obtain ⟨q1, e⟩ := chk_some e
  obtain ⟨q2, e⟩ := chk_some e
  refine x_getR (pc := 1) gf_X9_9 rfl dX9_tableHigh_1 q1 q2.1 ?_
  refine x_iconst (pc := 4) dX9_tableHigh_4 ?_
  obtain ⟨q3, e⟩ := chk_some e
  refine x_iald (pc := 5) dX9_tableHigh_5 q2 q3 ?_
  refine x_aload_n (pc := 6) 0 dX9_tableHigh_6 rfl ?_
  refine x_getR (pc := 7) gf_X9_9 rfl dX9_tableHigh_7 q1 q2.1 ?_
  refine x_iconst (pc := 10) dX9_tableHigh_10 ?_
  obtain ⟨q4, e⟩ := chk_some e
  refine x_iald (pc := 11) dX9_tableHigh_11 q2 q4 ?_
  refine x_iconst (pc := 12) dX9_tableHigh_12 ?_
  refine x_iadd (pc := 13) dX9_tableHigh_13 ?_
  refine x_imul (pc := 14) dX9_tableHigh_14 ?_
  refine x_istore_n (pc := 15) dX9_tableHigh_15 (by decide) rfl ?_
  refine x_iconst (pc := 16) dX9_tableHigh_16 ?_
  refine x_istore_n (pc := 17) dX9_tableHigh_17 (by decide) rfl ?_
  exact x_sub1 (p_X9_tableHigh_L18 hl 2000 _ _ _ _ _ _ e) [2, 3, 1, 0] rfl
abbrev w_X9_tableHigh : Cond := (Cond.code yX9_tableHigh cX9_tableHigh 4 (Option.some Jvm.ClassFile.FieldType.int))
theorem mf_X9_tableHigh : MF yX9_tableHigh w_X9_tableHigh cX9_tableHigh 4 (Option.some Jvm.ClassFile.FieldType.int) 1 := ⟨⟨rfl, tw_8_131, by decide⟩, tw_1_11, ⟨by decide, by decide⟩, by decide +kernel⟩
theorem c_X9_tableHigh {l : Launch} {K : Ctx} (hl : l.stackTraces = false) {h : Hp} {a0 : Nat} {a1 : Nat} {t : Rs Int32} (e : f_X9_tableHigh h a0 a1 = some t) : Ctr l K 14 yX9_tableHigh w_X9_tableHigh [.ref a0, .ref a1] h (tgI t) :=
  Ctr.of hl mf_X9_tableHigh false (fun q => nomatch q) rfl (leb rfl) (p_X9_tableHigh hl e)
/-! ## TableColumnBalancerModel.autoHeight -/
abbrev mM_X9_autoHeight : Mi := (16, yX9_autoHeight.cls, cX9_autoHeight, 1, (Option.some Jvm.ClassFile.FieldType.int), [], false)
noncomputable def f_X9_autoHeight (h : Hp) (a0 : Nat) : Option (Rs Int32) :=
  chk (okr h a0 9) <|
  lt (putI h a0 0 (iN 0)) fun h2 =>
  bnd (f_X9_laysOut h2 a0) fun h3 r4 =>
  if r4 = 0 then (
    chk (okr h3 a0 9) <|
    bnd (f_X9_fails h3 a0 (iN 1)) fun h7 r8 =>
    some (h7, .inr r8)
  ) else (
    chk (okr h3 a0 9) <|
    chk (okr h3 (qR h3 a0 27) 20) <|
    bnd (f_X9_tableHigh h3 a0 (qR h3 a0 27)) fun h11 r12 =>
    some (h11, .inr r12)
  )
theorem p_X9_autoHeight {l : Launch} {K : Ctx} (hl : l.stackTraces = false) {h : Hp} {a0 : Nat} {t : Rs Int32} (e : f_X9_autoHeight h a0 = some t) : X l K mM_X9_autoHeight (tgI t) 0 [(0, .ref a0)] [] h := by
  unfold f_X9_autoHeight at e
  refine x_aload_n (pc := 0) 0 dX9_autoHeight_0 rfl ?_
  refine x_iconst (pc := 1) dX9_autoHeight_1 ?_
  obtain ⟨q1, e⟩ := chk_some e
  replace e := lt_go e
  refine x_putI (pc := 2) pf_X9_84 rfl rfl rfl dX9_autoHeight_2 q1 ?_
  refine x_aload_n (pc := 5) 0 dX9_autoHeight_5 rfl ?_
  rcases bnd_some e with ⟨h3, r4, ec, rfl⟩ | ⟨h3, r4, ec, e⟩
  · exact y_callV_x (pc := 6) (c_X9_laysOut hl ec) (okr_pI q1) mf_X9_laysOut tw_8_118 ts_9_13 lf_X9_338 rfl rfl dX9_autoHeight_6 (by decide) rfl rfl (leb rfl) (xx_out0 rfl)
  refine y_callV_i (pc := 6) (c_X9_laysOut hl ec) (okr_pI q1) mf_X9_laysOut tw_8_118 ts_9_13 lf_X9_338 rfl rfl dX9_autoHeight_6 (by decide) rfl rfl (leb rfl) ?_
  rcases ite_some e with ⟨q5, e⟩ | ⟨q5, e⟩
  · refine x_if_eq_t (pc := 9) (t := 23) dX9_autoHeight_9 (by decide) q5 ?_
    refine x_aload_n (pc := 23) 0 dX9_autoHeight_23 rfl ?_
    refine x_iconst (pc := 24) dX9_autoHeight_24 ?_
    obtain ⟨q6, e⟩ := chk_some e
    rcases bnd_some e with ⟨h7, r8, ec, rfl⟩ | ⟨h7, r8, ec, e⟩
    · exact y_callV_x (pc := 25) (c_X9_fails hl ec) q6 mf_X9_fails tw_7_24 ts_6_7 lf_X9_95 rfl rfl dX9_autoHeight_25 (by decide) rfl rfl (leb rfl) (xx_out0 rfl)
    refine y_callV_i (pc := 25) (c_X9_fails hl ec) q6 mf_X9_fails tw_7_24 ts_6_7 lf_X9_95 rfl rfl dX9_autoHeight_25 (by decide) rfl rfl (leb rfl) ?_
    cases Option.some.inj e
    exact x_iret (pc := 28) rfl dX9_autoHeight_28
  · refine x_if_eq_f (pc := 9) (t := 23) dX9_autoHeight_9 (by decide) q5 ?_
    refine x_aload_n (pc := 12) 0 dX9_autoHeight_12 rfl ?_
    refine x_aload_n (pc := 13) 0 dX9_autoHeight_13 rfl ?_
    obtain ⟨q9, e⟩ := chk_some e
    obtain ⟨q10, e⟩ := chk_some e
    refine x_getR (pc := 14) gf_X9_66 rfl dX9_autoHeight_14 q9 q10.1 ?_
    rcases bnd_some e with ⟨h11, r12, ec, rfl⟩ | ⟨h11, r12, ec, e⟩
    · exact y_callV_x (pc := 17) (c_X9_tableHigh hl ec) q9 mf_X9_tableHigh tw_8_130 ts_9_15 lf_X9_348 rfl rfl dX9_autoHeight_17 (by decide) rfl rfl (leb rfl) (xx_out0 rfl)
    refine y_callV_i (pc := 17) (c_X9_tableHigh hl ec) q9 mf_X9_tableHigh tw_8_130 ts_9_15 lf_X9_348 rfl rfl dX9_autoHeight_17 (by decide) rfl rfl (leb rfl) ?_
    refine x_goto (pc := 20) (t := 28) dX9_autoHeight_20 (by decide) ?_
    cases Option.some.inj e
    exact x_iret (pc := 28) rfl dX9_autoHeight_28
abbrev w_X9_autoHeight : Cond := (Cond.code yX9_autoHeight cX9_autoHeight 1 (Option.some Jvm.ClassFile.FieldType.int))
theorem mf_X9_autoHeight : MF yX9_autoHeight w_X9_autoHeight cX9_autoHeight 1 (Option.some Jvm.ClassFile.FieldType.int) 0 := ⟨⟨rfl, tw_8_127, by decide⟩, tw_1_11, ⟨by decide, by decide⟩, by decide +kernel⟩
theorem c_X9_autoHeight {l : Launch} {K : Ctx} (hl : l.stackTraces = false) {h : Hp} {a0 : Nat} {t : Rs Int32} (e : f_X9_autoHeight h a0 = some t) : Ctr l K 16 yX9_autoHeight w_X9_autoHeight [.ref a0] h (tgI t) :=
  Ctr.of hl mf_X9_autoHeight false (fun q => nomatch q) rfl (leb rfl) (p_X9_autoHeight hl e)
/-! ## TableColumnBalancer$Search.boundRows -/
abbrev mM_X6_boundRows : Mi := (11, yX6_boundRows.cls, cX6_boundRows, 6, (Option.none : Option Jvm.ClassFile.FieldType), [], false)
noncomputable def f_X6_boundRows_B12 (k12 : Hp → Nat → Int32 → Int32 → Option (Rs Unit)) (h : Hp) (a0 : Nat) (i1 : Int32) (i2 : Int32) : Option (Rs Unit) :=
  chk (okr h a0 6) <|
  chk (okr h (qR h a0 0) 7) <|
  if (qI h (qR h a0 0) 5) ≤ i2 then (
    some (h, .inr ())
  ) else (
    chk (okr h (qR h (qR h a0 0) 8) 25) <|
    chk (vp_in i2 (qW h (qR h (qR h a0 0) 8))) <|
    chk (okr h (qR h (qR h (qR h a0 0) 8) (Int32.toNatClampNeg i2)) 1) <|
    chk (okr h (qR h a0 4) 20) <|
    bnd (f_X7_widthIn h (qR h a0 0) (qR h (qR h (qR h a0 0) 8) (Int32.toNatClampNeg i2)) (qR h a0 4)) fun h8 r9 =>
    chk (okr h8 a0 6) <|
    chk (okr h8 (qR h8 a0 0) 7) <|
    bnd (f_X7_heightWithin h8 (qR h8 a0 0) (qR h (qR h (qR h a0 0) 8) (Int32.toNatClampNeg i2)) r9) fun h12 r13 =>
    chk (okr h12 a0 6) <|
    chk (okr h12 (qR h12 a0 0) 7) <|
    bnd (f_X7_heightWithin h12 (qR h12 a0 0) (qR h (qR h (qR h a0 0) 8) (Int32.toNatClampNeg i2)) (r9 + i1)) fun h16 r17 =>
    chk (okr h16 a0 6) <|
    chk (okr h16 (qR h16 a0 7) 24) <|
    chk (vp_in (iN 0) (qW h16 (qR h16 a0 7))) <|
    chk (okr h16 (qR h16 (qR h16 a0 7) (Int32.toNatClampNeg (iN 0))) 20) <|
    chk (okr h16 (qR h (qR h (qR h a0 0) 8) (Int32.toNatClampNeg i2)) 1) <|
    chk (vp_in (qI h16 (qR h (qR h (qR h a0 0) 8) (Int32.toNatClampNeg i2)) 0) (qW h16 (qR h16 (qR h16 a0 7) (Int32.toNatClampNeg (iN 0))))) <|
    lt (putI h16 (qR h16 (qR h16 a0 7) (Int32.toNatClampNeg (iN 0))) (Int32.toNatClampNeg (qI h16 (qR h (qR h (qR h a0 0) 8) (Int32.toNatClampNeg i2)) 0)) (jmax (qI h16 (qR h16 (qR h16 a0 7) (Int32.toNatClampNeg (iN 0))) (Int32.toNatClampNeg (qI h16 (qR h (qR h (qR h a0 0) 8) (Int32.toNatClampNeg i2)) 0))) (jmin r13 r17))) fun h24 =>
    k12 h24 a0 i1 (i2 + iN 1)
  )
theorem p_X6_boundRows_B12 {l : Launch} {K : Ctx} (hl : l.stackTraces = false) {k12 : Hp → Nat → Int32 → Int32 → Option (Rs Unit)} (hk12 : ∀ (h : Hp) (a0 : Nat) (i1 : Int32) (i2 : Int32) (t : Rs Unit), k12 h a0 i1 i2 = some t → X l K mM_X6_boundRows (tgV t) 12 [(0, .ref a0), (1, .int i1), (2, .int i2)] [] h) {h : Hp} {a0 : Nat} {i1 : Int32} {i2 : Int32} {t : Rs Unit} (e : f_X6_boundRows_B12 k12 h a0 i1 i2 = some t) : X l K mM_X6_boundRows (tgV t) 12 [(0, .ref a0), (1, .int i1), (2, .int i2)] [] h := by
  unfold f_X6_boundRows_B12 at e
  refine x_iload_n (pc := 12) 2 dX6_boundRows_12 rfl ?_
  refine x_aload_n (pc := 13) 0 dX6_boundRows_13 rfl ?_
  obtain ⟨q1, e⟩ := chk_some e
  obtain ⟨q2, e⟩ := chk_some e
  refine x_getR (pc := 14) gf_X6_9 rfl dX6_boundRows_14 q1 q2.1 ?_
  refine x_getI (pc := 17) gf_X6_91 rfl dX6_boundRows_17 q2 ?_
  rcases ite_some e with ⟨q3, e⟩ | ⟨q3, e⟩
  · refine x_icmp_ge_t (pc := 20) (t := 107) dX6_boundRows_20 (by decide) q3 ?_
    cases Option.some.inj e
    exact x_vret (pc := 107) rfl dX6_boundRows_107
  · refine x_icmp_ge_f (pc := 20) (t := 107) dX6_boundRows_20 (by decide) q3 ?_
    refine x_aload_n (pc := 23) 0 dX6_boundRows_23 rfl ?_
    refine x_getR (pc := 24) gf_X6_9 rfl dX6_boundRows_24 q1 q2.1 ?_
    obtain ⟨q4, e⟩ := chk_some e
    refine x_getR (pc := 27) gf_X6_94 rfl dX6_boundRows_27 q2 q4.1 ?_
    refine x_iload_n (pc := 30) 2 dX6_boundRows_30 rfl ?_
    obtain ⟨q5, e⟩ := chk_some e
    obtain ⟨q6, e⟩ := chk_some e
    refine x_aald (pc := 31) (t := 1) (by decide) dX6_boundRows_31 q4 q5 q6.1 ?_
    refine x_astore_n (pc := 32) dX6_boundRows_32 (by decide) rfl ?_
    refine x_aload_n (pc := 33) 1 dX6_boundRows_33 rfl ?_
    refine x_getR (pc := 34) gf_X6_9 rfl dX6_boundRows_34 q1 q2.1 ?_
    refine x_aload_n (pc := 37) 0 dX6_boundRows_37 rfl ?_
    refine x_aload_n (pc := 38) 1 dX6_boundRows_38 rfl ?_
    obtain ⟨q7, e⟩ := chk_some e
    refine x_getR (pc := 39) gf_X6_28 rfl dX6_boundRows_39 q1 q7.1 ?_
    rcases bnd_some e with ⟨h8, r9, ec, rfl⟩ | ⟨h8, r9, ec, e⟩
    · exact y_callV_x (pc := 42) (c_X7_widthIn hl ec) q2 mf_X7_widthIn tw_2_148 ts_1_10 lf_X6_98 rfl rfl dX6_boundRows_42 (by decide) rfl rfl (leb rfl) (xx_out0 rfl)
    refine y_callV_i (pc := 42) (c_X7_widthIn hl ec) q2 mf_X7_widthIn tw_2_148 ts_1_10 lf_X6_98 rfl rfl dX6_boundRows_42 (by decide) rfl rfl (leb rfl) ?_
    refine x_istore (pc := 45) dX6_boundRows_45 (by decide) rfl ?_
    refine x_aload_n (pc := 47) 2 dX6_boundRows_47 rfl ?_
    obtain ⟨q10, e⟩ := chk_some e
    obtain ⟨q11, e⟩ := chk_some e
    refine x_getR (pc := 48) gf_X6_9 rfl dX6_boundRows_48 q10 q11.1 ?_
    refine x_aload_n (pc := 51) 1 dX6_boundRows_51 rfl ?_
    refine x_iload (pc := 52) 0 dX6_boundRows_52 rfl ?_
    rcases bnd_some e with ⟨h12, r13, ec, rfl⟩ | ⟨h12, r13, ec, e⟩
    · exact y_callV_x (pc := 54) (c_X7_heightWithin hl ec) q11 mf_X7_heightWithin tw_3_19 ts_2_8 lf_X6_102 rfl rfl dX6_boundRows_54 (by decide) rfl rfl (leb rfl) (xx_out0 rfl)
    refine y_callV_i (pc := 54) (c_X7_heightWithin hl ec) q11 mf_X7_heightWithin tw_3_19 ts_2_8 lf_X6_102 rfl rfl dX6_boundRows_54 (by decide) rfl rfl (leb rfl) ?_
    refine x_aload_n (pc := 57) 2 dX6_boundRows_57 rfl ?_
    obtain ⟨q14, e⟩ := chk_some e
    obtain ⟨q15, e⟩ := chk_some e
    refine x_getR (pc := 58) gf_X6_9 rfl dX6_boundRows_58 q14 q15.1 ?_
    refine x_aload_n (pc := 61) 1 dX6_boundRows_61 rfl ?_
    refine x_iload (pc := 62) 0 dX6_boundRows_62 rfl ?_
    refine x_iload_n (pc := 64) 3 dX6_boundRows_64 rfl ?_
    refine x_iadd (pc := 65) dX6_boundRows_65 ?_
    rcases bnd_some e with ⟨h16, r17, ec, rfl⟩ | ⟨h16, r17, ec, e⟩
    · exact y_callV_x (pc := 66) (c_X7_heightWithin hl ec) q15 mf_X7_heightWithin tw_3_19 ts_2_8 lf_X6_102 rfl rfl dX6_boundRows_66 (by decide) rfl rfl (leb rfl) (xx_out0 rfl)
    refine y_callV_i (pc := 66) (c_X7_heightWithin hl ec) q15 mf_X7_heightWithin tw_3_19 ts_2_8 lf_X6_102 rfl rfl dX6_boundRows_66 (by decide) rfl rfl (leb rfl) ?_
    refine x_mmin (pc := 69) tw_3_36 tw_2_167 tw_1_9 tw_2_168 (by decide) (leb rfl) dX6_boundRows_69 ?_
    refine x_istore (pc := 72) dX6_boundRows_72 (by decide) rfl ?_
    refine x_aload_n (pc := 74) 3 dX6_boundRows_74 rfl ?_
    obtain ⟨q18, e⟩ := chk_some e
    obtain ⟨q19, e⟩ := chk_some e
    refine x_getR (pc := 75) gf_X6_31 rfl dX6_boundRows_75 q18 q19.1 ?_
    refine x_iconst (pc := 78) dX6_boundRows_78 ?_
    obtain ⟨q20, e⟩ := chk_some e
    obtain ⟨q21, e⟩ := chk_some e
    refine x_aald (pc := 79) (t := 0) (by decide) dX6_boundRows_79 q19 q20 q21.1 ?_
    refine x_aload_n (pc := 80) 2 dX6_boundRows_80 rfl ?_
    obtain ⟨q22, e⟩ := chk_some e
    refine x_getI (pc := 81) gf_X6_112 rfl dX6_boundRows_81 q22 ?_
    refine x_aload_n (pc := 84) 3 dX6_boundRows_84 rfl ?_
    refine x_getR (pc := 85) gf_X6_31 rfl dX6_boundRows_85 q18 q19.1 ?_
    refine x_iconst (pc := 88) dX6_boundRows_88 ?_
    refine x_aald (pc := 89) (t := 0) (by decide) dX6_boundRows_89 q19 q20 q21.1 ?_
    refine x_aload_n (pc := 90) 2 dX6_boundRows_90 rfl ?_
    refine x_getI (pc := 91) gf_X6_112 rfl dX6_boundRows_91 q22 ?_
    obtain ⟨q23, e⟩ := chk_some e
    refine x_iald (pc := 94) dX6_boundRows_94 q21 q23 ?_
    refine x_iload (pc := 95) 0 dX6_boundRows_95 rfl ?_
    refine x_mmax (pc := 97) tw_3_37 tw_2_123 tw_1_9 tw_2_124 (by decide) (leb rfl) dX6_boundRows_97 ?_
    replace e := lt_go e
    refine x_iast (pc := 100) dX6_boundRows_100 q21 q23 ?_
    refine x_iinc (pc := 101) 5 dX6_boundRows_101 rfl (by decide) rfl ?_
    refine x_goto (pc := 104) (t := 12) dX6_boundRows_104 (by decide) ?_
    exact x_sub1 (hk12 _ _ _ _ _ e) [4, 5, 0] rfl
noncomputable def f_X6_boundRows_L12 (n : Nat) : Hp → Nat → Int32 → Int32 → Option (Rs Unit) := Nat.rec (motive := fun _ => Hp → Nat → Int32 → Int32 → Option (Rs Unit)) (fun _ _ _ _ => none) (fun _ r => f_X6_boundRows_B12 r) n
theorem p_X6_boundRows_L12 {l : Launch} {K : Ctx} (hl : l.stackTraces = false) : ∀ (n : Nat) (h : Hp) (a0 : Nat) (i1 : Int32) (i2 : Int32) (t : Rs Unit) (e : f_X6_boundRows_L12 n h a0 i1 i2 = some t), X l K mM_X6_boundRows (tgV t) 12 [(0, .ref a0), (1, .int i1), (2, .int i2)] [] h := by
  intro n
  induction n with
  | zero => exact fun _ _ _ _ _ e => nomatch (show (none : Option (Rs Unit)) = some _ from e)
  | succ n ih => exact fun h a0 i1 i2 t e => p_X6_boundRows_B12 hl (fun h a0 i1 i2 t e => ih h a0 i1 i2 t e) e
noncomputable def f_X6_boundRows (h : Hp) (a0 : Nat) (i1 : Int32) : Option (Rs Unit) :=
  chk (okr h a0 6) <|
  chk (okr h (qR h a0 7) 24) <|
  chk (vp_in (iN 0) (qW h (qR h a0 7))) <|
  chk (okr h (qR h (qR h a0 7) (Int32.toNatClampNeg (iN 0))) 20) <|
  bnd (f_J7_fill_53178 h (qR h (qR h a0 7) (Int32.toNatClampNeg (iN 0))) (iN 0)) fun h5 _ =>
  f_X6_boundRows_L12 2000 h5 a0 i1 (iN 0)
theorem p_X6_boundRows {l : Launch} {K : Ctx} (hl : l.stackTraces = false) {h : Hp} {a0 : Nat} {i1 : Int32} {t : Rs Unit} (e : f_X6_boundRows h a0 i1 = some t) : X l K mM_X6_boundRows (tgV t) 0 [(0, .ref a0), (1, .int i1)] [] h := by
  unfold f_X6_boundRows at e
  refine x_aload_n (pc := 0) 0 dX6_boundRows_0 rfl ?_
  obtain ⟨q1, e⟩ := chk_some e
  obtain ⟨q2, e⟩ := chk_some e
  refine x_getR (pc := 1) gf_X6_31 rfl dX6_boundRows_1 q1 q2.1 ?_
  refine x_iconst (pc := 4) dX6_boundRows_4 ?_
  obtain ⟨q3, e⟩ := chk_some e
  obtain ⟨q4, e⟩ := chk_some e
  refine x_aald (pc := 5) (t := 0) (by decide) dX6_boundRows_5 q2 q3 q4.1 ?_
  refine x_iconst (pc := 6) dX6_boundRows_6 ?_
  rcases bnd_some e with ⟨h5, r6, ec, rfl⟩ | ⟨h5, r6, ec, e⟩
  · exact y_callS_x (pc := 7) (c_J7_fill_53178 hl ec) mf_J7_fill_53178 tw_2_195 lf_X6_64 dX6_boundRows_7 (by decide) rfl rfl (leb rfl) (xx_out0 rfl)
  refine y_callS_v (pc := 7) (c_J7_fill_53178 hl ec) mf_J7_fill_53178 tw_2_195 lf_X6_64 dX6_boundRows_7 (by decide) rfl rfl (leb rfl) ?_
  refine x_iconst (pc := 10) dX6_boundRows_10 ?_
  refine x_istore_n (pc := 11) dX6_boundRows_11 (by decide) rfl ?_
  exact x_sub1 (p_X6_boundRows_L12 hl 2000 _ _ _ _ _ e) [1, 2, 0] rfl
abbrev w_X6_boundRows : Cond := (Cond.code yX6_boundRows cX6_boundRows 6 (Option.none : Option Jvm.ClassFile.FieldType))
theorem mf_X6_boundRows : MF yX6_boundRows w_X6_boundRows cX6_boundRows 6 (Option.none : Option Jvm.ClassFile.FieldType) 1 := ⟨⟨rfl, tw_3_15, by decide⟩, tw_1_6, ⟨by decide, by decide⟩, by decide +kernel⟩
theorem c_X6_boundRows {l : Launch} {K : Ctx} (hl : l.stackTraces = false) {h : Hp} {a0 : Nat} {i1 : Int32} {t : Rs Unit} (e : f_X6_boundRows h a0 i1 = some t) : Ctr l K 11 yX6_boundRows w_X6_boundRows [.ref a0, .int i1] h (tgV t) :=
  Ctr.of hl mf_X6_boundRows false (fun q => nomatch q) rfl (leb rfl) (p_X6_boundRows hl e)
/-! ## TableColumnBalancer$Search.sumOf -/
abbrev mM_X6_sumOf : Mi := (8, yX6_sumOf.cls, cX6_sumOf, 4, (Option.some Jvm.ClassFile.FieldType.int), [], false)
noncomputable def f_X6_sumOf_B20 (k20 : Hp → Nat → Nat → Int32 → Int32 → Option (Rs Int32)) (h : Hp) (a0 : Nat) (a1 : Nat) (i2 : Int32) (i3 : Int32) : Option (Rs Int32) :=
  chk (okr h a0 6) <|
  chk (okr h (qR h a0 0) 7) <|
  if (qI h (qR h a0 0) 4) ≤ i3 then (
    some (h, .inr i2)
  ) else (
    chk (okr h a1 20) <|
    chk (vp_in i3 (qW h a1)) <|
    k20 h a0 a1 (i2 + (qI h a1 (Int32.toNatClampNeg i3))) (i3 + iN 1)
  )
theorem p_X6_sumOf_B20 {l : Launch} {K : Ctx} (hl : l.stackTraces = false) {k20 : Hp → Nat → Nat → Int32 → Int32 → Option (Rs Int32)} (hk20 : ∀ (h : Hp) (a0 : Nat) (a1 : Nat) (i2 : Int32) (i3 : Int32) (t : Rs Int32), k20 h a0 a1 i2 i3 = some t → X l K mM_X6_sumOf (tgI t) 20 [(0, .ref a0), (1, .ref a1), (2, .int i2), (3, .int i3)] [] h) {h : Hp} {a0 : Nat} {a1 : Nat} {i2 : Int32} {i3 : Int32} {t : Rs Int32} (e : f_X6_sumOf_B20 k20 h a0 a1 i2 i3 = some t) : X l K mM_X6_sumOf (tgI t) 20 [(0, .ref a0), (1, .ref a1), (2, .int i2), (3, .int i3)] [] h := by
  unfold f_X6_sumOf_B20 at e
  refine x_iload_n (pc := 20) 3 dX6_sumOf_20 rfl ?_
  refine x_aload_n (pc := 21) 0 dX6_sumOf_21 rfl ?_
  obtain ⟨q1, e⟩ := chk_some e
  obtain ⟨q2, e⟩ := chk_some e
  refine x_getR (pc := 22) gf_X6_9 rfl dX6_sumOf_22 q1 q2.1 ?_
  refine x_getI (pc := 25) gf_X6_133 rfl dX6_sumOf_25 q2 ?_
  rcases ite_some e with ⟨q3, e⟩ | ⟨q3, e⟩
  · refine x_icmp_ge_t (pc := 28) (t := 43) dX6_sumOf_28 (by decide) q3 ?_
    refine x_iload_n (pc := 43) 2 dX6_sumOf_43 rfl ?_
    cases Option.some.inj e
    exact x_iret (pc := 44) rfl dX6_sumOf_44
  · refine x_icmp_ge_f (pc := 28) (t := 43) dX6_sumOf_28 (by decide) q3 ?_
    refine x_iload_n (pc := 31) 2 dX6_sumOf_31 rfl ?_
    refine x_aload_n (pc := 32) 1 dX6_sumOf_32 rfl ?_
    refine x_iload_n (pc := 33) 3 dX6_sumOf_33 rfl ?_
    obtain ⟨q4, e⟩ := chk_some e
    obtain ⟨q5, e⟩ := chk_some e
    refine x_iald (pc := 34) dX6_sumOf_34 q4 q5 ?_
    refine x_iadd (pc := 35) dX6_sumOf_35 ?_
    refine x_istore_n (pc := 36) dX6_sumOf_36 (by decide) rfl ?_
    refine x_iinc (pc := 37) 3 dX6_sumOf_37 rfl (by decide) rfl ?_
    refine x_goto (pc := 40) (t := 20) dX6_sumOf_40 (by decide) ?_
    exact x_sub1 (hk20 _ _ _ _ _ _ e) [2, 3, 1, 0] rfl
noncomputable def f_X6_sumOf_L20 (n : Nat) : Hp → Nat → Nat → Int32 → Int32 → Option (Rs Int32) := Nat.rec (motive := fun _ => Hp → Nat → Nat → Int32 → Int32 → Option (Rs Int32)) (fun _ _ _ _ _ => none) (fun _ r => f_X6_sumOf_B20 r) n
theorem p_X6_sumOf_L20 {l : Launch} {K : Ctx} (hl : l.stackTraces = false) : ∀ (n : Nat) (h : Hp) (a0 : Nat) (a1 : Nat) (i2 : Int32) (i3 : Int32) (t : Rs Int32) (e : f_X6_sumOf_L20 n h a0 a1 i2 i3 = some t), X l K mM_X6_sumOf (tgI t) 20 [(0, .ref a0), (1, .ref a1), (2, .int i2), (3, .int i3)] [] h := by
  intro n
  induction n with
  | zero => exact fun _ _ _ _ _ _ e => nomatch (show (none : Option (Rs Int32)) = some _ from e)
  | succ n ih => exact fun h a0 a1 i2 i3 t e => p_X6_sumOf_B20 hl (fun h a0 a1 i2 i3 t e => ih h a0 a1 i2 i3 t e) e
noncomputable def f_X6_sumOf (h : Hp) (a0 : Nat) (a1 : Nat) : Option (Rs Int32) :=
  chk (okr h a0 6) <|
  chk (okr h (qR h a0 0) 7) <|
  f_X6_sumOf_L20 2000 h a0 a1 ((qI h (qR h a0 0) 1) * ((qI h (qR h a0 0) 4) + (iN 1))) (iN 0)
theorem p_X6_sumOf {l : Launch} {K : Ctx} (hl : l.stackTraces = false) {h : Hp} {a0 : Nat} {a1 : Nat} {t : Rs Int32} (e : f_X6_sumOf h a0 a1 = some t) : X l K mM_X6_sumOf (tgI t) 0 [(0, .ref a0), (1, .ref a1)] [] h := by
  unfold f_X6_sumOf at e
  refine x_aload_n (pc := 0) 0 dX6_sumOf_0 rfl ?_
  obtain ⟨q1, e⟩ := chk_some e
  obtain ⟨q2, e⟩ := chk_some e
  refine x_getR (pc := 1) gf_X6_9 rfl dX6_sumOf_1 q1 q2.1 ?_
  refine x_getI (pc := 4) gf_X6_150 rfl dX6_sumOf_4 q2 ?_
  refine x_aload_n (pc := 7) 0 dX6_sumOf_7 rfl ?_
  refine x_getR (pc := 8) gf_X6_9 rfl dX6_sumOf_8 q1 q2.1 ?_
  refine x_getI (pc := 11) gf_X6_133 rfl dX6_sumOf_11 q2 ?_
  refine x_iconst (pc := 14) dX6_sumOf_14 ?_
  refine x_iadd (pc := 15) dX6_sumOf_15 ?_
  refine x_imul (pc := 16) dX6_sumOf_16 ?_
  refine x_istore_n (pc := 17) dX6_sumOf_17 (by decide) rfl ?_
  refine x_iconst (pc := 18) dX6_sumOf_18 ?_
  refine x_istore_n (pc := 19) dX6_sumOf_19 (by decide) rfl ?_
  exact x_sub1 (p_X6_sumOf_L20 hl 2000 _ _ _ _ _ _ e) [2, 3, 1, 0] rfl
abbrev w_X6_sumOf : Cond := (Cond.code yX6_sumOf cX6_sumOf 4 (Option.some Jvm.ClassFile.FieldType.int))
theorem mf_X6_sumOf : MF yX6_sumOf w_X6_sumOf cX6_sumOf 4 (Option.some Jvm.ClassFile.FieldType.int) 1 := ⟨⟨rfl, tw_3_48, by decide⟩, tw_1_6, ⟨by decide, by decide⟩, by decide +kernel⟩
theorem c_X6_sumOf {l : Launch} {K : Ctx} (hl : l.stackTraces = false) {h : Hp} {a0 : Nat} {a1 : Nat} {t : Rs Int32} (e : f_X6_sumOf h a0 a1 = some t) : Ctr l K 8 yX6_sumOf w_X6_sumOf [.ref a0, .ref a1] h (tgI t) :=
  Ctr.of hl mf_X6_sumOf false (fun q => nomatch q) rfl (leb rfl) (p_X6_sumOf hl e)
/-! ## TableColumnBalancer$Search.keepTried -/
abbrev mM_X6_keepTried : Mi := (9, yX6_keepTried.cls, cX6_keepTried, 2, (Option.none : Option Jvm.ClassFile.FieldType), [], false)
noncomputable def f_X6_keepTried_B22 (k22 : Hp → Nat → Int32 → Option (Rs Unit)) (h : Hp) (a0 : Nat) (i1 : Int32) : Option (Rs Unit) :=
  chk (okr h a0 6) <|
  chk (okr h (qR h a0 0) 7) <|
  if (qI h (qR h a0 0) 3) ≤ i1 then (
    some (h, .inr ())
  ) else (
    chk (okr h (qR h a0 3) 24) <|
    chk (vp_in (qI h a0 10) (qW h (qR h a0 3))) <|
    chk (okr h (qR h (qR h a0 3) (Int32.toNatClampNeg (qI h a0 10))) 20) <|
    chk (okr h (qR h a0 8) 20) <|
    chk (vp_in i1 (qW h (qR h a0 8))) <|
    chk (vp_in i1 (qW h (qR h (qR h a0 3) (Int32.toNatClampNeg (qI h a0 10))))) <|
    lt (putI h (qR h (qR h a0 3) (Int32.toNatClampNeg (qI h a0 10))) (Int32.toNatClampNeg i1) (qI h (qR h a0 8) (Int32.toNatClampNeg i1))) fun h10 =>
    k22 h10 a0 (i1 + iN 1)
  )
theorem p_X6_keepTried_B22 {l : Launch} {K : Ctx} (hl : l.stackTraces = false) {k22 : Hp → Nat → Int32 → Option (Rs Unit)} (hk22 : ∀ (h : Hp) (a0 : Nat) (i1 : Int32) (t : Rs Unit), k22 h a0 i1 = some t → X l K mM_X6_keepTried (tgV t) 22 [(0, .ref a0), (1, .int i1)] [] h) {h : Hp} {a0 : Nat} {i1 : Int32} {t : Rs Unit} (e : f_X6_keepTried_B22 k22 h a0 i1 = some t) : X l K mM_X6_keepTried (tgV t) 22 [(0, .ref a0), (1, .int i1)] [] h := by
  unfold f_X6_keepTried_B22 at e
  refine x_iload_n (pc := 22) 1 dX6_keepTried_22 rfl ?_
  refine x_aload_n (pc := 23) 0 dX6_keepTried_23 rfl ?_
  obtain ⟨q1, e⟩ := chk_some e
  obtain ⟨q2, e⟩ := chk_some e
  refine x_getR (pc := 24) gf_X6_9 rfl dX6_keepTried_24 q1 q2.1 ?_
  refine x_getI (pc := 27) gf_X6_47 rfl dX6_keepTried_27 q2 ?_
  rcases ite_some e with ⟨q3, e⟩ | ⟨q3, e⟩
  · refine x_icmp_ge_t (pc := 30) (t := 56) dX6_keepTried_30 (by decide) q3 ?_
    cases Option.some.inj e
    exact x_vret (pc := 56) rfl dX6_keepTried_56
  · refine x_icmp_ge_f (pc := 30) (t := 56) dX6_keepTried_30 (by decide) q3 ?_
    refine x_aload_n (pc := 33) 0 dX6_keepTried_33 rfl ?_
    obtain ⟨q4, e⟩ := chk_some e
    refine x_getR (pc := 34) gf_X6_25 rfl dX6_keepTried_34 q1 q4.1 ?_
    refine x_aload_n (pc := 37) 0 dX6_keepTried_37 rfl ?_
    refine x_getI (pc := 38) gf_X6_77 rfl dX6_keepTried_38 q1 ?_
    obtain ⟨q5, e⟩ := chk_some e
    obtain ⟨q6, e⟩ := chk_some e
    refine x_aald (pc := 41) (t := 0) (by decide) dX6_keepTried_41 q4 q5 q6.1 ?_
    refine x_iload_n (pc := 42) 1 dX6_keepTried_42 rfl ?_
    refine x_aload_n (pc := 43) 0 dX6_keepTried_43 rfl ?_
    obtain ⟨q7, e⟩ := chk_some e
    refine x_getR (pc := 44) gf_X6_34 rfl dX6_keepTried_44 q1 q7.1 ?_
    refine x_iload_n (pc := 47) 1 dX6_keepTried_47 rfl ?_
    obtain ⟨q8, e⟩ := chk_some e
    refine x_iald (pc := 48) dX6_keepTried_48 q7 q8 ?_
    obtain ⟨q9, e⟩ := chk_some e
    replace e := lt_go e
    refine x_iast (pc := 49) dX6_keepTried_49 q6 q9 ?_
    refine x_iinc (pc := 50) 1 dX6_keepTried_50 rfl (by decide) rfl ?_
    refine x_goto (pc := 53) (t := 22) dX6_keepTried_53 (by decide) ?_
    exact x_sub1 (hk22 _ _ _ _ e) [1, 0] rfl
noncomputable def f_X6_keepTried_L22 (n : Nat) : Hp → Nat → Int32 → Option (Rs Unit) := Nat.rec (motive := fun _ => Hp → Nat → Int32 → Option (Rs Unit)) (fun _ _ _ => none) (fun _ r => f_X6_keepTried_B22 r) n
theorem p_X6_keepTried_L22 {l : Launch} {K : Ctx} (hl : l.stackTraces = false) : ∀ (n : Nat) (h : Hp) (a0 : Nat) (i1 : Int32) (t : Rs Unit) (e : f_X6_keepTried_L22 n h a0 i1 = some t), X l K mM_X6_keepTried (tgV t) 22 [(0, .ref a0), (1, .int i1)] [] h := by
  intro n
  induction n with
  | zero => exact fun _ _ _ _ e => nomatch (show (none : Option (Rs Unit)) = some _ from e)
  | succ n ih => exact fun h a0 i1 t e => p_X6_keepTried_B22 hl (fun h a0 i1 t e => ih h a0 i1 t e) e
noncomputable def f_X6_keepTried (h : Hp) (a0 : Nat) : Option (Rs Unit) :=
  chk (okr h a0 6) <|
  chk (okr h (qR h a0 7) 24) <|
  chk (okr h (qR h a0 0) 7) <|
  chk (vp_in (qI h (qR h a0 0) 3) (qW h (qR h a0 7))) <|
  chk (okr h (qR h (qR h a0 7) (Int32.toNatClampNeg (qI h (qR h a0 0) 3))) 20) <|
  bnd (f_X6_sumOf h a0 (qR h (qR h a0 7) (Int32.toNatClampNeg (qI h (qR h a0 0) 3)))) fun h6 r7 =>
  chk (okr h6 a0 6) <|
  lt (putI h6 a0 11 r7) fun h9 =>
  f_X6_keepTried_L22 2000 h9 a0 (iN 0)
theorem p_X6_keepTried {l : Launch} {K : Ctx} (hl : l.stackTraces = false) {h : Hp} {a0 : Nat} {t : Rs Unit} (e : f_X6_keepTried h a0 = some t) : X l K mM_X6_keepTried (tgV t) 0 [(0, .ref a0)] [] h := by
  unfold f_X6_keepTried at e
  refine x_aload_n (pc := 0) 0 dX6_keepTried_0 rfl ?_
  refine x_aload_n (pc := 1) 0 dX6_keepTried_1 rfl ?_
  refine x_aload_n (pc := 2) 0 dX6_keepTried_2 rfl ?_
  obtain ⟨q1, e⟩ := chk_some e
  obtain ⟨q2, e⟩ := chk_some e
  refine x_getR (pc := 3) gf_X6_31 rfl dX6_keepTried_3 q1 q2.1 ?_
  refine x_aload_n (pc := 6) 0 dX6_keepTried_6 rfl ?_
  obtain ⟨q3, e⟩ := chk_some e
  refine x_getR (pc := 7) gf_X6_9 rfl dX6_keepTried_7 q1 q3.1 ?_
  refine x_getI (pc := 10) gf_X6_47 rfl dX6_keepTried_10 q3 ?_
  obtain ⟨q4, e⟩ := chk_some e
  obtain ⟨q5, e⟩ := chk_some e
  refine x_aald (pc := 13) (t := 0) (by decide) dX6_keepTried_13 q2 q4 q5.1 ?_
  rcases bnd_some e with ⟨h6, r7, ec, rfl⟩ | ⟨h6, r7, ec, e⟩
  · exact y_callV_x (pc := 14) (c_X6_sumOf hl ec) q1 mf_X6_sumOf tw_3_47 ts_2_13 lf_X6_126 rfl rfl dX6_keepTried_14 (by decide) rfl rfl (leb rfl) (xx_out0 rfl)
  refine y_callV_i (pc := 14) (c_X6_sumOf hl ec) q1 mf_X6_sumOf tw_3_47 ts_2_13 lf_X6_126 rfl rfl dX6_keepTried_14 (by decide) rfl rfl (leb rfl) ?_
  obtain ⟨q8, e⟩ := chk_some e
  replace e := lt_go e
  refine x_putI (pc := 17) pf_X6_74 rfl rfl rfl dX6_keepTried_17 q8 ?_
  refine x_iconst (pc := 20) dX6_keepTried_20 ?_
  refine x_istore_n (pc := 21) dX6_keepTried_21 (by decide) rfl ?_
  exact x_sub1 (p_X6_keepTried_L22 hl 2000 _ _ _ _ e) [1, 0] rfl
abbrev w_X6_keepTried : Cond := (Cond.code yX6_keepTried cX6_keepTried 2 (Option.none : Option Jvm.ClassFile.FieldType))
theorem mf_X6_keepTried : MF yX6_keepTried w_X6_keepTried cX6_keepTried 2 (Option.none : Option Jvm.ClassFile.FieldType) 0 := ⟨⟨rfl, tw_3_44, by decide⟩, tw_1_6, ⟨by decide, by decide⟩, by decide +kernel⟩
theorem c_X6_keepTried {l : Launch} {K : Ctx} (hl : l.stackTraces = false) {h : Hp} {a0 : Nat} {t : Rs Unit} (e : f_X6_keepTried h a0 = some t) : Ctr l K 9 yX6_keepTried w_X6_keepTried [.ref a0] h (tgV t) :=
  Ctr.of hl mf_X6_keepTried false (fun q => nomatch q) rfl (leb rfl) (p_X6_keepTried hl e)
/-! ## TableColumnBalancer$Search.boundWith -/
abbrev mM_X6_boundWith : Mi := (10, yX6_boundWith.cls, cX6_boundWith, 7, (Option.some Jvm.ClassFile.FieldType.int), [], false)
noncomputable def f_X6_boundWith_L143 (k56 : Hp → Nat → Int32 → Nat → Int32 → Int32 → Option (Rs Int32)) (h : Hp) (a0 : Nat) (i1 : Int32) (a2 : Nat) (i3 : Int32) (i4 : Int32) : Option (Rs Int32) :=
  k56 h a0 i1 a2 i3 (i4 + iN 1)
theorem p_X6_boundWith_L143 {l : Launch} {K : Ctx} (hl : l.stackTraces = false) {k56 : Hp → Nat → Int32 → Nat → Int32 → Int32 → Option (Rs Int32)} (hk56 : ∀ (h : Hp) (a0 : Nat) (i1 : Int32) (a2 : Nat) (i3 : Int32) (i4 : Int32) (t : Rs Int32), k56 h a0 i1 a2 i3 i4 = some t → X l K mM_X6_boundWith (tgI t) 56 [(0, .ref a0), (1, .int i1), (2, .ref a2), (3, .int i3), (4, .int i4)] [] h) {h : Hp} {a0 : Nat} {i1 : Int32} {a2 : Nat} {i3 : Int32} {i4 : Int32} {t : Rs Int32} (e : f_X6_boundWith_L143 k56 h a0 i1 a2 i3 i4 = some t) : X l K mM_X6_boundWith (tgI t) 143 [(0, .ref a0), (1, .int i1), (2, .ref a2), (3, .int i3), (4, .int i4)] [] h := by
  unfold f_X6_boundWith_L143 at e
  refine x_iinc (pc := 143) 4 dX6_boundWith_143 rfl (by decide) rfl ?_
  refine x_goto (pc := 146) (t := 56) dX6_boundWith_146 (by decide) ?_
  exact x_sub1 (hk56 _ _ _ _ _ _ _ e) [1, 2, 3, 4, 0] rfl
noncomputable def f_X6_boundWith_B56 (k56 : Hp → Nat → Int32 → Nat → Int32 → Int32 → Option (Rs Int32)) (h : Hp) (a0 : Nat) (i1 : Int32) (a2 : Nat) (i3 : Int32) (i4 : Int32) : Option (Rs Int32) :=
  chk (okr h a0 6) <|
  chk (okr h (qR h a0 0) 7) <|
  if (qI h (qR h a0 0) 5) ≤ i4 then (
    bnd (f_X6_sumOf h a0 a2) fun h4 r5 =>
    some (h4, .inr r5)
  ) else (
    chk (okr h (qR h (qR h a0 0) 8) 25) <|
    chk (vp_in i4 (qW h (qR h (qR h a0 0) 8))) <|
    chk (okr h (qR h (qR h (qR h a0 0) 8) (Int32.toNatClampNeg i4)) 1) <|
    if ((qI h (qR h (qR h (qR h a0 0) 8) (Int32.toNatClampNeg i4)) 1) + (qI h (qR h (qR h (qR h a0 0) 8) (Int32.toNatClampNeg i4)) 2)) = (i1 + (iN 1)) then (
      chk (okr h (qR h (qR h (qR h (qR h a0 0) 8) (Int32.toNatClampNeg i4)) 3) 4) <|
      chk (okr h (qR h a0 8) 20) <|
      bnd (f_X7_widthIn h (qR h a0 0) (qR h (qR h (qR h a0 0) 8) (Int32.toNatClampNeg i4)) (qR h a0 8)) fun h12 r13 =>
      chk (okr h12 (qR h (qR h (qR h (qR h a0 0) 8) (Int32.toNatClampNeg i4)) 3) 4) <|
      bnd (f_X4_heightWithin h12 (qR h (qR h (qR h (qR h a0 0) 8) (Int32.toNatClampNeg i4)) 3) (r13 - i3)) fun h15 r16 =>
      chk (okr h15 (qR h (qR h (qR h a0 0) 8) (Int32.toNatClampNeg i4)) 1) <|
      chk (okr h15 a2 20) <|
      chk (vp_in (qI h15 (qR h (qR h (qR h a0 0) 8) (Int32.toNatClampNeg i4)) 0) (qW h15 a2)) <|
      lt (putI h15 a2 (Int32.toNatClampNeg (qI h15 (qR h (qR h (qR h a0 0) 8) (Int32.toNatClampNeg i4)) 0)) (jmax (qI h15 a2 (Int32.toNatClampNeg (qI h15 (qR h (qR h (qR h a0 0) 8) (Int32.toNatClampNeg i4)) 0))) (r16 + i3))) fun h20 =>
      f_X6_boundWith_L143 k56 h20 a0 i1 a2 i3 i4
    ) else (
      f_X6_boundWith_L143 k56 h a0 i1 a2 i3 i4
    )
  )
theorem p_X6_boundWith_B56 {l : Launch} {K : Ctx} (hl : l.stackTraces = false) {k56 : Hp → Nat → Int32 → Nat → Int32 → Int32 → Option (Rs Int32)} (hk56 : ∀ (h : Hp) (a0 : Nat) (i1 : Int32) (a2 : Nat) (i3 : Int32) (i4 : Int32) (t : Rs Int32), k56 h a0 i1 a2 i3 i4 = some t → X l K mM_X6_boundWith (tgI t) 56 [(0, .ref a0), (1, .int i1), (2, .ref a2), (3, .int i3), (4, .int i4)] [] h) {h : Hp} {a0 : Nat} {i1 : Int32} {a2 : Nat} {i3 : Int32} {i4 : Int32} {t : Rs Int32} (e : f_X6_boundWith_B56 k56 h a0 i1 a2 i3 i4 = some t) : X l K mM_X6_boundWith (tgI t) 56 [(0, .ref a0), (1, .int i1), (2, .ref a2), (3, .int i3), (4, .int i4)] [] h := by
  unfold f_X6_boundWith_B56 at e
  refine x_iload (pc := 56) 4 dX6_boundWith_56 rfl ?_
  refine x_aload_n (pc := 58) 0 dX6_boundWith_58 rfl ?_
  obtain ⟨q1, e⟩ := chk_some e
  obtain ⟨q2, e⟩ := chk_some e
  refine x_getR (pc := 59) gf_X6_9 rfl dX6_boundWith_59 q1 q2.1 ?_
  refine x_getI (pc := 62) gf_X6_91 rfl dX6_boundWith_62 q2 ?_
  rcases ite_some e with ⟨q3, e⟩ | ⟨q3, e⟩
  · refine x_icmp_ge_t (pc := 65) (t := 149) dX6_boundWith_65 (by decide) q3 ?_
    refine x_aload_n (pc := 149) 0 dX6_boundWith_149 rfl ?_
    refine x_aload_n (pc := 150) 2 dX6_boundWith_150 rfl ?_
    rcases bnd_some e with ⟨h4, r5, ec, rfl⟩ | ⟨h4, r5, ec, e⟩
    · exact y_callV_x (pc := 151) (c_X6_sumOf hl ec) q1 mf_X6_sumOf tw_3_47 ts_2_13 lf_X6_126 rfl rfl dX6_boundWith_151 (by decide) rfl rfl (leb rfl) (xx_out0 rfl)
    refine y_callV_i (pc := 151) (c_X6_sumOf hl ec) q1 mf_X6_sumOf tw_3_47 ts_2_13 lf_X6_126 rfl rfl dX6_boundWith_151 (by decide) rfl rfl (leb rfl) ?_
    cases Option.some.inj e
    exact x_iret (pc := 154) rfl dX6_boundWith_154
  · refine x_icmp_ge_f (pc := 65) (t := 149) dX6_boundWith_65 (by decide) q3 ?_
    refine x_aload_n (pc := 68) 0 dX6_boundWith_68 rfl ?_
    refine x_getR (pc := 69) gf_X6_9 rfl dX6_boundWith_69 q1 q2.1 ?_
    obtain ⟨q6, e⟩ := chk_some e
    refine x_getR (pc := 72) gf_X6_94 rfl dX6_boundWith_72 q2 q6.1 ?_
    refine x_iload (pc := 75) 4 dX6_boundWith_75 rfl ?_
    obtain ⟨q7, e⟩ := chk_some e
    obtain ⟨q8, e⟩ := chk_some e
    refine x_aald (pc := 77) (t := 1) (by decide) dX6_boundWith_77 q6 q7 q8.1 ?_
    refine x_astore (pc := 78) dX6_boundWith_78 (by decide) rfl ?_
    refine x_aload (pc := 80) 0 dX6_boundWith_80 rfl ?_
    refine x_getI (pc := 82) gf_X6_136 rfl dX6_boundWith_82 q8 ?_
    refine x_aload (pc := 85) 0 dX6_boundWith_85 rfl ?_
    refine x_getI (pc := 87) gf_X6_139 rfl dX6_boundWith_87 q8 ?_
    refine x_iadd (pc := 90) dX6_boundWith_90 ?_
    refine x_iload_n (pc := 91) 2 dX6_boundWith_91 rfl ?_
    refine x_iconst (pc := 92) dX6_boundWith_92 ?_
    refine x_iadd (pc := 93) dX6_boundWith_93 ?_
    rcases ite_some e with ⟨q9, e⟩ | ⟨q9, e⟩
    · refine x_icmp_ne_f (pc := 94) (t := 143) dX6_boundWith_94 (by decide) q9 ?_
      refine x_aload (pc := 97) 0 dX6_boundWith_97 rfl ?_
      obtain ⟨q10, e⟩ := chk_some e
      refine x_getR (pc := 99) gf_X6_142 rfl dX6_boundWith_99 q8 q10.1 ?_
      refine x_aload_n (pc := 102) 1 dX6_boundWith_102 rfl ?_
      refine x_getR (pc := 103) gf_X6_9 rfl dX6_boundWith_103 q1 q2.1 ?_
      refine x_aload (pc := 106) 0 dX6_boundWith_106 rfl ?_
      refine x_aload_n (pc := 108) 1 dX6_boundWith_108 rfl ?_
      obtain ⟨q11, e⟩ := chk_some e
      refine x_getR (pc := 109) gf_X6_34 rfl dX6_boundWith_109 q1 q11.1 ?_
      rcases bnd_some e with ⟨h12, r13, ec, rfl⟩ | ⟨h12, r13, ec, e⟩
      · exact y_callV_x (pc := 112) (c_X7_widthIn hl ec) q2 mf_X7_widthIn tw_2_148 ts_1_10 lf_X6_98 rfl rfl dX6_boundWith_112 (by decide) rfl rfl (leb rfl) (xx_out0 rfl)
      refine y_callV_i (pc := 112) (c_X7_widthIn hl ec) q2 mf_X7_widthIn tw_2_148 ts_1_10 lf_X6_98 rfl rfl dX6_boundWith_112 (by decide) rfl rfl (leb rfl) ?_
      refine x_iload_n (pc := 115) 4 dX6_boundWith_115 rfl ?_
      refine x_isub (pc := 116) dX6_boundWith_116 ?_
      obtain ⟨q14, e⟩ := chk_some e
      rcases bnd_some e with ⟨h15, r16, ec, rfl⟩ | ⟨h15, r16, ec, e⟩
      · exact y_callV_x (pc := 117) (c_X4_heightWithin hl ec) q14 mf_X4_heightWithin tw_3_23 ts_2_9 lf_X6_146 rfl rfl dX6_boundWith_117 (by decide) rfl rfl (leb rfl) (xx_out0 rfl)
      refine y_callV_i (pc := 117) (c_X4_heightWithin hl ec) q14 mf_X4_heightWithin tw_3_23 ts_2_9 lf_X6_146 rfl rfl dX6_boundWith_117 (by decide) rfl rfl (leb rfl) ?_
      refine x_iload_n (pc := 120) 4 dX6_boundWith_120 rfl ?_
      refine x_iadd (pc := 121) dX6_boundWith_121 ?_
      refine x_istore (pc := 122) dX6_boundWith_122 (by decide) rfl ?_
      refine x_aload_n (pc := 124) 4 dX6_boundWith_124 rfl ?_
      refine x_aload (pc := 125) 1 dX6_boundWith_125 rfl ?_
      obtain ⟨q17, e⟩ := chk_some e
      refine x_getI (pc := 127) gf_X6_112 rfl dX6_boundWith_127 q17 ?_
      refine x_aload_n (pc := 130) 4 dX6_boundWith_130 rfl ?_
      refine x_aload (pc := 131) 1 dX6_boundWith_131 rfl ?_
      refine x_getI (pc := 133) gf_X6_112 rfl dX6_boundWith_133 q17 ?_
      obtain ⟨q18, e⟩ := chk_some e
      obtain ⟨q19, e⟩ := chk_some e
      refine x_iald (pc := 136) dX6_boundWith_136 q18 q19 ?_
      refine x_iload (pc := 137) 0 dX6_boundWith_137 rfl ?_
      refine x_mmax (pc := 139) tw_3_37 tw_2_123 tw_1_9 tw_2_124 (by decide) (leb rfl) dX6_boundWith_139 ?_
      replace e := lt_go e
      refine x_iast (pc := 142) dX6_boundWith_142 q18 q19 ?_
      exact x_sub1 (p_X6_boundWith_L143 hl hk56 e) [2, 3, 4, 5, 6] rfl
    · refine x_icmp_ne_t (pc := 94) (t := 143) dX6_boundWith_94 (by decide) q9 ?_
      exact x_sub1 (p_X6_boundWith_L143 hl hk56 e) [1, 2, 3, 4, 5] rfl
noncomputable def f_X6_boundWith_L56 (n : Nat) : Hp → Nat → Int32 → Nat → Int32 → Int32 → Option (Rs Int32) := Nat.rec (motive := fun _ => Hp → Nat → Int32 → Nat → Int32 → Int32 → Option (Rs Int32)) (fun _ _ _ _ _ _ => none) (fun _ r => f_X6_boundWith_B56 r) n
theorem p_X6_boundWith_L56 {l : Launch} {K : Ctx} (hl : l.stackTraces = false) : ∀ (n : Nat) (h : Hp) (a0 : Nat) (i1 : Int32) (a2 : Nat) (i3 : Int32) (i4 : Int32) (t : Rs Int32) (e : f_X6_boundWith_L56 n h a0 i1 a2 i3 i4 = some t), X l K mM_X6_boundWith (tgI t) 56 [(0, .ref a0), (1, .int i1), (2, .ref a2), (3, .int i3), (4, .int i4)] [] h := by
  intro n
  induction n with
  | zero => exact fun _ _ _ _ _ _ _ e => nomatch (show (none : Option (Rs Int32)) = some _ from e)
  | succ n ih => exact fun h a0 i1 a2 i3 i4 t e => p_X6_boundWith_B56 hl (fun h a0 i1 a2 i3 i4 t e => ih h a0 i1 a2 i3 i4 t e) e
noncomputable def f_X6_boundWith_B22 (k22 : Hp → Nat → Int32 → Nat → Int32 → Int32 → Option (Rs Int32)) (h : Hp) (a0 : Nat) (i1 : Int32) (a2 : Nat) (i3 : Int32) (i4 : Int32) : Option (Rs Int32) :=
  chk (okr h a0 6) <|
  chk (okr h (qR h a0 0) 7) <|
  if (qI h (qR h a0 0) 4) ≤ i4 then (
    f_X6_boundWith_L56 2000 h a0 i1 a2 i3 (iN 0)
  ) else (
    chk (okr h (qR h a0 7) 24) <|
    chk (vp_in i1 (qW h (qR h a0 7))) <|
    chk (okr h (qR h (qR h a0 7) (Int32.toNatClampNeg i1)) 20) <|
    chk (vp_in i4 (qW h (qR h (qR h a0 7) (Int32.toNatClampNeg i1)))) <|
    chk (okr h a2 20) <|
    chk (vp_in i4 (qW h a2)) <|
    lt (putI h a2 (Int32.toNatClampNeg i4) (qI h (qR h (qR h a0 7) (Int32.toNatClampNeg i1)) (Int32.toNatClampNeg i4))) fun h10 =>
    k22 h10 a0 i1 a2 i3 (i4 + iN 1)
  )
theorem p_X6_boundWith_B22 {l : Launch} {K : Ctx} (hl : l.stackTraces = false) {k22 : Hp → Nat → Int32 → Nat → Int32 → Int32 → Option (Rs Int32)} (hk22 : ∀ (h : Hp) (a0 : Nat) (i1 : Int32) (a2 : Nat) (i3 : Int32) (i4 : Int32) (t : Rs Int32), k22 h a0 i1 a2 i3 i4 = some t → X l K mM_X6_boundWith (tgI t) 22 [(0, .ref a0), (1, .int i1), (2, .ref a2), (3, .int i3), (4, .int i4)] [] h) {h : Hp} {a0 : Nat} {i1 : Int32} {a2 : Nat} {i3 : Int32} {i4 : Int32} {t : Rs Int32} (e : f_X6_boundWith_B22 k22 h a0 i1 a2 i3 i4 = some t) : X l K mM_X6_boundWith (tgI t) 22 [(0, .ref a0), (1, .int i1), (2, .ref a2), (3, .int i3), (4, .int i4)] [] h := by
  unfold f_X6_boundWith_B22 at e
  refine x_iload (pc := 22) 4 dX6_boundWith_22 rfl ?_
  refine x_aload_n (pc := 24) 0 dX6_boundWith_24 rfl ?_
  obtain ⟨q1, e⟩ := chk_some e
  obtain ⟨q2, e⟩ := chk_some e
  refine x_getR (pc := 25) gf_X6_9 rfl dX6_boundWith_25 q1 q2.1 ?_
  refine x_getI (pc := 28) gf_X6_133 rfl dX6_boundWith_28 q2 ?_
  rcases ite_some e with ⟨q3, e⟩ | ⟨q3, e⟩
  · refine x_icmp_ge_t (pc := 31) (t := 53) dX6_boundWith_31 (by decide) q3 ?_
    refine x_iconst (pc := 53) dX6_boundWith_53 ?_
    refine x_istore (pc := 54) dX6_boundWith_54 (by decide) rfl ?_
    exact x_sub1 (p_X6_boundWith_L56 hl 2000 _ _ _ _ _ _ _ e) [1, 2, 3, 4, 0] rfl
  · refine x_icmp_ge_f (pc := 31) (t := 53) dX6_boundWith_31 (by decide) q3 ?_
    refine x_aload_n (pc := 34) 2 dX6_boundWith_34 rfl ?_
    refine x_iload (pc := 35) 4 dX6_boundWith_35 rfl ?_
    refine x_aload_n (pc := 37) 0 dX6_boundWith_37 rfl ?_
    obtain ⟨q4, e⟩ := chk_some e
    refine x_getR (pc := 38) gf_X6_31 rfl dX6_boundWith_38 q1 q4.1 ?_
    refine x_iload_n (pc := 41) 1 dX6_boundWith_41 rfl ?_
    obtain ⟨q5, e⟩ := chk_some e
    obtain ⟨q6, e⟩ := chk_some e
    refine x_aald (pc := 42) (t := 0) (by decide) dX6_boundWith_42 q4 q5 q6.1 ?_
    refine x_iload (pc := 43) 4 dX6_boundWith_43 rfl ?_
    obtain ⟨q7, e⟩ := chk_some e
    refine x_iald (pc := 45) dX6_boundWith_45 q6 q7 ?_
    obtain ⟨q8, e⟩ := chk_some e
    obtain ⟨q9, e⟩ := chk_some e
    replace e := lt_go e
    refine x_iast (pc := 46) dX6_boundWith_46 q8 q9 ?_
    refine x_iinc (pc := 47) 4 dX6_boundWith_47 rfl (by decide) rfl ?_
    refine x_goto (pc := 50) (t := 22) dX6_boundWith_50 (by decide) ?_
    exact x_sub1 (hk22 _ _ _ _ _ _ _ e) [1, 2, 3, 4, 0] rfl
noncomputable def f_X6_boundWith_L22 (n : Nat) : Hp → Nat → Int32 → Nat → Int32 → Int32 → Option (Rs Int32) := Nat.rec (motive := fun _ => Hp → Nat → Int32 → Nat → Int32 → Int32 → Option (Rs Int32)) (fun _ _ _ _ _ _ => none) (fun _ r => f_X6_boundWith_B22 r) n
theorem p_X6_boundWith_L22 {l : Launch} {K : Ctx} (hl : l.stackTraces = false) : ∀ (n : Nat) (h : Hp) (a0 : Nat) (i1 : Int32) (a2 : Nat) (i3 : Int32) (i4 : Int32) (t : Rs Int32) (e : f_X6_boundWith_L22 n h a0 i1 a2 i3 i4 = some t), X l K mM_X6_boundWith (tgI t) 22 [(0, .ref a0), (1, .int i1), (2, .ref a2), (3, .int i3), (4, .int i4)] [] h := by
  intro n
  induction n with
  | zero => exact fun _ _ _ _ _ _ _ e => nomatch (show (none : Option (Rs Int32)) = some _ from e)
  | succ n ih => exact fun h a0 i1 a2 i3 i4 t e => p_X6_boundWith_B22 hl (fun h a0 i1 a2 i3 i4 t e => ih h a0 i1 a2 i3 i4 t e) e
noncomputable def f_X6_boundWith (h : Hp) (a0 : Nat) (i1 : Int32) : Option (Rs Int32) :=
  chk (okr h a0 6) <|
  chk (okr h (qR h a0 7) 24) <|
  chk (vp_in (i1 + (iN 1)) (qW h (qR h a0 7))) <|
  chk (okr h (qR h (qR h a0 7) (Int32.toNatClampNeg (i1 + (iN 1)))) 20) <|
  chk (okr h (qR h a0 0) 7) <|
  f_X6_boundWith_L22 2000 h a0 i1 (qR h (qR h a0 7) (Int32.toNatClampNeg (i1 + (iN 1)))) ((iN 2) * (qI h (qR h a0 0) 2)) (iN 0)
theorem p_X6_boundWith {l : Launch} {K : Ctx} (hl : l.stackTraces = false) {h : Hp} {a0 : Nat} {i1 : Int32} {t : Rs Int32} (e : f_X6_boundWith h a0 i1 = some t) : X l K mM_X6_boundWith (tgI t) 0 [(0, .ref a0), (1, .int i1)] [] h := by
  unfold f_X6_boundWith at e
  refine x_aload_n (pc := 0) 0 dX6_boundWith_0 rfl ?_
  obtain ⟨q1, e⟩ := chk_some e
  obtain ⟨q2, e⟩ := chk_some e
  refine x_getR (pc := 1) gf_X6_31 rfl dX6_boundWith_1 q1 q2.1 ?_
  refine x_iload_n (pc := 4) 1 dX6_boundWith_4 rfl ?_
  refine x_iconst (pc := 5) dX6_boundWith_5 ?_
  refine x_iadd (pc := 6) dX6_boundWith_6 ?_
  obtain ⟨q3, e⟩ := chk_some e
  obtain ⟨q4, e⟩ := chk_some e
  refine x_aald (pc := 7) (t := 0) (by decide) dX6_boundWith_7 q2 q3 q4.1 ?_
  refine x_astore_n (pc := 8) dX6_boundWith_8 (by decide) rfl ?_
  refine x_iconst (pc := 9) dX6_boundWith_9 ?_
  refine x_aload_n (pc := 10) 1 dX6_boundWith_10 rfl ?_
  obtain ⟨q5, e⟩ := chk_some e
  refine x_getR (pc := 11) gf_X6_9 rfl dX6_boundWith_11 q1 q5.1 ?_
  refine x_getI (pc := 14) gf_X6_130 rfl dX6_boundWith_14 q5 ?_
  refine x_imul (pc := 17) dX6_boundWith_17 ?_
  refine x_istore_n (pc := 18) dX6_boundWith_18 (by decide) rfl ?_
  refine x_iconst (pc := 19) dX6_boundWith_19 ?_
  refine x_istore (pc := 20) dX6_boundWith_20 (by decide) rfl ?_
  exact x_sub1 (p_X6_boundWith_L22 hl 2000 _ _ _ _ _ _ _ e) [3, 4, 2, 1, 0] rfl
abbrev w_X6_boundWith : Cond := (Cond.code yX6_boundWith cX6_boundWith 7 (Option.some Jvm.ClassFile.FieldType.int))
theorem mf_X6_boundWith : MF yX6_boundWith w_X6_boundWith cX6_boundWith 7 (Option.some Jvm.ClassFile.FieldType.int) 1 := ⟨⟨rfl, tw_3_52, by decide⟩, tw_1_6, ⟨by decide, by decide⟩, by decide +kernel⟩
theorem c_X6_boundWith {l : Launch} {K : Ctx} (hl : l.stackTraces = false) {h : Hp} {a0 : Nat} {i1 : Int32} {t : Rs Int32} (e : f_X6_boundWith h a0 i1 = some t) : Ctr l K 10 yX6_boundWith w_X6_boundWith [.ref a0, .int i1] h (tgI t) :=
  Ctr.of hl mf_X6_boundWith false (fun q => nomatch q) rfl (leb rfl) (p_X6_boundWith hl e)
/-! ## TableColumnBalancer$Search.descend -/
abbrev mM_X6_descend (D : Nat) : Mi := (D, yX6_descend.cls, cX6_descend, 6, (Option.none : Option Jvm.ClassFile.FieldType), [], false)
abbrev w_X6_descend : Cond := (Cond.code yX6_descend cX6_descend 6 (Option.none : Option Jvm.ClassFile.FieldType))
theorem mf_X6_descend : MF yX6_descend w_X6_descend cX6_descend 6 (Option.none : Option Jvm.ClassFile.FieldType) 3 := ⟨⟨rfl, tw_3_40, by decide⟩, tw_1_6, ⟨by decide, by decide⟩, by decide +kernel⟩
noncomputable def f_X6_descend_L93 (self : Hp → Nat → Int32 → Int32 → Option (Rs Unit)) (k48 : Hp → Nat → Int32 → Int32 → Int32 → Int32 → Option (Rs Unit)) (h : Hp) (a0 : Nat) (i1 : Int32) (i2 : Int32) (i4 : Int32) (i5 : Int32) : Option (Rs Unit) :=
  k48 h a0 i1 i2 i4 (i5 + iN 1)
theorem p_X6_descend_L93 {l : Launch} {K : Ctx} {D : Nat} {self : Hp → Nat → Int32 → Int32 → Option (Rs Unit)} (hl : l.stackTraces = false) {Dc : Nat} (hD : Dc + 1 ≤ D) (hD0 : 11 ≤ D) (hs : ∀ {h : Hp} {a0 : Nat} {i1 : Int32} {i2 : Int32} {t : Rs Unit} (e : self h a0 i1 i2 = some t), Ctr l K Dc yX6_descend w_X6_descend [.ref a0, .int i1, .int i2] h (tgV t)) {k48 : Hp → Nat → Int32 → Int32 → Int32 → Int32 → Option (Rs Unit)} (hk48 : ∀ (h : Hp) (a0 : Nat) (i1 : Int32) (i2 : Int32) (i4 : Int32) (i5 : Int32) (t : Rs Unit), k48 h a0 i1 i2 i4 i5 = some t → X l K (mM_X6_descend D) (tgV t) 48 [(0, .ref a0), (1, .int i1), (2, .int i2), (4, .int i4), (5, .int i5)] [] h) {h : Hp} {a0 : Nat} {i1 : Int32} {i2 : Int32} {i4 : Int32} {i5 : Int32} {t : Rs Unit} (e : f_X6_descend_L93 self k48 h a0 i1 i2 i4 i5 = some t) : X l K (mM_X6_descend D) (tgV t) 93 [(0, .ref a0), (1, .int i1), (2, .int i2), (4, .int i4), (5, .int i5)] [] h := by
  unfold f_X6_descend_L93 at e
  refine x_iinc (pc := 93) 4 dX6_descend_93 rfl (ltb rfl) rfl ?_
  refine x_goto (pc := 96) (t := 48) dX6_descend_96 (by decide) ?_
  exact x_sub1 (hk48 _ _ _ _ _ _ _ e) [1, 2, 3, 4, 0] rfl
noncomputable def f_X6_descend_B48 (self : Hp → Nat → Int32 → Int32 → Option (Rs Unit)) (k48 : Hp → Nat → Int32 → Int32 → Int32 → Int32 → Option (Rs Unit)) (h : Hp) (a0 : Nat) (i1 : Int32) (i2 : Int32) (i4 : Int32) (i5 : Int32) : Option (Rs Unit) :=
  if i4 < i5 then (
    some (h, .inr ())
  ) else (
    chk (okr h a0 6) <|
    chk (okr h (qR h a0 8) 20) <|
    chk (okr h (qR h a0 4) 20) <|
    chk (vp_in i1 (qW h (qR h a0 4))) <|
    chk (vp_in i1 (qW h (qR h a0 8))) <|
    lt (putI h (qR h a0 8) (Int32.toNatClampNeg i1) ((qI h (qR h a0 4) (Int32.toNatClampNeg i1)) + i5)) fun h7 =>
    bnd (f_X6_boundWith h7 a0 i1) fun h8 r9 =>
    chk (okr h8 a0 6) <|
    if (qI h8 a0 11) ≤ r9 then (
      f_X6_descend_L93 self k48 h8 a0 i1 i2 i4 i5
    ) else (
      bnd (self h8 a0 (i1 + (iN 1)) (i2 - i5)) fun h12 _ =>
      f_X6_descend_L93 self k48 h12 a0 i1 i2 i4 i5
    )
  )
theorem p_X6_descend_B48 {l : Launch} {K : Ctx} {D : Nat} {self : Hp → Nat → Int32 → Int32 → Option (Rs Unit)} (hl : l.stackTraces = false) {Dc : Nat} (hD : Dc + 1 ≤ D) (hD0 : 11 ≤ D) (hs : ∀ {h : Hp} {a0 : Nat} {i1 : Int32} {i2 : Int32} {t : Rs Unit} (e : self h a0 i1 i2 = some t), Ctr l K Dc yX6_descend w_X6_descend [.ref a0, .int i1, .int i2] h (tgV t)) {k48 : Hp → Nat → Int32 → Int32 → Int32 → Int32 → Option (Rs Unit)} (hk48 : ∀ (h : Hp) (a0 : Nat) (i1 : Int32) (i2 : Int32) (i4 : Int32) (i5 : Int32) (t : Rs Unit), k48 h a0 i1 i2 i4 i5 = some t → X l K (mM_X6_descend D) (tgV t) 48 [(0, .ref a0), (1, .int i1), (2, .int i2), (4, .int i4), (5, .int i5)] [] h) {h : Hp} {a0 : Nat} {i1 : Int32} {i2 : Int32} {i4 : Int32} {i5 : Int32} {t : Rs Unit} (e : f_X6_descend_B48 self k48 h a0 i1 i2 i4 i5 = some t) : X l K (mM_X6_descend D) (tgV t) 48 [(0, .ref a0), (1, .int i1), (2, .int i2), (4, .int i4), (5, .int i5)] [] h := by
  unfold f_X6_descend_B48 at e
  refine x_iload (pc := 48) 4 dX6_descend_48 rfl ?_
  refine x_iload (pc := 50) 3 dX6_descend_50 rfl ?_
  rcases ite_some e with ⟨q1, e⟩ | ⟨q1, e⟩
  · refine x_icmp_gt_t (pc := 52) (t := 99) dX6_descend_52 (by decide) q1 ?_
    cases Option.some.inj e
    exact x_vret (pc := 99) rfl dX6_descend_99
  · refine x_icmp_gt_f (pc := 52) (t := 99) dX6_descend_52 (by decide) q1 ?_
    refine x_aload_n (pc := 55) 0 dX6_descend_55 rfl ?_
    obtain ⟨q2, e⟩ := chk_some e
    obtain ⟨q3, e⟩ := chk_some e
    refine x_getR (pc := 56) gf_X6_34 rfl dX6_descend_56 q2 q3.1 ?_
    refine x_iload_n (pc := 59) 1 dX6_descend_59 rfl ?_
    refine x_aload_n (pc := 60) 0 dX6_descend_60 rfl ?_
    obtain ⟨q4, e⟩ := chk_some e
    refine x_getR (pc := 61) gf_X6_28 rfl dX6_descend_61 q2 q4.1 ?_
    refine x_iload_n (pc := 64) 1 dX6_descend_64 rfl ?_
    obtain ⟨q5, e⟩ := chk_some e
    refine x_iald (pc := 65) dX6_descend_65 q4 q5 ?_
    refine x_iload (pc := 66) 4 dX6_descend_66 rfl ?_
    refine x_iadd (pc := 68) dX6_descend_68 ?_
    obtain ⟨q6, e⟩ := chk_some e
    replace e := lt_go e
    refine x_iast (pc := 69) dX6_descend_69 q3 q6 ?_
    refine x_aload_n (pc := 70) 0 dX6_descend_70 rfl ?_
    refine x_iload_n (pc := 71) 1 dX6_descend_71 rfl ?_
    rcases bnd_some e with ⟨h8, r9, ec, rfl⟩ | ⟨h8, r9, ec, e⟩
    · exact y_callV_x (pc := 72) (c_X6_boundWith hl ec) (okr_pI q2) mf_X6_boundWith tw_3_51 ts_2_14 lf_X6_123 rfl rfl dX6_descend_72 (Nat.le_trans (by decide) hD0) rfl rfl (leb rfl) (xx_out0 rfl)
    refine y_callV_i (pc := 72) (c_X6_boundWith hl ec) (okr_pI q2) mf_X6_boundWith tw_3_51 ts_2_14 lf_X6_123 rfl rfl dX6_descend_72 (Nat.le_trans (by decide) hD0) rfl rfl (leb rfl) ?_
    refine x_aload_n (pc := 75) 0 dX6_descend_75 rfl ?_
    obtain ⟨q10, e⟩ := chk_some e
    refine x_getI (pc := 76) gf_X6_74 rfl dX6_descend_76 q10 ?_
    rcases ite_some e with ⟨q11, e⟩ | ⟨q11, e⟩
    · refine x_icmp_ge_t (pc := 79) (t := 93) dX6_descend_79 (by decide) q11 ?_
      exact p_X6_descend_L93 hl hD hD0 hs hk48 e
    · refine x_icmp_ge_f (pc := 79) (t := 93) dX6_descend_79 (by decide) q11 ?_
      refine x_aload_n (pc := 82) 0 dX6_descend_82 rfl ?_
      refine x_iload_n (pc := 83) 1 dX6_descend_83 rfl ?_
      refine x_iconst (pc := 84) dX6_descend_84 ?_
      refine x_iadd (pc := 85) dX6_descend_85 ?_
      refine x_iload_n (pc := 86) 2 dX6_descend_86 rfl ?_
      refine x_iload (pc := 87) 4 dX6_descend_87 rfl ?_
      refine x_isub (pc := 89) dX6_descend_89 ?_
      rcases bnd_some e with ⟨h12, r13, ec, rfl⟩ | ⟨h12, r13, ec, e⟩
      · exact y_callS_x (pc := 90) (hs ec) mf_X6_descend tw_3_39 lf_X6_84 dX6_descend_90 hD rfl rfl (leb rfl) (xx_out0 rfl)
      refine y_callS_v (pc := 90) (hs ec) mf_X6_descend tw_3_39 lf_X6_84 dX6_descend_90 hD rfl rfl (leb rfl) ?_
      exact p_X6_descend_L93 hl hD hD0 hs hk48 e
noncomputable def f_X6_descend_L48 (self : Hp → Nat → Int32 → Int32 → Option (Rs Unit)) (n : Nat) : Hp → Nat → Int32 → Int32 → Int32 → Int32 → Option (Rs Unit) := Nat.rec (motive := fun _ => Hp → Nat → Int32 → Int32 → Int32 → Int32 → Option (Rs Unit)) (fun _ _ _ _ _ _ => none) (fun _ r => f_X6_descend_B48 self r) n
theorem p_X6_descend_L48 {l : Launch} {K : Ctx} {D : Nat} {self : Hp → Nat → Int32 → Int32 → Option (Rs Unit)} (hl : l.stackTraces = false) {Dc : Nat} (hD : Dc + 1 ≤ D) (hD0 : 11 ≤ D) (hs : ∀ {h : Hp} {a0 : Nat} {i1 : Int32} {i2 : Int32} {t : Rs Unit} (e : self h a0 i1 i2 = some t), Ctr l K Dc yX6_descend w_X6_descend [.ref a0, .int i1, .int i2] h (tgV t)) : ∀ (n : Nat) (h : Hp) (a0 : Nat) (i1 : Int32) (i2 : Int32) (i4 : Int32) (i5 : Int32) (t : Rs Unit) (e : f_X6_descend_L48 self n h a0 i1 i2 i4 i5 = some t), X l K (mM_X6_descend D) (tgV t) 48 [(0, .ref a0), (1, .int i1), (2, .int i2), (4, .int i4), (5, .int i5)] [] h := by
  intro n
  induction n with
  | zero => exact fun _ _ _ _ _ _ _ e => nomatch (show (none : Option (Rs Unit)) = some _ from e)
  | succ n ih => exact fun h a0 i1 i2 i4 i5 t e => p_X6_descend_B48 hl hD hD0 hs (fun h a0 i1 i2 i4 i5 t e => ih h a0 i1 i2 i4 i5 t e) e
noncomputable def f_X6_descend_L43 (self : Hp → Nat → Int32 → Int32 → Option (Rs Unit)) (h : Hp) (a0 : Nat) (i1 : Int32) (i2 : Int32) (i3 : Int32) (s0 : Int32) : Option (Rs Unit) :=
  f_X6_descend_L48 self 2000 h a0 i1 i2 s0 i3
theorem p_X6_descend_L43 {l : Launch} {K : Ctx} {D : Nat} {self : Hp → Nat → Int32 → Int32 → Option (Rs Unit)} (hl : l.stackTraces = false) {Dc : Nat} (hD : Dc + 1 ≤ D) (hD0 : 11 ≤ D) (hs : ∀ {h : Hp} {a0 : Nat} {i1 : Int32} {i2 : Int32} {t : Rs Unit} (e : self h a0 i1 i2 = some t), Ctr l K Dc yX6_descend w_X6_descend [.ref a0, .int i1, .int i2] h (tgV t)) {h : Hp} {a0 : Nat} {i1 : Int32} {i2 : Int32} {i3 : Int32} {s0 : Int32} {t : Rs Unit} (e : f_X6_descend_L43 self h a0 i1 i2 i3 s0 = some t) : X l K (mM_X6_descend D) (tgV t) 43 [(0, .ref a0), (1, .int i1), (2, .int i2), (3, .int i3)] [.int s0] h := by
  unfold f_X6_descend_L43 at e
  refine x_istore (pc := 43) dX6_descend_43 (ltb rfl) rfl ?_
  refine x_iload_n (pc := 45) 4 dX6_descend_45 rfl ?_
  refine x_istore (pc := 46) dX6_descend_46 (ltb rfl) rfl ?_
  exact x_sub1 (p_X6_descend_L48 hl hD hD0 hs 2000 _ _ _ _ _ _ _ e) [2, 3, 4, 1, 0] rfl
noncomputable def f_X6_descend_L29 (self : Hp → Nat → Int32 → Int32 → Option (Rs Unit)) (h : Hp) (a0 : Nat) (i1 : Int32) (i2 : Int32) (s0 : Int32) : Option (Rs Unit) :=
  chk (okr h a0 6) <|
  bnd (f_X6_isFree h a0 i1) fun h2 r3 =>
  if r3 = 0 then (
    f_X6_descend_L43 self h2 a0 i1 i2 s0 (iN 0)
  ) else (
    f_X6_descend_L43 self h2 a0 i1 i2 s0 i2
  )
theorem p_X6_descend_L29 {l : Launch} {K : Ctx} {D : Nat} {self : Hp → Nat → Int32 → Int32 → Option (Rs Unit)} (hl : l.stackTraces = false) {Dc : Nat} (hD : Dc + 1 ≤ D) (hD0 : 11 ≤ D) (hs : ∀ {h : Hp} {a0 : Nat} {i1 : Int32} {i2 : Int32} {t : Rs Unit} (e : self h a0 i1 i2 = some t), Ctr l K Dc yX6_descend w_X6_descend [.ref a0, .int i1, .int i2] h (tgV t)) {h : Hp} {a0 : Nat} {i1 : Int32} {i2 : Int32} {s0 : Int32} {t : Rs Unit} (e : f_X6_descend_L29 self h a0 i1 i2 s0 = some t) : X l K (mM_X6_descend D) (tgV t) 29 [(0, .ref a0), (1, .int i1), (2, .int i2)] [.int s0] h := by
  unfold f_X6_descend_L29 at e
  refine x_istore_n (pc := 29) dX6_descend_29 (ltb rfl) rfl ?_
  refine x_aload_n (pc := 30) 1 dX6_descend_30 rfl ?_
  refine x_iload_n (pc := 31) 2 dX6_descend_31 rfl ?_
  obtain ⟨q1, e⟩ := chk_some e
  rcases bnd_some e with ⟨h2, r3, ec, rfl⟩ | ⟨h2, r3, ec, e⟩
  · exact y_callV_x (pc := 32) (c_X6_isFree hl ec) q1 mf_X6_isFree tw_2_192 ts_2_4 lf_X6_52 rfl rfl dX6_descend_32 (Nat.le_trans (by decide) hD0) rfl rfl (leb rfl) (xx_out0 rfl)
  refine y_callV_i (pc := 32) (c_X6_isFree hl ec) q1 mf_X6_isFree tw_2_192 ts_2_4 lf_X6_52 rfl rfl dX6_descend_32 (Nat.le_trans (by decide) hD0) rfl rfl (leb rfl) ?_
  rcases ite_some e with ⟨q4, e⟩ | ⟨q4, e⟩
  · refine x_if_eq_t (pc := 35) (t := 42) dX6_descend_35 (by decide) q4 ?_
    refine x_iconst (pc := 42) dX6_descend_42 ?_
    exact x_sub1 (p_X6_descend_L43 hl hD hD0 hs e) [1, 2, 3, 0] rfl
  · refine x_if_eq_f (pc := 35) (t := 42) dX6_descend_35 (by decide) q4 ?_
    refine x_iload_n (pc := 38) 3 dX6_descend_38 rfl ?_
    refine x_goto (pc := 39) (t := 43) dX6_descend_39 (by decide) ?_
    exact x_sub1 (p_X6_descend_L43 hl hD hD0 hs e) [1, 2, 3, 0] rfl
noncomputable def f_X6_descend_E (self : Hp → Nat → Int32 → Int32 → Option (Rs Unit)) (h : Hp) (a0 : Nat) (i1 : Int32) (i2 : Int32) : Option (Rs Unit) :=
  chk (okr h a0 6) <|
  chk (okr h (qR h a0 0) 7) <|
  if i1 < (qI h (qR h a0 0) 3) then (
    if i1 = (qI h a0 6) then (
      f_X6_descend_L29 self h a0 i1 i2 i2
    ) else (
      f_X6_descend_L29 self h a0 i1 i2 (iN 0)
    )
  ) else (
    bnd (f_X6_keepTried h a0) fun h5 _ =>
    some (h5, .inr ())
  )
theorem p_X6_descend_E {l : Launch} {K : Ctx} {D : Nat} {self : Hp → Nat → Int32 → Int32 → Option (Rs Unit)} (hl : l.stackTraces = false) {Dc : Nat} (hD : Dc + 1 ≤ D) (hD0 : 11 ≤ D) (hs : ∀ {h : Hp} {a0 : Nat} {i1 : Int32} {i2 : Int32} {t : Rs Unit} (e : self h a0 i1 i2 = some t), Ctr l K Dc yX6_descend w_X6_descend [.ref a0, .int i1, .int i2] h (tgV t)) {h : Hp} {a0 : Nat} {i1 : Int32} {i2 : Int32} {t : Rs Unit} (e : f_X6_descend_E self h a0 i1 i2 = some t) : X l K (mM_X6_descend D) (tgV t) 0 [(0, .ref a0), (1, .int i1), (2, .int i2)] [] h := by
  unfold f_X6_descend_E at e
  refine x_iload_n (pc := 0) 1 dX6_descend_0 rfl ?_
  refine x_aload_n (pc := 1) 0 dX6_descend_1 rfl ?_
  obtain ⟨q1, e⟩ := chk_some e
  obtain ⟨q2, e⟩ := chk_some e
  refine x_getR (pc := 2) gf_X6_9 rfl dX6_descend_2 q1 q2.1 ?_
  refine x_getI (pc := 5) gf_X6_47 rfl dX6_descend_5 q2 ?_
  rcases ite_some e with ⟨q3, e⟩ | ⟨q3, e⟩
  · refine x_icmp_lt_t (pc := 8) (t := 16) dX6_descend_8 (by decide) q3 ?_
    refine x_iload_n (pc := 16) 1 dX6_descend_16 rfl ?_
    refine x_aload_n (pc := 17) 0 dX6_descend_17 rfl ?_
    refine x_getI (pc := 18) gf_X6_44 rfl dX6_descend_18 q1 ?_
    rcases ite_some e with ⟨q4, e⟩ | ⟨q4, e⟩
    · refine x_icmp_ne_f (pc := 21) (t := 28) dX6_descend_21 (by decide) q4 ?_
      refine x_iload_n (pc := 24) 2 dX6_descend_24 rfl ?_
      refine x_goto (pc := 25) (t := 29) dX6_descend_25 (by decide) ?_
      exact p_X6_descend_L29 hl hD hD0 hs e
    · refine x_icmp_ne_t (pc := 21) (t := 28) dX6_descend_21 (by decide) q4 ?_
      refine x_iconst (pc := 28) dX6_descend_28 ?_
      exact p_X6_descend_L29 hl hD hD0 hs e
  · refine x_icmp_lt_f (pc := 8) (t := 16) dX6_descend_8 (by decide) q3 ?_
    refine x_aload_n (pc := 11) 0 dX6_descend_11 rfl ?_
    rcases bnd_some e with ⟨h5, r6, ec, rfl⟩ | ⟨h5, r6, ec, e⟩
    · exact y_callV_x (pc := 12) (c_X6_keepTried hl ec) q1 mf_X6_keepTried tw_3_43 ts_2_12 lf_X6_120 rfl rfl dX6_descend_12 (Nat.le_trans (by decide) hD0) rfl rfl (leb rfl) (xx_out0 rfl)
    refine y_callV_v (pc := 12) (c_X6_keepTried hl ec) q1 mf_X6_keepTried tw_3_43 ts_2_12 lf_X6_120 rfl rfl dX6_descend_12 (Nat.le_trans (by decide) hD0) rfl rfl (leb rfl) ?_
    cases Option.some.inj e
    exact x_vret (pc := 15) rfl dX6_descend_15
noncomputable def f_X6_descend (n : Nat) : Hp → Nat → Int32 → Int32 → Option (Rs Unit) := Nat.rec (motive := fun _ => Hp → Nat → Int32 → Int32 → Option (Rs Unit)) (fun _ _ _ _ => none) (fun _ r => f_X6_descend_E r) n
theorem c_X6_descend {l : Launch} {K : Ctx} (hl : l.stackTraces = false) : ∀ (n : Nat) {h : Hp} {a0 : Nat} {i1 : Int32} {i2 : Int32} {t : Rs Unit} (e : f_X6_descend n h a0 i1 i2 = some t), Ctr l K (11 + n) yX6_descend w_X6_descend [.ref a0, .int i1, .int i2] h (tgV t) := by
  intro n
  induction n with
  | zero => exact fun {_} {_} {_} {_} {_} e => nomatch (show (none : Option (Rs Unit)) = some _ from e)
  | succ n ih => exact fun {_} {_} {_} {_} {_} e => Ctr.of hl mf_X6_descend false (fun q => nomatch q) rfl (leb rfl) (p_X6_descend_E (D := 11 + (n + 1)) hl (Dc := 11 + n) (by omega) (by omega) ih e)
/-! ## TableColumnBalancer$Search.leastHeight -/
abbrev mM_X6_leastHeight : Mi := (20, yX6_leastHeight.cls, cX6_leastHeight, 3, (Option.some Jvm.ClassFile.FieldType.int), [], false)
noncomputable def f_X6_leastHeight_L89 (h : Hp) (a0 : Nat) (i1 : Int32) : Option (Rs Int32) :=
  chk (okr h a0 6) <|
  chk (okr h (qR h a0 2) 20) <|
  chk (vp_in i1 (qW h (qR h a0 2))) <|
  some (h, .inr (qI h (qR h a0 2) (Int32.toNatClampNeg i1)))
theorem p_X6_leastHeight_L89 {l : Launch} {K : Ctx} (hl : l.stackTraces = false) {h : Hp} {a0 : Nat} {i1 : Int32} {t : Rs Int32} (e : f_X6_leastHeight_L89 h a0 i1 = some t) : X l K mM_X6_leastHeight (tgI t) 89 [(0, .ref a0), (1, .int i1)] [] h := by
  unfold f_X6_leastHeight_L89 at e
  refine x_aload_n (pc := 89) 0 dX6_leastHeight_89 rfl ?_
  obtain ⟨q1, e⟩ := chk_some e
  obtain ⟨q2, e⟩ := chk_some e
  refine x_getR (pc := 90) gf_X6_19 rfl dX6_leastHeight_90 q1 q2.1 ?_
  refine x_iload_n (pc := 93) 1 dX6_leastHeight_93 rfl ?_
  obtain ⟨q3, e⟩ := chk_some e
  refine x_iald (pc := 94) dX6_leastHeight_94 q2 q3 ?_
  cases Option.some.inj e
  exact x_iret (pc := 95) rfl dX6_leastHeight_95
noncomputable def f_X6_leastHeight_L88 (h : Hp) (a0 : Nat) (i1 : Int32) (s0 : Int32) (s1 : Int32) (s2 : Nat) : Option (Rs Int32) :=
  chk (okr h s2 20) <|
  chk (vp_in s1 (qW h s2)) <|
  lt (putI h s2 (Int32.toNatClampNeg s1) s0) fun h3 =>
  f_X6_leastHeight_L89 h3 a0 i1
theorem p_X6_leastHeight_L88 {l : Launch} {K : Ctx} (hl : l.stackTraces = false) {h : Hp} {a0 : Nat} {i1 : Int32} {s0 : Int32} {s1 : Int32} {s2 : Nat} {t : Rs Int32} (e : f_X6_leastHeight_L88 h a0 i1 s0 s1 s2 = some t) : X l K mM_X6_leastHeight (tgI t) 88 [(0, .ref a0), (1, .int i1)] [.int s0, .int s1, .ref s2] h := by
  unfold f_X6_leastHeight_L88 at e
  obtain ⟨q1, e⟩ := chk_some e
  obtain ⟨q2, e⟩ := chk_some e
  replace e := lt_go e
  refine x_iast (pc := 88) dX6_leastHeight_88 q1 q2 ?_
  exact p_X6_leastHeight_L89 hl e
noncomputable def f_X6_leastHeight_L64 (h : Hp) (a0 : Nat) (i1 : Int32) : Option (Rs Int32) :=
  chk (okr h a0 6) <|
  chk (okr h (qR h a0 2) 20) <|
  if (qI h a0 9) ≤ (qI h a0 11) then (
    f_X6_leastHeight_L88 h a0 i1 (iN (-1)) i1 (qR h a0 2)
  ) else (
    f_X6_leastHeight_L88 h a0 i1 (qI h a0 11) i1 (qR h a0 2)
  )
theorem p_X6_leastHeight_L64 {l : Launch} {K : Ctx} (hl : l.stackTraces = false) {h : Hp} {a0 : Nat} {i1 : Int32} {t : Rs Int32} (e : f_X6_leastHeight_L64 h a0 i1 = some t) : X l K mM_X6_leastHeight (tgI t) 64 [(0, .ref a0), (1, .int i1)] [] h := by
  unfold f_X6_leastHeight_L64 at e
  refine x_aload_n (pc := 64) 0 dX6_leastHeight_64 rfl ?_
  obtain ⟨q1, e⟩ := chk_some e
  obtain ⟨q2, e⟩ := chk_some e
  refine x_getR (pc := 65) gf_X6_19 rfl dX6_leastHeight_65 q1 q2.1 ?_
  refine x_iload_n (pc := 68) 1 dX6_leastHeight_68 rfl ?_
  refine x_aload_n (pc := 69) 0 dX6_leastHeight_69 rfl ?_
  refine x_getI (pc := 70) gf_X6_74 rfl dX6_leastHeight_70 q1 ?_
  refine x_aload_n (pc := 73) 0 dX6_leastHeight_73 rfl ?_
  refine x_getI (pc := 74) gf_X6_37 rfl dX6_leastHeight_74 q1 ?_
  rcases ite_some e with ⟨q3, e⟩ | ⟨q3, e⟩
  · refine x_icmp_ge_t (pc := 77) (t := 87) dX6_leastHeight_77 (by decide) q3 ?_
    refine x_iconst (pc := 87) dX6_leastHeight_87 ?_
    exact p_X6_leastHeight_L88 hl e
  · refine x_icmp_ge_f (pc := 77) (t := 87) dX6_leastHeight_77 (by decide) q3 ?_
    refine x_aload_n (pc := 80) 0 dX6_leastHeight_80 rfl ?_
    refine x_getI (pc := 81) gf_X6_74 rfl dX6_leastHeight_81 q1 ?_
    refine x_goto (pc := 84) (t := 88) dX6_leastHeight_84 (by decide) ?_
    exact p_X6_leastHeight_L88 hl e
noncomputable def f_X6_leastHeight_L53 (h : Hp) (a0 : Nat) (i1 : Int32) (i2 : Int32) : Option (Rs Int32) :=
  chk (okr h a0 6) <|
  bnd (f_X6_boundRows h a0 i2) fun h2 _ =>
  bnd (f_X6_descend 8 h2 a0 (iN 0) i2) fun h4 _ =>
  f_X6_leastHeight_L64 h4 a0 i1
theorem p_X6_leastHeight_L53 {l : Launch} {K : Ctx} (hl : l.stackTraces = false) {h : Hp} {a0 : Nat} {i1 : Int32} {i2 : Int32} {t : Rs Int32} (e : f_X6_leastHeight_L53 h a0 i1 i2 = some t) : X l K mM_X6_leastHeight (tgI t) 53 [(0, .ref a0), (1, .int i1), (2, .int i2)] [] h := by
  unfold f_X6_leastHeight_L53 at e
  refine x_aload_n (pc := 53) 0 dX6_leastHeight_53 rfl ?_
  refine x_iload_n (pc := 54) 2 dX6_leastHeight_54 rfl ?_
  obtain ⟨q1, e⟩ := chk_some e
  rcases bnd_some e with ⟨h2, r3, ec, rfl⟩ | ⟨h2, r3, ec, e⟩
  · exact y_callV_x (pc := 55) (c_X6_boundRows hl ec) q1 mf_X6_boundRows tw_3_14 ts_2_7 lf_X6_80 rfl rfl dX6_leastHeight_55 (by decide) rfl rfl (leb rfl) (xx_out0 rfl)
  refine y_callV_v (pc := 55) (c_X6_boundRows hl ec) q1 mf_X6_boundRows tw_3_14 ts_2_7 lf_X6_80 rfl rfl dX6_leastHeight_55 (by decide) rfl rfl (leb rfl) ?_
  refine x_aload_n (pc := 58) 0 dX6_leastHeight_58 rfl ?_
  refine x_iconst (pc := 59) dX6_leastHeight_59 ?_
  refine x_iload_n (pc := 60) 2 dX6_leastHeight_60 rfl ?_
  rcases bnd_some e with ⟨h4, r5, ec, rfl⟩ | ⟨h4, r5, ec, e⟩
  · exact y_callS_x (pc := 61) (c_X6_descend hl 8 ec) mf_X6_descend tw_3_39 lf_X6_84 dX6_leastHeight_61 (by decide) rfl rfl (leb rfl) (xx_out0 rfl)
  refine y_callS_v (pc := 61) (c_X6_descend hl 8 ec) mf_X6_descend tw_3_39 lf_X6_84 dX6_leastHeight_61 (by decide) rfl rfl (leb rfl) ?_
  exact x_sub1 (p_X6_leastHeight_L64 hl e) [0, 1] rfl
noncomputable def f_X6_leastHeight (h : Hp) (a0 : Nat) (i1 : Int32) : Option (Rs Int32) :=
  chk (okr h a0 6) <|
  chk (okr h (qR h a0 2) 20) <|
  chk (vp_in i1 (qW h (qR h a0 2))) <|
  if (qI h (qR h a0 2) (Int32.toNatClampNeg i1)) = (iN (-2)) then (
    chk (okr h (qR h a0 0) 7) <|
    bnd (f_X7_usableWidth h (qR h a0 0) i1) fun h6 r7 =>
    chk (okr h6 a0 6) <|
    lt (putI h6 a0 11 (qI h6 a0 9)) fun h9 =>
    lt (putI h9 a0 10 i1) fun h10 =>
    if (r7 - (qI h6 a0 5)) = 0 then (
      f_X6_leastHeight_L53 h10 a0 i1 (r7 - (qI h6 a0 5))
    ) else (
      if (r7 - (qI h6 a0 5)) ≤ 0 then (
        f_X6_leastHeight_L64 h10 a0 i1
      ) else (
        if (qI h10 a0 6) < 0 then (
          f_X6_leastHeight_L64 h10 a0 i1
        ) else (
          f_X6_leastHeight_L53 h10 a0 i1 (r7 - (qI h6 a0 5))
        )
      )
    )
  ) else (
    f_X6_leastHeight_L89 h a0 i1
  )
theorem p_X6_leastHeight {l : Launch} {K : Ctx} (hl : l.stackTraces = false) {h : Hp} {a0 : Nat} {i1 : Int32} {t : Rs Int32} (e : f_X6_leastHeight h a0 i1 = some t) : X l K mM_X6_leastHeight (tgI t) 0 [(0, .ref a0), (1, .int i1)] [] h := by
  unfold f_X6_leastHeight at e
  refine x_aload_n (pc := 0) 0 dX6_leastHeight_0 rfl ?_
  obtain ⟨q1, e⟩ := chk_some e
  obtain ⟨q2, e⟩ := chk_some e
  refine x_getR (pc := 1) gf_X6_19 rfl dX6_leastHeight_1 q1 q2.1 ?_
  refine x_iload_n (pc := 4) 1 dX6_leastHeight_4 rfl ?_
  obtain ⟨q3, e⟩ := chk_some e
  refine x_iald (pc := 5) dX6_leastHeight_5 q2 q3 ?_
  refine x_bipush (pc := 6) (v := iN (-2)) dX6_leastHeight_6 rfl ?_
  rcases ite_some e with ⟨q4, e⟩ | ⟨q4, e⟩
  · refine x_icmp_ne_f (pc := 8) (t := 89) dX6_leastHeight_8 (by decide) q4 ?_
    refine x_aload_n (pc := 11) 0 dX6_leastHeight_11 rfl ?_
    obtain ⟨q5, e⟩ := chk_some e
    refine x_getR (pc := 12) gf_X6_9 rfl dX6_leastHeight_12 q1 q5.1 ?_
    refine x_iload_n (pc := 15) 1 dX6_leastHeight_15 rfl ?_
    rcases bnd_some e with ⟨h6, r7, ec, rfl⟩ | ⟨h6, r7, ec, e⟩
    · exact y_callV_x (pc := 16) (c_X7_usableWidth hl ec) q5 mf_X7_usableWidth tw_2_175 ts_2_0 lf_X6_70 rfl rfl dX6_leastHeight_16 (by decide) rfl rfl (leb rfl) (xx_out0 rfl)
    refine y_callV_i (pc := 16) (c_X7_usableWidth hl ec) q5 mf_X7_usableWidth tw_2_175 ts_2_0 lf_X6_70 rfl rfl dX6_leastHeight_16 (by decide) rfl rfl (leb rfl) ?_
    refine x_aload_n (pc := 19) 0 dX6_leastHeight_19 rfl ?_
    obtain ⟨q8, e⟩ := chk_some e
    refine x_getI (pc := 20) gf_X6_41 rfl dX6_leastHeight_20 q8 ?_
    refine x_isub (pc := 23) dX6_leastHeight_23 ?_
    refine x_istore_n (pc := 24) dX6_leastHeight_24 (by decide) rfl ?_
    refine x_aload_n (pc := 25) 1 dX6_leastHeight_25 rfl ?_
    refine x_aload_n (pc := 26) 1 dX6_leastHeight_26 rfl ?_
    refine x_getI (pc := 27) gf_X6_37 rfl dX6_leastHeight_27 q8 ?_
    replace e := lt_go e
    refine x_putI (pc := 30) pf_X6_74 rfl rfl rfl dX6_leastHeight_30 q8 ?_
    refine x_aload_n (pc := 33) 1 dX6_leastHeight_33 rfl ?_
    refine x_iload_n (pc := 34) 2 dX6_leastHeight_34 rfl ?_
    replace e := lt_go e
    refine x_putI (pc := 35) pf_X6_77 rfl rfl rfl dX6_leastHeight_35 (okr_pI q8) ?_
    refine x_iload_n (pc := 38) 0 dX6_leastHeight_38 rfl ?_
    rcases ite_some e with ⟨q11, e⟩ | ⟨q11, e⟩
    · refine x_if_eq_t (pc := 39) (t := 53) dX6_leastHeight_39 (by decide) q11 ?_
      exact x_sub1 (p_X6_leastHeight_L53 hl e) [1, 2, 0] rfl
    · refine x_if_eq_f (pc := 39) (t := 53) dX6_leastHeight_39 (by decide) q11 ?_
      refine x_iload_n (pc := 42) 0 dX6_leastHeight_42 rfl ?_
      rcases ite_some e with ⟨q12, e⟩ | ⟨q12, e⟩
      · refine x_if_le_t (pc := 43) (t := 64) dX6_leastHeight_43 (by decide) q12 ?_
        exact x_sub1 (p_X6_leastHeight_L64 hl e) [1, 2] rfl
      · refine x_if_le_f (pc := 43) (t := 64) dX6_leastHeight_43 (by decide) q12 ?_
        refine x_aload_n (pc := 46) 1 dX6_leastHeight_46 rfl ?_
        refine x_getI (pc := 47) gf_X6_44 rfl dX6_leastHeight_47 (okr_pI (okr_pI q8)) ?_
        rcases ite_some e with ⟨q13, e⟩ | ⟨q13, e⟩
        · refine x_if_lt_t (pc := 50) (t := 64) dX6_leastHeight_50 (by decide) q13 ?_
          exact x_sub1 (p_X6_leastHeight_L64 hl e) [1, 2] rfl
        · refine x_if_lt_f (pc := 50) (t := 64) dX6_leastHeight_50 (by decide) q13 ?_
          exact x_sub1 (p_X6_leastHeight_L53 hl e) [1, 2, 0] rfl
  · refine x_icmp_ne_t (pc := 8) (t := 89) dX6_leastHeight_8 (by decide) q4 ?_
    exact p_X6_leastHeight_L89 hl e
abbrev w_X6_leastHeight : Cond := (Cond.code yX6_leastHeight cX6_leastHeight 3 (Option.some Jvm.ClassFile.FieldType.int))
theorem mf_X6_leastHeight : MF yX6_leastHeight w_X6_leastHeight cX6_leastHeight 3 (Option.some Jvm.ClassFile.FieldType.int) 1 := ⟨⟨rfl, tw_3_10, by decide⟩, tw_1_6, ⟨by decide, by decide⟩, by decide +kernel⟩
theorem c_X6_leastHeight {l : Launch} {K : Ctx} (hl : l.stackTraces = false) {h : Hp} {a0 : Nat} {i1 : Int32} {t : Rs Int32} (e : f_X6_leastHeight h a0 i1 = some t) : Ctr l K 20 yX6_leastHeight w_X6_leastHeight [.ref a0, .int i1] h (tgI t) :=
  Ctr.of hl mf_X6_leastHeight false (fun q => nomatch q) rfl (leb rfl) (p_X6_leastHeight hl e)
/-! ## TableColumnBalancer$Search.widthsFor -/
abbrev mM_X6_widthsFor : Mi := (8, yX6_widthsFor.cls, cX6_widthsFor, 2, (Option.some (Jvm.ClassFile.FieldType.array Jvm.ClassFile.FieldType.int)), [], false)
noncomputable def f_X6_widthsFor (h : Hp) (a0 : Nat) (i1 : Int32) : Option (Rs Nat) :=
  chk (okr h a0 6) <|
  chk (okr h (qR h a0 3) 24) <|
  chk (vp_in i1 (qW h (qR h a0 3))) <|
  chk (okr h (qR h (qR h a0 3) (Int32.toNatClampNeg i1)) 20) <|
  some (h, .inr (qR h (qR h a0 3) (Int32.toNatClampNeg i1)))
theorem p_X6_widthsFor {l : Launch} {K : Ctx} (hl : l.stackTraces = false) {h : Hp} {a0 : Nat} {i1 : Int32} {t : Rs Nat} (e : f_X6_widthsFor h a0 i1 = some t) : X l K mM_X6_widthsFor (tgR t) 0 [(0, .ref a0), (1, .int i1)] [] h := by
  unfold f_X6_widthsFor at e
  refine x_aload_n (pc := 0) 0 dX6_widthsFor_0 rfl ?_
  obtain ⟨q1, e⟩ := chk_some e
  obtain ⟨q2, e⟩ := chk_some e
  refine x_getR (pc := 1) gf_X6_25 rfl dX6_widthsFor_1 q1 q2.1 ?_
  refine x_iload_n (pc := 4) 1 dX6_widthsFor_4 rfl ?_
  obtain ⟨q3, e⟩ := chk_some e
  obtain ⟨q4, e⟩ := chk_some e
  refine x_aald (pc := 5) (t := 0) (by decide) dX6_widthsFor_5 q2 q3 q4.1 ?_
  cases Option.some.inj e
  exact x_aret (pc := 6) rfl (Or.inr ⟨_, rfl⟩) dX6_widthsFor_6
abbrev w_X6_widthsFor : Cond := (Cond.code yX6_widthsFor cX6_widthsFor 2 (Option.some (Jvm.ClassFile.FieldType.array Jvm.ClassFile.FieldType.int)))
theorem mf_X6_widthsFor : MF yX6_widthsFor w_X6_widthsFor cX6_widthsFor 2 (Option.some (Jvm.ClassFile.FieldType.array Jvm.ClassFile.FieldType.int)) 1 := ⟨⟨rfl, tw_5_215, by decide⟩, tw_1_6, ⟨by decide, by decide⟩, by decide +kernel⟩
theorem c_X6_widthsFor {l : Launch} {K : Ctx} (hl : l.stackTraces = false) {h : Hp} {a0 : Nat} {i1 : Int32} {t : Rs Nat} (e : f_X6_widthsFor h a0 i1 = some t) : Ctr l K 8 yX6_widthsFor w_X6_widthsFor [.ref a0, .int i1] h (tgR t) :=
  Ctr.of hl mf_X6_widthsFor false (fun q => nomatch q) rfl (leb rfl) (p_X6_widthsFor hl e)
/-! ## TableColumnBalancer.bestWidths -/
abbrev mM_X8_bestWidths : Mi := (21, yX8_bestWidths.cls, cX8_bestWidths, 1, (Option.some (Jvm.ClassFile.FieldType.array Jvm.ClassFile.FieldType.int)), [], false)
noncomputable def f_X8_bestWidths_L22 (h : Hp) (a0 : Nat) (s0 : Int32) : Option (Rs Nat) :=
  bnd (f_X8_requireState h s0) fun h1 _ =>
  chk (okr h1 a0 8) <|
  chk (okr h1 (qR h1 a0 2) 6) <|
  chk (okr h1 (qR h1 a0 0) 7) <|
  bnd (f_X6_widthsFor h1 (qR h1 a0 2) (qI h1 (qR h1 a0 0) 0)) fun h6 r7 =>
  some (h6, .inr r7)
theorem p_X8_bestWidths_L22 {l : Launch} {K : Ctx} (hl : l.stackTraces = false) {h : Hp} {a0 : Nat} {s0 : Int32} {t : Rs Nat} (e : f_X8_bestWidths_L22 h a0 s0 = some t) : X l K mM_X8_bestWidths (tgR t) 22 [(0, .ref a0)] [.int s0] h := by
  unfold f_X8_bestWidths_L22 at e
  rcases bnd_some e with ⟨h1, r2, ec, rfl⟩ | ⟨h1, r2, ec, e⟩
  · exact y_callS_x (pc := 22) (c_X8_requireState hl ec) mf_X8_requireState tw_3_155 lf_X8_84 dX8_bestWidths_22 (by decide) rfl rfl (leb rfl) (xx_out0 rfl)
  refine y_callS_v (pc := 22) (c_X8_requireState hl ec) mf_X8_requireState tw_3_155 lf_X8_84 dX8_bestWidths_22 (by decide) rfl rfl (leb rfl) ?_
  refine x_aload_n (pc := 25) 0 dX8_bestWidths_25 rfl ?_
  obtain ⟨q3, e⟩ := chk_some e
  obtain ⟨q4, e⟩ := chk_some e
  refine x_getR (pc := 26) gf_X8_30 rfl dX8_bestWidths_26 q3 q4.1 ?_
  refine x_aload_n (pc := 29) 0 dX8_bestWidths_29 rfl ?_
  obtain ⟨q5, e⟩ := chk_some e
  refine x_getR (pc := 30) gf_X8_10 rfl dX8_bestWidths_30 q3 q5.1 ?_
  refine x_getI (pc := 33) gf_X8_99 rfl dX8_bestWidths_33 q5 ?_
  rcases bnd_some e with ⟨h6, r7, ec, rfl⟩ | ⟨h6, r7, ec, e⟩
  · exact y_callV_x (pc := 36) (c_X6_widthsFor hl ec) q4 mf_X6_widthsFor tw_5_214 ts_6_0 lf_X8_349 rfl rfl dX8_bestWidths_36 (by decide) rfl rfl (leb rfl) (xx_out0 rfl)
  refine y_callV_i (pc := 36) (c_X6_widthsFor hl ec) q4 mf_X6_widthsFor tw_5_214 ts_6_0 lf_X8_349 rfl rfl dX8_bestWidths_36 (by decide) rfl rfl (leb rfl) ?_
  cases Option.some.inj e
  exact x_aret (pc := 39) rfl (Or.inr ⟨_, rfl⟩) dX8_bestWidths_39
noncomputable def f_X8_bestWidths (h : Hp) (a0 : Nat) : Option (Rs Nat) :=
  chk (okr h a0 8) <|
  chk (okr h (qR h a0 2) 6) <|
  chk (okr h (qR h a0 0) 7) <|
  bnd (f_X6_leastHeight h (qR h a0 2) (qI h (qR h a0 0) 0)) fun h4 r5 =>
  if r5 < 0 then (
    f_X8_bestWidths_L22 h4 a0 (iN 0)
  ) else (
    f_X8_bestWidths_L22 h4 a0 (iN 1)
  )
theorem p_X8_bestWidths {l : Launch} {K : Ctx} (hl : l.stackTraces = false) {h : Hp} {a0 : Nat} {t : Rs Nat} (e : f_X8_bestWidths h a0 = some t) : X l K mM_X8_bestWidths (tgR t) 0 [(0, .ref a0)] [] h := by
  unfold f_X8_bestWidths at e
  refine x_aload_n (pc := 0) 0 dX8_bestWidths_0 rfl ?_
  obtain ⟨q1, e⟩ := chk_some e
  obtain ⟨q2, e⟩ := chk_some e
  refine x_getR (pc := 1) gf_X8_30 rfl dX8_bestWidths_1 q1 q2.1 ?_
  refine x_aload_n (pc := 4) 0 dX8_bestWidths_4 rfl ?_
  obtain ⟨q3, e⟩ := chk_some e
  refine x_getR (pc := 5) gf_X8_10 rfl dX8_bestWidths_5 q1 q3.1 ?_
  refine x_getI (pc := 8) gf_X8_99 rfl dX8_bestWidths_8 q3 ?_
  rcases bnd_some e with ⟨h4, r5, ec, rfl⟩ | ⟨h4, r5, ec, e⟩
  · exact y_callV_x (pc := 11) (c_X6_leastHeight hl ec) q2 mf_X6_leastHeight tw_3_9 ts_2_6 lf_X8_270 rfl rfl dX8_bestWidths_11 (by decide) rfl rfl (leb rfl) (xx_out0 rfl)
  refine y_callV_i (pc := 11) (c_X6_leastHeight hl ec) q2 mf_X6_leastHeight tw_3_9 ts_2_6 lf_X8_270 rfl rfl dX8_bestWidths_11 (by decide) rfl rfl (leb rfl) ?_
  rcases ite_some e with ⟨q6, e⟩ | ⟨q6, e⟩
  · refine x_if_lt_t (pc := 14) (t := 21) dX8_bestWidths_14 (by decide) q6 ?_
    refine x_iconst (pc := 21) dX8_bestWidths_21 ?_
    exact p_X8_bestWidths_L22 hl e
  · refine x_if_lt_f (pc := 14) (t := 21) dX8_bestWidths_14 (by decide) q6 ?_
    refine x_iconst (pc := 17) dX8_bestWidths_17 ?_
    refine x_goto (pc := 18) (t := 22) dX8_bestWidths_18 (by decide) ?_
    exact p_X8_bestWidths_L22 hl e
abbrev w_X8_bestWidths : Cond := (Cond.code yX8_bestWidths cX8_bestWidths 1 (Option.some (Jvm.ClassFile.FieldType.array Jvm.ClassFile.FieldType.int)))
theorem mf_X8_bestWidths : MF yX8_bestWidths w_X8_bestWidths cX8_bestWidths 1 (Option.some (Jvm.ClassFile.FieldType.array Jvm.ClassFile.FieldType.int)) 0 := ⟨⟨rfl, tw_5_211, by decide⟩, tw_1_1, ⟨by decide, by decide⟩, by decide +kernel⟩
theorem c_X8_bestWidths {l : Launch} {K : Ctx} (hl : l.stackTraces = false) {h : Hp} {a0 : Nat} {t : Rs Nat} (e : f_X8_bestWidths h a0 = some t) : Ctr l K 21 yX8_bestWidths w_X8_bestWidths [.ref a0] h (tgR t) :=
  Ctr.of hl mf_X8_bestWidths false (fun q => nomatch q) rfl (leb rfl) (p_X8_bestWidths hl e)
/-! ## TableColumnBalancer.bestWidth -/
abbrev mM_X8_bestWidth : Mi := (22, yX8_bestWidth.cls, cX8_bestWidth, 2, (Option.some Jvm.ClassFile.FieldType.int), [], false)
noncomputable def f_X8_bestWidth (h : Hp) (a0 : Nat) (i1 : Int32) : Option (Rs Int32) :=
  chk (okr h a0 8) <|
  bnd (f_X8_requireColumn h a0 i1) fun h2 _ =>
  chk (okr h2 a0 8) <|
  bnd (f_X8_bestWidths h2 a0) fun h5 r6 =>
  chk (okr h5 r6 20) <|
  chk (vp_in i1 (qW h5 r6)) <|
  some (h5, .inr (qI h5 r6 (Int32.toNatClampNeg i1)))
theorem p_X8_bestWidth {l : Launch} {K : Ctx} (hl : l.stackTraces = false) {h : Hp} {a0 : Nat} {i1 : Int32} {t : Rs Int32} (e : f_X8_bestWidth h a0 i1 = some t) : X l K mM_X8_bestWidth (tgI t) 0 [(0, .ref a0), (1, .int i1)] [] h := by
  unfold f_X8_bestWidth at e
  refine x_aload_n (pc := 0) 0 dX8_bestWidth_0 rfl ?_
  refine x_iload_n (pc := 1) 1 dX8_bestWidth_1 rfl ?_
  obtain ⟨q1, e⟩ := chk_some e
  rcases bnd_some e with ⟨h2, r3, ec, rfl⟩ | ⟨h2, r3, ec, e⟩
  · exact y_callV_x (pc := 2) (c_X8_requireColumn hl ec) q1 mf_X8_requireColumn tw_4_11 ts_3_6 lf_X8_108 rfl rfl dX8_bestWidth_2 (by decide) rfl rfl (leb rfl) (xx_out0 rfl)
  refine y_callV_v (pc := 2) (c_X8_requireColumn hl ec) q1 mf_X8_requireColumn tw_4_11 ts_3_6 lf_X8_108 rfl rfl dX8_bestWidth_2 (by decide) rfl rfl (leb rfl) ?_
  refine x_aload_n (pc := 5) 0 dX8_bestWidth_5 rfl ?_
  obtain ⟨q4, e⟩ := chk_some e
  rcases bnd_some e with ⟨h5, r6, ec, rfl⟩ | ⟨h5, r6, ec, e⟩
  · exact y_callV_x (pc := 6) (c_X8_bestWidths hl ec) q4 mf_X8_bestWidths tw_5_210 ts_5_15 lf_X8_267 rfl rfl dX8_bestWidth_6 (by decide) rfl rfl (leb rfl) (xx_out0 rfl)
  refine y_callV_i (pc := 6) (c_X8_bestWidths hl ec) q4 mf_X8_bestWidths tw_5_210 ts_5_15 lf_X8_267 rfl rfl dX8_bestWidth_6 (by decide) rfl rfl (leb rfl) ?_
  refine x_iload_n (pc := 9) 1 dX8_bestWidth_9 rfl ?_
  obtain ⟨q7, e⟩ := chk_some e
  obtain ⟨q8, e⟩ := chk_some e
  refine x_iald (pc := 10) dX8_bestWidth_10 q7 q8 ?_
  cases Option.some.inj e
  exact x_iret (pc := 11) rfl dX8_bestWidth_11
abbrev w_X8_bestWidth : Cond := (Cond.code yX8_bestWidth cX8_bestWidth 2 (Option.some Jvm.ClassFile.FieldType.int))
theorem mf_X8_bestWidth : MF yX8_bestWidth w_X8_bestWidth cX8_bestWidth 2 (Option.some Jvm.ClassFile.FieldType.int) 1 := ⟨⟨rfl, tw_5_207, by decide⟩, tw_1_1, ⟨by decide, by decide⟩, by decide +kernel⟩
theorem c_X8_bestWidth {l : Launch} {K : Ctx} (hl : l.stackTraces = false) {h : Hp} {a0 : Nat} {i1 : Int32} {t : Rs Int32} (e : f_X8_bestWidth h a0 i1 = some t) : Ctr l K 22 yX8_bestWidth w_X8_bestWidth [.ref a0, .int i1] h (tgI t) :=
  Ctr.of hl mf_X8_bestWidth false (fun q => nomatch q) rfl (leb rfl) (p_X8_bestWidth hl e)
/-! ## TableColumnBalancerLaw.bestWidth -/
abbrev mM_L_bestWidth : Mi := (23, yL_bestWidth.cls, cL_bestWidth, 4, (Option.some Jvm.ClassFile.FieldType.int), [((0 : Nat), (9 : Nat), (12 : Nat), (21 : Nat)), ((0 : Nat), (9 : Nat), (15 : Nat), (15 : Nat))], false)
noncomputable def f_L_bestWidth (h : Hp) (a0 : Nat) (i1 : Int32) (a2 : Nat) : Option (Rs Int32) :=
  chk (okr h a0 8) <|
  bndX (f_X8_bestWidth h a0 i1) (fun h2 r3 => (
    chk (okr h2 a2 21) <|
    chk (vp_in (iN 0) (qW h2 a2)) <|
    lt (putL h2 a2 (Int32.toNatClampNeg (iN 0)) (Int32.toInt64 r3)) fun h6 =>
    some (h6, .inr (iN 0))
  )) fun h2 k =>
  if k = 2 then (
    some (h2, .inr (iN 1))
  ) else
  if k = 0 then (
    some (h2, .inr (iN 2))
  ) else
  none
theorem p_L_bestWidth {l : Launch} {K : Ctx} (hl : l.stackTraces = false) {h : Hp} {a0 : Nat} {i1 : Int32} {a2 : Nat} {t : Rs Int32} (e : f_L_bestWidth h a0 i1 a2 = some t) : X l K mM_L_bestWidth (tgI t) 0 [(0, .ref a0), (1, .int i1), (2, .ref a2)] [] h := by
  unfold f_L_bestWidth at e
  refine x_aload_n (pc := 0) 2 dL_bestWidth_0 rfl ?_
  refine x_iconst (pc := 1) dL_bestWidth_1 ?_
  refine x_aload_n (pc := 2) 0 dL_bestWidth_2 rfl ?_
  refine x_iload_n (pc := 3) 1 dL_bestWidth_3 rfl ?_
  obtain ⟨q1, e⟩ := chk_some e
  rcases bndX_some e with ⟨h2, k, ec, e⟩ | ⟨h2, r3, ec, e⟩
  · rcases ite_some e with ⟨q7, e⟩ | ⟨q7, e⟩
    · subst q7
      refine y_callV_x (pc := 4) (c_X8_bestWidth hl ec) q1 mf_X8_bestWidth tw_5_205 tw_5_206 lf_L_93 rfl rfl dL_bestWidth_4 (by decide) rfl rfl (leb rfl) (xx_catch (pc := 4) [] [(0, 9, 15, 15)] (0, 9, 12, 21) rfl (by decide) (fun _ hz => absurd hz List.not_mem_nil) (by decide) (by decide) tw_3_187 tw_3_229 dL_bestWidth_12 (by decide) rfl ?_)
      refine x_iconst (pc := 13) dL_bestWidth_13 ?_
      cases Option.some.inj e
      exact x_iret (pc := 14) rfl dL_bestWidth_14
    rcases ite_some e with ⟨q8, e⟩ | ⟨q8, e⟩
    · subst q8
      refine y_callV_x (pc := 4) (c_X8_bestWidth hl ec) q1 mf_X8_bestWidth tw_5_205 tw_5_206 lf_L_93 rfl rfl dL_bestWidth_4 (by decide) rfl rfl (leb rfl) (xx_catch (pc := 4) [(0, 9, 12, 21)] [] (0, 9, 15, 15) rfl (by decide) (List.forall_mem_cons.mpr ⟨⟨by decide, 2, by decide, by decide, tw_3_187⟩, fun _ hz => absurd hz List.not_mem_nil⟩) (by decide) (by decide) tw_3_77 tw_3_159 dL_bestWidth_15 (by decide) rfl ?_)
      refine x_iconst (pc := 16) dL_bestWidth_16 ?_
      cases Option.some.inj e
      exact x_iret (pc := 17) rfl dL_bestWidth_17
    cases e
  refine y_callV_i (pc := 4) (c_X8_bestWidth hl ec) q1 mf_X8_bestWidth tw_5_205 tw_5_206 lf_L_93 rfl rfl dL_bestWidth_4 (by decide) rfl rfl (leb rfl) ?_
  refine x_i2l (pc := 7) dL_bestWidth_7 ?_
  obtain ⟨q4, e⟩ := chk_some e
  obtain ⟨q5, e⟩ := chk_some e
  replace e := lt_go e
  refine x_last (pc := 8) dL_bestWidth_8 q4 q5 ?_
  refine x_goto (pc := 9) (t := 18) dL_bestWidth_9 (by decide) ?_
  refine x_iconst (pc := 18) dL_bestWidth_18 ?_
  cases Option.some.inj e
  exact x_iret (pc := 19) rfl dL_bestWidth_19
abbrev w_L_bestWidth : Cond := (Cond.codeWith yL_bestWidth cL_bestWidth 4 (Option.some Jvm.ClassFile.FieldType.int) [((0 : Nat), (9 : Nat), (12 : Nat), (21 : Nat)), ((0 : Nat), (9 : Nat), (15 : Nat), (15 : Nat))])
theorem mf_L_bestWidth : MFX yL_bestWidth w_L_bestWidth cL_bestWidth 4 (Option.some Jvm.ClassFile.FieldType.int) 3 [((0 : Nat), (9 : Nat), (12 : Nat), (21 : Nat)), ((0 : Nat), (9 : Nat), (15 : Nat), (15 : Nat))] := ⟨⟨rfl, tw_5_203, by decide⟩, tw_1_0, ⟨by decide, by decide⟩, by decide +kernel⟩
theorem c_L_bestWidth {l : Launch} {K : Ctx} (hl : l.stackTraces = false) {h : Hp} {a0 : Nat} {i1 : Int32} {a2 : Nat} {t : Rs Int32} (e : f_L_bestWidth h a0 i1 a2 = some t) : Ctr l K 23 yL_bestWidth w_L_bestWidth [.ref a0, .int i1, .ref a2] h (tgI t) :=
  Ctr.ofX hl mf_L_bestWidth rfl (leb rfl) (p_L_bestWidth hl e)
/-! ## TableColumnBalancerModel.reckons -/
abbrev mM_X9_reckons : Mi := (13, yX9_reckons.cls, cX9_reckons, 3, (Option.none : Option Jvm.ClassFile.FieldType), [], false)
noncomputable def f_X9_reckons_B18 (k2 : Hp → Nat → Int32 → Option (Rs Unit)) (k18 : Hp → Nat → Int32 → Int32 → Option (Rs Unit)) (h : Hp) (a0 : Nat) (i1 : Int32) (i2 : Int32) : Option (Rs Unit) :=
  if (iN 99) < i2 then (
    k2 h a0 (i1 + iN 1)
  ) else (
    chk (okr h a0 9) <|
    chk (okr h (qR h a0 28) 20) <|
    bnd (f_X9_heightOf h a0 i1 i2) fun h4 r5 =>
    chk (okr h4 (qR h a0 28) 20) <|
    chk (vp_in (((iN 100) * i1) + i2) (qW h4 (qR h a0 28))) <|
    lt (putI h4 (qR h a0 28) (Int32.toNatClampNeg (((iN 100) * i1) + i2)) r5) fun h8 =>
    k18 h8 a0 i1 (i2 + iN 1)
  )
theorem p_X9_reckons_B18 {l : Launch} {K : Ctx} (hl : l.stackTraces = false) {k2 : Hp → Nat → Int32 → Option (Rs Unit)} {k18 : Hp → Nat → Int32 → Int32 → Option (Rs Unit)} (hk2 : ∀ (h : Hp) (a0 : Nat) (i1 : Int32) (t : Rs Unit), k2 h a0 i1 = some t → X l K mM_X9_reckons (tgV t) 2 [(0, .ref a0), (1, .int i1)] [] h) (hk18 : ∀ (h : Hp) (a0 : Nat) (i1 : Int32) (i2 : Int32) (t : Rs Unit), k18 h a0 i1 i2 = some t → X l K mM_X9_reckons (tgV t) 18 [(0, .ref a0), (1, .int i1), (2, .int i2)] [] h) {h : Hp} {a0 : Nat} {i1 : Int32} {i2 : Int32} {t : Rs Unit} (e : f_X9_reckons_B18 k2 k18 h a0 i1 i2 = some t) : X l K mM_X9_reckons (tgV t) 18 [(0, .ref a0), (1, .int i1), (2, .int i2)] [] h := by
  unfold f_X9_reckons_B18 at e
  refine x_iload_n (pc := 18) 2 dX9_reckons_18 rfl ?_
  refine x_bipush (pc := 19) (v := iN 99) dX9_reckons_19 rfl ?_
  rcases ite_some e with ⟨q1, e⟩ | ⟨q1, e⟩
  · refine x_icmp_gt_t (pc := 21) (t := 47) dX9_reckons_21 (by decide) q1 ?_
    refine x_iinc (pc := 47) 1 dX9_reckons_47 rfl (by decide) rfl ?_
    refine x_goto (pc := 50) (t := 2) dX9_reckons_50 (by decide) ?_
    exact x_sub1 (hk2 _ _ _ _ e) [1, 0] rfl
  · refine x_icmp_gt_f (pc := 21) (t := 47) dX9_reckons_21 (by decide) q1 ?_
    refine x_aload_n (pc := 24) 0 dX9_reckons_24 rfl ?_
    obtain ⟨q2, e⟩ := chk_some e
    obtain ⟨q3, e⟩ := chk_some e
    refine x_getR (pc := 25) gf_X9_69 rfl dX9_reckons_25 q2 q3.1 ?_
    refine x_bipush (pc := 28) (v := iN 100) dX9_reckons_28 rfl ?_
    refine x_iload_n (pc := 30) 1 dX9_reckons_30 rfl ?_
    refine x_imul (pc := 31) dX9_reckons_31 ?_
    refine x_iload_n (pc := 32) 2 dX9_reckons_32 rfl ?_
    refine x_iadd (pc := 33) dX9_reckons_33 ?_
    refine x_aload_n (pc := 34) 0 dX9_reckons_34 rfl ?_
    refine x_iload_n (pc := 35) 1 dX9_reckons_35 rfl ?_
    refine x_iload_n (pc := 36) 2 dX9_reckons_36 rfl ?_
    rcases bnd_some e with ⟨h4, r5, ec, rfl⟩ | ⟨h4, r5, ec, e⟩
    · exact y_callV_x (pc := 37) (c_X9_heightOf hl ec) q2 mf_X9_heightOf tw_8_46 ts_9_0 lf_X9_299 rfl rfl dX9_reckons_37 (by decide) rfl rfl (leb rfl) (xx_out0 rfl)
    refine y_callV_i (pc := 37) (c_X9_heightOf hl ec) q2 mf_X9_heightOf tw_8_46 ts_9_0 lf_X9_299 rfl rfl dX9_reckons_37 (by decide) rfl rfl (leb rfl) ?_
    obtain ⟨q6, e⟩ := chk_some e
    obtain ⟨q7, e⟩ := chk_some e
    replace e := lt_go e
    refine x_iast (pc := 40) dX9_reckons_40 q6 q7 ?_
    refine x_iinc (pc := 41) 2 dX9_reckons_41 rfl (by decide) rfl ?_
    refine x_goto (pc := 44) (t := 18) dX9_reckons_44 (by decide) ?_
    exact x_sub1 (hk18 _ _ _ _ _ e) [1, 2, 0] rfl
noncomputable def f_X9_reckons_L18 (k2 : Hp → Nat → Int32 → Option (Rs Unit)) (n : Nat) : Hp → Nat → Int32 → Int32 → Option (Rs Unit) := Nat.rec (motive := fun _ => Hp → Nat → Int32 → Int32 → Option (Rs Unit)) (fun _ _ _ _ => none) (fun _ r => f_X9_reckons_B18 k2 r) n
theorem p_X9_reckons_L18 {l : Launch} {K : Ctx} (hl : l.stackTraces = false) {k2 : Hp → Nat → Int32 → Option (Rs Unit)} (hk2 : ∀ (h : Hp) (a0 : Nat) (i1 : Int32) (t : Rs Unit), k2 h a0 i1 = some t → X l K mM_X9_reckons (tgV t) 2 [(0, .ref a0), (1, .int i1)] [] h) : ∀ (n : Nat) (h : Hp) (a0 : Nat) (i1 : Int32) (i2 : Int32) (t : Rs Unit) (e : f_X9_reckons_L18 k2 n h a0 i1 i2 = some t), X l K mM_X9_reckons (tgV t) 18 [(0, .ref a0), (1, .int i1), (2, .int i2)] [] h := by
  intro n
  induction n with
  | zero => exact fun _ _ _ _ _ e => nomatch (show (none : Option (Rs Unit)) = some _ from e)
  | succ n ih => exact fun h a0 i1 i2 t e => p_X9_reckons_B18 hl hk2 (fun h a0 i1 i2 t e => ih h a0 i1 i2 t e) e
noncomputable def f_X9_reckons_B2 (k2 : Hp → Nat → Int32 → Option (Rs Unit)) (h : Hp) (a0 : Nat) (i1 : Int32) : Option (Rs Unit) :=
  chk (okr h a0 9) <|
  chk (okr h (qR h a0 1) 20) <|
  chk (vp_in (iN 5) (qW h (qR h a0 1))) <|
  if (qI h (qR h a0 1) (Int32.toNatClampNeg (iN 5))) ≤ i1 then (
    some (h, .inr ())
  ) else (
    bnd (f_X9_leastOf h a0 i1) fun h5 r6 =>
    f_X9_reckons_L18 k2 2000 h5 a0 i1 r6
  )
theorem p_X9_reckons_B2 {l : Launch} {K : Ctx} (hl : l.stackTraces = false) {k2 : Hp → Nat → Int32 → Option (Rs Unit)} (hk2 : ∀ (h : Hp) (a0 : Nat) (i1 : Int32) (t : Rs Unit), k2 h a0 i1 = some t → X l K mM_X9_reckons (tgV t) 2 [(0, .ref a0), (1, .int i1)] [] h) {h : Hp} {a0 : Nat} {i1 : Int32} {t : Rs Unit} (e : f_X9_reckons_B2 k2 h a0 i1 = some t) : X l K mM_X9_reckons (tgV t) 2 [(0, .ref a0), (1, .int i1)] [] h := by
  unfold f_X9_reckons_B2 at e
  refine x_iload_n (pc := 2) 1 dX9_reckons_2 rfl ?_
  refine x_aload_n (pc := 3) 0 dX9_reckons_3 rfl ?_
  obtain ⟨q1, e⟩ := chk_some e
  obtain ⟨q2, e⟩ := chk_some e
  refine x_getR (pc := 4) gf_X9_9 rfl dX9_reckons_4 q1 q2.1 ?_
  refine x_iconst (pc := 7) dX9_reckons_7 ?_
  obtain ⟨q3, e⟩ := chk_some e
  refine x_iald (pc := 8) dX9_reckons_8 q2 q3 ?_
  rcases ite_some e with ⟨q4, e⟩ | ⟨q4, e⟩
  · refine x_icmp_ge_t (pc := 9) (t := 53) dX9_reckons_9 (by decide) q4 ?_
    cases Option.some.inj e
    exact x_vret (pc := 53) rfl dX9_reckons_53
  · refine x_icmp_ge_f (pc := 9) (t := 53) dX9_reckons_9 (by decide) q4 ?_
    refine x_aload_n (pc := 12) 0 dX9_reckons_12 rfl ?_
    refine x_iload_n (pc := 13) 1 dX9_reckons_13 rfl ?_
    rcases bnd_some e with ⟨h5, r6, ec, rfl⟩ | ⟨h5, r6, ec, e⟩
    · exact y_callV_x (pc := 14) (c_X9_leastOf hl ec) q1 mf_X9_leastOf tw_7_235 ts_8_8 lf_X9_293 rfl rfl dX9_reckons_14 (by decide) rfl rfl (leb rfl) (xx_out0 rfl)
    refine y_callV_i (pc := 14) (c_X9_leastOf hl ec) q1 mf_X9_leastOf tw_7_235 ts_8_8 lf_X9_293 rfl rfl dX9_reckons_14 (by decide) rfl rfl (leb rfl) ?_
    refine x_istore_n (pc := 17) dX9_reckons_17 (by decide) rfl ?_
    exact x_sub1 (p_X9_reckons_L18 hl hk2 2000 _ _ _ _ _ e) [1, 2, 0] rfl
noncomputable def f_X9_reckons_L2 (n : Nat) : Hp → Nat → Int32 → Option (Rs Unit) := Nat.rec (motive := fun _ => Hp → Nat → Int32 → Option (Rs Unit)) (fun _ _ _ => none) (fun _ r => f_X9_reckons_B2 r) n
theorem p_X9_reckons_L2 {l : Launch} {K : Ctx} (hl : l.stackTraces = false) : ∀ (n : Nat) (h : Hp) (a0 : Nat) (i1 : Int32) (t : Rs Unit) (e : f_X9_reckons_L2 n h a0 i1 = some t), X l K mM_X9_reckons (tgV t) 2 [(0, .ref a0), (1, .int i1)] [] h := by
  intro n
  induction n with
  | zero => exact fun _ _ _ _ e => nomatch (show (none : Option (Rs Unit)) = some _ from e)
  | succ n ih => exact fun h a0 i1 t e => p_X9_reckons_B2 hl (fun h a0 i1 t e => ih h a0 i1 t e) e
noncomputable def f_X9_reckons (h : Hp) (a0 : Nat) : Option (Rs Unit) :=
  f_X9_reckons_L2 2000 h a0 (iN 0)
theorem p_X9_reckons {l : Launch} {K : Ctx} (hl : l.stackTraces = false) {h : Hp} {a0 : Nat} {t : Rs Unit} (e : f_X9_reckons h a0 = some t) : X l K mM_X9_reckons (tgV t) 0 [(0, .ref a0)] [] h := by
  unfold f_X9_reckons at e
  refine x_iconst (pc := 0) dX9_reckons_0 ?_
  refine x_istore_n (pc := 1) dX9_reckons_1 (by decide) rfl ?_
  exact x_sub1 (p_X9_reckons_L2 hl 2000 _ _ _ _ e) [1, 0] rfl
abbrev w_X9_reckons : Cond := (Cond.code yX9_reckons cX9_reckons 3 (Option.none : Option Jvm.ClassFile.FieldType))
theorem mf_X9_reckons : MF yX9_reckons w_X9_reckons cX9_reckons 3 (Option.none : Option Jvm.ClassFile.FieldType) 0 := ⟨⟨rfl, tw_8_151, by decide⟩, tw_1_11, ⟨by decide, by decide⟩, by decide +kernel⟩
theorem c_X9_reckons {l : Launch} {K : Ctx} (hl : l.stackTraces = false) {h : Hp} {a0 : Nat} {t : Rs Unit} (e : f_X9_reckons h a0 = some t) : Ctr l K 13 yX9_reckons w_X9_reckons [.ref a0] h (tgV t) :=
  Ctr.of hl mf_X9_reckons false (fun q => nomatch q) rfl (leb rfl) (p_X9_reckons hl e)
/-! ## TableColumnBalancerModel.tableReckoned -/
abbrev mM_X9_tableReckoned : Mi := (10, yX9_tableReckoned.cls, cX9_tableReckoned, 4, (Option.some Jvm.ClassFile.FieldType.int), [], false)
noncomputable def f_X9_tableReckoned_B98 (k98 : Hp → Nat → Int32 → Int32 → Option (Rs Int32)) (h : Hp) (a0 : Nat) (i2 : Int32) (i3 : Int32) : Option (Rs Int32) :=
  if (iN 6) ≤ i3 then (
    some (h, .inr i2)
  ) else (
    chk (okr h a0 9) <|
    chk (okr h (qR h a0 29) 20) <|
    chk (vp_in i3 (qW h (qR h a0 29))) <|
    k98 h a0 (i2 + (qI h (qR h a0 29) (Int32.toNatClampNeg i3))) (i3 + iN 1)
  )
theorem p_X9_tableReckoned_B98 {l : Launch} {K : Ctx} (hl : l.stackTraces = false) {k98 : Hp → Nat → Int32 → Int32 → Option (Rs Int32)} (hk98 : ∀ (h : Hp) (a0 : Nat) (i2 : Int32) (i3 : Int32) (t : Rs Int32), k98 h a0 i2 i3 = some t → X l K mM_X9_tableReckoned (tgI t) 98 [(0, .ref a0), (2, .int i2), (3, .int i3)] [] h) {h : Hp} {a0 : Nat} {i2 : Int32} {i3 : Int32} {t : Rs Int32} (e : f_X9_tableReckoned_B98 k98 h a0 i2 i3 = some t) : X l K mM_X9_tableReckoned (tgI t) 98 [(0, .ref a0), (2, .int i2), (3, .int i3)] [] h := by
  unfold f_X9_tableReckoned_B98 at e
  refine x_iload_n (pc := 98) 2 dX9_tableReckoned_98 rfl ?_
  refine x_bipush (pc := 99) (v := iN 6) dX9_tableReckoned_99 rfl ?_
  rcases ite_some e with ⟨q1, e⟩ | ⟨q1, e⟩
  · refine x_icmp_ge_t (pc := 101) (t := 119) dX9_tableReckoned_101 (by decide) q1 ?_
    refine x_iload_n (pc := 119) 1 dX9_tableReckoned_119 rfl ?_
    cases Option.some.inj e
    exact x_iret (pc := 120) rfl dX9_tableReckoned_120
  · refine x_icmp_ge_f (pc := 101) (t := 119) dX9_tableReckoned_101 (by decide) q1 ?_
    refine x_iload_n (pc := 104) 1 dX9_tableReckoned_104 rfl ?_
    refine x_aload_n (pc := 105) 0 dX9_tableReckoned_105 rfl ?_
    obtain ⟨q2, e⟩ := chk_some e
    obtain ⟨q3, e⟩ := chk_some e
    refine x_getR (pc := 106) gf_X9_72 rfl dX9_tableReckoned_106 q2 q3.1 ?_
    refine x_iload_n (pc := 109) 2 dX9_tableReckoned_109 rfl ?_
    obtain ⟨q4, e⟩ := chk_some e
    refine x_iald (pc := 110) dX9_tableReckoned_110 q3 q4 ?_
    refine x_iadd (pc := 111) dX9_tableReckoned_111 ?_
    refine x_istore_n (pc := 112) dX9_tableReckoned_112 (by decide) rfl ?_
    refine x_iinc (pc := 113) 2 dX9_tableReckoned_113 rfl (by decide) rfl ?_
    refine x_goto (pc := 116) (t := 98) dX9_tableReckoned_116 (by decide) ?_
    exact x_sub1 (hk98 _ _ _ _ _ e) [2, 1, 0] rfl
noncomputable def f_X9_tableReckoned_L98 (n : Nat) : Hp → Nat → Int32 → Int32 → Option (Rs Int32) := Nat.rec (motive := fun _ => Hp → Nat → Int32 → Int32 → Option (Rs Int32)) (fun _ _ _ _ => none) (fun _ r => f_X9_tableReckoned_B98 r) n
theorem p_X9_tableReckoned_L98 {l : Launch} {K : Ctx} (hl : l.stackTraces = false) : ∀ (n : Nat) (h : Hp) (a0 : Nat) (i2 : Int32) (i3 : Int32) (t : Rs Int32) (e : f_X9_tableReckoned_L98 n h a0 i2 i3 = some t), X l K mM_X9_tableReckoned (tgI t) 98 [(0, .ref a0), (2, .int i2), (3, .int i3)] [] h := by
  intro n
  induction n with
  | zero => exact fun _ _ _ _ _ e => nomatch (show (none : Option (Rs Int32)) = some _ from e)
  | succ n ih => exact fun h a0 i2 i3 t e => p_X9_tableReckoned_B98 hl (fun h a0 i2 i3 t e => ih h a0 i2 i3 t e) e
noncomputable def f_X9_tableReckoned_B23 (k23 : Hp → Nat → Nat → Int32 → Option (Rs Int32)) (h : Hp) (a0 : Nat) (a1 : Nat) (i2 : Int32) : Option (Rs Int32) :=
  chk (okr h a0 9) <|
  chk (okr h (qR h a0 1) 20) <|
  chk (vp_in (iN 5) (qW h (qR h a0 1))) <|
  if (qI h (qR h a0 1) (Int32.toNatClampNeg (iN 5))) ≤ i2 then (
    chk (vp_in (iN 2) (qW h (qR h a0 1))) <|
    chk (vp_in (iN 4) (qW h (qR h a0 1))) <|
    f_X9_tableReckoned_L98 2000 h a0 ((qI h (qR h a0 1) (Int32.toNatClampNeg (iN 2))) * ((qI h (qR h a0 1) (Int32.toNatClampNeg (iN 4))) + (iN 1))) (iN 0)
  ) else (
    chk (okr h (qR h a0 29) 20) <|
    bnd (f_X9_of h a0 i2 (iN 0)) fun h8 r9 =>
    chk (okr h8 a0 9) <|
    chk (okr h8 (qR h8 a0 29) 20) <|
    bnd (f_X9_of h8 a0 i2 (iN 0)) fun h12 r13 =>
    chk (okr h12 (qR h8 a0 29) 20) <|
    chk (vp_in r13 (qW h12 (qR h8 a0 29))) <|
    chk (okr h12 a0 9) <|
    chk (okr h12 (qR h12 a0 28) 20) <|
    bnd (f_X9_widthOf h12 a0 i2 a1) fun h18 r19 =>
    chk (okr h18 (qR h12 a0 28) 20) <|
    chk (vp_in (((iN 100) * i2) + r19) (qW h18 (qR h12 a0 28))) <|
    bnd (f_X9_greater h18 (qI h12 (qR h8 a0 29) (Int32.toNatClampNeg r13)) (qI h18 (qR h12 a0 28) (Int32.toNatClampNeg (((iN 100) * i2) + r19)))) fun h22 r23 =>
    chk (okr h22 (qR h a0 29) 20) <|
    chk (vp_in r9 (qW h22 (qR h a0 29))) <|
    lt (putI h22 (qR h a0 29) (Int32.toNatClampNeg r9) r23) fun h26 =>
    k23 h26 a0 a1 (i2 + iN 1)
  )
theorem p_X9_tableReckoned_B23 {l : Launch} {K : Ctx} (hl : l.stackTraces = false) {k23 : Hp → Nat → Nat → Int32 → Option (Rs Int32)} (hk23 : ∀ (h : Hp) (a0 : Nat) (a1 : Nat) (i2 : Int32) (t : Rs Int32), k23 h a0 a1 i2 = some t → X l K mM_X9_tableReckoned (tgI t) 23 [(0, .ref a0), (1, .ref a1), (2, .int i2)] [] h) {h : Hp} {a0 : Nat} {a1 : Nat} {i2 : Int32} {t : Rs Int32} (e : f_X9_tableReckoned_B23 k23 h a0 a1 i2 = some t) : X l K mM_X9_tableReckoned (tgI t) 23 [(0, .ref a0), (1, .ref a1), (2, .int i2)] [] h := by
  unfold f_X9_tableReckoned_B23 at e
  refine x_iload_n (pc := 23) 2 dX9_tableReckoned_23 rfl ?_
  refine x_aload_n (pc := 24) 0 dX9_tableReckoned_24 rfl ?_
  obtain ⟨q1, e⟩ := chk_some e
  obtain ⟨q2, e⟩ := chk_some e
  refine x_getR (pc := 25) gf_X9_9 rfl dX9_tableReckoned_25 q1 q2.1 ?_
  refine x_iconst (pc := 28) dX9_tableReckoned_28 ?_
  obtain ⟨q3, e⟩ := chk_some e
  refine x_iald (pc := 29) dX9_tableReckoned_29 q2 q3 ?_
  rcases ite_some e with ⟨q4, e⟩ | ⟨q4, e⟩
  · refine x_icmp_ge_t (pc := 30) (t := 80) dX9_tableReckoned_30 (by decide) q4 ?_
    refine x_aload_n (pc := 80) 0 dX9_tableReckoned_80 rfl ?_
    refine x_getR (pc := 81) gf_X9_9 rfl dX9_tableReckoned_81 q1 q2.1 ?_
    refine x_iconst (pc := 84) dX9_tableReckoned_84 ?_
    obtain ⟨q5, e⟩ := chk_some e
    refine x_iald (pc := 85) dX9_tableReckoned_85 q2 q5 ?_
    refine x_aload_n (pc := 86) 0 dX9_tableReckoned_86 rfl ?_
    refine x_getR (pc := 87) gf_X9_9 rfl dX9_tableReckoned_87 q1 q2.1 ?_
    refine x_iconst (pc := 90) dX9_tableReckoned_90 ?_
    obtain ⟨q6, e⟩ := chk_some e
    refine x_iald (pc := 91) dX9_tableReckoned_91 q2 q6 ?_
    refine x_iconst (pc := 92) dX9_tableReckoned_92 ?_
    refine x_iadd (pc := 93) dX9_tableReckoned_93 ?_
    refine x_imul (pc := 94) dX9_tableReckoned_94 ?_
    refine x_istore_n (pc := 95) dX9_tableReckoned_95 (by decide) rfl ?_
    refine x_iconst (pc := 96) dX9_tableReckoned_96 ?_
    refine x_istore_n (pc := 97) dX9_tableReckoned_97 (by decide) rfl ?_
    exact x_sub1 (p_X9_tableReckoned_L98 hl 2000 _ _ _ _ _ e) [2, 1, 0] rfl
  · refine x_icmp_ge_f (pc := 30) (t := 80) dX9_tableReckoned_30 (by decide) q4 ?_
    refine x_aload_n (pc := 33) 0 dX9_tableReckoned_33 rfl ?_
    obtain ⟨q7, e⟩ := chk_some e
    refine x_getR (pc := 34) gf_X9_72 rfl dX9_tableReckoned_34 q1 q7.1 ?_
    refine x_aload_n (pc := 37) 0 dX9_tableReckoned_37 rfl ?_
    refine x_iload_n (pc := 38) 2 dX9_tableReckoned_38 rfl ?_
    refine x_iconst (pc := 39) dX9_tableReckoned_39 ?_
    rcases bnd_some e with ⟨h8, r9, ec, rfl⟩ | ⟨h8, r9, ec, e⟩
    · exact y_callV_x (pc := 40) (c_X9_of hl ec) q1 mf_X9_of tw_7_63 ts_6_12 lf_X9_91 rfl rfl dX9_tableReckoned_40 (by decide) rfl rfl (leb rfl) (xx_out0 rfl)
    refine y_callV_i (pc := 40) (c_X9_of hl ec) q1 mf_X9_of tw_7_63 ts_6_12 lf_X9_91 rfl rfl dX9_tableReckoned_40 (by decide) rfl rfl (leb rfl) ?_
    refine x_aload_n (pc := 43) 0 dX9_tableReckoned_43 rfl ?_
    obtain ⟨q10, e⟩ := chk_some e
    obtain ⟨q11, e⟩ := chk_some e
    refine x_getR (pc := 44) gf_X9_72 rfl dX9_tableReckoned_44 q10 q11.1 ?_
    refine x_aload_n (pc := 47) 0 dX9_tableReckoned_47 rfl ?_
    refine x_iload_n (pc := 48) 2 dX9_tableReckoned_48 rfl ?_
    refine x_iconst (pc := 49) dX9_tableReckoned_49 ?_
    rcases bnd_some e with ⟨h12, r13, ec, rfl⟩ | ⟨h12, r13, ec, e⟩
    · exact y_callV_x (pc := 50) (c_X9_of hl ec) q10 mf_X9_of tw_7_63 ts_6_12 lf_X9_91 rfl rfl dX9_tableReckoned_50 (by decide) rfl rfl (leb rfl) (xx_out0 rfl)
    refine y_callV_i (pc := 50) (c_X9_of hl ec) q10 mf_X9_of tw_7_63 ts_6_12 lf_X9_91 rfl rfl dX9_tableReckoned_50 (by decide) rfl rfl (leb rfl) ?_
    obtain ⟨q14, e⟩ := chk_some e
    obtain ⟨q15, e⟩ := chk_some e
    refine x_iald (pc := 53) dX9_tableReckoned_53 q14 q15 ?_
    refine x_aload_n (pc := 54) 0 dX9_tableReckoned_54 rfl ?_
    obtain ⟨q16, e⟩ := chk_some e
    obtain ⟨q17, e⟩ := chk_some e
    refine x_getR (pc := 55) gf_X9_69 rfl dX9_tableReckoned_55 q16 q17.1 ?_
    refine x_bipush (pc := 58) (v := iN 100) dX9_tableReckoned_58 rfl ?_
    refine x_iload_n (pc := 60) 2 dX9_tableReckoned_60 rfl ?_
    refine x_imul (pc := 61) dX9_tableReckoned_61 ?_
    refine x_aload_n (pc := 62) 0 dX9_tableReckoned_62 rfl ?_
    refine x_iload_n (pc := 63) 2 dX9_tableReckoned_63 rfl ?_
    refine x_aload_n (pc := 64) 1 dX9_tableReckoned_64 rfl ?_
    rcases bnd_some e with ⟨h18, r19, ec, rfl⟩ | ⟨h18, r19, ec, e⟩
    · exact y_callV_x (pc := 65) (c_X9_widthOf hl ec) q16 mf_X9_widthOf tw_8_138 ts_10_1 lf_X9_341 rfl rfl dX9_tableReckoned_65 (by decide) rfl rfl (leb rfl) (xx_out0 rfl)
    refine y_callV_i (pc := 65) (c_X9_widthOf hl ec) q16 mf_X9_widthOf tw_8_138 ts_10_1 lf_X9_341 rfl rfl dX9_tableReckoned_65 (by decide) rfl rfl (leb rfl) ?_
    refine x_iadd (pc := 68) dX9_tableReckoned_68 ?_
    obtain ⟨q20, e⟩ := chk_some e
    obtain ⟨q21, e⟩ := chk_some e
    refine x_iald (pc := 69) dX9_tableReckoned_69 q20 q21 ?_
    rcases bnd_some e with ⟨h22, r23, ec, rfl⟩ | ⟨h22, r23, ec, e⟩
    · exact y_callS_x (pc := 70) (c_X9_greater hl ec) mf_X9_greater tw_8_10 lf_X9_277 dX9_tableReckoned_70 (by decide) rfl rfl (leb rfl) (xx_out0 rfl)
    refine y_callS_i (pc := 70) (c_X9_greater hl ec) mf_X9_greater tw_8_10 lf_X9_277 dX9_tableReckoned_70 (by decide) rfl rfl (leb rfl) ?_
    obtain ⟨q24, e⟩ := chk_some e
    obtain ⟨q25, e⟩ := chk_some e
    replace e := lt_go e
    refine x_iast (pc := 73) dX9_tableReckoned_73 q24 q25 ?_
    refine x_iinc (pc := 74) 2 dX9_tableReckoned_74 rfl (by decide) rfl ?_
    refine x_goto (pc := 77) (t := 23) dX9_tableReckoned_77 (by decide) ?_
    exact x_sub1 (hk23 _ _ _ _ _ e) [1, 2, 0] rfl
noncomputable def f_X9_tableReckoned_L23 (n : Nat) : Hp → Nat → Nat → Int32 → Option (Rs Int32) := Nat.rec (motive := fun _ => Hp → Nat → Nat → Int32 → Option (Rs Int32)) (fun _ _ _ _ => none) (fun _ r => f_X9_tableReckoned_B23 r) n
theorem p_X9_tableReckoned_L23 {l : Launch} {K : Ctx} (hl : l.stackTraces = false) : ∀ (n : Nat) (h : Hp) (a0 : Nat) (a1 : Nat) (i2 : Int32) (t : Rs Int32) (e : f_X9_tableReckoned_L23 n h a0 a1 i2 = some t), X l K mM_X9_tableReckoned (tgI t) 23 [(0, .ref a0), (1, .ref a1), (2, .int i2)] [] h := by
  intro n
  induction n with
  | zero => exact fun _ _ _ _ _ e => nomatch (show (none : Option (Rs Int32)) = some _ from e)
  | succ n ih => exact fun h a0 a1 i2 t e => p_X9_tableReckoned_B23 hl (fun h a0 a1 i2 t e => ih h a0 a1 i2 t e) e
noncomputable def f_X9_tableReckoned_B2 (k2 : Hp → Nat → Nat → Int32 → Option (Rs Int32)) (h : Hp) (a0 : Nat) (a1 : Nat) (i2 : Int32) : Option (Rs Int32) :=
  if (iN 6) ≤ i2 then (
    f_X9_tableReckoned_L23 2000 h a0 a1 (iN 0)
  ) else (
    chk (okr h a0 9) <|
    chk (okr h (qR h a0 29) 20) <|
    chk (vp_in i2 (qW h (qR h a0 29))) <|
    lt (putI h (qR h a0 29) (Int32.toNatClampNeg i2) (iN 0)) fun h5 =>
    k2 h5 a0 a1 (i2 + iN 1)
  )
theorem p_X9_tableReckoned_B2 {l : Launch} {K : Ctx} (hl : l.stackTraces = false) {k2 : Hp → Nat → Nat → Int32 → Option (Rs Int32)} (hk2 : ∀ (h : Hp) (a0 : Nat) (a1 : Nat) (i2 : Int32) (t : Rs Int32), k2 h a0 a1 i2 = some t → X l K mM_X9_tableReckoned (tgI t) 2 [(0, .ref a0), (1, .ref a1), (2, .int i2)] [] h) {h : Hp} {a0 : Nat} {a1 : Nat} {i2 : Int32} {t : Rs Int32} (e : f_X9_tableReckoned_B2 k2 h a0 a1 i2 = some t) : X l K mM_X9_tableReckoned (tgI t) 2 [(0, .ref a0), (1, .ref a1), (2, .int i2)] [] h := by
  unfold f_X9_tableReckoned_B2 at e
  refine x_iload_n (pc := 2) 2 dX9_tableReckoned_2 rfl ?_
  refine x_bipush (pc := 3) (v := iN 6) dX9_tableReckoned_3 rfl ?_
  rcases ite_some e with ⟨q1, e⟩ | ⟨q1, e⟩
  · refine x_icmp_ge_t (pc := 5) (t := 21) dX9_tableReckoned_5 (by decide) q1 ?_
    refine x_iconst (pc := 21) dX9_tableReckoned_21 ?_
    refine x_istore_n (pc := 22) dX9_tableReckoned_22 (by decide) rfl ?_
    exact x_sub1 (p_X9_tableReckoned_L23 hl 2000 _ _ _ _ _ e) [1, 2, 0] rfl
  · refine x_icmp_ge_f (pc := 5) (t := 21) dX9_tableReckoned_5 (by decide) q1 ?_
    refine x_aload_n (pc := 8) 0 dX9_tableReckoned_8 rfl ?_
    obtain ⟨q2, e⟩ := chk_some e
    obtain ⟨q3, e⟩ := chk_some e
    refine x_getR (pc := 9) gf_X9_72 rfl dX9_tableReckoned_9 q2 q3.1 ?_
    refine x_iload_n (pc := 12) 2 dX9_tableReckoned_12 rfl ?_
    refine x_iconst (pc := 13) dX9_tableReckoned_13 ?_
    obtain ⟨q4, e⟩ := chk_some e
    replace e := lt_go e
    refine x_iast (pc := 14) dX9_tableReckoned_14 q3 q4 ?_
    refine x_iinc (pc := 15) 2 dX9_tableReckoned_15 rfl (by decide) rfl ?_
    refine x_goto (pc := 18) (t := 2) dX9_tableReckoned_18 (by decide) ?_
    exact x_sub1 (hk2 _ _ _ _ _ e) [1, 2, 0] rfl
noncomputable def f_X9_tableReckoned_L2 (n : Nat) : Hp → Nat → Nat → Int32 → Option (Rs Int32) := Nat.rec (motive := fun _ => Hp → Nat → Nat → Int32 → Option (Rs Int32)) (fun _ _ _ _ => none) (fun _ r => f_X9_tableReckoned_B2 r) n
theorem p_X9_tableReckoned_L2 {l : Launch} {K : Ctx} (hl : l.stackTraces = false) : ∀ (n : Nat) (h : Hp) (a0 : Nat) (a1 : Nat) (i2 : Int32) (t : Rs Int32) (e : f_X9_tableReckoned_L2 n h a0 a1 i2 = some t), X l K mM_X9_tableReckoned (tgI t) 2 [(0, .ref a0), (1, .ref a1), (2, .int i2)] [] h := by
  intro n
  induction n with
  | zero => exact fun _ _ _ _ _ e => nomatch (show (none : Option (Rs Int32)) = some _ from e)
  | succ n ih => exact fun h a0 a1 i2 t e => p_X9_tableReckoned_B2 hl (fun h a0 a1 i2 t e => ih h a0 a1 i2 t e) e
noncomputable def f_X9_tableReckoned (h : Hp) (a0 : Nat) (a1 : Nat) : Option (Rs Int32) :=
  f_X9_tableReckoned_L2 2000 h a0 a1 (iN 0)
theorem p_X9_tableReckoned {l : Launch} {K : Ctx} (hl : l.stackTraces = false) {h : Hp} {a0 : Nat} {a1 : Nat} {t : Rs Int32} (e : f_X9_tableReckoned h a0 a1 = some t) : X l K mM_X9_tableReckoned (tgI t) 0 [(0, .ref a0), (1, .ref a1)] [] h := by
  unfold f_X9_tableReckoned at e
  refine x_iconst (pc := 0) dX9_tableReckoned_0 ?_
  refine x_istore_n (pc := 1) dX9_tableReckoned_1 (by decide) rfl ?_
  exact x_sub1 (p_X9_tableReckoned_L2 hl 2000 _ _ _ _ _ e) [1, 2, 0] rfl
abbrev w_X9_tableReckoned : Cond := (Cond.code yX9_tableReckoned cX9_tableReckoned 4 (Option.some Jvm.ClassFile.FieldType.int))
theorem mf_X9_tableReckoned : MF yX9_tableReckoned w_X9_tableReckoned cX9_tableReckoned 4 (Option.some Jvm.ClassFile.FieldType.int) 1 := ⟨⟨rfl, tw_8_163, by decide⟩, tw_1_11, ⟨by decide, by decide⟩, by decide +kernel⟩
theorem c_X9_tableReckoned {l : Launch} {K : Ctx} (hl : l.stackTraces = false) {h : Hp} {a0 : Nat} {a1 : Nat} {t : Rs Int32} (e : f_X9_tableReckoned h a0 a1 = some t) : Ctr l K 10 yX9_tableReckoned w_X9_tableReckoned [.ref a0, .ref a1] h (tgI t) :=
  Ctr.of hl mf_X9_tableReckoned false (fun q => nomatch q) rfl (leb rfl) (p_X9_tableReckoned hl e)
/-! ## TableColumnBalancerModel.looks -/
abbrev mM_X9_looks (D : Nat) : Mi := (D, yX9_looks.cls, cX9_looks, 6, (Option.none : Option Jvm.ClassFile.FieldType), [], false)
abbrev w_X9_looks : Cond := (Cond.code yX9_looks cX9_looks 6 (Option.none : Option Jvm.ClassFile.FieldType))
theorem mf_X9_looks : MF yX9_looks w_X9_looks cX9_looks 6 (Option.none : Option Jvm.ClassFile.FieldType) 2 := ⟨⟨rfl, tw_8_159, by decide⟩, tw_1_11, ⟨by decide, by decide⟩, by decide +kernel⟩
noncomputable def f_X9_looks_B48 (self : Hp → Nat → Int32 → Int32 → Option (Rs Unit)) (k48 : Hp → Nat → Int32 → Option (Rs Unit)) (h : Hp) (a0 : Nat) (i4 : Int32) : Option (Rs Unit) :=
  if (iN 4) ≤ i4 then (
    some (h, .inr ())
  ) else (
    chk (okr h a0 9) <|
    chk (okr h (qR h a0 31) 20) <|
    chk (okr h (qR h a0 30) 20) <|
    chk (vp_in i4 (qW h (qR h a0 30))) <|
    chk (vp_in i4 (qW h (qR h a0 31))) <|
    lt (putI h (qR h a0 31) (Int32.toNatClampNeg i4) (qI h (qR h a0 30) (Int32.toNatClampNeg i4))) fun h7 =>
    k48 h7 a0 (i4 + iN 1)
  )
theorem p_X9_looks_B48 {l : Launch} {K : Ctx} {D : Nat} {self : Hp → Nat → Int32 → Int32 → Option (Rs Unit)} (hl : l.stackTraces = false) {Dc : Nat} (hD : Dc + 1 ≤ D) (hD0 : 11 ≤ D) (hs : ∀ {h : Hp} {a0 : Nat} {i1 : Int32} {i2 : Int32} {t : Rs Unit} (e : self h a0 i1 i2 = some t), Ctr l K Dc yX9_looks w_X9_looks [.ref a0, .int i1, .int i2] h (tgV t)) {k48 : Hp → Nat → Int32 → Option (Rs Unit)} (hk48 : ∀ (h : Hp) (a0 : Nat) (i4 : Int32) (t : Rs Unit), k48 h a0 i4 = some t → X l K (mM_X9_looks D) (tgV t) 48 [(0, .ref a0), (4, .int i4)] [] h) {h : Hp} {a0 : Nat} {i4 : Int32} {t : Rs Unit} (e : f_X9_looks_B48 self k48 h a0 i4 = some t) : X l K (mM_X9_looks D) (tgV t) 48 [(0, .ref a0), (4, .int i4)] [] h := by
  unfold f_X9_looks_B48 at e
  refine x_iload (pc := 48) 1 dX9_looks_48 rfl ?_
  refine x_iconst (pc := 50) dX9_looks_50 ?_
  rcases ite_some e with ⟨q1, e⟩ | ⟨q1, e⟩
  · refine x_icmp_ge_t (pc := 51) (t := 74) dX9_looks_51 (by decide) q1 ?_
    cases Option.some.inj e
    exact x_vret (pc := 74) rfl dX9_looks_74
  · refine x_icmp_ge_f (pc := 51) (t := 74) dX9_looks_51 (by decide) q1 ?_
    refine x_aload_n (pc := 54) 0 dX9_looks_54 rfl ?_
    obtain ⟨q2, e⟩ := chk_some e
    obtain ⟨q3, e⟩ := chk_some e
    refine x_getR (pc := 55) gf_X9_78 rfl dX9_looks_55 q2 q3.1 ?_
    refine x_iload (pc := 58) 1 dX9_looks_58 rfl ?_
    refine x_aload_n (pc := 60) 0 dX9_looks_60 rfl ?_
    obtain ⟨q4, e⟩ := chk_some e
    refine x_getR (pc := 61) gf_X9_75 rfl dX9_looks_61 q2 q4.1 ?_
    refine x_iload (pc := 64) 1 dX9_looks_64 rfl ?_
    obtain ⟨q5, e⟩ := chk_some e
    refine x_iald (pc := 66) dX9_looks_66 q4 q5 ?_
    obtain ⟨q6, e⟩ := chk_some e
    replace e := lt_go e
    refine x_iast (pc := 67) dX9_looks_67 q3 q6 ?_
    refine x_iinc (pc := 68) 1 dX9_looks_68 rfl (ltb rfl) rfl ?_
    refine x_goto (pc := 71) (t := 48) dX9_looks_71 (by decide) ?_
    exact x_sub1 (hk48 _ _ _ _ e) [1, 0] rfl
noncomputable def f_X9_looks_L48 (self : Hp → Nat → Int32 → Int32 → Option (Rs Unit)) (n : Nat) : Hp → Nat → Int32 → Option (Rs Unit) := Nat.rec (motive := fun _ => Hp → Nat → Int32 → Option (Rs Unit)) (fun _ _ _ => none) (fun _ r => f_X9_looks_B48 self r) n
theorem p_X9_looks_L48 {l : Launch} {K : Ctx} {D : Nat} {self : Hp → Nat → Int32 → Int32 → Option (Rs Unit)} (hl : l.stackTraces = false) {Dc : Nat} (hD : Dc + 1 ≤ D) (hD0 : 11 ≤ D) (hs : ∀ {h : Hp} {a0 : Nat} {i1 : Int32} {i2 : Int32} {t : Rs Unit} (e : self h a0 i1 i2 = some t), Ctr l K Dc yX9_looks w_X9_looks [.ref a0, .int i1, .int i2] h (tgV t)) : ∀ (n : Nat) (h : Hp) (a0 : Nat) (i4 : Int32) (t : Rs Unit) (e : f_X9_looks_L48 self n h a0 i4 = some t), X l K (mM_X9_looks D) (tgV t) 48 [(0, .ref a0), (4, .int i4)] [] h := by
  intro n
  induction n with
  | zero => exact fun _ _ _ _ e => nomatch (show (none : Option (Rs Unit)) = some _ from e)
  | succ n ih => exact fun h a0 i4 t e => p_X9_looks_B48 hl hD hD0 hs (fun h a0 i4 t e => ih h a0 i4 t e) e
noncomputable def f_X9_looks_L40 (self : Hp → Nat → Int32 → Int32 → Option (Rs Unit)) (h : Hp) (a0 : Nat) (i3 : Int32) : Option (Rs Unit) :=
  chk (okr h a0 9) <|
  lt (putI h a0 32 i3) fun h2 =>
  f_X9_looks_L48 self 2000 h2 a0 (iN 0)
theorem p_X9_looks_L40 {l : Launch} {K : Ctx} {D : Nat} {self : Hp → Nat → Int32 → Int32 → Option (Rs Unit)} (hl : l.stackTraces = false) {Dc : Nat} (hD : Dc + 1 ≤ D) (hD0 : 11 ≤ D) (hs : ∀ {h : Hp} {a0 : Nat} {i1 : Int32} {i2 : Int32} {t : Rs Unit} (e : self h a0 i1 i2 = some t), Ctr l K Dc yX9_looks w_X9_looks [.ref a0, .int i1, .int i2] h (tgV t)) {h : Hp} {a0 : Nat} {i3 : Int32} {t : Rs Unit} (e : f_X9_looks_L40 self h a0 i3 = some t) : X l K (mM_X9_looks D) (tgV t) 40 [(0, .ref a0), (3, .int i3)] [] h := by
  unfold f_X9_looks_L40 at e
  refine x_aload_n (pc := 40) 0 dX9_looks_40 rfl ?_
  refine x_iload_n (pc := 41) 1 dX9_looks_41 rfl ?_
  obtain ⟨q1, e⟩ := chk_some e
  replace e := lt_go e
  refine x_putI (pc := 42) pf_X9_355 rfl rfl rfl dX9_looks_42 q1 ?_
  refine x_iconst (pc := 45) dX9_looks_45 ?_
  refine x_istore (pc := 46) dX9_looks_46 (ltb rfl) rfl ?_
  exact x_sub1 (p_X9_looks_L48 hl hD hD0 hs 2000 _ _ _ _ e) [1, 0] rfl
noncomputable def f_X9_looks_B120 (self : Hp → Nat → Int32 → Int32 → Option (Rs Unit)) (k120 : Hp → Nat → Int32 → Int32 → Int32 → Int32 → Option (Rs Unit)) (h : Hp) (a0 : Nat) (i1 : Int32) (i2 : Int32) (i4 : Int32) (i5 : Int32) : Option (Rs Unit) :=
  if i4 < i5 then (
    some (h, .inr ())
  ) else (
    if i2 < i5 then (
      some (h, .inr ())
    ) else (
      chk (okr h a0 9) <|
      chk (okr h (qR h a0 30) 20) <|
      chk (vp_in i1 (qW h (qR h a0 30))) <|
      lt (putI h (qR h a0 30) (Int32.toNatClampNeg i1) i5) fun h6 =>
      bnd (self h6 a0 (i1 + (iN 1)) (i2 - i5)) fun h7 _ =>
      k120 h7 a0 i1 i2 i4 (i5 + iN 1)
    )
  )
theorem p_X9_looks_B120 {l : Launch} {K : Ctx} {D : Nat} {self : Hp → Nat → Int32 → Int32 → Option (Rs Unit)} (hl : l.stackTraces = false) {Dc : Nat} (hD : Dc + 1 ≤ D) (hD0 : 11 ≤ D) (hs : ∀ {h : Hp} {a0 : Nat} {i1 : Int32} {i2 : Int32} {t : Rs Unit} (e : self h a0 i1 i2 = some t), Ctr l K Dc yX9_looks w_X9_looks [.ref a0, .int i1, .int i2] h (tgV t)) {k120 : Hp → Nat → Int32 → Int32 → Int32 → Int32 → Option (Rs Unit)} (hk120 : ∀ (h : Hp) (a0 : Nat) (i1 : Int32) (i2 : Int32) (i4 : Int32) (i5 : Int32) (t : Rs Unit), k120 h a0 i1 i2 i4 i5 = some t → X l K (mM_X9_looks D) (tgV t) 120 [(0, .ref a0), (1, .int i1), (2, .int i2), (4, .int i4), (5, .int i5)] [] h) {h : Hp} {a0 : Nat} {i1 : Int32} {i2 : Int32} {i4 : Int32} {i5 : Int32} {t : Rs Unit} (e : f_X9_looks_B120 self k120 h a0 i1 i2 i4 i5 = some t) : X l K (mM_X9_looks D) (tgV t) 120 [(0, .ref a0), (1, .int i1), (2, .int i2), (4, .int i4), (5, .int i5)] [] h := by
  unfold f_X9_looks_B120 at e
  refine x_iload (pc := 120) 4 dX9_looks_120 rfl ?_
  refine x_iload (pc := 122) 3 dX9_looks_122 rfl ?_
  rcases ite_some e with ⟨q1, e⟩ | ⟨q1, e⟩
  · refine x_icmp_gt_t (pc := 124) (t := 158) dX9_looks_124 (by decide) q1 ?_
    cases Option.some.inj e
    exact x_vret (pc := 158) rfl dX9_looks_158
  · refine x_icmp_gt_f (pc := 124) (t := 158) dX9_looks_124 (by decide) q1 ?_
    refine x_iload (pc := 127) 4 dX9_looks_127 rfl ?_
    refine x_iload_n (pc := 129) 2 dX9_looks_129 rfl ?_
    rcases ite_some e with ⟨q2, e⟩ | ⟨q2, e⟩
    · refine x_icmp_gt_t (pc := 130) (t := 158) dX9_looks_130 (by decide) q2 ?_
      cases Option.some.inj e
      exact x_vret (pc := 158) rfl dX9_looks_158
    · refine x_icmp_gt_f (pc := 130) (t := 158) dX9_looks_130 (by decide) q2 ?_
      refine x_aload_n (pc := 133) 0 dX9_looks_133 rfl ?_
      obtain ⟨q3, e⟩ := chk_some e
      obtain ⟨q4, e⟩ := chk_some e
      refine x_getR (pc := 134) gf_X9_75 rfl dX9_looks_134 q3 q4.1 ?_
      refine x_iload_n (pc := 137) 1 dX9_looks_137 rfl ?_
      refine x_iload (pc := 138) 4 dX9_looks_138 rfl ?_
      obtain ⟨q5, e⟩ := chk_some e
      replace e := lt_go e
      refine x_iast (pc := 140) dX9_looks_140 q4 q5 ?_
      refine x_aload_n (pc := 141) 0 dX9_looks_141 rfl ?_
      refine x_iload_n (pc := 142) 1 dX9_looks_142 rfl ?_
      refine x_iconst (pc := 143) dX9_looks_143 ?_
      refine x_iadd (pc := 144) dX9_looks_144 ?_
      refine x_iload_n (pc := 145) 2 dX9_looks_145 rfl ?_
      refine x_iload (pc := 146) 4 dX9_looks_146 rfl ?_
      refine x_isub (pc := 148) dX9_looks_148 ?_
      rcases bnd_some e with ⟨h7, r8, ec, rfl⟩ | ⟨h7, r8, ec, e⟩
      · exact y_callV_x (pc := 149) (hs ec) (okr_pI q3) mf_X9_looks tw_8_158 ts_10_5 lf_X9_358 rfl rfl dX9_looks_149 hD rfl rfl (leb rfl) (xx_out0 rfl)
      refine y_callV_v (pc := 149) (hs ec) (okr_pI q3) mf_X9_looks tw_8_158 ts_10_5 lf_X9_358 rfl rfl dX9_looks_149 hD rfl rfl (leb rfl) ?_
      refine x_iinc (pc := 152) 4 dX9_looks_152 rfl (ltb rfl) rfl ?_
      refine x_goto (pc := 155) (t := 120) dX9_looks_155 (by decide) ?_
      exact x_sub1 (hk120 _ _ _ _ _ _ _ e) [1, 2, 3, 4, 0] rfl
noncomputable def f_X9_looks_L120 (self : Hp → Nat → Int32 → Int32 → Option (Rs Unit)) (n : Nat) : Hp → Nat → Int32 → Int32 → Int32 → Int32 → Option (Rs Unit) := Nat.rec (motive := fun _ => Hp → Nat → Int32 → Int32 → Int32 → Int32 → Option (Rs Unit)) (fun _ _ _ _ _ _ => none) (fun _ r => f_X9_looks_B120 self r) n
theorem p_X9_looks_L120 {l : Launch} {K : Ctx} {D : Nat} {self : Hp → Nat → Int32 → Int32 → Option (Rs Unit)} (hl : l.stackTraces = false) {Dc : Nat} (hD : Dc + 1 ≤ D) (hD0 : 11 ≤ D) (hs : ∀ {h : Hp} {a0 : Nat} {i1 : Int32} {i2 : Int32} {t : Rs Unit} (e : self h a0 i1 i2 = some t), Ctr l K Dc yX9_looks w_X9_looks [.ref a0, .int i1, .int i2] h (tgV t)) : ∀ (n : Nat) (h : Hp) (a0 : Nat) (i1 : Int32) (i2 : Int32) (i4 : Int32) (i5 : Int32) (t : Rs Unit) (e : f_X9_looks_L120 self n h a0 i1 i2 i4 i5 = some t), X l K (mM_X9_looks D) (tgV t) 120 [(0, .ref a0), (1, .int i1), (2, .int i2), (4, .int i4), (5, .int i5)] [] h := by
  intro n
  induction n with
  | zero => exact fun _ _ _ _ _ _ _ e => nomatch (show (none : Option (Rs Unit)) = some _ from e)
  | succ n ih => exact fun h a0 i1 i2 i4 i5 t e => p_X9_looks_B120 hl hD hD0 hs (fun h a0 i1 i2 i4 i5 t e => ih h a0 i1 i2 i4 i5 t e) e
noncomputable def f_X9_looks_L115 (self : Hp → Nat → Int32 → Int32 → Option (Rs Unit)) (h : Hp) (a0 : Nat) (i1 : Int32) (i2 : Int32) (i3 : Int32) (s0 : Int32) : Option (Rs Unit) :=
  f_X9_looks_L120 self 2000 h a0 i1 i2 s0 i3
theorem p_X9_looks_L115 {l : Launch} {K : Ctx} {D : Nat} {self : Hp → Nat → Int32 → Int32 → Option (Rs Unit)} (hl : l.stackTraces = false) {Dc : Nat} (hD : Dc + 1 ≤ D) (hD0 : 11 ≤ D) (hs : ∀ {h : Hp} {a0 : Nat} {i1 : Int32} {i2 : Int32} {t : Rs Unit} (e : self h a0 i1 i2 = some t), Ctr l K Dc yX9_looks w_X9_looks [.ref a0, .int i1, .int i2] h (tgV t)) {h : Hp} {a0 : Nat} {i1 : Int32} {i2 : Int32} {i3 : Int32} {s0 : Int32} {t : Rs Unit} (e : f_X9_looks_L115 self h a0 i1 i2 i3 s0 = some t) : X l K (mM_X9_looks D) (tgV t) 115 [(0, .ref a0), (1, .int i1), (2, .int i2), (3, .int i3)] [.int s0] h := by
  unfold f_X9_looks_L115 at e
  refine x_istore (pc := 115) dX9_looks_115 (ltb rfl) rfl ?_
  refine x_iload_n (pc := 117) 4 dX9_looks_117 rfl ?_
  refine x_istore (pc := 118) dX9_looks_118 (ltb rfl) rfl ?_
  exact x_sub1 (p_X9_looks_L120 hl hD hD0 hs 2000 _ _ _ _ _ _ _ e) [2, 3, 4, 1, 0] rfl
noncomputable def f_X9_looks_L101 (self : Hp → Nat → Int32 → Int32 → Option (Rs Unit)) (h : Hp) (a0 : Nat) (i1 : Int32) (i2 : Int32) (s0 : Int32) : Option (Rs Unit) :=
  chk (okr h a0 9) <|
  bnd (f_X9_isFixed h a0 i1) fun h2 r3 =>
  if r3 = 0 then (
    f_X9_looks_L115 self h2 a0 i1 i2 s0 i2
  ) else (
    f_X9_looks_L115 self h2 a0 i1 i2 s0 s0
  )
theorem p_X9_looks_L101 {l : Launch} {K : Ctx} {D : Nat} {self : Hp → Nat → Int32 → Int32 → Option (Rs Unit)} (hl : l.stackTraces = false) {Dc : Nat} (hD : Dc + 1 ≤ D) (hD0 : 11 ≤ D) (hs : ∀ {h : Hp} {a0 : Nat} {i1 : Int32} {i2 : Int32} {t : Rs Unit} (e : self h a0 i1 i2 = some t), Ctr l K Dc yX9_looks w_X9_looks [.ref a0, .int i1, .int i2] h (tgV t)) {h : Hp} {a0 : Nat} {i1 : Int32} {i2 : Int32} {s0 : Int32} {t : Rs Unit} (e : f_X9_looks_L101 self h a0 i1 i2 s0 = some t) : X l K (mM_X9_looks D) (tgV t) 101 [(0, .ref a0), (1, .int i1), (2, .int i2)] [.int s0] h := by
  unfold f_X9_looks_L101 at e
  refine x_istore_n (pc := 101) dX9_looks_101 (ltb rfl) rfl ?_
  refine x_aload_n (pc := 102) 1 dX9_looks_102 rfl ?_
  refine x_iload_n (pc := 103) 2 dX9_looks_103 rfl ?_
  obtain ⟨q1, e⟩ := chk_some e
  rcases bnd_some e with ⟨h2, r3, ec, rfl⟩ | ⟨h2, r3, ec, e⟩
  · exact y_callV_x (pc := 104) (c_X9_isFixed hl ec) q1 mf_X9_isFixed tw_8_66 ts_9_3 lf_X9_302 rfl rfl dX9_looks_104 (Nat.le_trans (by decide) hD0) rfl rfl (leb rfl) (xx_out0 rfl)
  refine y_callV_i (pc := 104) (c_X9_isFixed hl ec) q1 mf_X9_isFixed tw_8_66 ts_9_3 lf_X9_302 rfl rfl dX9_looks_104 (Nat.le_trans (by decide) hD0) rfl rfl (leb rfl) ?_
  rcases ite_some e with ⟨q4, e⟩ | ⟨q4, e⟩
  · refine x_if_eq_t (pc := 107) (t := 114) dX9_looks_107 (by decide) q4 ?_
    refine x_iload_n (pc := 114) 3 dX9_looks_114 rfl ?_
    exact x_sub1 (p_X9_looks_L115 hl hD hD0 hs e) [1, 2, 3, 0] rfl
  · refine x_if_eq_f (pc := 107) (t := 114) dX9_looks_107 (by decide) q4 ?_
    refine x_iload_n (pc := 110) 0 dX9_looks_110 rfl ?_
    refine x_goto (pc := 111) (t := 115) dX9_looks_111 (by decide) ?_
    exact x_sub1 (p_X9_looks_L115 hl hD hD0 hs e) [1, 2, 3, 0] rfl
noncomputable def f_X9_looks_E (self : Hp → Nat → Int32 → Int32 → Option (Rs Unit)) (h : Hp) (a0 : Nat) (i1 : Int32) (i2 : Int32) : Option (Rs Unit) :=
  chk (okr h a0 9) <|
  chk (okr h (qR h a0 1) 20) <|
  chk (vp_in (iN 0) (qW h (qR h a0 1))) <|
  if i1 = (qI h (qR h a0 1) (Int32.toNatClampNeg (iN 0))) then (
    if i2 = 0 then (
      chk (okr h (qR h a0 30) 20) <|
      bnd (f_X9_tableReckoned h a0 (qR h a0 30)) fun h7 r8 =>
      chk (okr h7 a0 9) <|
      if (qI h7 a0 32) = (iN (-1)) then (
        f_X9_looks_L40 self h7 a0 r8
      ) else (
        if (qI h7 a0 32) ≤ r8 then (
          some (h7, .inr ())
        ) else (
          f_X9_looks_L40 self h7 a0 r8
        )
      )
    ) else (
      some (h, .inr ())
    )
  ) else (
    bnd (f_X9_isFixed h a0 i1) fun h12 r13 =>
    if r13 = 0 then (
      chk (okr h12 a0 9) <|
      chk (okr h12 (qR h12 a0 21) 20) <|
      chk (vp_in i1 (qW h12 (qR h12 a0 21))) <|
      f_X9_looks_L101 self h12 a0 i1 i2 (qI h12 (qR h12 a0 21) (Int32.toNatClampNeg i1))
    ) else (
      chk (okr h12 a0 9) <|
      chk (okr h12 (qR h12 a0 26) 20) <|
      chk (vp_in ((iN 8) + i1) (qW h12 (qR h12 a0 26))) <|
      f_X9_looks_L101 self h12 a0 i1 i2 (qI h12 (qR h12 a0 26) (Int32.toNatClampNeg ((iN 8) + i1)))
    )
  )
theorem p_X9_looks_E {l : Launch} {K : Ctx} {D : Nat} {self : Hp → Nat → Int32 → Int32 → Option (Rs Unit)} (hl : l.stackTraces = false) {Dc : Nat} (hD : Dc + 1 ≤ D) (hD0 : 11 ≤ D) (hs : ∀ {h : Hp} {a0 : Nat} {i1 : Int32} {i2 : Int32} {t : Rs Unit} (e : self h a0 i1 i2 = some t), Ctr l K Dc yX9_looks w_X9_looks [.ref a0, .int i1, .int i2] h (tgV t)) {h : Hp} {a0 : Nat} {i1 : Int32} {i2 : Int32} {t : Rs Unit} (e : f_X9_looks_E self h a0 i1 i2 = some t) : X l K (mM_X9_looks D) (tgV t) 0 [(0, .ref a0), (1, .int i1), (2, .int i2)] [] h := by
  unfold f_X9_looks_E at e
  refine x_iload_n (pc := 0) 1 dX9_looks_0 rfl ?_
  refine x_aload_n (pc := 1) 0 dX9_looks_1 rfl ?_
  obtain ⟨q1, e⟩ := chk_some e
  obtain ⟨q2, e⟩ := chk_some e
  refine x_getR (pc := 2) gf_X9_9 rfl dX9_looks_2 q1 q2.1 ?_
  refine x_iconst (pc := 5) dX9_looks_5 ?_
  obtain ⟨q3, e⟩ := chk_some e
  refine x_iald (pc := 6) dX9_looks_6 q2 q3 ?_
  rcases ite_some e with ⟨q4, e⟩ | ⟨q4, e⟩
  · refine x_icmp_ne_f (pc := 7) (t := 75) dX9_looks_7 (by decide) q4 ?_
    refine x_iload_n (pc := 10) 2 dX9_looks_10 rfl ?_
    rcases ite_some e with ⟨q5, e⟩ | ⟨q5, e⟩
    · refine x_if_eq_t (pc := 11) (t := 15) dX9_looks_11 (by decide) q5 ?_
      refine x_aload_n (pc := 15) 0 dX9_looks_15 rfl ?_
      refine x_aload_n (pc := 16) 0 dX9_looks_16 rfl ?_
      obtain ⟨q6, e⟩ := chk_some e
      refine x_getR (pc := 17) gf_X9_75 rfl dX9_looks_17 q1 q6.1 ?_
      rcases bnd_some e with ⟨h7, r8, ec, rfl⟩ | ⟨h7, r8, ec, e⟩
      · exact y_callV_x (pc := 20) (c_X9_tableReckoned hl ec) q1 mf_X9_tableReckoned tw_8_162 ts_10_6 lf_X9_352 rfl rfl dX9_looks_20 (Nat.le_trans (by decide) hD0) rfl rfl (leb rfl) (xx_out0 rfl)
      refine y_callV_i (pc := 20) (c_X9_tableReckoned hl ec) q1 mf_X9_tableReckoned tw_8_162 ts_10_6 lf_X9_352 rfl rfl dX9_looks_20 (Nat.le_trans (by decide) hD0) rfl rfl (leb rfl) ?_
      refine x_istore_n (pc := 23) dX9_looks_23 (ltb rfl) rfl ?_
      refine x_aload_n (pc := 24) 1 dX9_looks_24 rfl ?_
      obtain ⟨q9, e⟩ := chk_some e
      refine x_getI (pc := 25) gf_X9_355 rfl dX9_looks_25 q9 ?_
      refine x_iconst (pc := 28) dX9_looks_28 ?_
      rcases ite_some e with ⟨q10, e⟩ | ⟨q10, e⟩
      · refine x_icmp_eq_t (pc := 29) (t := 40) dX9_looks_29 (by decide) q10 ?_
        exact x_sub1 (p_X9_looks_L40 hl hD hD0 hs e) [1, 0] rfl
      · refine x_icmp_eq_f (pc := 29) (t := 40) dX9_looks_29 (by decide) q10 ?_
        refine x_iload_n (pc := 32) 0 dX9_looks_32 rfl ?_
        refine x_aload_n (pc := 33) 1 dX9_looks_33 rfl ?_
        refine x_getI (pc := 34) gf_X9_355 rfl dX9_looks_34 q9 ?_
        rcases ite_some e with ⟨q11, e⟩ | ⟨q11, e⟩
        · refine x_icmp_ge_t (pc := 37) (t := 74) dX9_looks_37 (by decide) q11 ?_
          cases Option.some.inj e
          exact x_vret (pc := 74) rfl dX9_looks_74
        · refine x_icmp_ge_f (pc := 37) (t := 74) dX9_looks_37 (by decide) q11 ?_
          exact x_sub1 (p_X9_looks_L40 hl hD hD0 hs e) [1, 0] rfl
    · refine x_if_eq_f (pc := 11) (t := 15) dX9_looks_11 (by decide) q5 ?_
      cases Option.some.inj e
      exact x_vret (pc := 14) rfl dX9_looks_14
  · refine x_icmp_ne_t (pc := 7) (t := 75) dX9_looks_7 (by decide) q4 ?_
    refine x_aload_n (pc := 75) 0 dX9_looks_75 rfl ?_
    refine x_iload_n (pc := 76) 1 dX9_looks_76 rfl ?_
    rcases bnd_some e with ⟨h12, r13, ec, rfl⟩ | ⟨h12, r13, ec, e⟩
    · exact y_callV_x (pc := 77) (c_X9_isFixed hl ec) q1 mf_X9_isFixed tw_8_66 ts_9_3 lf_X9_302 rfl rfl dX9_looks_77 (Nat.le_trans (by decide) hD0) rfl rfl (leb rfl) (xx_out0 rfl)
    refine y_callV_i (pc := 77) (c_X9_isFixed hl ec) q1 mf_X9_isFixed tw_8_66 ts_9_3 lf_X9_302 rfl rfl dX9_looks_77 (Nat.le_trans (by decide) hD0) rfl rfl (leb rfl) ?_
    rcases ite_some e with ⟨q14, e⟩ | ⟨q14, e⟩
    · refine x_if_eq_t (pc := 80) (t := 95) dX9_looks_80 (by decide) q14 ?_
      refine x_aload_n (pc := 95) 0 dX9_looks_95 rfl ?_
      obtain ⟨q15, e⟩ := chk_some e
      obtain ⟨q16, e⟩ := chk_some e
      refine x_getR (pc := 96) gf_X9_48 rfl dX9_looks_96 q15 q16.1 ?_
      refine x_iload_n (pc := 99) 1 dX9_looks_99 rfl ?_
      obtain ⟨q17, e⟩ := chk_some e
      refine x_iald (pc := 100) dX9_looks_100 q16 q17 ?_
      exact p_X9_looks_L101 hl hD hD0 hs e
    · refine x_if_eq_f (pc := 80) (t := 95) dX9_looks_80 (by decide) q14 ?_
      refine x_aload_n (pc := 83) 0 dX9_looks_83 rfl ?_
      obtain ⟨q18, e⟩ := chk_some e
      obtain ⟨q19, e⟩ := chk_some e
      refine x_getR (pc := 84) gf_X9_63 rfl dX9_looks_84 q18 q19.1 ?_
      refine x_bipush (pc := 87) (v := iN 8) dX9_looks_87 rfl ?_
      refine x_iload_n (pc := 89) 1 dX9_looks_89 rfl ?_
      refine x_iadd (pc := 90) dX9_looks_90 ?_
      obtain ⟨q20, e⟩ := chk_some e
      refine x_iald (pc := 91) dX9_looks_91 q19 q20 ?_
      refine x_goto (pc := 92) (t := 101) dX9_looks_92 (by decide) ?_
      exact p_X9_looks_L101 hl hD hD0 hs e
noncomputable def f_X9_looks (n : Nat) : Hp → Nat → Int32 → Int32 → Option (Rs Unit) := Nat.rec (motive := fun _ => Hp → Nat → Int32 → Int32 → Option (Rs Unit)) (fun _ _ _ _ => none) (fun _ r => f_X9_looks_E r) n
theorem c_X9_looks {l : Launch} {K : Ctx} (hl : l.stackTraces = false) : ∀ (n : Nat) {h : Hp} {a0 : Nat} {i1 : Int32} {i2 : Int32} {t : Rs Unit} (e : f_X9_looks n h a0 i1 i2 = some t), Ctr l K (11 + n) yX9_looks w_X9_looks [.ref a0, .int i1, .int i2] h (tgV t) := by
  intro n
  induction n with
  | zero => exact fun {_} {_} {_} {_} {_} e => nomatch (show (none : Option (Rs Unit)) = some _ from e)
  | succ n ih => exact fun {_} {_} {_} {_} {_} e => Ctr.of hl mf_X9_looks false (fun q => nomatch q) rfl (leb rfl) (p_X9_looks_E (D := 11 + (n + 1)) hl (Dc := 11 + n) (by omega) (by omega) ih e)
/-! ## TableColumnBalancerModel.finds -/
abbrev mM_X9_finds : Mi := (20, yX9_finds.cls, cX9_finds, 1, (Option.some Jvm.ClassFile.FieldType.boolean), [], false)
noncomputable def f_X9_finds (h : Hp) (a0 : Nat) : Option (Rs Int32) :=
  chk (okr h a0 9) <|
  bnd (f_X9_guessesAll h a0) fun h2 _ =>
  chk (okr h2 a0 9) <|
  lt (putI h2 a0 32 (iN (-1))) fun h5 =>
  bnd (f_X9_usable h5 a0) fun h6 r7 =>
  chk (okr h6 a0 9) <|
  bnd (f_X9_looks 8 h6 a0 (iN 0) r7) fun h9 _ =>
  chk (okr h9 a0 9) <|
  if (qI h9 a0 32) = (iN (-1)) then (
    some (h9, .inr (iN 0))
  ) else (
    some (h9, .inr (iN 1))
  )
theorem p_X9_finds {l : Launch} {K : Ctx} (hl : l.stackTraces = false) {h : Hp} {a0 : Nat} {t : Rs Int32} (e : f_X9_finds h a0 = some t) : X l K mM_X9_finds (tgI t) 0 [(0, .ref a0)] [] h := by
  unfold f_X9_finds at e
  refine x_aload_n (pc := 0) 0 dX9_finds_0 rfl ?_
  obtain ⟨q1, e⟩ := chk_some e
  rcases bnd_some e with ⟨h2, r3, ec, rfl⟩ | ⟨h2, r3, ec, e⟩
  · exact y_callV_x (pc := 1) (c_X9_guessesAll hl ec) q1 mf_X9_guessesAll tw_8_98 ts_9_9 lf_X9_329 rfl rfl dX9_finds_1 (by decide) rfl rfl (leb rfl) (xx_out0 rfl)
  refine y_callV_v (pc := 1) (c_X9_guessesAll hl ec) q1 mf_X9_guessesAll tw_8_98 ts_9_9 lf_X9_329 rfl rfl dX9_finds_1 (by decide) rfl rfl (leb rfl) ?_
  refine x_aload_n (pc := 4) 0 dX9_finds_4 rfl ?_
  refine x_iconst (pc := 5) dX9_finds_5 ?_
  obtain ⟨q4, e⟩ := chk_some e
  replace e := lt_go e
  refine x_putI (pc := 6) pf_X9_355 rfl rfl rfl dX9_finds_6 q4 ?_
  refine x_aload_n (pc := 9) 0 dX9_finds_9 rfl ?_
  refine x_iconst (pc := 10) dX9_finds_10 ?_
  refine x_aload_n (pc := 11) 0 dX9_finds_11 rfl ?_
  rcases bnd_some e with ⟨h6, r7, ec, rfl⟩ | ⟨h6, r7, ec, e⟩
  · exact y_callV_x (pc := 12) (c_X9_usable hl ec) (okr_pI q4) mf_X9_usable tw_8_102 ts_9_10 lf_X9_323 rfl rfl dX9_finds_12 (by decide) rfl rfl (leb rfl) (xx_out0 rfl)
  refine y_callV_i (pc := 12) (c_X9_usable hl ec) (okr_pI q4) mf_X9_usable tw_8_102 ts_9_10 lf_X9_323 rfl rfl dX9_finds_12 (by decide) rfl rfl (leb rfl) ?_
  obtain ⟨q8, e⟩ := chk_some e
  rcases bnd_some e with ⟨h9, r10, ec, rfl⟩ | ⟨h9, r10, ec, e⟩
  · exact y_callV_x (pc := 15) (c_X9_looks hl 8 ec) q8 mf_X9_looks tw_8_158 ts_10_5 lf_X9_358 rfl rfl dX9_finds_15 (by decide) rfl rfl (leb rfl) (xx_out0 rfl)
  refine y_callV_v (pc := 15) (c_X9_looks hl 8 ec) q8 mf_X9_looks tw_8_158 ts_10_5 lf_X9_358 rfl rfl dX9_finds_15 (by decide) rfl rfl (leb rfl) ?_
  refine x_aload_n (pc := 18) 0 dX9_finds_18 rfl ?_
  obtain ⟨q11, e⟩ := chk_some e
  refine x_getI (pc := 19) gf_X9_355 rfl dX9_finds_19 q11 ?_
  refine x_iconst (pc := 22) dX9_finds_22 ?_
  rcases ite_some e with ⟨q12, e⟩ | ⟨q12, e⟩
  · refine x_icmp_eq_t (pc := 23) (t := 30) dX9_finds_23 (by decide) q12 ?_
    refine x_iconst (pc := 30) dX9_finds_30 ?_
    cases Option.some.inj e
    exact x_zret (pc := 31) rfl (Or.inl rfl) dX9_finds_31
  · refine x_icmp_eq_f (pc := 23) (t := 30) dX9_finds_23 (by decide) q12 ?_
    refine x_iconst (pc := 26) dX9_finds_26 ?_
    refine x_goto (pc := 27) (t := 31) dX9_finds_27 (by decide) ?_
    cases Option.some.inj e
    exact x_zret (pc := 31) rfl (Or.inr rfl) dX9_finds_31
abbrev w_X9_finds : Cond := (Cond.code yX9_finds cX9_finds 1 (Option.some Jvm.ClassFile.FieldType.boolean))
theorem mf_X9_finds : MF yX9_finds w_X9_finds cX9_finds 1 (Option.some Jvm.ClassFile.FieldType.boolean) 0 := ⟨⟨rfl, tw_8_155, by decide⟩, tw_1_11, ⟨by decide, by decide⟩, by decide +kernel⟩
theorem c_X9_finds {l : Launch} {K : Ctx} (hl : l.stackTraces = false) {h : Hp} {a0 : Nat} {t : Rs Int32} (e : f_X9_finds h a0 = some t) : Ctr l K 20 yX9_finds w_X9_finds [.ref a0] h (tgI t) :=
  Ctr.of hl mf_X9_finds false (fun q => nomatch q) rfl (leb rfl) (p_X9_finds hl e)
/-! ## TableColumnBalancerModel.isBest -/
abbrev mM_X9_isBest : Mi := (21, yX9_isBest.cls, cX9_isBest, 1, (Option.some Jvm.ClassFile.FieldType.boolean), [], false)
noncomputable def f_X9_isBest (h : Hp) (a0 : Nat) : Option (Rs Int32) :=
  chk (okr h a0 9) <|
  bnd (f_X9_reckons h a0) fun h2 _ =>
  chk (okr h2 a0 9) <|
  bnd (f_X9_finds h2 a0) fun h5 r6 =>
  chk (r6 = 0 ∨ r6 = 1) <|
  some (h5, .inr r6)
theorem p_X9_isBest {l : Launch} {K : Ctx} (hl : l.stackTraces = false) {h : Hp} {a0 : Nat} {t : Rs Int32} (e : f_X9_isBest h a0 = some t) : X l K mM_X9_isBest (tgI t) 0 [(0, .ref a0)] [] h := by
  unfold f_X9_isBest at e
  refine x_aload_n (pc := 0) 0 dX9_isBest_0 rfl ?_
  obtain ⟨q1, e⟩ := chk_some e
  rcases bnd_some e with ⟨h2, r3, ec, rfl⟩ | ⟨h2, r3, ec, e⟩
  · exact y_callV_x (pc := 1) (c_X9_reckons hl ec) q1 mf_X9_reckons tw_8_150 ts_10_3 lf_X9_361 rfl rfl dX9_isBest_1 (by decide) rfl rfl (leb rfl) (xx_out0 rfl)
  refine y_callV_v (pc := 1) (c_X9_reckons hl ec) q1 mf_X9_reckons tw_8_150 ts_10_3 lf_X9_361 rfl rfl dX9_isBest_1 (by decide) rfl rfl (leb rfl) ?_
  refine x_aload_n (pc := 4) 0 dX9_isBest_4 rfl ?_
  obtain ⟨q4, e⟩ := chk_some e
  rcases bnd_some e with ⟨h5, r6, ec, rfl⟩ | ⟨h5, r6, ec, e⟩
  · exact y_callV_x (pc := 5) (c_X9_finds hl ec) q4 mf_X9_finds tw_8_154 ts_10_4 lf_X9_364 rfl rfl dX9_isBest_5 (by decide) rfl rfl (leb rfl) (xx_out0 rfl)
  refine y_callV_i (pc := 5) (c_X9_finds hl ec) q4 mf_X9_finds tw_8_154 ts_10_4 lf_X9_364 rfl rfl dX9_isBest_5 (by decide) rfl rfl (leb rfl) ?_
  obtain ⟨q7, e⟩ := chk_some e
  cases Option.some.inj e
  exact x_zret (pc := 8) rfl q7 dX9_isBest_8
abbrev w_X9_isBest : Cond := (Cond.code yX9_isBest cX9_isBest 1 (Option.some Jvm.ClassFile.FieldType.boolean))
theorem mf_X9_isBest : MF yX9_isBest w_X9_isBest cX9_isBest 1 (Option.some Jvm.ClassFile.FieldType.boolean) 0 := ⟨⟨rfl, tw_8_147, by decide⟩, tw_1_11, ⟨by decide, by decide⟩, by decide +kernel⟩
theorem c_X9_isBest {l : Launch} {K : Ctx} (hl : l.stackTraces = false) {h : Hp} {a0 : Nat} {t : Rs Int32} (e : f_X9_isBest h a0 = some t) : Ctr l K 21 yX9_isBest w_X9_isBest [.ref a0] h (tgI t) :=
  Ctr.of hl mf_X9_isBest false (fun q => nomatch q) rfl (leb rfl) (p_X9_isBest hl e)
/-! ## TableColumnBalancerModel.bestWidth -/
abbrev mM_X9_bestWidth : Mi := (22, yX9_bestWidth.cls, cX9_bestWidth, 2, (Option.some Jvm.ClassFile.FieldType.int), [], false)
noncomputable def f_X9_bestWidth (h : Hp) (a0 : Nat) (i1 : Int32) : Option (Rs Int32) :=
  chk (okr h a0 9) <|
  lt (putI h a0 0 (iN 0)) fun h2 =>
  bnd (f_X9_isColumn h2 a0 i1) fun h3 r4 =>
  if r4 = 0 then (
    chk (okr h3 a0 9) <|
    bnd (f_X9_fails h3 a0 (iN 1)) fun h7 r8 =>
    some (h7, .inr r8)
  ) else (
    chk (okr h3 a0 9) <|
    bnd (f_X9_isBest h3 a0) fun h10 r11 =>
    if r11 = 0 then (
      chk (okr h10 a0 9) <|
      bnd (f_X9_fails h10 a0 (iN 2)) fun h14 r15 =>
      some (h14, .inr r15)
    ) else (
      chk (okr h10 a0 9) <|
      chk (okr h10 (qR h10 a0 31) 20) <|
      chk (vp_in i1 (qW h10 (qR h10 a0 31))) <|
      some (h10, .inr (qI h10 (qR h10 a0 31) (Int32.toNatClampNeg i1)))
    )
  )
theorem p_X9_bestWidth {l : Launch} {K : Ctx} (hl : l.stackTraces = false) {h : Hp} {a0 : Nat} {i1 : Int32} {t : Rs Int32} (e : f_X9_bestWidth h a0 i1 = some t) : X l K mM_X9_bestWidth (tgI t) 0 [(0, .ref a0), (1, .int i1)] [] h := by
  unfold f_X9_bestWidth at e
  refine x_aload_n (pc := 0) 0 dX9_bestWidth_0 rfl ?_
  refine x_iconst (pc := 1) dX9_bestWidth_1 ?_
  obtain ⟨q1, e⟩ := chk_some e
  replace e := lt_go e
  refine x_putI (pc := 2) pf_X9_84 rfl rfl rfl dX9_bestWidth_2 q1 ?_
  refine x_aload_n (pc := 5) 0 dX9_bestWidth_5 rfl ?_
  refine x_iload_n (pc := 6) 1 dX9_bestWidth_6 rfl ?_
  rcases bnd_some e with ⟨h3, r4, ec, rfl⟩ | ⟨h3, r4, ec, e⟩
  · exact y_callV_x (pc := 7) (c_X9_isColumn hl ec) (okr_pI q1) mf_X9_isColumn tw_7_39 ts_6_8 lf_X9_103 rfl rfl dX9_bestWidth_7 (by decide) rfl rfl (leb rfl) (xx_out0 rfl)
  refine y_callV_i (pc := 7) (c_X9_isColumn hl ec) (okr_pI q1) mf_X9_isColumn tw_7_39 ts_6_8 lf_X9_103 rfl rfl dX9_bestWidth_7 (by decide) rfl rfl (leb rfl) ?_
  rcases ite_some e with ⟨q5, e⟩ | ⟨q5, e⟩
  · refine x_if_ne_f (pc := 10) (t := 19) dX9_bestWidth_10 (by decide) q5 ?_
    refine x_aload_n (pc := 13) 0 dX9_bestWidth_13 rfl ?_
    refine x_iconst (pc := 14) dX9_bestWidth_14 ?_
    obtain ⟨q6, e⟩ := chk_some e
    rcases bnd_some e with ⟨h7, r8, ec, rfl⟩ | ⟨h7, r8, ec, e⟩
    · exact y_callV_x (pc := 15) (c_X9_fails hl ec) q6 mf_X9_fails tw_7_24 ts_6_7 lf_X9_95 rfl rfl dX9_bestWidth_15 (by decide) rfl rfl (leb rfl) (xx_out0 rfl)
    refine y_callV_i (pc := 15) (c_X9_fails hl ec) q6 mf_X9_fails tw_7_24 ts_6_7 lf_X9_95 rfl rfl dX9_bestWidth_15 (by decide) rfl rfl (leb rfl) ?_
    cases Option.some.inj e
    exact x_iret (pc := 18) rfl dX9_bestWidth_18
  · refine x_if_ne_t (pc := 10) (t := 19) dX9_bestWidth_10 (by decide) q5 ?_
    refine x_aload_n (pc := 19) 0 dX9_bestWidth_19 rfl ?_
    obtain ⟨q9, e⟩ := chk_some e
    rcases bnd_some e with ⟨h10, r11, ec, rfl⟩ | ⟨h10, r11, ec, e⟩
    · exact y_callV_x (pc := 20) (c_X9_isBest hl ec) q9 mf_X9_isBest tw_8_146 ts_10_2 lf_X9_367 rfl rfl dX9_bestWidth_20 (by decide) rfl rfl (leb rfl) (xx_out0 rfl)
    refine y_callV_i (pc := 20) (c_X9_isBest hl ec) q9 mf_X9_isBest tw_8_146 ts_10_2 lf_X9_367 rfl rfl dX9_bestWidth_20 (by decide) rfl rfl (leb rfl) ?_
    rcases ite_some e with ⟨q12, e⟩ | ⟨q12, e⟩
    · refine x_if_eq_t (pc := 23) (t := 35) dX9_bestWidth_23 (by decide) q12 ?_
      refine x_aload_n (pc := 35) 0 dX9_bestWidth_35 rfl ?_
      refine x_iconst (pc := 36) dX9_bestWidth_36 ?_
      obtain ⟨q13, e⟩ := chk_some e
      rcases bnd_some e with ⟨h14, r15, ec, rfl⟩ | ⟨h14, r15, ec, e⟩
      · exact y_callV_x (pc := 37) (c_X9_fails hl ec) q13 mf_X9_fails tw_7_24 ts_6_7 lf_X9_95 rfl rfl dX9_bestWidth_37 (by decide) rfl rfl (leb rfl) (xx_out0 rfl)
      refine y_callV_i (pc := 37) (c_X9_fails hl ec) q13 mf_X9_fails tw_7_24 ts_6_7 lf_X9_95 rfl rfl dX9_bestWidth_37 (by decide) rfl rfl (leb rfl) ?_
      cases Option.some.inj e
      exact x_iret (pc := 40) rfl dX9_bestWidth_40
    · refine x_if_eq_f (pc := 23) (t := 35) dX9_bestWidth_23 (by decide) q12 ?_
      refine x_aload_n (pc := 26) 0 dX9_bestWidth_26 rfl ?_
      obtain ⟨q16, e⟩ := chk_some e
      obtain ⟨q17, e⟩ := chk_some e
      refine x_getR (pc := 27) gf_X9_78 rfl dX9_bestWidth_27 q16 q17.1 ?_
      refine x_iload_n (pc := 30) 1 dX9_bestWidth_30 rfl ?_
      obtain ⟨q18, e⟩ := chk_some e
      refine x_iald (pc := 31) dX9_bestWidth_31 q17 q18 ?_
      refine x_goto (pc := 32) (t := 40) dX9_bestWidth_32 (by decide) ?_
      cases Option.some.inj e
      exact x_iret (pc := 40) rfl dX9_bestWidth_40
abbrev w_X9_bestWidth : Cond := (Cond.code yX9_bestWidth cX9_bestWidth 2 (Option.some Jvm.ClassFile.FieldType.int))
theorem mf_X9_bestWidth : MF yX9_bestWidth w_X9_bestWidth cX9_bestWidth 2 (Option.some Jvm.ClassFile.FieldType.int) 1 := ⟨⟨rfl, tw_8_143, by decide⟩, tw_1_11, ⟨by decide, by decide⟩, by decide +kernel⟩
theorem c_X9_bestWidth {l : Launch} {K : Ctx} (hl : l.stackTraces = false) {h : Hp} {a0 : Nat} {i1 : Int32} {t : Rs Int32} (e : f_X9_bestWidth h a0 i1 = some t) : Ctr l K 22 yX9_bestWidth w_X9_bestWidth [.ref a0, .int i1] h (tgI t) :=
  Ctr.of hl mf_X9_bestWidth false (fun q => nomatch q) rfl (leb rfl) (p_X9_bestWidth hl e)
/-! ## TableColumnBalancer.bestHeight -/
abbrev mM_X8_bestHeight : Mi := (21, yX8_bestHeight.cls, cX8_bestHeight, 2, (Option.some Jvm.ClassFile.FieldType.int), [], false)
noncomputable def f_X8_bestHeight_L24 (h : Hp) (i1 : Int32) (s0 : Int32) : Option (Rs Int32) :=
  bnd (f_X8_requireState h s0) fun h1 _ =>
  some (h1, .inr i1)
theorem p_X8_bestHeight_L24 {l : Launch} {K : Ctx} (hl : l.stackTraces = false) {h : Hp} {i1 : Int32} {s0 : Int32} {t : Rs Int32} (e : f_X8_bestHeight_L24 h i1 s0 = some t) : X l K mM_X8_bestHeight (tgI t) 24 [(1, .int i1)] [.int s0] h := by
  unfold f_X8_bestHeight_L24 at e
  rcases bnd_some e with ⟨h1, r2, ec, rfl⟩ | ⟨h1, r2, ec, e⟩
  · exact y_callS_x (pc := 24) (c_X8_requireState hl ec) mf_X8_requireState tw_3_155 lf_X8_84 dX8_bestHeight_24 (by decide) rfl rfl (leb rfl) (xx_out0 rfl)
  refine y_callS_v (pc := 24) (c_X8_requireState hl ec) mf_X8_requireState tw_3_155 lf_X8_84 dX8_bestHeight_24 (by decide) rfl rfl (leb rfl) ?_
  refine x_iload_n (pc := 27) 0 dX8_bestHeight_27 rfl ?_
  cases Option.some.inj e
  exact x_iret (pc := 28) rfl dX8_bestHeight_28
noncomputable def f_X8_bestHeight (h : Hp) (a0 : Nat) : Option (Rs Int32) :=
  chk (okr h a0 8) <|
  chk (okr h (qR h a0 2) 6) <|
  chk (okr h (qR h a0 0) 7) <|
  bnd (f_X6_leastHeight h (qR h a0 2) (qI h (qR h a0 0) 0)) fun h4 r5 =>
  if r5 < 0 then (
    f_X8_bestHeight_L24 h4 r5 (iN 0)
  ) else (
    f_X8_bestHeight_L24 h4 r5 (iN 1)
  )
theorem p_X8_bestHeight {l : Launch} {K : Ctx} (hl : l.stackTraces = false) {h : Hp} {a0 : Nat} {t : Rs Int32} (e : f_X8_bestHeight h a0 = some t) : X l K mM_X8_bestHeight (tgI t) 0 [(0, .ref a0)] [] h := by
  unfold f_X8_bestHeight at e
  refine x_aload_n (pc := 0) 0 dX8_bestHeight_0 rfl ?_
  obtain ⟨q1, e⟩ := chk_some e
  obtain ⟨q2, e⟩ := chk_some e
  refine x_getR (pc := 1) gf_X8_30 rfl dX8_bestHeight_1 q1 q2.1 ?_
  refine x_aload_n (pc := 4) 0 dX8_bestHeight_4 rfl ?_
  obtain ⟨q3, e⟩ := chk_some e
  refine x_getR (pc := 5) gf_X8_10 rfl dX8_bestHeight_5 q1 q3.1 ?_
  refine x_getI (pc := 8) gf_X8_99 rfl dX8_bestHeight_8 q3 ?_
  rcases bnd_some e with ⟨h4, r5, ec, rfl⟩ | ⟨h4, r5, ec, e⟩
  · exact y_callV_x (pc := 11) (c_X6_leastHeight hl ec) q2 mf_X6_leastHeight tw_3_9 ts_2_6 lf_X8_270 rfl rfl dX8_bestHeight_11 (by decide) rfl rfl (leb rfl) (xx_out0 rfl)
  refine y_callV_i (pc := 11) (c_X6_leastHeight hl ec) q2 mf_X6_leastHeight tw_3_9 ts_2_6 lf_X8_270 rfl rfl dX8_bestHeight_11 (by decide) rfl rfl (leb rfl) ?_
  refine x_istore_n (pc := 14) dX8_bestHeight_14 (by decide) rfl ?_
  refine x_iload_n (pc := 15) 0 dX8_bestHeight_15 rfl ?_
  rcases ite_some e with ⟨q6, e⟩ | ⟨q6, e⟩
  · refine x_if_lt_t (pc := 16) (t := 23) dX8_bestHeight_16 (by decide) q6 ?_
    refine x_iconst (pc := 23) dX8_bestHeight_23 ?_
    exact x_sub1 (p_X8_bestHeight_L24 hl e) [0] rfl
  · refine x_if_lt_f (pc := 16) (t := 23) dX8_bestHeight_16 (by decide) q6 ?_
    refine x_iconst (pc := 19) dX8_bestHeight_19 ?_
    refine x_goto (pc := 20) (t := 24) dX8_bestHeight_20 (by decide) ?_
    exact x_sub1 (p_X8_bestHeight_L24 hl e) [0] rfl
abbrev w_X8_bestHeight : Cond := (Cond.code yX8_bestHeight cX8_bestHeight 2 (Option.some Jvm.ClassFile.FieldType.int))
theorem mf_X8_bestHeight : MF yX8_bestHeight w_X8_bestHeight cX8_bestHeight 2 (Option.some Jvm.ClassFile.FieldType.int) 0 := ⟨⟨rfl, tw_5_222, by decide⟩, tw_1_1, ⟨by decide, by decide⟩, by decide +kernel⟩
theorem c_X8_bestHeight {l : Launch} {K : Ctx} (hl : l.stackTraces = false) {h : Hp} {a0 : Nat} {t : Rs Int32} (e : f_X8_bestHeight h a0 = some t) : Ctr l K 21 yX8_bestHeight w_X8_bestHeight [.ref a0] h (tgI t) :=
  Ctr.of hl mf_X8_bestHeight false (fun q => nomatch q) rfl (leb rfl) (p_X8_bestHeight hl e)
/-! ## TableColumnBalancerLaw.bestHeight -/
abbrev mM_L_bestHeight : Mi := (22, yL_bestHeight.cls, cL_bestHeight, 3, (Option.some Jvm.ClassFile.FieldType.int), [((0 : Nat), (8 : Nat), (11 : Nat), (15 : Nat))], false)
noncomputable def f_L_bestHeight (h : Hp) (a0 : Nat) (a1 : Nat) : Option (Rs Int32) :=
  chk (okr h a0 8) <|
  bndX (f_X8_bestHeight h a0) (fun h2 r3 => (
    chk (okr h2 a1 21) <|
    chk (vp_in (iN 0) (qW h2 a1)) <|
    lt (putL h2 a1 (Int32.toNatClampNeg (iN 0)) (Int32.toInt64 r3)) fun h6 =>
    some (h6, .inr (iN 0))
  )) fun h2 k =>
  if k = 0 then (
    some (h2, .inr (iN 1))
  ) else
  none
theorem p_L_bestHeight {l : Launch} {K : Ctx} (hl : l.stackTraces = false) {h : Hp} {a0 : Nat} {a1 : Nat} {t : Rs Int32} (e : f_L_bestHeight h a0 a1 = some t) : X l K mM_L_bestHeight (tgI t) 0 [(0, .ref a0), (1, .ref a1)] [] h := by
  unfold f_L_bestHeight at e
  refine x_aload_n (pc := 0) 1 dL_bestHeight_0 rfl ?_
  refine x_iconst (pc := 1) dL_bestHeight_1 ?_
  refine x_aload_n (pc := 2) 0 dL_bestHeight_2 rfl ?_
  obtain ⟨q1, e⟩ := chk_some e
  rcases bndX_some e with ⟨h2, k, ec, e⟩ | ⟨h2, r3, ec, e⟩
  · rcases ite_some e with ⟨q7, e⟩ | ⟨q7, e⟩
    · subst q7
      refine y_callV_x (pc := 3) (c_X8_bestHeight hl ec) q1 mf_X8_bestHeight tw_5_220 tw_5_221 lf_L_96 rfl rfl dL_bestHeight_3 (by decide) rfl rfl (leb rfl) (xx_catch (pc := 3) [] [] (0, 8, 11, 15) rfl (by decide) (fun _ hz => absurd hz List.not_mem_nil) (by decide) (by decide) tw_3_77 tw_3_159 dL_bestHeight_11 (by decide) rfl ?_)
      refine x_iconst (pc := 12) dL_bestHeight_12 ?_
      cases Option.some.inj e
      exact x_iret (pc := 13) rfl dL_bestHeight_13
    cases e
  refine y_callV_i (pc := 3) (c_X8_bestHeight hl ec) q1 mf_X8_bestHeight tw_5_220 tw_5_221 lf_L_96 rfl rfl dL_bestHeight_3 (by decide) rfl rfl (leb rfl) ?_
  refine x_i2l (pc := 6) dL_bestHeight_6 ?_
  obtain ⟨q4, e⟩ := chk_some e
  obtain ⟨q5, e⟩ := chk_some e
  replace e := lt_go e
  refine x_last (pc := 7) dL_bestHeight_7 q4 q5 ?_
  refine x_goto (pc := 8) (t := 14) dL_bestHeight_8 (by decide) ?_
  refine x_iconst (pc := 14) dL_bestHeight_14 ?_
  cases Option.some.inj e
  exact x_iret (pc := 15) rfl dL_bestHeight_15
abbrev w_L_bestHeight : Cond := (Cond.codeWith yL_bestHeight cL_bestHeight 3 (Option.some Jvm.ClassFile.FieldType.int) [((0 : Nat), (8 : Nat), (11 : Nat), (15 : Nat))])
theorem mf_L_bestHeight : MFX yL_bestHeight w_L_bestHeight cL_bestHeight 3 (Option.some Jvm.ClassFile.FieldType.int) 2 [((0 : Nat), (8 : Nat), (11 : Nat), (15 : Nat))] := ⟨⟨rfl, tw_5_218, by decide⟩, tw_1_0, ⟨by decide, by decide⟩, by decide +kernel⟩
theorem c_L_bestHeight {l : Launch} {K : Ctx} (hl : l.stackTraces = false) {h : Hp} {a0 : Nat} {a1 : Nat} {t : Rs Int32} (e : f_L_bestHeight h a0 a1 = some t) : Ctr l K 22 yL_bestHeight w_L_bestHeight [.ref a0, .ref a1] h (tgI t) :=
  Ctr.ofX hl mf_L_bestHeight rfl (leb rfl) (p_L_bestHeight hl e)
/-! ## TableColumnBalancerModel.bestHeight -/
abbrev mM_X9_bestHeight : Mi := (22, yX9_bestHeight.cls, cX9_bestHeight, 1, (Option.some Jvm.ClassFile.FieldType.int), [], false)
noncomputable def f_X9_bestHeight (h : Hp) (a0 : Nat) : Option (Rs Int32) :=
  chk (okr h a0 9) <|
  lt (putI h a0 0 (iN 0)) fun h2 =>
  bnd (f_X9_isBest h2 a0) fun h3 r4 =>
  if r4 = 0 then (
    chk (okr h3 a0 9) <|
    bnd (f_X9_fails h3 a0 (iN 1)) fun h7 r8 =>
    some (h7, .inr r8)
  ) else (
    chk (okr h3 a0 9) <|
    some (h3, .inr (qI h3 a0 32))
  )
theorem p_X9_bestHeight {l : Launch} {K : Ctx} (hl : l.stackTraces = false) {h : Hp} {a0 : Nat} {t : Rs Int32} (e : f_X9_bestHeight h a0 = some t) : X l K mM_X9_bestHeight (tgI t) 0 [(0, .ref a0)] [] h := by
  unfold f_X9_bestHeight at e
  refine x_aload_n (pc := 0) 0 dX9_bestHeight_0 rfl ?_
  refine x_iconst (pc := 1) dX9_bestHeight_1 ?_
  obtain ⟨q1, e⟩ := chk_some e
  replace e := lt_go e
  refine x_putI (pc := 2) pf_X9_84 rfl rfl rfl dX9_bestHeight_2 q1 ?_
  refine x_aload_n (pc := 5) 0 dX9_bestHeight_5 rfl ?_
  rcases bnd_some e with ⟨h3, r4, ec, rfl⟩ | ⟨h3, r4, ec, e⟩
  · exact y_callV_x (pc := 6) (c_X9_isBest hl ec) (okr_pI q1) mf_X9_isBest tw_8_146 ts_10_2 lf_X9_367 rfl rfl dX9_bestHeight_6 (by decide) rfl rfl (leb rfl) (xx_out0 rfl)
  refine y_callV_i (pc := 6) (c_X9_isBest hl ec) (okr_pI q1) mf_X9_isBest tw_8_146 ts_10_2 lf_X9_367 rfl rfl dX9_bestHeight_6 (by decide) rfl rfl (leb rfl) ?_
  rcases ite_some e with ⟨q5, e⟩ | ⟨q5, e⟩
  · refine x_if_eq_t (pc := 9) (t := 19) dX9_bestHeight_9 (by decide) q5 ?_
    refine x_aload_n (pc := 19) 0 dX9_bestHeight_19 rfl ?_
    refine x_iconst (pc := 20) dX9_bestHeight_20 ?_
    obtain ⟨q6, e⟩ := chk_some e
    rcases bnd_some e with ⟨h7, r8, ec, rfl⟩ | ⟨h7, r8, ec, e⟩
    · exact y_callV_x (pc := 21) (c_X9_fails hl ec) q6 mf_X9_fails tw_7_24 ts_6_7 lf_X9_95 rfl rfl dX9_bestHeight_21 (by decide) rfl rfl (leb rfl) (xx_out0 rfl)
    refine y_callV_i (pc := 21) (c_X9_fails hl ec) q6 mf_X9_fails tw_7_24 ts_6_7 lf_X9_95 rfl rfl dX9_bestHeight_21 (by decide) rfl rfl (leb rfl) ?_
    cases Option.some.inj e
    exact x_iret (pc := 24) rfl dX9_bestHeight_24
  · refine x_if_eq_f (pc := 9) (t := 19) dX9_bestHeight_9 (by decide) q5 ?_
    refine x_aload_n (pc := 12) 0 dX9_bestHeight_12 rfl ?_
    obtain ⟨q9, e⟩ := chk_some e
    refine x_getI (pc := 13) gf_X9_355 rfl dX9_bestHeight_13 q9 ?_
    refine x_goto (pc := 16) (t := 24) dX9_bestHeight_16 (by decide) ?_
    cases Option.some.inj e
    exact x_iret (pc := 24) rfl dX9_bestHeight_24
abbrev w_X9_bestHeight : Cond := (Cond.code yX9_bestHeight cX9_bestHeight 1 (Option.some Jvm.ClassFile.FieldType.int))
theorem mf_X9_bestHeight : MF yX9_bestHeight w_X9_bestHeight cX9_bestHeight 1 (Option.some Jvm.ClassFile.FieldType.int) 0 := ⟨⟨rfl, tw_8_167, by decide⟩, tw_1_11, ⟨by decide, by decide⟩, by decide +kernel⟩
theorem c_X9_bestHeight {l : Launch} {K : Ctx} (hl : l.stackTraces = false) {h : Hp} {a0 : Nat} {t : Rs Int32} (e : f_X9_bestHeight h a0 = some t) : Ctr l K 22 yX9_bestHeight w_X9_bestHeight [.ref a0] h (tgI t) :=
  Ctr.of hl mf_X9_bestHeight false (fun q => nomatch q) rfl (leb rfl) (p_X9_bestHeight hl e)
/-! ## TableColumnBalancer.rowHeight -/
abbrev mM_X8_rowHeight : Mi := (22, yX8_rowHeight.cls, cX8_rowHeight, 3, (Option.some Jvm.ClassFile.FieldType.int), [], false)
noncomputable def f_X8_rowHeight_L25 (h : Hp) (s0 : Nat) (s1 : Int32) (s2 : Nat) : Option (Rs Int32) :=
  chk (okr h s2 7) <|
  bnd (f_X7_heightOfRow h s2 s1 s0) fun h2 r3 =>
  some (h2, .inr r3)
theorem p_X8_rowHeight_L25 {l : Launch} {K : Ctx} (hl : l.stackTraces = false) {h : Hp} {s0 : Nat} {s1 : Int32} {s2 : Nat} {t : Rs Int32} (e : f_X8_rowHeight_L25 h s0 s1 s2 = some t) : X l K mM_X8_rowHeight (tgI t) 25 [] [.ref s0, .int s1, .ref s2] h := by
  unfold f_X8_rowHeight_L25 at e
  obtain ⟨q1, e⟩ := chk_some e
  rcases bnd_some e with ⟨h2, r3, ec, rfl⟩ | ⟨h2, r3, ec, e⟩
  · exact y_callV_x (pc := 25) (c_X7_heightOfRow hl ec) q1 mf_X7_heightOfRow tw_5_192 ts_5_13 lf_X8_273 rfl rfl dX8_rowHeight_25 (by decide) rfl rfl (leb rfl) (xx_out0 rfl)
  refine y_callV_i (pc := 25) (c_X7_heightOfRow hl ec) q1 mf_X7_heightOfRow tw_5_192 ts_5_13 lf_X8_273 rfl rfl dX8_rowHeight_25 (by decide) rfl rfl (leb rfl) ?_
  cases Option.some.inj e
  exact x_iret (pc := 28) rfl dX8_rowHeight_28
noncomputable def f_X8_rowHeight (h : Hp) (a0 : Nat) (i1 : Int32) (i2 : Int32) : Option (Rs Int32) :=
  chk (okr h a0 8) <|
  bnd (f_X8_requireRow h a0 i1) fun h2 _ =>
  chk (okr h2 a0 8) <|
  chk (okr h2 (qR h2 a0 0) 7) <|
  if i2 = 0 then (
    bnd (f_X8_automaticWidths h2 a0) fun h7 r8 =>
    f_X8_rowHeight_L25 h7 r8 i1 (qR h2 a0 0)
  ) else (
    bnd (f_X8_bestWidths h2 a0) fun h9 r10 =>
    f_X8_rowHeight_L25 h9 r10 i1 (qR h2 a0 0)
  )
theorem p_X8_rowHeight {l : Launch} {K : Ctx} (hl : l.stackTraces = false) {h : Hp} {a0 : Nat} {i1 : Int32} {i2 : Int32} {t : Rs Int32} (e : f_X8_rowHeight h a0 i1 i2 = some t) : X l K mM_X8_rowHeight (tgI t) 0 [(0, .ref a0), (1, .int i1), (2, .int i2)] [] h := by
  unfold f_X8_rowHeight at e
  refine x_aload_n (pc := 0) 0 dX8_rowHeight_0 rfl ?_
  refine x_iload_n (pc := 1) 1 dX8_rowHeight_1 rfl ?_
  obtain ⟨q1, e⟩ := chk_some e
  rcases bnd_some e with ⟨h2, r3, ec, rfl⟩ | ⟨h2, r3, ec, e⟩
  · exact y_callV_x (pc := 2) (c_X8_requireRow hl ec) q1 mf_X8_requireRow tw_4_30 ts_3_7 lf_X8_124 rfl rfl dX8_rowHeight_2 (by decide) rfl rfl (leb rfl) (xx_out0 rfl)
  refine y_callV_v (pc := 2) (c_X8_requireRow hl ec) q1 mf_X8_requireRow tw_4_30 ts_3_7 lf_X8_124 rfl rfl dX8_rowHeight_2 (by decide) rfl rfl (leb rfl) ?_
  refine x_aload_n (pc := 5) 0 dX8_rowHeight_5 rfl ?_
  obtain ⟨q4, e⟩ := chk_some e
  obtain ⟨q5, e⟩ := chk_some e
  refine x_getR (pc := 6) gf_X8_10 rfl dX8_rowHeight_6 q4 q5.1 ?_
  refine x_iload_n (pc := 9) 1 dX8_rowHeight_9 rfl ?_
  refine x_iload_n (pc := 10) 2 dX8_rowHeight_10 rfl ?_
  rcases ite_some e with ⟨q6, e⟩ | ⟨q6, e⟩
  · refine x_if_eq_t (pc := 11) (t := 21) dX8_rowHeight_11 (by decide) q6 ?_
    refine x_aload_n (pc := 21) 0 dX8_rowHeight_21 rfl ?_
    rcases bnd_some e with ⟨h7, r8, ec, rfl⟩ | ⟨h7, r8, ec, e⟩
    · exact y_callV_x (pc := 22) (c_X8_automaticWidths hl ec) q4 mf_X8_automaticWidths tw_5_177 ts_5_11 lf_X8_259 rfl rfl dX8_rowHeight_22 (by decide) rfl rfl (leb rfl) (xx_out0 rfl)
    refine y_callV_i (pc := 22) (c_X8_automaticWidths hl ec) q4 mf_X8_automaticWidths tw_5_177 ts_5_11 lf_X8_259 rfl rfl dX8_rowHeight_22 (by decide) rfl rfl (leb rfl) ?_
    exact x_sub1 (p_X8_rowHeight_L25 hl e) [] rfl
  · refine x_if_eq_f (pc := 11) (t := 21) dX8_rowHeight_11 (by decide) q6 ?_
    refine x_aload_n (pc := 14) 0 dX8_rowHeight_14 rfl ?_
    rcases bnd_some e with ⟨h9, r10, ec, rfl⟩ | ⟨h9, r10, ec, e⟩
    · exact y_callV_x (pc := 15) (c_X8_bestWidths hl ec) q4 mf_X8_bestWidths tw_5_210 ts_5_15 lf_X8_267 rfl rfl dX8_rowHeight_15 (by decide) rfl rfl (leb rfl) (xx_out0 rfl)
    refine y_callV_i (pc := 15) (c_X8_bestWidths hl ec) q4 mf_X8_bestWidths tw_5_210 ts_5_15 lf_X8_267 rfl rfl dX8_rowHeight_15 (by decide) rfl rfl (leb rfl) ?_
    refine x_goto (pc := 18) (t := 25) dX8_rowHeight_18 (by decide) ?_
    exact x_sub1 (p_X8_rowHeight_L25 hl e) [] rfl
abbrev w_X8_rowHeight : Cond := (Cond.code yX8_rowHeight cX8_rowHeight 3 (Option.some Jvm.ClassFile.FieldType.int))
theorem mf_X8_rowHeight : MF yX8_rowHeight w_X8_rowHeight cX8_rowHeight 3 (Option.some Jvm.ClassFile.FieldType.int) 2 := ⟨⟨rfl, tw_5_229, by decide⟩, tw_1_1, ⟨by decide, by decide⟩, by decide +kernel⟩
theorem c_X8_rowHeight {l : Launch} {K : Ctx} (hl : l.stackTraces = false) {h : Hp} {a0 : Nat} {i1 : Int32} {i2 : Int32} {t : Rs Int32} (e : f_X8_rowHeight h a0 i1 i2 = some t) : Ctr l K 22 yX8_rowHeight w_X8_rowHeight [.ref a0, .int i1, .int i2] h (tgI t) :=
  Ctr.of hl mf_X8_rowHeight false (fun q => nomatch q) rfl (leb rfl) (p_X8_rowHeight hl e)
/-! ## TableColumnBalancerLaw.rowHeight -/
abbrev mM_L_rowHeight : Mi := (23, yL_rowHeight.cls, cL_rowHeight, 5, (Option.some Jvm.ClassFile.FieldType.int), [((0 : Nat), (10 : Nat), (13 : Nat), (21 : Nat)), ((0 : Nat), (10 : Nat), (17 : Nat), (15 : Nat))], false)
noncomputable def f_L_rowHeight (h : Hp) (a0 : Nat) (i1 : Int32) (i2 : Int32) (a3 : Nat) : Option (Rs Int32) :=
  chk (okr h a0 8) <|
  bndX (f_X8_rowHeight h a0 i1 i2) (fun h2 r3 => (
    chk (okr h2 a3 21) <|
    chk (vp_in (iN 0) (qW h2 a3)) <|
    lt (putL h2 a3 (Int32.toNatClampNeg (iN 0)) (Int32.toInt64 r3)) fun h6 =>
    some (h6, .inr (iN 0))
  )) fun h2 k =>
  if k = 2 then (
    some (h2, .inr (iN 1))
  ) else
  if k = 0 then (
    some (h2, .inr (iN 2))
  ) else
  none
theorem p_L_rowHeight {l : Launch} {K : Ctx} (hl : l.stackTraces = false) {h : Hp} {a0 : Nat} {i1 : Int32} {i2 : Int32} {a3 : Nat} {t : Rs Int32} (e : f_L_rowHeight h a0 i1 i2 a3 = some t) : X l K mM_L_rowHeight (tgI t) 0 [(0, .ref a0), (1, .int i1), (2, .int i2), (3, .ref a3)] [] h := by
  unfold f_L_rowHeight at e
  refine x_aload_n (pc := 0) 3 dL_rowHeight_0 rfl ?_
  refine x_iconst (pc := 1) dL_rowHeight_1 ?_
  refine x_aload_n (pc := 2) 0 dL_rowHeight_2 rfl ?_
  refine x_iload_n (pc := 3) 1 dL_rowHeight_3 rfl ?_
  refine x_iload_n (pc := 4) 2 dL_rowHeight_4 rfl ?_
  obtain ⟨q1, e⟩ := chk_some e
  rcases bndX_some e with ⟨h2, k, ec, e⟩ | ⟨h2, r3, ec, e⟩
  · rcases ite_some e with ⟨q7, e⟩ | ⟨q7, e⟩
    · subst q7
      refine y_callV_x (pc := 5) (c_X8_rowHeight hl ec) q1 mf_X8_rowHeight tw_5_227 tw_5_228 lf_L_99 rfl rfl dL_rowHeight_5 (by decide) rfl rfl (leb rfl) (xx_catchA (pc := 5) [] [(0, 10, 17, 15)] (0, 10, 13, 21) rfl (by decide) (fun _ hz => absurd hz List.not_mem_nil) (by decide) (by decide) tw_3_187 tw_3_229 dL_rowHeight_13 (by decide) rfl ?_)
      refine x_iconst (pc := 15) dL_rowHeight_15 ?_
      cases Option.some.inj e
      exact x_iret (pc := 16) rfl dL_rowHeight_16
    rcases ite_some e with ⟨q8, e⟩ | ⟨q8, e⟩
    · subst q8
      refine y_callV_x (pc := 5) (c_X8_rowHeight hl ec) q1 mf_X8_rowHeight tw_5_227 tw_5_228 lf_L_99 rfl rfl dL_rowHeight_5 (by decide) rfl rfl (leb rfl) (xx_catchA (pc := 5) [(0, 10, 13, 21)] [] (0, 10, 17, 15) rfl (by decide) (List.forall_mem_cons.mpr ⟨⟨by decide, 2, by decide, by decide, tw_3_187⟩, fun _ hz => absurd hz List.not_mem_nil⟩) (by decide) (by decide) tw_3_77 tw_3_159 dL_rowHeight_17 (by decide) rfl ?_)
      refine x_iconst (pc := 19) dL_rowHeight_19 ?_
      cases Option.some.inj e
      exact x_iret (pc := 20) rfl dL_rowHeight_20
    cases e
  refine y_callV_i (pc := 5) (c_X8_rowHeight hl ec) q1 mf_X8_rowHeight tw_5_227 tw_5_228 lf_L_99 rfl rfl dL_rowHeight_5 (by decide) rfl rfl (leb rfl) ?_
  refine x_i2l (pc := 8) dL_rowHeight_8 ?_
  obtain ⟨q4, e⟩ := chk_some e
  obtain ⟨q5, e⟩ := chk_some e
  replace e := lt_go e
  refine x_last (pc := 9) dL_rowHeight_9 q4 q5 ?_
  refine x_goto (pc := 10) (t := 21) dL_rowHeight_10 (by decide) ?_
  refine x_iconst (pc := 21) dL_rowHeight_21 ?_
  cases Option.some.inj e
  exact x_iret (pc := 22) rfl dL_rowHeight_22
abbrev w_L_rowHeight : Cond := (Cond.codeWith yL_rowHeight cL_rowHeight 5 (Option.some Jvm.ClassFile.FieldType.int) [((0 : Nat), (10 : Nat), (13 : Nat), (21 : Nat)), ((0 : Nat), (10 : Nat), (17 : Nat), (15 : Nat))])
theorem mf_L_rowHeight : MFX yL_rowHeight w_L_rowHeight cL_rowHeight 5 (Option.some Jvm.ClassFile.FieldType.int) 4 [((0 : Nat), (10 : Nat), (13 : Nat), (21 : Nat)), ((0 : Nat), (10 : Nat), (17 : Nat), (15 : Nat))] := ⟨⟨rfl, tw_5_225, by decide⟩, tw_1_0, ⟨by decide, by decide⟩, by decide +kernel⟩
theorem c_L_rowHeight {l : Launch} {K : Ctx} (hl : l.stackTraces = false) {h : Hp} {a0 : Nat} {i1 : Int32} {i2 : Int32} {a3 : Nat} {t : Rs Int32} (e : f_L_rowHeight h a0 i1 i2 a3 = some t) : Ctr l K 23 yL_rowHeight w_L_rowHeight [.ref a0, .int i1, .int i2, .ref a3] h (tgI t) :=
  Ctr.ofX hl mf_L_rowHeight rfl (leb rfl) (p_L_rowHeight hl e)
/-! ## TableColumnBalancerModel.rowHeight -/
abbrev mM_X9_rowHeight : Mi := (22, yX9_rowHeight.cls, cX9_rowHeight, 3, (Option.some Jvm.ClassFile.FieldType.int), [], false)
noncomputable def f_X9_rowHeight_L40 (h : Hp) (a0 : Nat) : Option (Rs Int32) :=
  chk (okr h a0 9) <|
  bnd (f_X9_fails h a0 (iN 2)) fun h2 r3 =>
  some (h2, .inr r3)
theorem p_X9_rowHeight_L40 {l : Launch} {K : Ctx} (hl : l.stackTraces = false) {h : Hp} {a0 : Nat} {t : Rs Int32} (e : f_X9_rowHeight_L40 h a0 = some t) : X l K mM_X9_rowHeight (tgI t) 40 [(0, .ref a0)] [] h := by
  unfold f_X9_rowHeight_L40 at e
  refine x_aload_n (pc := 40) 0 dX9_rowHeight_40 rfl ?_
  refine x_iconst (pc := 41) dX9_rowHeight_41 ?_
  obtain ⟨q1, e⟩ := chk_some e
  rcases bnd_some e with ⟨h2, r3, ec, rfl⟩ | ⟨h2, r3, ec, e⟩
  · exact y_callV_x (pc := 42) (c_X9_fails hl ec) q1 mf_X9_fails tw_7_24 ts_6_7 lf_X9_95 rfl rfl dX9_rowHeight_42 (by decide) rfl rfl (leb rfl) (xx_out0 rfl)
  refine y_callV_i (pc := 42) (c_X9_fails hl ec) q1 mf_X9_fails tw_7_24 ts_6_7 lf_X9_95 rfl rfl dX9_rowHeight_42 (by decide) rfl rfl (leb rfl) ?_
  cases Option.some.inj e
  exact x_iret (pc := 45) rfl dX9_rowHeight_45
noncomputable def f_X9_rowHeight_L63 (h : Hp) (s0 : Nat) (s1 : Int32) (s2 : Nat) : Option (Rs Int32) :=
  chk (okr h s2 9) <|
  bnd (f_X9_rowHigh h s2 s1 s0) fun h2 r3 =>
  some (h2, .inr r3)
theorem p_X9_rowHeight_L63 {l : Launch} {K : Ctx} (hl : l.stackTraces = false) {h : Hp} {s0 : Nat} {s1 : Int32} {s2 : Nat} {t : Rs Int32} (e : f_X9_rowHeight_L63 h s0 s1 s2 = some t) : X l K mM_X9_rowHeight (tgI t) 63 [] [.ref s0, .int s1, .ref s2] h := by
  unfold f_X9_rowHeight_L63 at e
  obtain ⟨q1, e⟩ := chk_some e
  rcases bnd_some e with ⟨h2, r3, ec, rfl⟩ | ⟨h2, r3, ec, e⟩
  · exact y_callV_x (pc := 63) (c_X9_rowHigh hl ec) q1 mf_X9_rowHigh tw_8_134 ts_10_0 lf_X9_345 rfl rfl dX9_rowHeight_63 (by decide) rfl rfl (leb rfl) (xx_out0 rfl)
  refine y_callV_i (pc := 63) (c_X9_rowHigh hl ec) q1 mf_X9_rowHigh tw_8_134 ts_10_0 lf_X9_345 rfl rfl dX9_rowHeight_63 (by decide) rfl rfl (leb rfl) ?_
  cases Option.some.inj e
  exact x_iret (pc := 66) rfl dX9_rowHeight_66
noncomputable def f_X9_rowHeight_L46 (h : Hp) (a0 : Nat) (i1 : Int32) (i2 : Int32) : Option (Rs Int32) :=
  if i2 = 0 then (
    chk (okr h a0 9) <|
    chk (okr h (qR h a0 27) 20) <|
    f_X9_rowHeight_L63 h (qR h a0 27) i1 a0
  ) else (
    chk (okr h a0 9) <|
    chk (okr h (qR h a0 31) 20) <|
    f_X9_rowHeight_L63 h (qR h a0 31) i1 a0
  )
theorem p_X9_rowHeight_L46 {l : Launch} {K : Ctx} (hl : l.stackTraces = false) {h : Hp} {a0 : Nat} {i1 : Int32} {i2 : Int32} {t : Rs Int32} (e : f_X9_rowHeight_L46 h a0 i1 i2 = some t) : X l K mM_X9_rowHeight (tgI t) 46 [(0, .ref a0), (1, .int i1), (2, .int i2)] [] h := by
  unfold f_X9_rowHeight_L46 at e
  refine x_aload_n (pc := 46) 0 dX9_rowHeight_46 rfl ?_
  refine x_iload_n (pc := 47) 1 dX9_rowHeight_47 rfl ?_
  refine x_iload_n (pc := 48) 2 dX9_rowHeight_48 rfl ?_
  rcases ite_some e with ⟨q1, e⟩ | ⟨q1, e⟩
  · refine x_if_eq_t (pc := 49) (t := 59) dX9_rowHeight_49 (by decide) q1 ?_
    refine x_aload_n (pc := 59) 0 dX9_rowHeight_59 rfl ?_
    obtain ⟨q2, e⟩ := chk_some e
    obtain ⟨q3, e⟩ := chk_some e
    refine x_getR (pc := 60) gf_X9_66 rfl dX9_rowHeight_60 q2 q3.1 ?_
    exact x_sub1 (p_X9_rowHeight_L63 hl e) [] rfl
  · refine x_if_eq_f (pc := 49) (t := 59) dX9_rowHeight_49 (by decide) q1 ?_
    refine x_aload_n (pc := 52) 0 dX9_rowHeight_52 rfl ?_
    obtain ⟨q4, e⟩ := chk_some e
    obtain ⟨q5, e⟩ := chk_some e
    refine x_getR (pc := 53) gf_X9_78 rfl dX9_rowHeight_53 q4 q5.1 ?_
    refine x_goto (pc := 56) (t := 63) dX9_rowHeight_56 (by decide) ?_
    exact x_sub1 (p_X9_rowHeight_L63 hl e) [] rfl
noncomputable def f_X9_rowHeight (h : Hp) (a0 : Nat) (i1 : Int32) (i2 : Int32) : Option (Rs Int32) :=
  chk (okr h a0 9) <|
  lt (putI h a0 0 (iN 0)) fun h2 =>
  bnd (f_X9_isRow h2 a0 i1) fun h3 r4 =>
  if r4 = 0 then (
    chk (okr h3 a0 9) <|
    bnd (f_X9_fails h3 a0 (iN 1)) fun h7 r8 =>
    some (h7, .inr r8)
  ) else (
    if i2 = 0 then (
      chk (okr h3 a0 9) <|
      bnd (f_X9_laysOut h3 a0) fun h11 r12 =>
      if r12 = 0 then (
        f_X9_rowHeight_L40 h11 a0
      ) else (
        f_X9_rowHeight_L46 h11 a0 i1 i2
      )
    ) else (
      chk (okr h3 a0 9) <|
      bnd (f_X9_isBest h3 a0) fun h15 r16 =>
      if r16 = 0 then (
        f_X9_rowHeight_L40 h15 a0
      ) else (
        f_X9_rowHeight_L46 h15 a0 i1 i2
      )
    )
  )
theorem p_X9_rowHeight {l : Launch} {K : Ctx} (hl : l.stackTraces = false) {h : Hp} {a0 : Nat} {i1 : Int32} {i2 : Int32} {t : Rs Int32} (e : f_X9_rowHeight h a0 i1 i2 = some t) : X l K mM_X9_rowHeight (tgI t) 0 [(0, .ref a0), (1, .int i1), (2, .int i2)] [] h := by
  unfold f_X9_rowHeight at e
  refine x_aload_n (pc := 0) 0 dX9_rowHeight_0 rfl ?_
  refine x_iconst (pc := 1) dX9_rowHeight_1 ?_
  obtain ⟨q1, e⟩ := chk_some e
  replace e := lt_go e
  refine x_putI (pc := 2) pf_X9_84 rfl rfl rfl dX9_rowHeight_2 q1 ?_
  refine x_aload_n (pc := 5) 0 dX9_rowHeight_5 rfl ?_
  refine x_iload_n (pc := 6) 1 dX9_rowHeight_6 rfl ?_
  rcases bnd_some e with ⟨h3, r4, ec, rfl⟩ | ⟨h3, r4, ec, e⟩
  · exact y_callV_x (pc := 7) (c_X9_isRow hl ec) (okr_pI q1) mf_X9_isRow tw_7_51 ts_6_9 lf_X9_110 rfl rfl dX9_rowHeight_7 (by decide) rfl rfl (leb rfl) (xx_out0 rfl)
  refine y_callV_i (pc := 7) (c_X9_isRow hl ec) (okr_pI q1) mf_X9_isRow tw_7_51 ts_6_9 lf_X9_110 rfl rfl dX9_rowHeight_7 (by decide) rfl rfl (leb rfl) ?_
  rcases ite_some e with ⟨q5, e⟩ | ⟨q5, e⟩
  · refine x_if_ne_f (pc := 10) (t := 19) dX9_rowHeight_10 (by decide) q5 ?_
    refine x_aload_n (pc := 13) 0 dX9_rowHeight_13 rfl ?_
    refine x_iconst (pc := 14) dX9_rowHeight_14 ?_
    obtain ⟨q6, e⟩ := chk_some e
    rcases bnd_some e with ⟨h7, r8, ec, rfl⟩ | ⟨h7, r8, ec, e⟩
    · exact y_callV_x (pc := 15) (c_X9_fails hl ec) q6 mf_X9_fails tw_7_24 ts_6_7 lf_X9_95 rfl rfl dX9_rowHeight_15 (by decide) rfl rfl (leb rfl) (xx_out0 rfl)
    refine y_callV_i (pc := 15) (c_X9_fails hl ec) q6 mf_X9_fails tw_7_24 ts_6_7 lf_X9_95 rfl rfl dX9_rowHeight_15 (by decide) rfl rfl (leb rfl) ?_
    cases Option.some.inj e
    exact x_iret (pc := 18) rfl dX9_rowHeight_18
  · refine x_if_ne_t (pc := 10) (t := 19) dX9_rowHeight_10 (by decide) q5 ?_
    refine x_iload_n (pc := 19) 2 dX9_rowHeight_19 rfl ?_
    rcases ite_some e with ⟨q9, e⟩ | ⟨q9, e⟩
    · refine x_if_eq_t (pc := 20) (t := 33) dX9_rowHeight_20 (by decide) q9 ?_
      refine x_aload_n (pc := 33) 0 dX9_rowHeight_33 rfl ?_
      obtain ⟨q10, e⟩ := chk_some e
      rcases bnd_some e with ⟨h11, r12, ec, rfl⟩ | ⟨h11, r12, ec, e⟩
      · exact y_callV_x (pc := 34) (c_X9_laysOut hl ec) q10 mf_X9_laysOut tw_8_118 ts_9_13 lf_X9_338 rfl rfl dX9_rowHeight_34 (by decide) rfl rfl (leb rfl) (xx_out0 rfl)
      refine y_callV_i (pc := 34) (c_X9_laysOut hl ec) q10 mf_X9_laysOut tw_8_118 ts_9_13 lf_X9_338 rfl rfl dX9_rowHeight_34 (by decide) rfl rfl (leb rfl) ?_
      rcases ite_some e with ⟨q13, e⟩ | ⟨q13, e⟩
      · refine x_if_ne_f (pc := 37) (t := 46) dX9_rowHeight_37 (by decide) q13 ?_
        exact x_sub1 (p_X9_rowHeight_L40 hl e) [0] rfl
      · refine x_if_ne_t (pc := 37) (t := 46) dX9_rowHeight_37 (by decide) q13 ?_
        exact p_X9_rowHeight_L46 hl e
    · refine x_if_eq_f (pc := 20) (t := 33) dX9_rowHeight_20 (by decide) q9 ?_
      refine x_aload_n (pc := 23) 0 dX9_rowHeight_23 rfl ?_
      obtain ⟨q14, e⟩ := chk_some e
      rcases bnd_some e with ⟨h15, r16, ec, rfl⟩ | ⟨h15, r16, ec, e⟩
      · exact y_callV_x (pc := 24) (c_X9_isBest hl ec) q14 mf_X9_isBest tw_8_146 ts_10_2 lf_X9_367 rfl rfl dX9_rowHeight_24 (by decide) rfl rfl (leb rfl) (xx_out0 rfl)
      refine y_callV_i (pc := 24) (c_X9_isBest hl ec) q14 mf_X9_isBest tw_8_146 ts_10_2 lf_X9_367 rfl rfl dX9_rowHeight_24 (by decide) rfl rfl (leb rfl) ?_
      rcases ite_some e with ⟨q17, e⟩ | ⟨q17, e⟩
      · refine x_if_ne_f (pc := 27) (t := 46) dX9_rowHeight_27 (by decide) q17 ?_
        refine x_goto (pc := 30) (t := 40) dX9_rowHeight_30 (by decide) ?_
        exact x_sub1 (p_X9_rowHeight_L40 hl e) [0] rfl
      · refine x_if_ne_t (pc := 27) (t := 46) dX9_rowHeight_27 (by decide) q17 ?_
        exact p_X9_rowHeight_L46 hl e
abbrev w_X9_rowHeight : Cond := (Cond.code yX9_rowHeight cX9_rowHeight 3 (Option.some Jvm.ClassFile.FieldType.int))
theorem mf_X9_rowHeight : MF yX9_rowHeight w_X9_rowHeight cX9_rowHeight 3 (Option.some Jvm.ClassFile.FieldType.int) 2 := ⟨⟨rfl, tw_8_171, by decide⟩, tw_1_11, ⟨by decide, by decide⟩, by decide +kernel⟩
theorem c_X9_rowHeight {l : Launch} {K : Ctx} (hl : l.stackTraces = false) {h : Hp} {a0 : Nat} {i1 : Int32} {i2 : Int32} {t : Rs Int32} (e : f_X9_rowHeight h a0 i1 i2 = some t) : Ctr l K 22 yX9_rowHeight w_X9_rowHeight [.ref a0, .int i1, .int i2] h (tgI t) :=
  Ctr.of hl mf_X9_rowHeight false (fun q => nomatch q) rfl (leb rfl) (p_X9_rowHeight hl e)
/-! ## TableColumnBalancer.tallest -/
abbrev mM_X8_tallest : Mi := (22, yX8_tallest.cls, cX8_tallest, 7, (Option.some Jvm.ClassFile.FieldType.int), [], false)
noncomputable def f_X8_tallest_L98 (h : Hp) (i4 : Int32) (s0 : Int32) : Option (Rs Int32) :=
  bnd (f_X8_requireElement h s0) fun h1 _ =>
  some (h1, .inr i4)
theorem p_X8_tallest_L98 {l : Launch} {K : Ctx} (hl : l.stackTraces = false) {h : Hp} {i4 : Int32} {s0 : Int32} {t : Rs Int32} (e : f_X8_tallest_L98 h i4 s0 = some t) : X l K mM_X8_tallest (tgI t) 98 [(4, .int i4)] [.int s0] h := by
  unfold f_X8_tallest_L98 at e
  rcases bnd_some e with ⟨h1, r2, ec, rfl⟩ | ⟨h1, r2, ec, e⟩
  · exact y_callS_x (pc := 98) (c_X8_requireElement hl ec) mf_X8_requireElement tw_5_122 lf_X8_233 dX8_tallest_98 (by decide) rfl rfl (leb rfl) (xx_out0 rfl)
  refine y_callS_v (pc := 98) (c_X8_requireElement hl ec) mf_X8_requireElement tw_5_122 lf_X8_233 dX8_tallest_98 (by decide) rfl rfl (leb rfl) ?_
  refine x_iload (pc := 101) 0 dX8_tallest_101 rfl ?_
  cases Option.some.inj e
  exact x_iret (pc := 103) rfl dX8_tallest_103
noncomputable def f_X8_tallest_L88 (h : Hp) (i4 : Int32) : Option (Rs Int32) :=
  if i4 < 0 then (
    f_X8_tallest_L98 h i4 (iN 0)
  ) else (
    f_X8_tallest_L98 h i4 (iN 1)
  )
theorem p_X8_tallest_L88 {l : Launch} {K : Ctx} (hl : l.stackTraces = false) {h : Hp} {i4 : Int32} {t : Rs Int32} (e : f_X8_tallest_L88 h i4 = some t) : X l K mM_X8_tallest (tgI t) 88 [(4, .int i4)] [] h := by
  unfold f_X8_tallest_L88 at e
  refine x_iload (pc := 88) 0 dX8_tallest_88 rfl ?_
  rcases ite_some e with ⟨q1, e⟩ | ⟨q1, e⟩
  · refine x_if_lt_t (pc := 90) (t := 97) dX8_tallest_90 (by decide) q1 ?_
    refine x_iconst (pc := 97) dX8_tallest_97 ?_
    exact p_X8_tallest_L98 hl e
  · refine x_if_lt_f (pc := 90) (t := 97) dX8_tallest_90 (by decide) q1 ?_
    refine x_iconst (pc := 93) dX8_tallest_93 ?_
    refine x_goto (pc := 94) (t := 98) dX8_tallest_94 (by decide) ?_
    exact p_X8_tallest_L98 hl e
noncomputable def f_X8_tallest_L82 (k26 : Hp → Nat → Int32 → Nat → Int32 → Int32 → Int32 → Option (Rs Int32)) (h : Hp) (a0 : Nat) (i1 : Int32) (a2 : Nat) (i3 : Int32) (i4 : Int32) (i5 : Int32) : Option (Rs Int32) :=
  k26 h a0 i1 a2 i3 i4 (i5 + iN 1)
theorem p_X8_tallest_L82 {l : Launch} {K : Ctx} (hl : l.stackTraces = false) {k26 : Hp → Nat → Int32 → Nat → Int32 → Int32 → Int32 → Option (Rs Int32)} (hk26 : ∀ (h : Hp) (a0 : Nat) (i1 : Int32) (a2 : Nat) (i3 : Int32) (i4 : Int32) (i5 : Int32) (t : Rs Int32), k26 h a0 i1 a2 i3 i4 i5 = some t → X l K mM_X8_tallest (tgI t) 26 [(0, .ref a0), (1, .int i1), (2, .ref a2), (3, .int i3), (4, .int i4), (5, .int i5)] [] h) {h : Hp} {a0 : Nat} {i1 : Int32} {a2 : Nat} {i3 : Int32} {i4 : Int32} {i5 : Int32} {t : Rs Int32} (e : f_X8_tallest_L82 k26 h a0 i1 a2 i3 i4 i5 = some t) : X l K mM_X8_tallest (tgI t) 82 [(0, .ref a0), (1, .int i1), (2, .ref a2), (3, .int i3), (4, .int i4), (5, .int i5)] [] h := by
  unfold f_X8_tallest_L82 at e
  refine x_iinc (pc := 82) 5 dX8_tallest_82 rfl (by decide) rfl ?_
  refine x_goto (pc := 85) (t := 26) dX8_tallest_85 (by decide) ?_
  exact x_sub1 (hk26 _ _ _ _ _ _ _ _ e) [1, 2, 3, 4, 5, 0] rfl
noncomputable def f_X8_tallest_B26 (k26 : Hp → Nat → Int32 → Nat → Int32 → Int32 → Int32 → Option (Rs Int32)) (h : Hp) (a0 : Nat) (i1 : Int32) (a2 : Nat) (i3 : Int32) (i4 : Int32) (i5 : Int32) : Option (Rs Int32) :=
  chk (okr h a0 8) <|
  chk (okr h (qR h a0 0) 7) <|
  if (qI h (qR h a0 0) 5) ≤ i5 then (
    f_X8_tallest_L88 h i4
  ) else (
    if 0 ≤ i4 then (
      f_X8_tallest_L88 h i4
    ) else (
      chk (okr h (qR h (qR h a0 0) 8) 25) <|
      chk (vp_in i5 (qW h (qR h (qR h a0 0) 8))) <|
      chk (okr h (qR h (qR h (qR h a0 0) 8) (Int32.toNatClampNeg i5)) 1) <|
      if (qI h (qR h (qR h (qR h a0 0) 8) (Int32.toNatClampNeg i5)) 0) = i1 then (
        bnd (f_X7_heightIn h (qR h a0 0) (qR h (qR h (qR h a0 0) 8) (Int32.toNatClampNeg i5)) a2) fun h9 r10 =>
        if r10 = i3 then (
          f_X8_tallest_L82 k26 h9 a0 i1 a2 i3 i5 i5
        ) else (
          f_X8_tallest_L82 k26 h9 a0 i1 a2 i3 i4 i5
        )
      ) else (
        f_X8_tallest_L82 k26 h a0 i1 a2 i3 i4 i5
      )
    )
  )
theorem p_X8_tallest_B26 {l : Launch} {K : Ctx} (hl : l.stackTraces = false) {k26 : Hp → Nat → Int32 → Nat → Int32 → Int32 → Int32 → Option (Rs Int32)} (hk26 : ∀ (h : Hp) (a0 : Nat) (i1 : Int32) (a2 : Nat) (i3 : Int32) (i4 : Int32) (i5 : Int32) (t : Rs Int32), k26 h a0 i1 a2 i3 i4 i5 = some t → X l K mM_X8_tallest (tgI t) 26 [(0, .ref a0), (1, .int i1), (2, .ref a2), (3, .int i3), (4, .int i4), (5, .int i5)] [] h) {h : Hp} {a0 : Nat} {i1 : Int32} {a2 : Nat} {i3 : Int32} {i4 : Int32} {i5 : Int32} {t : Rs Int32} (e : f_X8_tallest_B26 k26 h a0 i1 a2 i3 i4 i5 = some t) : X l K mM_X8_tallest (tgI t) 26 [(0, .ref a0), (1, .int i1), (2, .ref a2), (3, .int i3), (4, .int i4), (5, .int i5)] [] h := by
  unfold f_X8_tallest_B26 at e
  refine x_iload (pc := 26) 5 dX8_tallest_26 rfl ?_
  refine x_aload_n (pc := 28) 0 dX8_tallest_28 rfl ?_
  obtain ⟨q1, e⟩ := chk_some e
  obtain ⟨q2, e⟩ := chk_some e
  refine x_getR (pc := 29) gf_X8_10 rfl dX8_tallest_29 q1 q2.1 ?_
  refine x_getI (pc := 32) gf_X8_80 rfl dX8_tallest_32 q2 ?_
  rcases ite_some e with ⟨q3, e⟩ | ⟨q3, e⟩
  · refine x_icmp_ge_t (pc := 35) (t := 88) dX8_tallest_35 (by decide) q3 ?_
    exact x_sub1 (p_X8_tallest_L88 hl e) [4] rfl
  · refine x_icmp_ge_f (pc := 35) (t := 88) dX8_tallest_35 (by decide) q3 ?_
    refine x_iload (pc := 38) 4 dX8_tallest_38 rfl ?_
    rcases ite_some e with ⟨q4, e⟩ | ⟨q4, e⟩
    · refine x_if_ge_t (pc := 40) (t := 88) dX8_tallest_40 (by decide) q4 ?_
      exact x_sub1 (p_X8_tallest_L88 hl e) [4] rfl
    · refine x_if_ge_f (pc := 40) (t := 88) dX8_tallest_40 (by decide) q4 ?_
      refine x_aload_n (pc := 43) 0 dX8_tallest_43 rfl ?_
      refine x_getR (pc := 44) gf_X8_10 rfl dX8_tallest_44 q1 q2.1 ?_
      obtain ⟨q5, e⟩ := chk_some e
      refine x_getR (pc := 47) gf_X8_159 rfl dX8_tallest_47 q2 q5.1 ?_
      refine x_iload (pc := 50) 5 dX8_tallest_50 rfl ?_
      obtain ⟨q6, e⟩ := chk_some e
      obtain ⟨q7, e⟩ := chk_some e
      refine x_aald (pc := 52) (t := 1) (by decide) dX8_tallest_52 q5 q6 q7.1 ?_
      refine x_astore (pc := 53) dX8_tallest_53 (by decide) rfl ?_
      refine x_aload (pc := 55) 0 dX8_tallest_55 rfl ?_
      refine x_getI (pc := 57) gf_X8_205 rfl dX8_tallest_57 q7 ?_
      refine x_iload_n (pc := 60) 2 dX8_tallest_60 rfl ?_
      rcases ite_some e with ⟨q8, e⟩ | ⟨q8, e⟩
      · refine x_icmp_ne_f (pc := 61) (t := 82) dX8_tallest_61 (by decide) q8 ?_
        refine x_aload_n (pc := 64) 1 dX8_tallest_64 rfl ?_
        refine x_getR (pc := 65) gf_X8_10 rfl dX8_tallest_65 q1 q2.1 ?_
        refine x_aload (pc := 68) 0 dX8_tallest_68 rfl ?_
        refine x_aload_n (pc := 70) 3 dX8_tallest_70 rfl ?_
        rcases bnd_some e with ⟨h9, r10, ec, rfl⟩ | ⟨h9, r10, ec, e⟩
        · exact y_callV_x (pc := 71) (c_X7_heightIn hl ec) q2 mf_X7_heightIn tw_5_196 ts_5_14 lf_X8_277 rfl rfl dX8_tallest_71 (by decide) rfl rfl (leb rfl) (xx_out0 rfl)
        refine y_callV_i (pc := 71) (c_X7_heightIn hl ec) q2 mf_X7_heightIn tw_5_196 ts_5_14 lf_X8_277 rfl rfl dX8_tallest_71 (by decide) rfl rfl (leb rfl) ?_
        refine x_iload_n (pc := 74) 4 dX8_tallest_74 rfl ?_
        rcases ite_some e with ⟨q11, e⟩ | ⟨q11, e⟩
        · refine x_icmp_ne_f (pc := 75) (t := 82) dX8_tallest_75 (by decide) q11 ?_
          refine x_iload (pc := 78) 6 dX8_tallest_78 rfl ?_
          refine x_istore (pc := 80) dX8_tallest_80 (by decide) rfl ?_
          exact x_sub1 (p_X8_tallest_L82 hl hk26 e) [2, 3, 4, 5, 0, 6] rfl
        · refine x_icmp_ne_t (pc := 75) (t := 82) dX8_tallest_75 (by decide) q11 ?_
          exact x_sub1 (p_X8_tallest_L82 hl hk26 e) [1, 2, 3, 4, 5, 6] rfl
      · refine x_icmp_ne_t (pc := 61) (t := 82) dX8_tallest_61 (by decide) q8 ?_
        exact x_sub1 (p_X8_tallest_L82 hl hk26 e) [1, 2, 3, 4, 5, 6] rfl
noncomputable def f_X8_tallest_L26 (n : Nat) : Hp → Nat → Int32 → Nat → Int32 → Int32 → Int32 → Option (Rs Int32) := Nat.rec (motive := fun _ => Hp → Nat → Int32 → Nat → Int32 → Int32 → Int32 → Option (Rs Int32)) (fun _ _ _ _ _ _ _ => none) (fun _ r => f_X8_tallest_B26 r) n
theorem p_X8_tallest_L26 {l : Launch} {K : Ctx} (hl : l.stackTraces = false) : ∀ (n : Nat) (h : Hp) (a0 : Nat) (i1 : Int32) (a2 : Nat) (i3 : Int32) (i4 : Int32) (i5 : Int32) (t : Rs Int32) (e : f_X8_tallest_L26 n h a0 i1 a2 i3 i4 i5 = some t), X l K mM_X8_tallest (tgI t) 26 [(0, .ref a0), (1, .int i1), (2, .ref a2), (3, .int i3), (4, .int i4), (5, .int i5)] [] h := by
  intro n
  induction n with
  | zero => exact fun _ _ _ _ _ _ _ _ e => nomatch (show (none : Option (Rs Int32)) = some _ from e)
  | succ n ih => exact fun h a0 i1 a2 i3 i4 i5 t e => p_X8_tallest_B26 hl (fun h a0 i1 a2 i3 i4 i5 t e => ih h a0 i1 a2 i3 i4 i5 t e) e
noncomputable def f_X8_tallest (h : Hp) (a0 : Nat) (i1 : Int32) : Option (Rs Int32) :=
  chk (okr h a0 8) <|
  bnd (f_X8_requireRow h a0 i1) fun h2 _ =>
  chk (okr h2 a0 8) <|
  bnd (f_X8_bestWidths h2 a0) fun h5 r6 =>
  chk (okr h5 a0 8) <|
  chk (okr h5 (qR h5 a0 0) 7) <|
  bnd (f_X7_heightOfRow h5 (qR h5 a0 0) i1 r6) fun h9 r10 =>
  f_X8_tallest_L26 2000 h9 a0 i1 r6 r10 (iN (-1)) (iN 0)
theorem p_X8_tallest {l : Launch} {K : Ctx} (hl : l.stackTraces = false) {h : Hp} {a0 : Nat} {i1 : Int32} {t : Rs Int32} (e : f_X8_tallest h a0 i1 = some t) : X l K mM_X8_tallest (tgI t) 0 [(0, .ref a0), (1, .int i1)] [] h := by
  unfold f_X8_tallest at e
  refine x_aload_n (pc := 0) 0 dX8_tallest_0 rfl ?_
  refine x_iload_n (pc := 1) 1 dX8_tallest_1 rfl ?_
  obtain ⟨q1, e⟩ := chk_some e
  rcases bnd_some e with ⟨h2, r3, ec, rfl⟩ | ⟨h2, r3, ec, e⟩
  · exact y_callV_x (pc := 2) (c_X8_requireRow hl ec) q1 mf_X8_requireRow tw_4_30 ts_3_7 lf_X8_124 rfl rfl dX8_tallest_2 (by decide) rfl rfl (leb rfl) (xx_out0 rfl)
  refine y_callV_v (pc := 2) (c_X8_requireRow hl ec) q1 mf_X8_requireRow tw_4_30 ts_3_7 lf_X8_124 rfl rfl dX8_tallest_2 (by decide) rfl rfl (leb rfl) ?_
  refine x_aload_n (pc := 5) 0 dX8_tallest_5 rfl ?_
  obtain ⟨q4, e⟩ := chk_some e
  rcases bnd_some e with ⟨h5, r6, ec, rfl⟩ | ⟨h5, r6, ec, e⟩
  · exact y_callV_x (pc := 6) (c_X8_bestWidths hl ec) q4 mf_X8_bestWidths tw_5_210 ts_5_15 lf_X8_267 rfl rfl dX8_tallest_6 (by decide) rfl rfl (leb rfl) (xx_out0 rfl)
  refine y_callV_i (pc := 6) (c_X8_bestWidths hl ec) q4 mf_X8_bestWidths tw_5_210 ts_5_15 lf_X8_267 rfl rfl dX8_tallest_6 (by decide) rfl rfl (leb rfl) ?_
  refine x_astore_n (pc := 9) dX8_tallest_9 (by decide) rfl ?_
  refine x_aload_n (pc := 10) 1 dX8_tallest_10 rfl ?_
  obtain ⟨q7, e⟩ := chk_some e
  obtain ⟨q8, e⟩ := chk_some e
  refine x_getR (pc := 11) gf_X8_10 rfl dX8_tallest_11 q7 q8.1 ?_
  refine x_iload_n (pc := 14) 2 dX8_tallest_14 rfl ?_
  refine x_aload_n (pc := 15) 0 dX8_tallest_15 rfl ?_
  rcases bnd_some e with ⟨h9, r10, ec, rfl⟩ | ⟨h9, r10, ec, e⟩
  · exact y_callV_x (pc := 16) (c_X7_heightOfRow hl ec) q8 mf_X7_heightOfRow tw_5_192 ts_5_13 lf_X8_273 rfl rfl dX8_tallest_16 (by decide) rfl rfl (leb rfl) (xx_out0 rfl)
  refine y_callV_i (pc := 16) (c_X7_heightOfRow hl ec) q8 mf_X7_heightOfRow tw_5_192 ts_5_13 lf_X8_273 rfl rfl dX8_tallest_16 (by decide) rfl rfl (leb rfl) ?_
  refine x_istore_n (pc := 19) dX8_tallest_19 (by decide) rfl ?_
  refine x_iconst (pc := 20) dX8_tallest_20 ?_
  refine x_istore (pc := 21) dX8_tallest_21 (by decide) rfl ?_
  refine x_iconst (pc := 23) dX8_tallest_23 ?_
  refine x_istore (pc := 24) dX8_tallest_24 (by decide) rfl ?_
  exact x_sub1 (p_X8_tallest_L26 hl 2000 _ _ _ _ _ _ _ _ e) [4, 5, 3, 2, 1, 0] rfl
abbrev w_X8_tallest : Cond := (Cond.code yX8_tallest cX8_tallest 7 (Option.some Jvm.ClassFile.FieldType.int))
theorem mf_X8_tallest : MF yX8_tallest w_X8_tallest cX8_tallest 7 (Option.some Jvm.ClassFile.FieldType.int) 1 := ⟨⟨rfl, tw_5_237, by decide⟩, tw_1_1, ⟨by decide, by decide⟩, by decide +kernel⟩
theorem c_X8_tallest {l : Launch} {K : Ctx} (hl : l.stackTraces = false) {h : Hp} {a0 : Nat} {i1 : Int32} {t : Rs Int32} (e : f_X8_tallest h a0 i1 = some t) : Ctr l K 22 yX8_tallest w_X8_tallest [.ref a0, .int i1] h (tgI t) :=
  Ctr.of hl mf_X8_tallest false (fun q => nomatch q) rfl (leb rfl) (p_X8_tallest hl e)
/-! ## TableColumnBalancerLaw.tallest -/
abbrev mM_L_tallest : Mi := (23, yL_tallest.cls, cL_tallest, 4, (Option.some Jvm.ClassFile.FieldType.int), [((0 : Nat), (9 : Nat), (12 : Nat), (21 : Nat)), ((0 : Nat), (9 : Nat), (15 : Nat), (15 : Nat)), ((0 : Nat), (9 : Nat), (18 : Nat), (73 : Nat))], false)
noncomputable def f_L_tallest (h : Hp) (a0 : Nat) (i1 : Int32) (a2 : Nat) : Option (Rs Int32) :=
  chk (okr h a0 8) <|
  bndX (f_X8_tallest h a0 i1) (fun h2 r3 => (
    chk (okr h2 a2 21) <|
    chk (vp_in (iN 0) (qW h2 a2)) <|
    lt (putL h2 a2 (Int32.toNatClampNeg (iN 0)) (Int32.toInt64 r3)) fun h6 =>
    some (h6, .inr (iN 0))
  )) fun h2 k =>
  if k = 2 then (
    some (h2, .inr (iN 1))
  ) else
  if k = 0 then (
    some (h2, .inr (iN 2))
  ) else
  if k = 5 then (
    some (h2, .inr (iN 3))
  ) else
  none
theorem p_L_tallest {l : Launch} {K : Ctx} (hl : l.stackTraces = false) {h : Hp} {a0 : Nat} {i1 : Int32} {a2 : Nat} {t : Rs Int32} (e : f_L_tallest h a0 i1 a2 = some t) : X l K mM_L_tallest (tgI t) 0 [(0, .ref a0), (1, .int i1), (2, .ref a2)] [] h := by
  unfold f_L_tallest at e
  refine x_aload_n (pc := 0) 2 dL_tallest_0 rfl ?_
  refine x_iconst (pc := 1) dL_tallest_1 ?_
  refine x_aload_n (pc := 2) 0 dL_tallest_2 rfl ?_
  refine x_iload_n (pc := 3) 1 dL_tallest_3 rfl ?_
  obtain ⟨q1, e⟩ := chk_some e
  rcases bndX_some e with ⟨h2, k, ec, e⟩ | ⟨h2, r3, ec, e⟩
  · rcases ite_some e with ⟨q7, e⟩ | ⟨q7, e⟩
    · subst q7
      refine y_callV_x (pc := 4) (c_X8_tallest hl ec) q1 mf_X8_tallest tw_5_235 tw_5_236 lf_L_103 rfl rfl dL_tallest_4 (by decide) rfl rfl (leb rfl) (xx_catch (pc := 4) [] [(0, 9, 15, 15), (0, 9, 18, 73)] (0, 9, 12, 21) rfl (by decide) (fun _ hz => absurd hz List.not_mem_nil) (by decide) (by decide) tw_3_187 tw_3_229 dL_tallest_12 (by decide) rfl ?_)
      refine x_iconst (pc := 13) dL_tallest_13 ?_
      cases Option.some.inj e
      exact x_iret (pc := 14) rfl dL_tallest_14
    rcases ite_some e with ⟨q8, e⟩ | ⟨q8, e⟩
    · subst q8
      refine y_callV_x (pc := 4) (c_X8_tallest hl ec) q1 mf_X8_tallest tw_5_235 tw_5_236 lf_L_103 rfl rfl dL_tallest_4 (by decide) rfl rfl (leb rfl) (xx_catch (pc := 4) [(0, 9, 12, 21)] [(0, 9, 18, 73)] (0, 9, 15, 15) rfl (by decide) (List.forall_mem_cons.mpr ⟨⟨by decide, 2, by decide, by decide, tw_3_187⟩, fun _ hz => absurd hz List.not_mem_nil⟩) (by decide) (by decide) tw_3_77 tw_3_159 dL_tallest_15 (by decide) rfl ?_)
      refine x_iconst (pc := 16) dL_tallest_16 ?_
      cases Option.some.inj e
      exact x_iret (pc := 17) rfl dL_tallest_17
    rcases ite_some e with ⟨q9, e⟩ | ⟨q9, e⟩
    · subst q9
      refine y_callV_x (pc := 4) (c_X8_tallest hl ec) q1 mf_X8_tallest tw_5_235 tw_5_236 lf_L_103 rfl rfl dL_tallest_4 (by decide) rfl rfl (leb rfl) (xx_catch (pc := 4) [(0, 9, 12, 21), (0, 9, 15, 15)] [] (0, 9, 18, 73) rfl (by decide) (List.forall_mem_cons.mpr ⟨⟨by decide, 2, by decide, by decide, tw_3_187⟩, List.forall_mem_cons.mpr ⟨⟨by decide, 0, by decide, by decide, tw_3_77⟩, fun _ hz => absurd hz List.not_mem_nil⟩⟩) (by decide) (by decide) tw_5_116 tw_5_126 dL_tallest_18 (by decide) rfl ?_)
      refine x_iconst (pc := 19) dL_tallest_19 ?_
      cases Option.some.inj e
      exact x_iret (pc := 20) rfl dL_tallest_20
    cases e
  refine y_callV_i (pc := 4) (c_X8_tallest hl ec) q1 mf_X8_tallest tw_5_235 tw_5_236 lf_L_103 rfl rfl dL_tallest_4 (by decide) rfl rfl (leb rfl) ?_
  refine x_i2l (pc := 7) dL_tallest_7 ?_
  obtain ⟨q4, e⟩ := chk_some e
  obtain ⟨q5, e⟩ := chk_some e
  replace e := lt_go e
  refine x_last (pc := 8) dL_tallest_8 q4 q5 ?_
  refine x_goto (pc := 9) (t := 21) dL_tallest_9 (by decide) ?_
  refine x_iconst (pc := 21) dL_tallest_21 ?_
  cases Option.some.inj e
  exact x_iret (pc := 22) rfl dL_tallest_22
abbrev w_L_tallest : Cond := (Cond.codeWith yL_tallest cL_tallest 4 (Option.some Jvm.ClassFile.FieldType.int) [((0 : Nat), (9 : Nat), (12 : Nat), (21 : Nat)), ((0 : Nat), (9 : Nat), (15 : Nat), (15 : Nat)), ((0 : Nat), (9 : Nat), (18 : Nat), (73 : Nat))])
theorem mf_L_tallest : MFX yL_tallest w_L_tallest cL_tallest 4 (Option.some Jvm.ClassFile.FieldType.int) 3 [((0 : Nat), (9 : Nat), (12 : Nat), (21 : Nat)), ((0 : Nat), (9 : Nat), (15 : Nat), (15 : Nat)), ((0 : Nat), (9 : Nat), (18 : Nat), (73 : Nat))] := ⟨⟨rfl, tw_5_233, by decide⟩, tw_1_0, ⟨by decide, by decide⟩, by decide +kernel⟩
theorem c_L_tallest {l : Launch} {K : Ctx} (hl : l.stackTraces = false) {h : Hp} {a0 : Nat} {i1 : Int32} {a2 : Nat} {t : Rs Int32} (e : f_L_tallest h a0 i1 a2 = some t) : Ctr l K 23 yL_tallest w_L_tallest [.ref a0, .int i1, .ref a2] h (tgI t) :=
  Ctr.ofX hl mf_L_tallest rfl (leb rfl) (p_L_tallest hl e)
/-! ## TableColumnBalancerModel.tallest -/
abbrev mM_X9_tallest : Mi := (22, yX9_tallest.cls, cX9_tallest, 5, (Option.some Jvm.ClassFile.FieldType.int), [], false)
noncomputable def f_X9_tallest_L100 (k43 : Hp → Nat → Int32 → Int32 → Int32 → Option (Rs Int32)) (h : Hp) (a0 : Nat) (i1 : Int32) (i3 : Int32) (s0 : Int32) : Option (Rs Int32) :=
  k43 h a0 i1 s0 (i3 + iN (-1))
theorem p_X9_tallest_L100 {l : Launch} {K : Ctx} (hl : l.stackTraces = false) {k43 : Hp → Nat → Int32 → Int32 → Int32 → Option (Rs Int32)} (hk43 : ∀ (h : Hp) (a0 : Nat) (i1 : Int32) (i2 : Int32) (i3 : Int32) (t : Rs Int32), k43 h a0 i1 i2 i3 = some t → X l K mM_X9_tallest (tgI t) 43 [(0, .ref a0), (1, .int i1), (2, .int i2), (3, .int i3)] [] h) {h : Hp} {a0 : Nat} {i1 : Int32} {i3 : Int32} {s0 : Int32} {t : Rs Int32} (e : f_X9_tallest_L100 k43 h a0 i1 i3 s0 = some t) : X l K mM_X9_tallest (tgI t) 100 [(0, .ref a0), (1, .int i1), (3, .int i3)] [.int s0] h := by
  unfold f_X9_tallest_L100 at e
  refine x_istore_n (pc := 100) dX9_tallest_100 (by decide) rfl ?_
  refine x_iinc (pc := 101) 3 dX9_tallest_101 rfl (by decide) rfl ?_
  refine x_goto (pc := 104) (t := 43) dX9_tallest_104 (by decide) ?_
  exact x_sub1 (hk43 _ _ _ _ _ _ e) [2, 3, 1, 0] rfl
noncomputable def f_X9_tallest_L88 (k43 : Hp → Nat → Int32 → Int32 → Int32 → Option (Rs Int32)) (h : Hp) (a0 : Nat) (i1 : Int32) (i2 : Int32) (i3 : Int32) (s0 : Int32) : Option (Rs Int32) :=
  if s0 = 0 then (
    f_X9_tallest_L100 k43 h a0 i1 i3 i2
  ) else (
    f_X9_tallest_L100 k43 h a0 i1 i3 i3
  )
theorem p_X9_tallest_L88 {l : Launch} {K : Ctx} (hl : l.stackTraces = false) {k43 : Hp → Nat → Int32 → Int32 → Int32 → Option (Rs Int32)} (hk43 : ∀ (h : Hp) (a0 : Nat) (i1 : Int32) (i2 : Int32) (i3 : Int32) (t : Rs Int32), k43 h a0 i1 i2 i3 = some t → X l K mM_X9_tallest (tgI t) 43 [(0, .ref a0), (1, .int i1), (2, .int i2), (3, .int i3)] [] h) {h : Hp} {a0 : Nat} {i1 : Int32} {i2 : Int32} {i3 : Int32} {s0 : Int32} {t : Rs Int32} (e : f_X9_tallest_L88 k43 h a0 i1 i2 i3 s0 = some t) : X l K mM_X9_tallest (tgI t) 88 [(0, .ref a0), (1, .int i1), (2, .int i2), (3, .int i3)] [.int s0] h := by
  unfold f_X9_tallest_L88 at e
  refine x_istore (pc := 88) dX9_tallest_88 (by decide) rfl ?_
  refine x_iload (pc := 90) 0 dX9_tallest_90 rfl ?_
  rcases ite_some e with ⟨q1, e⟩ | ⟨q1, e⟩
  · refine x_if_eq_t (pc := 92) (t := 99) dX9_tallest_92 (by decide) q1 ?_
    refine x_iload_n (pc := 99) 3 dX9_tallest_99 rfl ?_
    exact x_sub1 (p_X9_tallest_L100 hl hk43 e) [1, 2, 4] rfl
  · refine x_if_eq_f (pc := 92) (t := 99) dX9_tallest_92 (by decide) q1 ?_
    refine x_iload_n (pc := 95) 4 dX9_tallest_95 rfl ?_
    refine x_goto (pc := 96) (t := 100) dX9_tallest_96 (by decide) ?_
    exact x_sub1 (p_X9_tallest_L100 hl hk43 e) [1, 2, 4] rfl
noncomputable def f_X9_tallest_L87 (k43 : Hp → Nat → Int32 → Int32 → Int32 → Option (Rs Int32)) (h : Hp) (a0 : Nat) (i1 : Int32) (i2 : Int32) (i3 : Int32) : Option (Rs Int32) :=
  f_X9_tallest_L88 k43 h a0 i1 i2 i3 (iN 0)
theorem p_X9_tallest_L87 {l : Launch} {K : Ctx} (hl : l.stackTraces = false) {k43 : Hp → Nat → Int32 → Int32 → Int32 → Option (Rs Int32)} (hk43 : ∀ (h : Hp) (a0 : Nat) (i1 : Int32) (i2 : Int32) (i3 : Int32) (t : Rs Int32), k43 h a0 i1 i2 i3 = some t → X l K mM_X9_tallest (tgI t) 43 [(0, .ref a0), (1, .int i1), (2, .int i2), (3, .int i3)] [] h) {h : Hp} {a0 : Nat} {i1 : Int32} {i2 : Int32} {i3 : Int32} {t : Rs Int32} (e : f_X9_tallest_L87 k43 h a0 i1 i2 i3 = some t) : X l K mM_X9_tallest (tgI t) 87 [(0, .ref a0), (1, .int i1), (2, .int i2), (3, .int i3)] [] h := by
  unfold f_X9_tallest_L87 at e
  refine x_iconst (pc := 87) dX9_tallest_87 ?_
  exact p_X9_tallest_L88 hl hk43 e
noncomputable def f_X9_tallest_B43 (k43 : Hp → Nat → Int32 → Int32 → Int32 → Option (Rs Int32)) (h : Hp) (a0 : Nat) (i1 : Int32) (i2 : Int32) (i3 : Int32) : Option (Rs Int32) :=
  if i3 < 0 then (
    if i2 = (iN (-1)) then (
      chk (okr h a0 9) <|
      bnd (f_X9_fails h a0 (iN 3)) fun h4 r5 =>
      some (h4, .inr r5)
    ) else (
      some (h, .inr i2)
    )
  ) else (
    chk (okr h a0 9) <|
    bnd (f_X9_of h a0 i3 (iN 0)) fun h7 r8 =>
    if r8 = i1 then (
      chk (okr h7 a0 9) <|
      chk (okr h7 (qR h7 a0 31) 20) <|
      bnd (f_X9_widthOf h7 a0 i3 (qR h7 a0 31)) fun h12 r13 =>
      chk (okr h12 a0 9) <|
      bnd (f_X9_heightOf h12 a0 i3 r13) fun h15 r16 =>
      chk (okr h15 a0 9) <|
      chk (okr h15 (qR h15 a0 31) 20) <|
      bnd (f_X9_rowHigh h15 a0 i1 (qR h15 a0 31)) fun h19 r20 =>
      if r16 = r20 then (
        f_X9_tallest_L88 k43 h19 a0 i1 i2 i3 (iN 1)
      ) else (
        f_X9_tallest_L87 k43 h19 a0 i1 i2 i3
      )
    ) else (
      f_X9_tallest_L87 k43 h7 a0 i1 i2 i3
    )
  )
theorem p_X9_tallest_B43 {l : Launch} {K : Ctx} (hl : l.stackTraces = false) {k43 : Hp → Nat → Int32 → Int32 → Int32 → Option (Rs Int32)} (hk43 : ∀ (h : Hp) (a0 : Nat) (i1 : Int32) (i2 : Int32) (i3 : Int32) (t : Rs Int32), k43 h a0 i1 i2 i3 = some t → X l K mM_X9_tallest (tgI t) 43 [(0, .ref a0), (1, .int i1), (2, .int i2), (3, .int i3)] [] h) {h : Hp} {a0 : Nat} {i1 : Int32} {i2 : Int32} {i3 : Int32} {t : Rs Int32} (e : f_X9_tallest_B43 k43 h a0 i1 i2 i3 = some t) : X l K mM_X9_tallest (tgI t) 43 [(0, .ref a0), (1, .int i1), (2, .int i2), (3, .int i3)] [] h := by
  unfold f_X9_tallest_B43 at e
  refine x_iload_n (pc := 43) 3 dX9_tallest_43 rfl ?_
  rcases ite_some e with ⟨q1, e⟩ | ⟨q1, e⟩
  · refine x_if_lt_t (pc := 44) (t := 107) dX9_tallest_44 (by decide) q1 ?_
    refine x_iload_n (pc := 107) 2 dX9_tallest_107 rfl ?_
    refine x_iconst (pc := 108) dX9_tallest_108 ?_
    rcases ite_some e with ⟨q2, e⟩ | ⟨q2, e⟩
    · refine x_icmp_ne_f (pc := 109) (t := 120) dX9_tallest_109 (by decide) q2 ?_
      refine x_aload_n (pc := 112) 0 dX9_tallest_112 rfl ?_
      refine x_iconst (pc := 113) dX9_tallest_113 ?_
      obtain ⟨q3, e⟩ := chk_some e
      rcases bnd_some e with ⟨h4, r5, ec, rfl⟩ | ⟨h4, r5, ec, e⟩
      · exact y_callV_x (pc := 114) (c_X9_fails hl ec) q3 mf_X9_fails tw_7_24 ts_6_7 lf_X9_95 rfl rfl dX9_tallest_114 (by decide) rfl rfl (leb rfl) (xx_out0 rfl)
      refine y_callV_i (pc := 114) (c_X9_fails hl ec) q3 mf_X9_fails tw_7_24 ts_6_7 lf_X9_95 rfl rfl dX9_tallest_114 (by decide) rfl rfl (leb rfl) ?_
      refine x_goto (pc := 117) (t := 121) dX9_tallest_117 (by decide) ?_
      cases Option.some.inj e
      exact x_iret (pc := 121) rfl dX9_tallest_121
    · refine x_icmp_ne_t (pc := 109) (t := 120) dX9_tallest_109 (by decide) q2 ?_
      refine x_iload_n (pc := 120) 2 dX9_tallest_120 rfl ?_
      cases Option.some.inj e
      exact x_iret (pc := 121) rfl dX9_tallest_121
  · refine x_if_lt_f (pc := 44) (t := 107) dX9_tallest_44 (by decide) q1 ?_
    refine x_aload_n (pc := 47) 0 dX9_tallest_47 rfl ?_
    refine x_iload_n (pc := 48) 3 dX9_tallest_48 rfl ?_
    refine x_iconst (pc := 49) dX9_tallest_49 ?_
    obtain ⟨q6, e⟩ := chk_some e
    rcases bnd_some e with ⟨h7, r8, ec, rfl⟩ | ⟨h7, r8, ec, e⟩
    · exact y_callV_x (pc := 50) (c_X9_of hl ec) q6 mf_X9_of tw_7_63 ts_6_12 lf_X9_91 rfl rfl dX9_tallest_50 (by decide) rfl rfl (leb rfl) (xx_out0 rfl)
    refine y_callV_i (pc := 50) (c_X9_of hl ec) q6 mf_X9_of tw_7_63 ts_6_12 lf_X9_91 rfl rfl dX9_tallest_50 (by decide) rfl rfl (leb rfl) ?_
    refine x_iload_n (pc := 53) 1 dX9_tallest_53 rfl ?_
    rcases ite_some e with ⟨q9, e⟩ | ⟨q9, e⟩
    · refine x_icmp_ne_f (pc := 54) (t := 87) dX9_tallest_54 (by decide) q9 ?_
      refine x_aload_n (pc := 57) 0 dX9_tallest_57 rfl ?_
      refine x_iload_n (pc := 58) 3 dX9_tallest_58 rfl ?_
      refine x_aload_n (pc := 59) 0 dX9_tallest_59 rfl ?_
      refine x_iload_n (pc := 60) 3 dX9_tallest_60 rfl ?_
      refine x_aload_n (pc := 61) 0 dX9_tallest_61 rfl ?_
      obtain ⟨q10, e⟩ := chk_some e
      obtain ⟨q11, e⟩ := chk_some e
      refine x_getR (pc := 62) gf_X9_78 rfl dX9_tallest_62 q10 q11.1 ?_
      rcases bnd_some e with ⟨h12, r13, ec, rfl⟩ | ⟨h12, r13, ec, e⟩
      · exact y_callV_x (pc := 65) (c_X9_widthOf hl ec) q10 mf_X9_widthOf tw_8_138 ts_10_1 lf_X9_341 rfl rfl dX9_tallest_65 (by decide) rfl rfl (leb rfl) (xx_out0 rfl)
      refine y_callV_i (pc := 65) (c_X9_widthOf hl ec) q10 mf_X9_widthOf tw_8_138 ts_10_1 lf_X9_341 rfl rfl dX9_tallest_65 (by decide) rfl rfl (leb rfl) ?_
      obtain ⟨q14, e⟩ := chk_some e
      rcases bnd_some e with ⟨h15, r16, ec, rfl⟩ | ⟨h15, r16, ec, e⟩
      · exact y_callV_x (pc := 68) (c_X9_heightOf hl ec) q14 mf_X9_heightOf tw_8_46 ts_9_0 lf_X9_299 rfl rfl dX9_tallest_68 (by decide) rfl rfl (leb rfl) (xx_out0 rfl)
      refine y_callV_i (pc := 68) (c_X9_heightOf hl ec) q14 mf_X9_heightOf tw_8_46 ts_9_0 lf_X9_299 rfl rfl dX9_tallest_68 (by decide) rfl rfl (leb rfl) ?_
      refine x_aload_n (pc := 71) 0 dX9_tallest_71 rfl ?_
      refine x_iload_n (pc := 72) 1 dX9_tallest_72 rfl ?_
      refine x_aload_n (pc := 73) 0 dX9_tallest_73 rfl ?_
      obtain ⟨q17, e⟩ := chk_some e
      obtain ⟨q18, e⟩ := chk_some e
      refine x_getR (pc := 74) gf_X9_78 rfl dX9_tallest_74 q17 q18.1 ?_
      rcases bnd_some e with ⟨h19, r20, ec, rfl⟩ | ⟨h19, r20, ec, e⟩
      · exact y_callV_x (pc := 77) (c_X9_rowHigh hl ec) q17 mf_X9_rowHigh tw_8_134 ts_10_0 lf_X9_345 rfl rfl dX9_tallest_77 (by decide) rfl rfl (leb rfl) (xx_out0 rfl)
      refine y_callV_i (pc := 77) (c_X9_rowHigh hl ec) q17 mf_X9_rowHigh tw_8_134 ts_10_0 lf_X9_345 rfl rfl dX9_tallest_77 (by decide) rfl rfl (leb rfl) ?_
      rcases ite_some e with ⟨q21, e⟩ | ⟨q21, e⟩
      · refine x_icmp_ne_f (pc := 80) (t := 87) dX9_tallest_80 (by decide) q21 ?_
        refine x_iconst (pc := 83) dX9_tallest_83 ?_
        refine x_goto (pc := 84) (t := 88) dX9_tallest_84 (by decide) ?_
        exact p_X9_tallest_L88 hl hk43 e
      · refine x_icmp_ne_t (pc := 80) (t := 87) dX9_tallest_80 (by decide) q21 ?_
        exact p_X9_tallest_L87 hl hk43 e
    · refine x_icmp_ne_t (pc := 54) (t := 87) dX9_tallest_54 (by decide) q9 ?_
      exact p_X9_tallest_L87 hl hk43 e
noncomputable def f_X9_tallest_L43 (n : Nat) : Hp → Nat → Int32 → Int32 → Int32 → Option (Rs Int32) := Nat.rec (motive := fun _ => Hp → Nat → Int32 → Int32 → Int32 → Option (Rs Int32)) (fun _ _ _ _ _ => none) (fun _ r => f_X9_tallest_B43 r) n
theorem p_X9_tallest_L43 {l : Launch} {K : Ctx} (hl : l.stackTraces = false) : ∀ (n : Nat) (h : Hp) (a0 : Nat) (i1 : Int32) (i2 : Int32) (i3 : Int32) (t : Rs Int32) (e : f_X9_tallest_L43 n h a0 i1 i2 i3 = some t), X l K mM_X9_tallest (tgI t) 43 [(0, .ref a0), (1, .int i1), (2, .int i2), (3, .int i3)] [] h := by
  intro n
  induction n with
  | zero => exact fun _ _ _ _ _ _ e => nomatch (show (none : Option (Rs Int32)) = some _ from e)
  | succ n ih => exact fun h a0 i1 i2 i3 t e => p_X9_tallest_B43 hl (fun h a0 i1 i2 i3 t e => ih h a0 i1 i2 i3 t e) e
noncomputable def f_X9_tallest (h : Hp) (a0 : Nat) (i1 : Int32) : Option (Rs Int32) :=
  chk (okr h a0 9) <|
  lt (putI h a0 0 (iN 0)) fun h2 =>
  bnd (f_X9_isRow h2 a0 i1) fun h3 r4 =>
  if r4 = 0 then (
    chk (okr h3 a0 9) <|
    bnd (f_X9_fails h3 a0 (iN 1)) fun h7 r8 =>
    some (h7, .inr r8)
  ) else (
    chk (okr h3 a0 9) <|
    bnd (f_X9_isBest h3 a0) fun h10 r11 =>
    if r11 = 0 then (
      chk (okr h10 a0 9) <|
      bnd (f_X9_fails h10 a0 (iN 2)) fun h14 r15 =>
      some (h14, .inr r15)
    ) else (
      chk (okr h10 a0 9) <|
      chk (okr h10 (qR h10 a0 1) 20) <|
      chk (vp_in (iN 5) (qW h10 (qR h10 a0 1))) <|
      f_X9_tallest_L43 2000 h10 a0 i1 (iN (-1)) ((qI h10 (qR h10 a0 1) (Int32.toNatClampNeg (iN 5))) - (iN 1))
    )
  )
theorem p_X9_tallest {l : Launch} {K : Ctx} (hl : l.stackTraces = false) {h : Hp} {a0 : Nat} {i1 : Int32} {t : Rs Int32} (e : f_X9_tallest h a0 i1 = some t) : X l K mM_X9_tallest (tgI t) 0 [(0, .ref a0), (1, .int i1)] [] h := by
  unfold f_X9_tallest at e
  refine x_aload_n (pc := 0) 0 dX9_tallest_0 rfl ?_
  refine x_iconst (pc := 1) dX9_tallest_1 ?_
  obtain ⟨q1, e⟩ := chk_some e
  replace e := lt_go e
  refine x_putI (pc := 2) pf_X9_84 rfl rfl rfl dX9_tallest_2 q1 ?_
  refine x_aload_n (pc := 5) 0 dX9_tallest_5 rfl ?_
  refine x_iload_n (pc := 6) 1 dX9_tallest_6 rfl ?_
  rcases bnd_some e with ⟨h3, r4, ec, rfl⟩ | ⟨h3, r4, ec, e⟩
  · exact y_callV_x (pc := 7) (c_X9_isRow hl ec) (okr_pI q1) mf_X9_isRow tw_7_51 ts_6_9 lf_X9_110 rfl rfl dX9_tallest_7 (by decide) rfl rfl (leb rfl) (xx_out0 rfl)
  refine y_callV_i (pc := 7) (c_X9_isRow hl ec) (okr_pI q1) mf_X9_isRow tw_7_51 ts_6_9 lf_X9_110 rfl rfl dX9_tallest_7 (by decide) rfl rfl (leb rfl) ?_
  rcases ite_some e with ⟨q5, e⟩ | ⟨q5, e⟩
  · refine x_if_ne_f (pc := 10) (t := 19) dX9_tallest_10 (by decide) q5 ?_
    refine x_aload_n (pc := 13) 0 dX9_tallest_13 rfl ?_
    refine x_iconst (pc := 14) dX9_tallest_14 ?_
    obtain ⟨q6, e⟩ := chk_some e
    rcases bnd_some e with ⟨h7, r8, ec, rfl⟩ | ⟨h7, r8, ec, e⟩
    · exact y_callV_x (pc := 15) (c_X9_fails hl ec) q6 mf_X9_fails tw_7_24 ts_6_7 lf_X9_95 rfl rfl dX9_tallest_15 (by decide) rfl rfl (leb rfl) (xx_out0 rfl)
    refine y_callV_i (pc := 15) (c_X9_fails hl ec) q6 mf_X9_fails tw_7_24 ts_6_7 lf_X9_95 rfl rfl dX9_tallest_15 (by decide) rfl rfl (leb rfl) ?_
    cases Option.some.inj e
    exact x_iret (pc := 18) rfl dX9_tallest_18
  · refine x_if_ne_t (pc := 10) (t := 19) dX9_tallest_10 (by decide) q5 ?_
    refine x_aload_n (pc := 19) 0 dX9_tallest_19 rfl ?_
    obtain ⟨q9, e⟩ := chk_some e
    rcases bnd_some e with ⟨h10, r11, ec, rfl⟩ | ⟨h10, r11, ec, e⟩
    · exact y_callV_x (pc := 20) (c_X9_isBest hl ec) q9 mf_X9_isBest tw_8_146 ts_10_2 lf_X9_367 rfl rfl dX9_tallest_20 (by decide) rfl rfl (leb rfl) (xx_out0 rfl)
    refine y_callV_i (pc := 20) (c_X9_isBest hl ec) q9 mf_X9_isBest tw_8_146 ts_10_2 lf_X9_367 rfl rfl dX9_tallest_20 (by decide) rfl rfl (leb rfl) ?_
    rcases ite_some e with ⟨q12, e⟩ | ⟨q12, e⟩
    · refine x_if_ne_f (pc := 23) (t := 32) dX9_tallest_23 (by decide) q12 ?_
      refine x_aload_n (pc := 26) 0 dX9_tallest_26 rfl ?_
      refine x_iconst (pc := 27) dX9_tallest_27 ?_
      obtain ⟨q13, e⟩ := chk_some e
      rcases bnd_some e with ⟨h14, r15, ec, rfl⟩ | ⟨h14, r15, ec, e⟩
      · exact y_callV_x (pc := 28) (c_X9_fails hl ec) q13 mf_X9_fails tw_7_24 ts_6_7 lf_X9_95 rfl rfl dX9_tallest_28 (by decide) rfl rfl (leb rfl) (xx_out0 rfl)
      refine y_callV_i (pc := 28) (c_X9_fails hl ec) q13 mf_X9_fails tw_7_24 ts_6_7 lf_X9_95 rfl rfl dX9_tallest_28 (by decide) rfl rfl (leb rfl) ?_
      cases Option.some.inj e
      exact x_iret (pc := 31) rfl dX9_tallest_31
    · refine x_if_ne_t (pc := 23) (t := 32) dX9_tallest_23 (by decide) q12 ?_
      refine x_iconst (pc := 32) dX9_tallest_32 ?_
      refine x_istore_n (pc := 33) dX9_tallest_33 (by decide) rfl ?_
      refine x_aload_n (pc := 34) 1 dX9_tallest_34 rfl ?_
      obtain ⟨q16, e⟩ := chk_some e
      obtain ⟨q17, e⟩ := chk_some e
      refine x_getR (pc := 35) gf_X9_9 rfl dX9_tallest_35 q16 q17.1 ?_
      refine x_iconst (pc := 38) dX9_tallest_38 ?_
      obtain ⟨q18, e⟩ := chk_some e
      refine x_iald (pc := 39) dX9_tallest_39 q17 q18 ?_
      refine x_iconst (pc := 40) dX9_tallest_40 ?_
      refine x_isub (pc := 41) dX9_tallest_41 ?_
      refine x_istore_n (pc := 42) dX9_tallest_42 (by decide) rfl ?_
      exact x_sub1 (p_X9_tallest_L43 hl 2000 _ _ _ _ _ _ e) [2, 3, 1, 0] rfl
abbrev w_X9_tallest : Cond := (Cond.code yX9_tallest cX9_tallest 5 (Option.some Jvm.ClassFile.FieldType.int))
theorem mf_X9_tallest : MF yX9_tallest w_X9_tallest cX9_tallest 5 (Option.some Jvm.ClassFile.FieldType.int) 1 := ⟨⟨rfl, tw_8_175, by decide⟩, tw_1_11, ⟨by decide, by decide⟩, by decide +kernel⟩
theorem c_X9_tallest {l : Launch} {K : Ctx} (hl : l.stackTraces = false) {h : Hp} {a0 : Nat} {i1 : Int32} {t : Rs Int32} (e : f_X9_tallest h a0 i1 = some t) : Ctr l K 22 yX9_tallest w_X9_tallest [.ref a0, .int i1] h (tgI t) :=
  Ctr.of hl mf_X9_tallest false (fun q => nomatch q) rfl (leb rfl) (p_X9_tallest hl e)
/-! ## TableColumnBalancer.heightFor -/
abbrev mM_X8_heightFor : Mi := (14, yX8_heightFor.cls, cX8_heightFor, 6, (Option.some Jvm.ClassFile.FieldType.int), [], false)
noncomputable def f_X8_heightFor_B32 (k32 : Hp → Nat → Int32 → Option (Rs Int32)) (h : Hp) (a0 : Nat) (i5 : Int32) : Option (Rs Int32) :=
  chk (okr h a0 8) <|
  chk (okr h (qR h a0 0) 7) <|
  if (qI h (qR h a0 0) 3) ≤ i5 then (
    chk (okr h (qR h a0 10) 20) <|
    bnd (f_X7_heightOfAll h (qR h a0 0) (qR h a0 10)) fun h5 r6 =>
    some (h5, .inr r6)
  ) else (
    chk (okr h (qR h a0 10) 20) <|
    chk (vp_in i5 (qW h (qR h a0 10))) <|
    chk (okr h (qR h a0 1) 3) <|
    chk (okr h (qR h (qR h a0 1) 1) 20) <|
    chk (vp_in i5 (qW h (qR h (qR h a0 1) 1))) <|
    bnd (f_X8_isWithin h (qI h (qR h a0 10) (Int32.toNatClampNeg i5)) (qI h (qR h (qR h a0 1) 1) (Int32.toNatClampNeg i5)) (iN 36)) fun h12 r13 =>
    bnd (f_X8_requireArgument h12 r13) fun h14 _ =>
    k32 h14 a0 (i5 + iN 1)
  )
theorem p_X8_heightFor_B32 {l : Launch} {K : Ctx} (hl : l.stackTraces = false) {k32 : Hp → Nat → Int32 → Option (Rs Int32)} (hk32 : ∀ (h : Hp) (a0 : Nat) (i5 : Int32) (t : Rs Int32), k32 h a0 i5 = some t → X l K mM_X8_heightFor (tgI t) 32 [(0, .ref a0), (5, .int i5)] [] h) {h : Hp} {a0 : Nat} {i5 : Int32} {t : Rs Int32} (e : f_X8_heightFor_B32 k32 h a0 i5 = some t) : X l K mM_X8_heightFor (tgI t) 32 [(0, .ref a0), (5, .int i5)] [] h := by
  unfold f_X8_heightFor_B32 at e
  refine x_iload (pc := 32) 1 dX8_heightFor_32 rfl ?_
  refine x_aload_n (pc := 34) 0 dX8_heightFor_34 rfl ?_
  obtain ⟨q1, e⟩ := chk_some e
  obtain ⟨q2, e⟩ := chk_some e
  refine x_getR (pc := 35) gf_X8_10 rfl dX8_heightFor_35 q1 q2.1 ?_
  refine x_getI (pc := 38) gf_X8_87 rfl dX8_heightFor_38 q2 ?_
  rcases ite_some e with ⟨q3, e⟩ | ⟨q3, e⟩
  · refine x_icmp_ge_t (pc := 41) (t := 75) dX8_heightFor_41 (by decide) q3 ?_
    refine x_aload_n (pc := 75) 0 dX8_heightFor_75 rfl ?_
    refine x_getR (pc := 76) gf_X8_10 rfl dX8_heightFor_76 q1 q2.1 ?_
    refine x_aload_n (pc := 79) 0 dX8_heightFor_79 rfl ?_
    obtain ⟨q4, e⟩ := chk_some e
    refine x_getR (pc := 80) gf_X8_60 rfl dX8_heightFor_80 q1 q4.1 ?_
    rcases bnd_some e with ⟨h5, r6, ec, rfl⟩ | ⟨h5, r6, ec, e⟩
    · exact y_callV_x (pc := 83) (c_X7_heightOfAll hl ec) q2 mf_X7_heightOfAll tw_5_188 ts_5_12 lf_X8_263 rfl rfl dX8_heightFor_83 (by decide) rfl rfl (leb rfl) (xx_out0 rfl)
    refine y_callV_i (pc := 83) (c_X7_heightOfAll hl ec) q2 mf_X7_heightOfAll tw_5_188 ts_5_12 lf_X8_263 rfl rfl dX8_heightFor_83 (by decide) rfl rfl (leb rfl) ?_
    cases Option.some.inj e
    exact x_iret (pc := 86) rfl dX8_heightFor_86
  · refine x_icmp_ge_f (pc := 41) (t := 75) dX8_heightFor_41 (by decide) q3 ?_
    refine x_aload_n (pc := 44) 0 dX8_heightFor_44 rfl ?_
    obtain ⟨q7, e⟩ := chk_some e
    refine x_getR (pc := 45) gf_X8_60 rfl dX8_heightFor_45 q1 q7.1 ?_
    refine x_iload (pc := 48) 1 dX8_heightFor_48 rfl ?_
    obtain ⟨q8, e⟩ := chk_some e
    refine x_iald (pc := 50) dX8_heightFor_50 q7 q8 ?_
    refine x_aload_n (pc := 51) 0 dX8_heightFor_51 rfl ?_
    obtain ⟨q9, e⟩ := chk_some e
    refine x_getR (pc := 52) gf_X8_21 rfl dX8_heightFor_52 q1 q9.1 ?_
    obtain ⟨q10, e⟩ := chk_some e
    refine x_getR (pc := 55) gf_X8_243 rfl dX8_heightFor_55 q9 q10.1 ?_
    refine x_iload (pc := 58) 1 dX8_heightFor_58 rfl ?_
    obtain ⟨q11, e⟩ := chk_some e
    refine x_iald (pc := 60) dX8_heightFor_60 q10 q11 ?_
    refine x_bipush (pc := 61) (v := iN 36) dX8_heightFor_61 rfl ?_
    rcases bnd_some e with ⟨h12, r13, ec, rfl⟩ | ⟨h12, r13, ec, e⟩
    · exact y_callS_x (pc := 63) (c_X8_isWithin hl ec) mf_X8_isWithin tw_3_26 lf_X8_72 dX8_heightFor_63 (by decide) rfl rfl (leb rfl) (xx_out0 rfl)
    refine y_callS_i (pc := 63) (c_X8_isWithin hl ec) mf_X8_isWithin tw_3_26 lf_X8_72 dX8_heightFor_63 (by decide) rfl rfl (leb rfl) ?_
    rcases bnd_some e with ⟨h14, r15, ec, rfl⟩ | ⟨h14, r15, ec, e⟩
    · exact y_callS_x (pc := 66) (c_X8_requireArgument hl ec) mf_X8_requireArgument tw_3_84 lf_X8_76 dX8_heightFor_66 (by decide) rfl rfl (leb rfl) (xx_out0 rfl)
    refine y_callS_v (pc := 66) (c_X8_requireArgument hl ec) mf_X8_requireArgument tw_3_84 lf_X8_76 dX8_heightFor_66 (by decide) rfl rfl (leb rfl) ?_
    refine x_iinc (pc := 69) 1 dX8_heightFor_69 rfl (by decide) rfl ?_
    refine x_goto (pc := 72) (t := 32) dX8_heightFor_72 (by decide) ?_
    exact x_sub1 (hk32 _ _ _ _ e) [1, 0] rfl
noncomputable def f_X8_heightFor_L32 (n : Nat) : Hp → Nat → Int32 → Option (Rs Int32) := Nat.rec (motive := fun _ => Hp → Nat → Int32 → Option (Rs Int32)) (fun _ _ _ => none) (fun _ r => f_X8_heightFor_B32 r) n
theorem p_X8_heightFor_L32 {l : Launch} {K : Ctx} (hl : l.stackTraces = false) : ∀ (n : Nat) (h : Hp) (a0 : Nat) (i5 : Int32) (t : Rs Int32) (e : f_X8_heightFor_L32 n h a0 i5 = some t), X l K mM_X8_heightFor (tgI t) 32 [(0, .ref a0), (5, .int i5)] [] h := by
  intro n
  induction n with
  | zero => exact fun _ _ _ _ e => nomatch (show (none : Option (Rs Int32)) = some _ from e)
  | succ n ih => exact fun h a0 i5 t e => p_X8_heightFor_B32 hl (fun h a0 i5 t e => ih h a0 i5 t e) e
noncomputable def f_X8_heightFor (h : Hp) (a0 : Nat) (i1 : Int32) (i2 : Int32) (i3 : Int32) (i4 : Int32) : Option (Rs Int32) :=
  chk (okr h a0 8) <|
  chk (okr h (qR h a0 10) 20) <|
  chk (vp_in (iN 0) (qW h (qR h a0 10))) <|
  lt (putI h (qR h a0 10) (Int32.toNatClampNeg (iN 0)) i1) fun h4 =>
  chk (okr h4 (qR h4 a0 10) 20) <|
  chk (vp_in (iN 1) (qW h4 (qR h4 a0 10))) <|
  lt (putI h4 (qR h4 a0 10) (Int32.toNatClampNeg (iN 1)) i2) fun h7 =>
  chk (okr h7 (qR h7 a0 10) 20) <|
  chk (vp_in (iN 2) (qW h7 (qR h7 a0 10))) <|
  lt (putI h7 (qR h7 a0 10) (Int32.toNatClampNeg (iN 2)) i3) fun h10 =>
  chk (okr h10 (qR h10 a0 10) 20) <|
  chk (vp_in (iN 3) (qW h10 (qR h10 a0 10))) <|
  lt (putI h10 (qR h10 a0 10) (Int32.toNatClampNeg (iN 3)) i4) fun h13 =>
  f_X8_heightFor_L32 2000 h13 a0 (iN 0)
theorem p_X8_heightFor {l : Launch} {K : Ctx} (hl : l.stackTraces = false) {h : Hp} {a0 : Nat} {i1 : Int32} {i2 : Int32} {i3 : Int32} {i4 : Int32} {t : Rs Int32} (e : f_X8_heightFor h a0 i1 i2 i3 i4 = some t) : X l K mM_X8_heightFor (tgI t) 0 [(0, .ref a0), (1, .int i1), (2, .int i2), (3, .int i3), (4, .int i4)] [] h := by
  unfold f_X8_heightFor at e
  refine x_aload_n (pc := 0) 0 dX8_heightFor_0 rfl ?_
  obtain ⟨q1, e⟩ := chk_some e
  obtain ⟨q2, e⟩ := chk_some e
  refine x_getR (pc := 1) gf_X8_60 rfl dX8_heightFor_1 q1 q2.1 ?_
  refine x_iconst (pc := 4) dX8_heightFor_4 ?_
  refine x_iload_n (pc := 5) 1 dX8_heightFor_5 rfl ?_
  obtain ⟨q3, e⟩ := chk_some e
  replace e := lt_go e
  refine x_iast (pc := 6) dX8_heightFor_6 q2 q3 ?_
  refine x_aload_n (pc := 7) 0 dX8_heightFor_7 rfl ?_
  obtain ⟨q5, e⟩ := chk_some e
  refine x_getR (pc := 8) gf_X8_60 rfl dX8_heightFor_8 (okr_pI q1) q5.1 ?_
  refine x_iconst (pc := 11) dX8_heightFor_11 ?_
  refine x_iload_n (pc := 12) 2 dX8_heightFor_12 rfl ?_
  obtain ⟨q6, e⟩ := chk_some e
  replace e := lt_go e
  refine x_iast (pc := 13) dX8_heightFor_13 q5 q6 ?_
  refine x_aload_n (pc := 14) 0 dX8_heightFor_14 rfl ?_
  obtain ⟨q8, e⟩ := chk_some e
  refine x_getR (pc := 15) gf_X8_60 rfl dX8_heightFor_15 (okr_pI (okr_pI q1)) q8.1 ?_
  refine x_iconst (pc := 18) dX8_heightFor_18 ?_
  refine x_iload_n (pc := 19) 3 dX8_heightFor_19 rfl ?_
  obtain ⟨q9, e⟩ := chk_some e
  replace e := lt_go e
  refine x_iast (pc := 20) dX8_heightFor_20 q8 q9 ?_
  refine x_aload_n (pc := 21) 0 dX8_heightFor_21 rfl ?_
  obtain ⟨q11, e⟩ := chk_some e
  refine x_getR (pc := 22) gf_X8_60 rfl dX8_heightFor_22 (okr_pI (okr_pI (okr_pI q1))) q11.1 ?_
  refine x_iconst (pc := 25) dX8_heightFor_25 ?_
  refine x_iload (pc := 26) 4 dX8_heightFor_26 rfl ?_
  obtain ⟨q12, e⟩ := chk_some e
  replace e := lt_go e
  refine x_iast (pc := 28) dX8_heightFor_28 q11 q12 ?_
  refine x_iconst (pc := 29) dX8_heightFor_29 ?_
  refine x_istore (pc := 30) dX8_heightFor_30 (by decide) rfl ?_
  exact x_sub1 (p_X8_heightFor_L32 hl 2000 _ _ _ _ e) [1, 0] rfl
abbrev w_X8_heightFor : Cond := (Cond.code yX8_heightFor cX8_heightFor 6 (Option.some Jvm.ClassFile.FieldType.int))
theorem mf_X8_heightFor : MF yX8_heightFor w_X8_heightFor cX8_heightFor 6 (Option.some Jvm.ClassFile.FieldType.int) 4 := ⟨⟨rfl, tw_6_5, by decide⟩, tw_1_1, ⟨by decide, by decide⟩, by decide +kernel⟩
theorem c_X8_heightFor {l : Launch} {K : Ctx} (hl : l.stackTraces = false) {h : Hp} {a0 : Nat} {i1 : Int32} {i2 : Int32} {i3 : Int32} {i4 : Int32} {t : Rs Int32} (e : f_X8_heightFor h a0 i1 i2 i3 i4 = some t) : Ctr l K 14 yX8_heightFor w_X8_heightFor [.ref a0, .int i1, .int i2, .int i3, .int i4] h (tgI t) :=
  Ctr.of hl mf_X8_heightFor false (fun q => nomatch q) rfl (leb rfl) (p_X8_heightFor hl e)
/-! ## TableColumnBalancerLaw.heightFor -/
abbrev mM_L_heightFor : Mi := (15, yL_heightFor.cls, cL_heightFor, 7, (Option.some Jvm.ClassFile.FieldType.int), [((0 : Nat), (14 : Nat), (17 : Nat), (13 : Nat))], false)
noncomputable def f_L_heightFor (h : Hp) (a0 : Nat) (i1 : Int32) (i2 : Int32) (i3 : Int32) (i4 : Int32) (a5 : Nat) : Option (Rs Int32) :=
  chk (okr h a0 8) <|
  bndX (f_X8_heightFor h a0 i1 i2 i3 i4) (fun h2 r3 => (
    chk (okr h2 a5 21) <|
    chk (vp_in (iN 0) (qW h2 a5)) <|
    lt (putL h2 a5 (Int32.toNatClampNeg (iN 0)) (Int32.toInt64 r3)) fun h6 =>
    some (h6, .inr (iN 0))
  )) fun h2 k =>
  if k = 1 then (
    some (h2, .inr (iN 1))
  ) else
  none
theorem p_L_heightFor {l : Launch} {K : Ctx} (hl : l.stackTraces = false) {h : Hp} {a0 : Nat} {i1 : Int32} {i2 : Int32} {i3 : Int32} {i4 : Int32} {a5 : Nat} {t : Rs Int32} (e : f_L_heightFor h a0 i1 i2 i3 i4 a5 = some t) : X l K mM_L_heightFor (tgI t) 0 [(0, .ref a0), (1, .int i1), (2, .int i2), (3, .int i3), (4, .int i4), (5, .ref a5)] [] h := by
  unfold f_L_heightFor at e
  refine x_aload (pc := 0) 5 dL_heightFor_0 rfl ?_
  refine x_iconst (pc := 2) dL_heightFor_2 ?_
  refine x_aload_n (pc := 3) 0 dL_heightFor_3 rfl ?_
  refine x_iload_n (pc := 4) 1 dL_heightFor_4 rfl ?_
  refine x_iload_n (pc := 5) 2 dL_heightFor_5 rfl ?_
  refine x_iload_n (pc := 6) 3 dL_heightFor_6 rfl ?_
  refine x_iload (pc := 7) 4 dL_heightFor_7 rfl ?_
  obtain ⟨q1, e⟩ := chk_some e
  rcases bndX_some e with ⟨h2, k, ec, e⟩ | ⟨h2, r3, ec, e⟩
  · rcases ite_some e with ⟨q7, e⟩ | ⟨q7, e⟩
    · subst q7
      refine y_callV_x (pc := 9) (c_X8_heightFor hl ec) q1 mf_X8_heightFor tw_6_3 tw_6_4 lf_L_106 rfl rfl dL_heightFor_9 (by decide) rfl rfl (leb rfl) (xx_catchA (pc := 9) [] [] (0, 14, 17, 13) rfl (by decide) (fun _ hz => absurd hz List.not_mem_nil) (by decide) (by decide) tw_3_76 tw_3_88 dL_heightFor_17 (by decide) rfl ?_)
      refine x_iconst (pc := 19) dL_heightFor_19 ?_
      cases Option.some.inj e
      exact x_iret (pc := 20) rfl dL_heightFor_20
    cases e
  refine y_callV_i (pc := 9) (c_X8_heightFor hl ec) q1 mf_X8_heightFor tw_6_3 tw_6_4 lf_L_106 rfl rfl dL_heightFor_9 (by decide) rfl rfl (leb rfl) ?_
  refine x_i2l (pc := 12) dL_heightFor_12 ?_
  obtain ⟨q4, e⟩ := chk_some e
  obtain ⟨q5, e⟩ := chk_some e
  replace e := lt_go e
  refine x_last (pc := 13) dL_heightFor_13 q4 q5 ?_
  refine x_goto (pc := 14) (t := 21) dL_heightFor_14 (by decide) ?_
  refine x_iconst (pc := 21) dL_heightFor_21 ?_
  cases Option.some.inj e
  exact x_iret (pc := 22) rfl dL_heightFor_22
abbrev w_L_heightFor : Cond := (Cond.codeWith yL_heightFor cL_heightFor 7 (Option.some Jvm.ClassFile.FieldType.int) [((0 : Nat), (14 : Nat), (17 : Nat), (13 : Nat))])
theorem mf_L_heightFor : MFX yL_heightFor w_L_heightFor cL_heightFor 7 (Option.some Jvm.ClassFile.FieldType.int) 6 [((0 : Nat), (14 : Nat), (17 : Nat), (13 : Nat))] := ⟨⟨rfl, tw_6_1, by decide⟩, tw_1_0, ⟨by decide, by decide⟩, by decide +kernel⟩
theorem c_L_heightFor {l : Launch} {K : Ctx} (hl : l.stackTraces = false) {h : Hp} {a0 : Nat} {i1 : Int32} {i2 : Int32} {i3 : Int32} {i4 : Int32} {a5 : Nat} {t : Rs Int32} (e : f_L_heightFor h a0 i1 i2 i3 i4 a5 = some t) : Ctr l K 15 yL_heightFor w_L_heightFor [.ref a0, .int i1, .int i2, .int i3, .int i4, .ref a5] h (tgI t) :=
  Ctr.ofX hl mf_L_heightFor rfl (leb rfl) (p_L_heightFor hl e)
/-! ## TableColumnBalancerModel.heightFor -/
abbrev mM_X9_heightFor : Mi := (15, yX9_heightFor.cls, cX9_heightFor, 6, (Option.some Jvm.ClassFile.FieldType.int), [], false)
noncomputable def f_X9_heightFor_B41 (k41 : Hp → Nat → Int32 → Option (Rs Int32)) (h : Hp) (a0 : Nat) (i5 : Int32) : Option (Rs Int32) :=
  chk (okr h a0 9) <|
  chk (okr h (qR h a0 1) 20) <|
  chk (vp_in (iN 0) (qW h (qR h a0 1))) <|
  if (qI h (qR h a0 1) (Int32.toNatClampNeg (iN 0))) ≤ i5 then (
    chk (okr h (qR h a0 33) 20) <|
    bnd (f_X9_tableHigh h a0 (qR h a0 33)) fun h6 r7 =>
    some (h6, .inr r7)
  ) else (
    chk (okr h (qR h a0 33) 20) <|
    chk (vp_in i5 (qW h (qR h a0 33))) <|
    chk (okr h (qR h a0 21) 20) <|
    chk (vp_in i5 (qW h (qR h a0 21))) <|
    bnd (f_X9_in h (qI h (qR h a0 33) (Int32.toNatClampNeg i5)) (qI h (qR h a0 21) (Int32.toNatClampNeg i5)) (iN 36)) fun h12 r13 =>
    if r13 = 0 then (
      chk (okr h12 a0 9) <|
      bnd (f_X9_fails h12 a0 (iN 1)) fun h16 r17 =>
      some (h16, .inr r17)
    ) else (
      k41 h12 a0 (i5 + iN 1)
    )
  )
theorem p_X9_heightFor_B41 {l : Launch} {K : Ctx} (hl : l.stackTraces = false) {k41 : Hp → Nat → Int32 → Option (Rs Int32)} (hk41 : ∀ (h : Hp) (a0 : Nat) (i5 : Int32) (t : Rs Int32), k41 h a0 i5 = some t → X l K mM_X9_heightFor (tgI t) 41 [(0, .ref a0), (5, .int i5)] [] h) {h : Hp} {a0 : Nat} {i5 : Int32} {t : Rs Int32} (e : f_X9_heightFor_B41 k41 h a0 i5 = some t) : X l K mM_X9_heightFor (tgI t) 41 [(0, .ref a0), (5, .int i5)] [] h := by
  unfold f_X9_heightFor_B41 at e
  refine x_iload (pc := 41) 1 dX9_heightFor_41 rfl ?_
  refine x_aload_n (pc := 43) 0 dX9_heightFor_43 rfl ?_
  obtain ⟨q1, e⟩ := chk_some e
  obtain ⟨q2, e⟩ := chk_some e
  refine x_getR (pc := 44) gf_X9_9 rfl dX9_heightFor_44 q1 q2.1 ?_
  refine x_iconst (pc := 47) dX9_heightFor_47 ?_
  obtain ⟨q3, e⟩ := chk_some e
  refine x_iald (pc := 48) dX9_heightFor_48 q2 q3 ?_
  rcases ite_some e with ⟨q4, e⟩ | ⟨q4, e⟩
  · refine x_icmp_ge_t (pc := 49) (t := 86) dX9_heightFor_49 (by decide) q4 ?_
    refine x_aload_n (pc := 86) 0 dX9_heightFor_86 rfl ?_
    refine x_aload_n (pc := 87) 0 dX9_heightFor_87 rfl ?_
    obtain ⟨q5, e⟩ := chk_some e
    refine x_getR (pc := 88) gf_X9_81 rfl dX9_heightFor_88 q1 q5.1 ?_
    rcases bnd_some e with ⟨h6, r7, ec, rfl⟩ | ⟨h6, r7, ec, e⟩
    · exact y_callV_x (pc := 91) (c_X9_tableHigh hl ec) q1 mf_X9_tableHigh tw_8_130 ts_9_15 lf_X9_348 rfl rfl dX9_heightFor_91 (by decide) rfl rfl (leb rfl) (xx_out0 rfl)
    refine y_callV_i (pc := 91) (c_X9_tableHigh hl ec) q1 mf_X9_tableHigh tw_8_130 ts_9_15 lf_X9_348 rfl rfl dX9_heightFor_91 (by decide) rfl rfl (leb rfl) ?_
    cases Option.some.inj e
    exact x_iret (pc := 94) rfl dX9_heightFor_94
  · refine x_icmp_ge_f (pc := 49) (t := 86) dX9_heightFor_49 (by decide) q4 ?_
    refine x_aload_n (pc := 52) 0 dX9_heightFor_52 rfl ?_
    obtain ⟨q8, e⟩ := chk_some e
    refine x_getR (pc := 53) gf_X9_81 rfl dX9_heightFor_53 q1 q8.1 ?_
    refine x_iload (pc := 56) 1 dX9_heightFor_56 rfl ?_
    obtain ⟨q9, e⟩ := chk_some e
    refine x_iald (pc := 58) dX9_heightFor_58 q8 q9 ?_
    refine x_aload_n (pc := 59) 0 dX9_heightFor_59 rfl ?_
    obtain ⟨q10, e⟩ := chk_some e
    refine x_getR (pc := 60) gf_X9_48 rfl dX9_heightFor_60 q1 q10.1 ?_
    refine x_iload (pc := 63) 1 dX9_heightFor_63 rfl ?_
    obtain ⟨q11, e⟩ := chk_some e
    refine x_iald (pc := 65) dX9_heightFor_65 q10 q11 ?_
    refine x_bipush (pc := 66) (v := iN 36) dX9_heightFor_66 rfl ?_
    rcases bnd_some e with ⟨h12, r13, ec, rfl⟩ | ⟨h12, r13, ec, e⟩
    · exact y_callS_x (pc := 68) (c_X9_in hl ec) mf_X9_in tw_7_20 lf_X9_87 dX9_heightFor_68 (by decide) rfl rfl (leb rfl) (xx_out0 rfl)
    refine y_callS_i (pc := 68) (c_X9_in hl ec) mf_X9_in tw_7_20 lf_X9_87 dX9_heightFor_68 (by decide) rfl rfl (leb rfl) ?_
    rcases ite_some e with ⟨q14, e⟩ | ⟨q14, e⟩
    · refine x_if_ne_f (pc := 71) (t := 80) dX9_heightFor_71 (by decide) q14 ?_
      refine x_aload_n (pc := 74) 0 dX9_heightFor_74 rfl ?_
      refine x_iconst (pc := 75) dX9_heightFor_75 ?_
      obtain ⟨q15, e⟩ := chk_some e
      rcases bnd_some e with ⟨h16, r17, ec, rfl⟩ | ⟨h16, r17, ec, e⟩
      · exact y_callV_x (pc := 76) (c_X9_fails hl ec) q15 mf_X9_fails tw_7_24 ts_6_7 lf_X9_95 rfl rfl dX9_heightFor_76 (by decide) rfl rfl (leb rfl) (xx_out0 rfl)
      refine y_callV_i (pc := 76) (c_X9_fails hl ec) q15 mf_X9_fails tw_7_24 ts_6_7 lf_X9_95 rfl rfl dX9_heightFor_76 (by decide) rfl rfl (leb rfl) ?_
      cases Option.some.inj e
      exact x_iret (pc := 79) rfl dX9_heightFor_79
    · refine x_if_ne_t (pc := 71) (t := 80) dX9_heightFor_71 (by decide) q14 ?_
      refine x_iinc (pc := 80) 1 dX9_heightFor_80 rfl (by decide) rfl ?_
      refine x_goto (pc := 83) (t := 41) dX9_heightFor_83 (by decide) ?_
      exact x_sub1 (hk41 _ _ _ _ e) [1, 0] rfl
noncomputable def f_X9_heightFor_L41 (n : Nat) : Hp → Nat → Int32 → Option (Rs Int32) := Nat.rec (motive := fun _ => Hp → Nat → Int32 → Option (Rs Int32)) (fun _ _ _ => none) (fun _ r => f_X9_heightFor_B41 r) n
theorem p_X9_heightFor_L41 {l : Launch} {K : Ctx} (hl : l.stackTraces = false) : ∀ (n : Nat) (h : Hp) (a0 : Nat) (i5 : Int32) (t : Rs Int32) (e : f_X9_heightFor_L41 n h a0 i5 = some t), X l K mM_X9_heightFor (tgI t) 41 [(0, .ref a0), (5, .int i5)] [] h := by
  intro n
  induction n with
  | zero => exact fun _ _ _ _ e => nomatch (show (none : Option (Rs Int32)) = some _ from e)
  | succ n ih => exact fun h a0 i5 t e => p_X9_heightFor_B41 hl (fun h a0 i5 t e => ih h a0 i5 t e) e
noncomputable def f_X9_heightFor (h : Hp) (a0 : Nat) (i1 : Int32) (i2 : Int32) (i3 : Int32) (i4 : Int32) : Option (Rs Int32) :=
  chk (okr h a0 9) <|
  lt (putI h a0 0 (iN 0)) fun h2 =>
  chk (okr h2 (qR h2 a0 33) 20) <|
  chk (vp_in (iN 0) (qW h2 (qR h2 a0 33))) <|
  lt (putI h2 (qR h2 a0 33) (Int32.toNatClampNeg (iN 0)) i1) fun h5 =>
  chk (okr h5 (qR h5 a0 33) 20) <|
  chk (vp_in (iN 1) (qW h5 (qR h5 a0 33))) <|
  lt (putI h5 (qR h5 a0 33) (Int32.toNatClampNeg (iN 1)) i2) fun h8 =>
  chk (okr h8 (qR h8 a0 33) 20) <|
  chk (vp_in (iN 2) (qW h8 (qR h8 a0 33))) <|
  lt (putI h8 (qR h8 a0 33) (Int32.toNatClampNeg (iN 2)) i3) fun h11 =>
  chk (okr h11 (qR h11 a0 33) 20) <|
  chk (vp_in (iN 3) (qW h11 (qR h11 a0 33))) <|
  lt (putI h11 (qR h11 a0 33) (Int32.toNatClampNeg (iN 3)) i4) fun h14 =>
  bnd (f_X9_measuresColumns h14 a0) fun h15 _ =>
  f_X9_heightFor_L41 2000 h15 a0 (iN 0)
theorem p_X9_heightFor {l : Launch} {K : Ctx} (hl : l.stackTraces = false) {h : Hp} {a0 : Nat} {i1 : Int32} {i2 : Int32} {i3 : Int32} {i4 : Int32} {t : Rs Int32} (e : f_X9_heightFor h a0 i1 i2 i3 i4 = some t) : X l K mM_X9_heightFor (tgI t) 0 [(0, .ref a0), (1, .int i1), (2, .int i2), (3, .int i3), (4, .int i4)] [] h := by
  unfold f_X9_heightFor at e
  refine x_aload_n (pc := 0) 0 dX9_heightFor_0 rfl ?_
  refine x_iconst (pc := 1) dX9_heightFor_1 ?_
  obtain ⟨q1, e⟩ := chk_some e
  replace e := lt_go e
  refine x_putI (pc := 2) pf_X9_84 rfl rfl rfl dX9_heightFor_2 q1 ?_
  refine x_aload_n (pc := 5) 0 dX9_heightFor_5 rfl ?_
  obtain ⟨q3, e⟩ := chk_some e
  refine x_getR (pc := 6) gf_X9_81 rfl dX9_heightFor_6 (okr_pI q1) q3.1 ?_
  refine x_iconst (pc := 9) dX9_heightFor_9 ?_
  refine x_iload_n (pc := 10) 1 dX9_heightFor_10 rfl ?_
  obtain ⟨q4, e⟩ := chk_some e
  replace e := lt_go e
  refine x_iast (pc := 11) dX9_heightFor_11 q3 q4 ?_
  refine x_aload_n (pc := 12) 0 dX9_heightFor_12 rfl ?_
  obtain ⟨q6, e⟩ := chk_some e
  refine x_getR (pc := 13) gf_X9_81 rfl dX9_heightFor_13 (okr_pI (okr_pI q1)) q6.1 ?_
  refine x_iconst (pc := 16) dX9_heightFor_16 ?_
  refine x_iload_n (pc := 17) 2 dX9_heightFor_17 rfl ?_
  obtain ⟨q7, e⟩ := chk_some e
  replace e := lt_go e
  refine x_iast (pc := 18) dX9_heightFor_18 q6 q7 ?_
  refine x_aload_n (pc := 19) 0 dX9_heightFor_19 rfl ?_
  obtain ⟨q9, e⟩ := chk_some e
  refine x_getR (pc := 20) gf_X9_81 rfl dX9_heightFor_20 (okr_pI (okr_pI (okr_pI q1))) q9.1 ?_
  refine x_iconst (pc := 23) dX9_heightFor_23 ?_
  refine x_iload_n (pc := 24) 3 dX9_heightFor_24 rfl ?_
  obtain ⟨q10, e⟩ := chk_some e
  replace e := lt_go e
  refine x_iast (pc := 25) dX9_heightFor_25 q9 q10 ?_
  refine x_aload_n (pc := 26) 0 dX9_heightFor_26 rfl ?_
  obtain ⟨q12, e⟩ := chk_some e
  refine x_getR (pc := 27) gf_X9_81 rfl dX9_heightFor_27 (okr_pI (okr_pI (okr_pI (okr_pI q1)))) q12.1 ?_
  refine x_iconst (pc := 30) dX9_heightFor_30 ?_
  refine x_iload (pc := 31) 4 dX9_heightFor_31 rfl ?_
  obtain ⟨q13, e⟩ := chk_some e
  replace e := lt_go e
  refine x_iast (pc := 33) dX9_heightFor_33 q12 q13 ?_
  refine x_aload_n (pc := 34) 0 dX9_heightFor_34 rfl ?_
  rcases bnd_some e with ⟨h15, r16, ec, rfl⟩ | ⟨h15, r16, ec, e⟩
  · exact y_callV_x (pc := 35) (c_X9_measuresColumns hl ec) (okr_pI (okr_pI (okr_pI (okr_pI (okr_pI q1))))) mf_X9_measuresColumns tw_8_62 ts_9_2 lf_X9_320 rfl rfl dX9_heightFor_35 (by decide) rfl rfl (leb rfl) (xx_out0 rfl)
  refine y_callV_v (pc := 35) (c_X9_measuresColumns hl ec) (okr_pI (okr_pI (okr_pI (okr_pI (okr_pI q1))))) mf_X9_measuresColumns tw_8_62 ts_9_2 lf_X9_320 rfl rfl dX9_heightFor_35 (by decide) rfl rfl (leb rfl) ?_
  refine x_iconst (pc := 38) dX9_heightFor_38 ?_
  refine x_istore (pc := 39) dX9_heightFor_39 (by decide) rfl ?_
  exact x_sub1 (p_X9_heightFor_L41 hl 2000 _ _ _ _ e) [1, 0] rfl
abbrev w_X9_heightFor : Cond := (Cond.code yX9_heightFor cX9_heightFor 6 (Option.some Jvm.ClassFile.FieldType.int))
theorem mf_X9_heightFor : MF yX9_heightFor w_X9_heightFor cX9_heightFor 6 (Option.some Jvm.ClassFile.FieldType.int) 4 := ⟨⟨rfl, tw_8_179, by decide⟩, tw_1_11, ⟨by decide, by decide⟩, by decide +kernel⟩
theorem c_X9_heightFor {l : Launch} {K : Ctx} (hl : l.stackTraces = false) {h : Hp} {a0 : Nat} {i1 : Int32} {i2 : Int32} {i3 : Int32} {i4 : Int32} {t : Rs Int32} (e : f_X9_heightFor h a0 i1 i2 i3 i4 = some t) : Ctr l K 15 yX9_heightFor w_X9_heightFor [.ref a0, .int i1, .int i2, .int i3, .int i4] h (tgI t) :=
  Ctr.of hl mf_X9_heightFor false (fun q => nomatch q) rfl (leb rfl) (p_X9_heightFor hl e)
/-! ## TableColumnBalancer.heightAt -/
abbrev mM_X8_heightAt : Mi := (21, yX8_heightAt.cls, cX8_heightAt, 3, (Option.some Jvm.ClassFile.FieldType.int), [], false)
noncomputable def f_X8_heightAt_L29 (h : Hp) (i2 : Int32) (s0 : Int32) : Option (Rs Int32) :=
  bnd (f_X8_requireElement h s0) fun h1 _ =>
  some (h1, .inr i2)
theorem p_X8_heightAt_L29 {l : Launch} {K : Ctx} (hl : l.stackTraces = false) {h : Hp} {i2 : Int32} {s0 : Int32} {t : Rs Int32} (e : f_X8_heightAt_L29 h i2 s0 = some t) : X l K mM_X8_heightAt (tgI t) 29 [(2, .int i2)] [.int s0] h := by
  unfold f_X8_heightAt_L29 at e
  rcases bnd_some e with ⟨h1, r2, ec, rfl⟩ | ⟨h1, r2, ec, e⟩
  · exact y_callS_x (pc := 29) (c_X8_requireElement hl ec) mf_X8_requireElement tw_5_122 lf_X8_233 dX8_heightAt_29 (by decide) rfl rfl (leb rfl) (xx_out0 rfl)
  refine y_callS_v (pc := 29) (c_X8_requireElement hl ec) mf_X8_requireElement tw_5_122 lf_X8_233 dX8_heightAt_29 (by decide) rfl rfl (leb rfl) ?_
  refine x_iload_n (pc := 32) 0 dX8_heightAt_32 rfl ?_
  cases Option.some.inj e
  exact x_iret (pc := 33) rfl dX8_heightAt_33
noncomputable def f_X8_heightAt (h : Hp) (a0 : Nat) (i1 : Int32) : Option (Rs Int32) :=
  bnd (f_X8_isWithin h i1 (iN 8) (iN 36)) fun h1 r2 =>
  bnd (f_X8_requireArgument h1 r2) fun h3 _ =>
  chk (okr h3 a0 8) <|
  chk (okr h3 (qR h3 a0 2) 6) <|
  bnd (f_X6_leastHeight h3 (qR h3 a0 2) i1) fun h7 r8 =>
  if r8 < 0 then (
    f_X8_heightAt_L29 h7 r8 (iN 0)
  ) else (
    f_X8_heightAt_L29 h7 r8 (iN 1)
  )
theorem p_X8_heightAt {l : Launch} {K : Ctx} (hl : l.stackTraces = false) {h : Hp} {a0 : Nat} {i1 : Int32} {t : Rs Int32} (e : f_X8_heightAt h a0 i1 = some t) : X l K mM_X8_heightAt (tgI t) 0 [(0, .ref a0), (1, .int i1)] [] h := by
  unfold f_X8_heightAt at e
  refine x_iload_n (pc := 0) 1 dX8_heightAt_0 rfl ?_
  refine x_bipush (pc := 1) (v := iN 8) dX8_heightAt_1 rfl ?_
  refine x_bipush (pc := 3) (v := iN 36) dX8_heightAt_3 rfl ?_
  rcases bnd_some e with ⟨h1, r2, ec, rfl⟩ | ⟨h1, r2, ec, e⟩
  · exact y_callS_x (pc := 5) (c_X8_isWithin hl ec) mf_X8_isWithin tw_3_26 lf_X8_72 dX8_heightAt_5 (by decide) rfl rfl (leb rfl) (xx_out0 rfl)
  refine y_callS_i (pc := 5) (c_X8_isWithin hl ec) mf_X8_isWithin tw_3_26 lf_X8_72 dX8_heightAt_5 (by decide) rfl rfl (leb rfl) ?_
  rcases bnd_some e with ⟨h3, r4, ec, rfl⟩ | ⟨h3, r4, ec, e⟩
  · exact y_callS_x (pc := 8) (c_X8_requireArgument hl ec) mf_X8_requireArgument tw_3_84 lf_X8_76 dX8_heightAt_8 (by decide) rfl rfl (leb rfl) (xx_out0 rfl)
  refine y_callS_v (pc := 8) (c_X8_requireArgument hl ec) mf_X8_requireArgument tw_3_84 lf_X8_76 dX8_heightAt_8 (by decide) rfl rfl (leb rfl) ?_
  refine x_aload_n (pc := 11) 0 dX8_heightAt_11 rfl ?_
  obtain ⟨q5, e⟩ := chk_some e
  obtain ⟨q6, e⟩ := chk_some e
  refine x_getR (pc := 12) gf_X8_30 rfl dX8_heightAt_12 q5 q6.1 ?_
  refine x_iload_n (pc := 15) 1 dX8_heightAt_15 rfl ?_
  rcases bnd_some e with ⟨h7, r8, ec, rfl⟩ | ⟨h7, r8, ec, e⟩
  · exact y_callV_x (pc := 16) (c_X6_leastHeight hl ec) q6 mf_X6_leastHeight tw_3_9 ts_2_6 lf_X8_270 rfl rfl dX8_heightAt_16 (by decide) rfl rfl (leb rfl) (xx_out0 rfl)
  refine y_callV_i (pc := 16) (c_X6_leastHeight hl ec) q6 mf_X6_leastHeight tw_3_9 ts_2_6 lf_X8_270 rfl rfl dX8_heightAt_16 (by decide) rfl rfl (leb rfl) ?_
  refine x_istore_n (pc := 19) dX8_heightAt_19 (by decide) rfl ?_
  refine x_iload_n (pc := 20) 0 dX8_heightAt_20 rfl ?_
  rcases ite_some e with ⟨q9, e⟩ | ⟨q9, e⟩
  · refine x_if_lt_t (pc := 21) (t := 28) dX8_heightAt_21 (by decide) q9 ?_
    refine x_iconst (pc := 28) dX8_heightAt_28 ?_
    exact x_sub1 (p_X8_heightAt_L29 hl e) [0] rfl
  · refine x_if_lt_f (pc := 21) (t := 28) dX8_heightAt_21 (by decide) q9 ?_
    refine x_iconst (pc := 24) dX8_heightAt_24 ?_
    refine x_goto (pc := 25) (t := 29) dX8_heightAt_25 (by decide) ?_
    exact x_sub1 (p_X8_heightAt_L29 hl e) [0] rfl
abbrev w_X8_heightAt : Cond := (Cond.code yX8_heightAt cX8_heightAt 3 (Option.some Jvm.ClassFile.FieldType.int))
theorem mf_X8_heightAt : MF yX8_heightAt w_X8_heightAt cX8_heightAt 3 (Option.some Jvm.ClassFile.FieldType.int) 1 := ⟨⟨rfl, tw_6_12, by decide⟩, tw_1_1, ⟨by decide, by decide⟩, by decide +kernel⟩
theorem c_X8_heightAt {l : Launch} {K : Ctx} (hl : l.stackTraces = false) {h : Hp} {a0 : Nat} {i1 : Int32} {t : Rs Int32} (e : f_X8_heightAt h a0 i1 = some t) : Ctr l K 21 yX8_heightAt w_X8_heightAt [.ref a0, .int i1] h (tgI t) :=
  Ctr.of hl mf_X8_heightAt false (fun q => nomatch q) rfl (leb rfl) (p_X8_heightAt hl e)
/-! ## TableColumnBalancerLaw.heightAt -/
abbrev mM_L_heightAt : Mi := (22, yL_heightAt.cls, cL_heightAt, 4, (Option.some Jvm.ClassFile.FieldType.int), [((0 : Nat), (9 : Nat), (12 : Nat), (13 : Nat)), ((0 : Nat), (9 : Nat), (15 : Nat), (73 : Nat))], false)
noncomputable def f_L_heightAt (h : Hp) (a0 : Nat) (i1 : Int32) (a2 : Nat) : Option (Rs Int32) :=
  chk (okr h a0 8) <|
  bndX (f_X8_heightAt h a0 i1) (fun h2 r3 => (
    chk (okr h2 a2 21) <|
    chk (vp_in (iN 0) (qW h2 a2)) <|
    lt (putL h2 a2 (Int32.toNatClampNeg (iN 0)) (Int32.toInt64 r3)) fun h6 =>
    some (h6, .inr (iN 0))
  )) fun h2 k =>
  if k = 1 then (
    some (h2, .inr (iN 1))
  ) else
  if k = 5 then (
    some (h2, .inr (iN 2))
  ) else
  none
theorem p_L_heightAt {l : Launch} {K : Ctx} (hl : l.stackTraces = false) {h : Hp} {a0 : Nat} {i1 : Int32} {a2 : Nat} {t : Rs Int32} (e : f_L_heightAt h a0 i1 a2 = some t) : X l K mM_L_heightAt (tgI t) 0 [(0, .ref a0), (1, .int i1), (2, .ref a2)] [] h := by
  unfold f_L_heightAt at e
  refine x_aload_n (pc := 0) 2 dL_heightAt_0 rfl ?_
  refine x_iconst (pc := 1) dL_heightAt_1 ?_
  refine x_aload_n (pc := 2) 0 dL_heightAt_2 rfl ?_
  refine x_iload_n (pc := 3) 1 dL_heightAt_3 rfl ?_
  obtain ⟨q1, e⟩ := chk_some e
  rcases bndX_some e with ⟨h2, k, ec, e⟩ | ⟨h2, r3, ec, e⟩
  · rcases ite_some e with ⟨q7, e⟩ | ⟨q7, e⟩
    · subst q7
      refine y_callV_x (pc := 4) (c_X8_heightAt hl ec) q1 mf_X8_heightAt tw_6_10 tw_6_11 lf_L_109 rfl rfl dL_heightAt_4 (by decide) rfl rfl (leb rfl) (xx_catch (pc := 4) [] [(0, 9, 15, 73)] (0, 9, 12, 13) rfl (by decide) (fun _ hz => absurd hz List.not_mem_nil) (by decide) (by decide) tw_3_76 tw_3_88 dL_heightAt_12 (by decide) rfl ?_)
      refine x_iconst (pc := 13) dL_heightAt_13 ?_
      cases Option.some.inj e
      exact x_iret (pc := 14) rfl dL_heightAt_14
    rcases ite_some e with ⟨q8, e⟩ | ⟨q8, e⟩
    · subst q8
      refine y_callV_x (pc := 4) (c_X8_heightAt hl ec) q1 mf_X8_heightAt tw_6_10 tw_6_11 lf_L_109 rfl rfl dL_heightAt_4 (by decide) rfl rfl (leb rfl) (xx_catch (pc := 4) [(0, 9, 12, 13)] [] (0, 9, 15, 73) rfl (by decide) (List.forall_mem_cons.mpr ⟨⟨by decide, 1, by decide, by decide, tw_3_76⟩, fun _ hz => absurd hz List.not_mem_nil⟩) (by decide) (by decide) tw_5_116 tw_5_126 dL_heightAt_15 (by decide) rfl ?_)
      refine x_iconst (pc := 16) dL_heightAt_16 ?_
      cases Option.some.inj e
      exact x_iret (pc := 17) rfl dL_heightAt_17
    cases e
  refine y_callV_i (pc := 4) (c_X8_heightAt hl ec) q1 mf_X8_heightAt tw_6_10 tw_6_11 lf_L_109 rfl rfl dL_heightAt_4 (by decide) rfl rfl (leb rfl) ?_
  refine x_i2l (pc := 7) dL_heightAt_7 ?_
  obtain ⟨q4, e⟩ := chk_some e
  obtain ⟨q5, e⟩ := chk_some e
  replace e := lt_go e
  refine x_last (pc := 8) dL_heightAt_8 q4 q5 ?_
  refine x_goto (pc := 9) (t := 18) dL_heightAt_9 (by decide) ?_
  refine x_iconst (pc := 18) dL_heightAt_18 ?_
  cases Option.some.inj e
  exact x_iret (pc := 19) rfl dL_heightAt_19
abbrev w_L_heightAt : Cond := (Cond.codeWith yL_heightAt cL_heightAt 4 (Option.some Jvm.ClassFile.FieldType.int) [((0 : Nat), (9 : Nat), (12 : Nat), (13 : Nat)), ((0 : Nat), (9 : Nat), (15 : Nat), (73 : Nat))])
theorem mf_L_heightAt : MFX yL_heightAt w_L_heightAt cL_heightAt 4 (Option.some Jvm.ClassFile.FieldType.int) 3 [((0 : Nat), (9 : Nat), (12 : Nat), (13 : Nat)), ((0 : Nat), (9 : Nat), (15 : Nat), (73 : Nat))] := ⟨⟨rfl, tw_6_8, by decide⟩, tw_1_0, ⟨by decide, by decide⟩, by decide +kernel⟩
theorem c_L_heightAt {l : Launch} {K : Ctx} (hl : l.stackTraces = false) {h : Hp} {a0 : Nat} {i1 : Int32} {a2 : Nat} {t : Rs Int32} (e : f_L_heightAt h a0 i1 a2 = some t) : Ctr l K 22 yL_heightAt w_L_heightAt [.ref a0, .int i1, .ref a2] h (tgI t) :=
  Ctr.ofX hl mf_L_heightAt rfl (leb rfl) (p_L_heightAt hl e)
/-! ## TableColumnBalancerModel.highAt -/
abbrev mM_X9_highAt : Mi := (21, yX9_highAt.cls, cX9_highAt, 4, (Option.some Jvm.ClassFile.FieldType.int), [], false)
noncomputable def f_X9_highAt (h : Hp) (a0 : Nat) (i1 : Int32) : Option (Rs Int32) :=
  chk (okr h a0 9) <|
  chk (okr h (qR h a0 1) 20) <|
  chk (vp_in (iN 1) (qW h (qR h a0 1))) <|
  lt (putI h (qR h a0 1) (Int32.toNatClampNeg (iN 1)) i1) fun h4 =>
  bnd (f_X9_finds h4 a0) fun h5 r6 =>
  chk (okr h5 a0 9) <|
  chk (okr h5 (qR h5 a0 1) 20) <|
  chk (vp_in (iN 1) (qW h5 (qR h5 a0 1))) <|
  lt (putI h5 (qR h5 a0 1) (Int32.toNatClampNeg (iN 1)) (qI h (qR h a0 1) (Int32.toNatClampNeg (iN 1)))) fun h10 =>
  if r6 = 0 then (
    some (h10, .inr (iN (-1)))
  ) else (
    some (h10, .inr (qI h10 a0 32))
  )
theorem p_X9_highAt {l : Launch} {K : Ctx} (hl : l.stackTraces = false) {h : Hp} {a0 : Nat} {i1 : Int32} {t : Rs Int32} (e : f_X9_highAt h a0 i1 = some t) : X l K mM_X9_highAt (tgI t) 0 [(0, .ref a0), (1, .int i1)] [] h := by
  unfold f_X9_highAt at e
  refine x_aload_n (pc := 0) 0 dX9_highAt_0 rfl ?_
  obtain ⟨q1, e⟩ := chk_some e
  obtain ⟨q2, e⟩ := chk_some e
  refine x_getR (pc := 1) gf_X9_9 rfl dX9_highAt_1 q1 q2.1 ?_
  refine x_iconst (pc := 4) dX9_highAt_4 ?_
  obtain ⟨q3, e⟩ := chk_some e
  refine x_iald (pc := 5) dX9_highAt_5 q2 q3 ?_
  refine x_istore_n (pc := 6) dX9_highAt_6 (by decide) rfl ?_
  refine x_aload_n (pc := 7) 1 dX9_highAt_7 rfl ?_
  refine x_getR (pc := 8) gf_X9_9 rfl dX9_highAt_8 q1 q2.1 ?_
  refine x_iconst (pc := 11) dX9_highAt_11 ?_
  refine x_iload_n (pc := 12) 2 dX9_highAt_12 rfl ?_
  replace e := lt_go e
  refine x_iast (pc := 13) dX9_highAt_13 q2 q3 ?_
  refine x_aload_n (pc := 14) 1 dX9_highAt_14 rfl ?_
  rcases bnd_some e with ⟨h5, r6, ec, rfl⟩ | ⟨h5, r6, ec, e⟩
  · exact y_callV_x (pc := 15) (c_X9_finds hl ec) (okr_pI q1) mf_X9_finds tw_8_154 ts_10_4 lf_X9_364 rfl rfl dX9_highAt_15 (by decide) rfl rfl (leb rfl) (xx_out0 rfl)
  refine y_callV_i (pc := 15) (c_X9_finds hl ec) (okr_pI q1) mf_X9_finds tw_8_154 ts_10_4 lf_X9_364 rfl rfl dX9_highAt_15 (by decide) rfl rfl (leb rfl) ?_
  refine x_istore_n (pc := 18) dX9_highAt_18 (by decide) rfl ?_
  refine x_aload_n (pc := 19) 2 dX9_highAt_19 rfl ?_
  obtain ⟨q7, e⟩ := chk_some e
  obtain ⟨q8, e⟩ := chk_some e
  refine x_getR (pc := 20) gf_X9_9 rfl dX9_highAt_20 q7 q8.1 ?_
  refine x_iconst (pc := 23) dX9_highAt_23 ?_
  refine x_iload_n (pc := 24) 1 dX9_highAt_24 rfl ?_
  obtain ⟨q9, e⟩ := chk_some e
  replace e := lt_go e
  refine x_iast (pc := 25) dX9_highAt_25 q8 q9 ?_
  refine x_iload_n (pc := 26) 0 dX9_highAt_26 rfl ?_
  rcases ite_some e with ⟨q11, e⟩ | ⟨q11, e⟩
  · refine x_if_eq_t (pc := 27) (t := 37) dX9_highAt_27 (by decide) q11 ?_
    refine x_iconst (pc := 37) dX9_highAt_37 ?_
    cases Option.some.inj e
    exact x_iret (pc := 38) rfl dX9_highAt_38
  · refine x_if_eq_f (pc := 27) (t := 37) dX9_highAt_27 (by decide) q11 ?_
    refine x_aload_n (pc := 30) 2 dX9_highAt_30 rfl ?_
    refine x_getI (pc := 31) gf_X9_355 rfl dX9_highAt_31 (okr_pI q7) ?_
    refine x_goto (pc := 34) (t := 38) dX9_highAt_34 (by decide) ?_
    cases Option.some.inj e
    exact x_iret (pc := 38) rfl dX9_highAt_38
abbrev w_X9_highAt : Cond := (Cond.code yX9_highAt cX9_highAt 4 (Option.some Jvm.ClassFile.FieldType.int))
theorem mf_X9_highAt : MF yX9_highAt w_X9_highAt cX9_highAt 4 (Option.some Jvm.ClassFile.FieldType.int) 1 := ⟨⟨rfl, tw_8_187, by decide⟩, tw_1_11, ⟨by decide, by decide⟩, by decide +kernel⟩
theorem c_X9_highAt {l : Launch} {K : Ctx} (hl : l.stackTraces = false) {h : Hp} {a0 : Nat} {i1 : Int32} {t : Rs Int32} (e : f_X9_highAt h a0 i1 = some t) : Ctr l K 21 yX9_highAt w_X9_highAt [.ref a0, .int i1] h (tgI t) :=
  Ctr.of hl mf_X9_highAt false (fun q => nomatch q) rfl (leb rfl) (p_X9_highAt hl e)
