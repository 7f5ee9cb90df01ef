/-! ===== the methods as functions, each with its proof: made by program (gen_fun.py) ===== -/
/-! ## TableColumnBalancerModel.makeClip -/
abbrev mM_X9_makeClip : Mi := (10, yX9_makeClip.cls, cX9_makeClip, 5, (Option.some Jvm.ClassFile.FieldType.int), [], false)
noncomputable def f_X9_makeClip_L36 (h : Hp) (a0 : Nat) : Option (Rs Int32) :=
  chk (okr h a0 9) <|
  bnd (f_X9_fails h a0 (iN 2)) fun h2 r3 =>
  some (h2, .inr r3)
theorem p_X9_makeClip_L36 {l : Launch} {K : Ctx} (hl : l.stackTraces = false) {h : Hp} {a0 : Nat} {t : Rs Int32} (e : f_X9_makeClip_L36 h a0 = some t) : X l K mM_X9_makeClip (tgI t) 36 [(0, .ref a0)] [] h := by
  unfold f_X9_makeClip_L36 at e
  refine x_aload_n (pc := 36) 0 dX9_makeClip_36 rfl ?_
  refine x_iconst (pc := 37) dX9_makeClip_37 ?_
  obtain ⟨q1, e⟩ := chk_some e
  rcases bnd_some e with ⟨h2, r3, ec, rfl⟩ | ⟨h2, r3, ec, e⟩
  · exact y_callV_x (pc := 38) (c_X9_fails hl ec) q1 mf_X9_fails tw_7_24 ts_6_7 lf_X9_95 rfl rfl dX9_makeClip_38 (by decide) rfl rfl (leb rfl) (xx_out0 rfl)
  refine y_callV_i (pc := 38) (c_X9_fails hl ec) q1 mf_X9_fails tw_7_24 ts_6_7 lf_X9_95 rfl rfl dX9_makeClip_38 (by decide) rfl rfl (leb rfl) ?_
  cases Option.some.inj e
  exact x_iret (pc := 41) rfl dX9_makeClip_41
noncomputable def f_X9_makeClip_B59 (k59 : Hp → Nat → Int32 → Int32 → Int32 → Option (Rs Int32)) (h : Hp) (a0 : Nat) (i1 : Int32) (i3 : Int32) (i4 : Int32) : Option (Rs Int32) :=
  if (iN 3) ≤ i4 then (
    some (h, .inr i3)
  ) else (
    chk (okr h a0 9) <|
    chk (okr h (qR h a0 11) 22) <|
    chk (vp_in (((iN 3) * i1) + i4) (qW h (qR h a0 11))) <|
    lt (putI h (qR h a0 11) (Int32.toNatClampNeg (((iN 3) * i1) + i4)) (iN 0)) fun h5 =>
    k59 h5 a0 i1 i3 (i4 + iN 1)
  )
theorem p_X9_makeClip_B59 {l : Launch} {K : Ctx} (hl : l.stackTraces = false) {k59 : Hp → Nat → Int32 → Int32 → Int32 → Option (Rs Int32)} (hk59 : ∀ (h : Hp) (a0 : Nat) (i1 : Int32) (i3 : Int32) (i4 : Int32) (t : Rs Int32), k59 h a0 i1 i3 i4 = some t → X l K mM_X9_makeClip (tgI t) 59 [(0, .ref a0), (1, .int i1), (3, .int i3), (4, .int i4)] [] h) {h : Hp} {a0 : Nat} {i1 : Int32} {i3 : Int32} {i4 : Int32} {t : Rs Int32} (e : f_X9_makeClip_B59 k59 h a0 i1 i3 i4 = some t) : X l K mM_X9_makeClip (tgI t) 59 [(0, .ref a0), (1, .int i1), (3, .int i3), (4, .int i4)] [] h := by
  unfold f_X9_makeClip_B59 at e
  refine x_iload (pc := 59) 3 dX9_makeClip_59 rfl ?_
  refine x_iconst (pc := 61) dX9_makeClip_61 ?_
  rcases ite_some e with ⟨q1, e⟩ | ⟨q1, e⟩
  · refine x_icmp_ge_t (pc := 62) (t := 83) dX9_makeClip_62 (by decide) q1 ?_
    refine x_iload_n (pc := 83) 2 dX9_makeClip_83 rfl ?_
    cases Option.some.inj e
    exact x_iret (pc := 84) rfl dX9_makeClip_84
  · refine x_icmp_ge_f (pc := 62) (t := 83) dX9_makeClip_62 (by decide) q1 ?_
    refine x_aload_n (pc := 65) 0 dX9_makeClip_65 rfl ?_
    obtain ⟨q2, e⟩ := chk_some e
    obtain ⟨q3, e⟩ := chk_some e
    refine x_getR (pc := 66) gf_X9_35 rfl dX9_makeClip_66 q2 q3.1 ?_
    refine x_iconst (pc := 69) dX9_makeClip_69 ?_
    refine x_iload_n (pc := 70) 1 dX9_makeClip_70 rfl ?_
    refine x_imul (pc := 71) dX9_makeClip_71 ?_
    refine x_iload (pc := 72) 3 dX9_makeClip_72 rfl ?_
    refine x_iadd (pc := 74) dX9_makeClip_74 ?_
    refine x_iconst (pc := 75) dX9_makeClip_75 ?_
    obtain ⟨q4, e⟩ := chk_some e
    replace e := lt_go e
    refine x_zast (pc := 76) dX9_makeClip_76 (Or.inl rfl) q3 q4 ?_
    refine x_iinc (pc := 77) 3 dX9_makeClip_77 rfl (by decide) rfl ?_
    refine x_goto (pc := 80) (t := 59) dX9_makeClip_80 (by decide) ?_
    exact x_sub1 (hk59 _ _ _ _ _ _ e) [1, 2, 3, 0] rfl
noncomputable def f_X9_makeClip_L59 (n : Nat) : Hp → Nat → Int32 → Int32 → Int32 → Option (Rs Int32) := Nat.rec (motive := fun _ => Hp → Nat → Int32 → Int32 → Int32 → Option (Rs Int32)) (fun _ _ _ _ _ => none) (fun _ r => f_X9_makeClip_B59 r) n
theorem p_X9_makeClip_L59 {l : Launch} {K : Ctx} (hl : l.stackTraces = false) : ∀ (n : Nat) (h : Hp) (a0 : Nat) (i1 : Int32) (i3 : Int32) (i4 : Int32) (t : Rs Int32) (e : f_X9_makeClip_L59 n h a0 i1 i3 i4 = some t), X l K mM_X9_makeClip (tgI t) 59 [(0, .ref a0), (1, .int i1), (3, .int i3), (4, .int i4)] [] h := by
  intro n
  induction n with
  | zero => exact fun _ _ _ _ _ _ e => nomatch (show (none : Option (Rs Int32)) = some _ from e)
  | succ n ih => exact fun h a0 i1 i3 i4 t e => p_X9_makeClip_B59 hl (fun h a0 i1 i3 i4 t e => ih h a0 i1 i3 i4 t e) e
noncomputable def f_X9_makeClip (h : Hp) (a0 : Nat) (i1 : Int32) (i2 : Int32) (i3 : Int32) : Option (Rs Int32) :=
  chk (okr h a0 9) <|
  lt (putI h a0 0 (iN 0)) fun h2 =>
  bnd (f_X9_isClip h2 i1) fun h3 r4 =>
  if r4 = 0 then (
    chk (okr h3 a0 9) <|
    bnd (f_X9_fails h3 a0 (iN 1)) fun h7 r8 =>
    some (h7, .inr r8)
  ) else (
    bnd (f_X9_in h3 i2 (iN 0) (iN 5)) fun h9 r10 =>
    if r10 = 0 then (
      f_X9_makeClip_L36 h9 a0
    ) else (
      bnd (f_X9_in h9 i3 (iN 0) (iN 3)) fun h12 r13 =>
      if r13 = 0 then (
        f_X9_makeClip_L36 h12 a0
      ) else (
        chk (okr h12 a0 9) <|
        chk (okr h12 (qR h12 a0 8) 20) <|
        chk (vp_in i1 (qW h12 (qR h12 a0 8))) <|
        lt (putI h12 (qR h12 a0 8) (Int32.toNatClampNeg i1) i2) fun h18 =>
        chk (okr h18 (qR h18 a0 9) 20) <|
        chk (vp_in i1 (qW h18 (qR h18 a0 9))) <|
        lt (putI h18 (qR h18 a0 9) (Int32.toNatClampNeg i1) i3) fun h21 =>
        f_X9_makeClip_L59 2000 h21 a0 i1 i3 (iN 0)
      )
    )
  )
theorem p_X9_makeClip {l : Launch} {K : Ctx} (hl : l.stackTraces = false) {h : Hp} {a0 : Nat} {i1 : Int32} {i2 : Int32} {i3 : Int32} {t : Rs Int32} (e : f_X9_makeClip h a0 i1 i2 i3 = some t) : X l K mM_X9_makeClip (tgI t) 0 [(0, .ref a0), (1, .int i1), (2, .int i2), (3, .int i3)] [] h := by
  unfold f_X9_makeClip at e
  refine x_aload_n (pc := 0) 0 dX9_makeClip_0 rfl ?_
  refine x_iconst (pc := 1) dX9_makeClip_1 ?_
  obtain ⟨q1, e⟩ := chk_some e
  replace e := lt_go e
  refine x_putI (pc := 2) pf_X9_84 rfl rfl rfl dX9_makeClip_2 q1 ?_
  refine x_iload_n (pc := 5) 1 dX9_makeClip_5 rfl ?_
  rcases bnd_some e with ⟨h3, r4, ec, rfl⟩ | ⟨h3, r4, ec, e⟩
  · exact y_callS_x (pc := 6) (c_X9_isClip hl ec) mf_X9_isClip tw_9_9 lf_X9_391 dX9_makeClip_6 (by decide) rfl rfl (leb rfl) (xx_out0 rfl)
  refine y_callS_i (pc := 6) (c_X9_isClip hl ec) mf_X9_isClip tw_9_9 lf_X9_391 dX9_makeClip_6 (by decide) rfl rfl (leb rfl) ?_
  rcases ite_some e with ⟨q5, e⟩ | ⟨q5, e⟩
  · refine x_if_ne_f (pc := 9) (t := 18) dX9_makeClip_9 (by decide) q5 ?_
    refine x_aload_n (pc := 12) 0 dX9_makeClip_12 rfl ?_
    refine x_iconst (pc := 13) dX9_makeClip_13 ?_
    obtain ⟨q6, e⟩ := chk_some e
    rcases bnd_some e with ⟨h7, r8, ec, rfl⟩ | ⟨h7, r8, ec, e⟩
    · exact y_callV_x (pc := 14) (c_X9_fails hl ec) q6 mf_X9_fails tw_7_24 ts_6_7 lf_X9_95 rfl rfl dX9_makeClip_14 (by decide) rfl rfl (leb rfl) (xx_out0 rfl)
    refine y_callV_i (pc := 14) (c_X9_fails hl ec) q6 mf_X9_fails tw_7_24 ts_6_7 lf_X9_95 rfl rfl dX9_makeClip_14 (by decide) rfl rfl (leb rfl) ?_
    cases Option.some.inj e
    exact x_iret (pc := 17) rfl dX9_makeClip_17
  · refine x_if_ne_t (pc := 9) (t := 18) dX9_makeClip_9 (by decide) q5 ?_
    refine x_iload_n (pc := 18) 2 dX9_makeClip_18 rfl ?_
    refine x_iconst (pc := 19) dX9_makeClip_19 ?_
    refine x_iconst (pc := 20) dX9_makeClip_20 ?_
    rcases bnd_some e with ⟨h9, r10, ec, rfl⟩ | ⟨h9, r10, ec, e⟩
    · exact y_callS_x (pc := 21) (c_X9_in hl ec) mf_X9_in tw_7_20 lf_X9_87 dX9_makeClip_21 (by decide) rfl rfl (leb rfl) (xx_out0 rfl)
    refine y_callS_i (pc := 21) (c_X9_in hl ec) mf_X9_in tw_7_20 lf_X9_87 dX9_makeClip_21 (by decide) rfl rfl (leb rfl) ?_
    rcases ite_some e with ⟨q11, e⟩ | ⟨q11, e⟩
    · refine x_if_eq_t (pc := 24) (t := 36) dX9_makeClip_24 (by decide) q11 ?_
      exact x_sub1 (p_X9_makeClip_L36 hl e) [0] rfl
    · refine x_if_eq_f (pc := 24) (t := 36) dX9_makeClip_24 (by decide) q11 ?_
      refine x_iload_n (pc := 27) 3 dX9_makeClip_27 rfl ?_
      refine x_iconst (pc := 28) dX9_makeClip_28 ?_
      refine x_iconst (pc := 29) dX9_makeClip_29 ?_
      rcases bnd_some e with ⟨h12, r13, ec, rfl⟩ | ⟨h12, r13, ec, e⟩
      · exact y_callS_x (pc := 30) (c_X9_in hl ec) mf_X9_in tw_7_20 lf_X9_87 dX9_makeClip_30 (by decide) rfl rfl (leb rfl) (xx_out0 rfl)
      refine y_callS_i (pc := 30) (c_X9_in hl ec) mf_X9_in tw_7_20 lf_X9_87 dX9_makeClip_30 (by decide) rfl rfl (leb rfl) ?_
      rcases ite_some e with ⟨q14, e⟩ | ⟨q14, e⟩
      · refine x_if_ne_f (pc := 33) (t := 42) dX9_makeClip_33 (by decide) q14 ?_
        exact x_sub1 (p_X9_makeClip_L36 hl e) [0] rfl
      · refine x_if_ne_t (pc := 33) (t := 42) dX9_makeClip_33 (by decide) q14 ?_
        refine x_aload_n (pc := 42) 0 dX9_makeClip_42 rfl ?_
        obtain ⟨q15, e⟩ := chk_some e
        obtain ⟨q16, e⟩ := chk_some e
        refine x_getR (pc := 43) gf_X9_26 rfl dX9_makeClip_43 q15 q16.1 ?_
        refine x_iload_n (pc := 46) 1 dX9_makeClip_46 rfl ?_
        refine x_iload_n (pc := 47) 2 dX9_makeClip_47 rfl ?_
        obtain ⟨q17, e⟩ := chk_some e
        replace e := lt_go e
        refine x_iast (pc := 48) dX9_makeClip_48 q16 q17 ?_
        refine x_aload_n (pc := 49) 0 dX9_makeClip_49 rfl ?_
        obtain ⟨q19, e⟩ := chk_some e
        refine x_getR (pc := 50) gf_X9_29 rfl dX9_makeClip_50 (okr_pI q15) q19.1 ?_
        refine x_iload_n (pc := 53) 1 dX9_makeClip_53 rfl ?_
        refine x_iload_n (pc := 54) 3 dX9_makeClip_54 rfl ?_
        obtain ⟨q20, e⟩ := chk_some e
        replace e := lt_go e
        refine x_iast (pc := 55) dX9_makeClip_55 q19 q20 ?_
        refine x_iconst (pc := 56) dX9_makeClip_56 ?_
        refine x_istore (pc := 57) dX9_makeClip_57 (by decide) rfl ?_
        exact x_sub1 (p_X9_makeClip_L59 hl 2000 _ _ _ _ _ _ e) [1, 2, 4, 0] rfl
abbrev w_X9_makeClip : Cond := (Cond.code yX9_makeClip cX9_makeClip 5 (Option.some Jvm.ClassFile.FieldType.int))
theorem mf_X9_makeClip : MF yX9_makeClip w_X9_makeClip cX9_makeClip 5 (Option.some Jvm.ClassFile.FieldType.int) 3 := ⟨⟨rfl, tw_9_7, by decide⟩, tw_1_11, ⟨by decide, by decide⟩, by decide +kernel⟩
theorem c_X9_makeClip {l : Launch} {K : Ctx} (hl : l.stackTraces = false) {h : Hp} {a0 : Nat} {i1 : Int32} {i2 : Int32} {i3 : Int32} {t : Rs Int32} (e : f_X9_makeClip h a0 i1 i2 i3 = some t) : Ctr l K 10 yX9_makeClip w_X9_makeClip [.ref a0, .int i1, .int i2, .int i3] h (tgI t) :=
  Ctr.of hl mf_X9_makeClip false (fun q => nomatch q) rfl (leb rfl) (p_X9_makeClip hl e)
/-! ## TableColumnBalancer$Clip.accepts -/
abbrev mM_X2_accepts : Mi := (9, yX2_accepts.cls, cX2_accepts, 2, (Option.some Jvm.ClassFile.FieldType.boolean), [], false)
noncomputable def f_X2_accepts_L24 (h : Hp) (s0 : Int32) (s1 : Int32) : Option (Rs Int32) :=
  if s1 = s0 then (
    some (h, .inr (iN 1))
  ) else (
    some (h, .inr (iN 0))
  )
theorem p_X2_accepts_L24 {l : Launch} {K : Ctx} (hl : l.stackTraces = false) {h : Hp} {s0 : Int32} {s1 : Int32} {t : Rs Int32} (e : f_X2_accepts_L24 h s0 s1 = some t) : X l K mM_X2_accepts (tgI t) 24 [] [.int s0, .int s1] h := by
  unfold f_X2_accepts_L24 at e
  rcases ite_some e with ⟨q1, e⟩ | ⟨q1, e⟩
  · refine x_icmp_ne_f (pc := 24) (t := 31) dX2_accepts_24 (by decide) q1 ?_
    refine x_iconst (pc := 27) dX2_accepts_27 ?_
    refine x_goto (pc := 28) (t := 32) dX2_accepts_28 (by decide) ?_
    cases Option.some.inj e
    exact x_zret (pc := 32) rfl (Or.inr rfl) dX2_accepts_32
  · refine x_icmp_ne_t (pc := 24) (t := 31) dX2_accepts_24 (by decide) q1 ?_
    refine x_iconst (pc := 31) dX2_accepts_31 ?_
    cases Option.some.inj e
    exact x_zret (pc := 32) rfl (Or.inl rfl) dX2_accepts_32
noncomputable def f_X2_accepts (h : Hp) (a0 : Nat) (i1 : Int32) : Option (Rs Int32) :=
  chk (okr h a0 2) <|
  if i1 = (qI h a0 1) then (
    some (h, .inr (iN 1))
  ) else (
    bnd (f_X8_isTextKind h i1) fun h3 r4 =>
    if r4 = 0 then (
      f_X2_accepts_L24 h3 (iN 4) (qI h a0 1)
    ) else (
      f_X2_accepts_L24 h3 (iN 0) (qI h a0 1)
    )
  )
theorem p_X2_accepts {l : Launch} {K : Ctx} (hl : l.stackTraces = false) {h : Hp} {a0 : Nat} {i1 : Int32} {t : Rs Int32} (e : f_X2_accepts h a0 i1 = some t) : X l K mM_X2_accepts (tgI t) 0 [(0, .ref a0), (1, .int i1)] [] h := by
  unfold f_X2_accepts at e
  refine x_iload_n (pc := 0) 1 dX2_accepts_0 rfl ?_
  refine x_aload_n (pc := 1) 0 dX2_accepts_1 rfl ?_
  obtain ⟨q1, e⟩ := chk_some e
  refine x_getI (pc := 2) gf_X2_26 rfl dX2_accepts_2 q1 ?_
  rcases ite_some e with ⟨q2, e⟩ | ⟨q2, e⟩
  · refine x_icmp_eq_t (pc := 5) (t := 27) dX2_accepts_5 (by decide) q2 ?_
    refine x_iconst (pc := 27) dX2_accepts_27 ?_
    refine x_goto (pc := 28) (t := 32) dX2_accepts_28 (by decide) ?_
    cases Option.some.inj e
    exact x_zret (pc := 32) rfl (Or.inr rfl) dX2_accepts_32
  · refine x_icmp_eq_f (pc := 5) (t := 27) dX2_accepts_5 (by decide) q2 ?_
    refine x_aload_n (pc := 8) 0 dX2_accepts_8 rfl ?_
    refine x_getI (pc := 9) gf_X2_26 rfl dX2_accepts_9 q1 ?_
    refine x_iload_n (pc := 12) 1 dX2_accepts_12 rfl ?_
    rcases bnd_some e with ⟨h3, r4, ec, rfl⟩ | ⟨h3, r4, ec, e⟩
    · exact y_callS_x (pc := 13) (c_X8_isTextKind hl ec) mf_X8_isTextKind tw_4_134 lf_X2_33 dX2_accepts_13 (by decide) rfl rfl (leb rfl) (xx_out0 rfl)
    refine y_callS_i (pc := 13) (c_X8_isTextKind hl ec) mf_X8_isTextKind tw_4_134 lf_X2_33 dX2_accepts_13 (by decide) rfl rfl (leb rfl) ?_
    rcases ite_some e with ⟨q5, e⟩ | ⟨q5, e⟩
    · refine x_if_eq_t (pc := 16) (t := 23) dX2_accepts_16 (by decide) q5 ?_
      refine x_iconst (pc := 23) dX2_accepts_23 ?_
      exact x_sub1 (p_X2_accepts_L24 hl e) [] rfl
    · refine x_if_eq_f (pc := 16) (t := 23) dX2_accepts_16 (by decide) q5 ?_
      refine x_iconst (pc := 19) dX2_accepts_19 ?_
      refine x_goto (pc := 20) (t := 24) dX2_accepts_20 (by decide) ?_
      exact x_sub1 (p_X2_accepts_L24 hl e) [] rfl
abbrev w_X2_accepts : Cond := (Cond.code yX2_accepts cX2_accepts 2 (Option.some Jvm.ClassFile.FieldType.boolean))
theorem mf_X2_accepts : MF yX2_accepts w_X2_accepts cX2_accepts 2 (Option.some Jvm.ClassFile.FieldType.boolean) 1 := ⟨⟨rfl, tw_6_125, by decide⟩, tw_1_8, ⟨by decide, by decide⟩, by decide +kernel⟩
theorem c_X2_accepts {l : Launch} {K : Ctx} (hl : l.stackTraces = false) {h : Hp} {a0 : Nat} {i1 : Int32} {t : Rs Int32} (e : f_X2_accepts h a0 i1 = some t) : Ctr l K 9 yX2_accepts w_X2_accepts [.ref a0, .int i1] h (tgI t) :=
  Ctr.of hl mf_X2_accepts false (fun q => nomatch q) rfl (leb rfl) (p_X2_accepts hl e)
/-! ## TableColumnBalancer.copyTo -/
abbrev mM_X8_copyTo : Mi := (10, yX8_copyTo.cls, cX8_copyTo, 6, (Option.some Jvm.ClassFile.FieldType.int), [], false)
noncomputable def f_X8_copyTo (h : Hp) (a0 : Nat) (i1 : Int32) (i2 : Int32) (i3 : Int32) : Option (Rs Int32) :=
  bnd (f_X8_isWithin h i1 (iN 0) (iN 1)) fun h1 r2 =>
  bnd (f_X8_requireIndex h1 r2) fun h3 _ =>
  chk (okr h3 a0 8) <|
  bnd (f_X8_requireCell h3 a0 i3) fun h6 _ =>
  chk (okr h6 a0 8) <|
  chk (okr h6 (qR h6 a0 9) 26) <|
  chk (vp_in i1 (qW h6 (qR h6 a0 9))) <|
  chk (okr h6 (qR h6 (qR h6 a0 9) (Int32.toNatClampNeg i1)) 2) <|
  chk (okr h6 (qR h6 a0 0) 7) <|
  chk (okr h6 (qR h6 (qR h6 a0 0) 8) 25) <|
  chk (vp_in i3 (qW h6 (qR h6 (qR h6 a0 0) 8))) <|
  chk (okr h6 (qR h6 (qR h6 (qR h6 a0 0) 8) (Int32.toNatClampNeg i3)) 1) <|
  chk (okr h6 (qR h6 (qR h6 (qR h6 (qR h6 a0 0) 8) (Int32.toNatClampNeg i3)) 3) 4) <|
  bnd (f_X8_requireState h6 (qI h6 (qR h6 (qR h6 a0 9) (Int32.toNatClampNeg i1)) 0)) fun h17 _ =>
  chk (okr h17 (qR h6 (qR h6 a0 9) (Int32.toNatClampNeg i1)) 2) <|
  bnd (f_X8_isWithin h17 i2 (iN 0) ((qI h17 (qR h6 (qR h6 a0 9) (Int32.toNatClampNeg i1)) 2) - (iN 1))) fun h20 r21 =>
  bnd (f_X8_requireElement h20 r21) fun h22 _ =>
  chk (okr h22 (qR h6 (qR h6 (qR h6 (qR h6 a0 0) 8) (Int32.toNatClampNeg i3)) 3) 4) <|
  chk (okr h22 (qR h6 (qR h6 a0 9) (Int32.toNatClampNeg i1)) 2) <|
  bnd (f_X2_accepts h22 (qR h6 (qR h6 a0 9) (Int32.toNatClampNeg i1)) (qI h22 (qR h6 (qR h6 (qR h6 (qR h6 a0 0) 8) (Int32.toNatClampNeg i3)) 3) 0)) fun h26 r27 =>
  bnd (f_X8_requireArgument h26 r27) fun h28 _ =>
  chk (okr h28 (qR h6 (qR h6 a0 9) (Int32.toNatClampNeg i1)) 2) <|
  chk (okr h28 (qR h28 (qR h6 (qR h6 a0 9) (Int32.toNatClampNeg i1)) 4) 27) <|
  chk (vp_in i2 (qW h28 (qR h28 (qR h6 (qR h6 a0 9) (Int32.toNatClampNeg i1)) 4))) <|
  chk (okr h28 (qR h28 (qR h28 (qR h6 (qR h6 a0 9) (Int32.toNatClampNeg i1)) 4) (Int32.toNatClampNeg i2)) 4) <|
  bnd (f_X4_copyFrom h28 (qR h28 (qR h28 (qR h6 (qR h6 a0 9) (Int32.toNatClampNeg i1)) 4) (Int32.toNatClampNeg i2)) (qR h6 (qR h6 (qR h6 (qR h6 a0 0) 8) (Int32.toNatClampNeg i3)) 3)) fun h34 _ =>
  chk (okr h34 (qR h6 (qR h6 a0 9) (Int32.toNatClampNeg i1)) 2) <|
  chk (okr h34 (qR h34 (qR h6 (qR h6 a0 9) (Int32.toNatClampNeg i1)) 3) 22) <|
  chk (vp_in i2 (qW h34 (qR h34 (qR h6 (qR h6 a0 9) (Int32.toNatClampNeg i1)) 3))) <|
  lt (putI h34 (qR h34 (qR h6 (qR h6 a0 9) (Int32.toNatClampNeg i1)) 3) (Int32.toNatClampNeg i2) (iN 1)) fun h39 =>
  chk (okr h39 (qR h6 (qR h6 (qR h6 (qR h6 a0 0) 8) (Int32.toNatClampNeg i3)) 3) 4) <|
  some (h39, .inr (qI h39 (qR h6 (qR h6 (qR h6 (qR h6 a0 0) 8) (Int32.toNatClampNeg i3)) 3) 0))
theorem p_X8_copyTo {l : Launch} {K : Ctx} (hl : l.stackTraces = false) {h : Hp} {a0 : Nat} {i1 : Int32} {i2 : Int32} {i3 : Int32} {t : Rs Int32} (e : f_X8_copyTo h a0 i1 i2 i3 = some t) : X l K mM_X8_copyTo (tgI t) 0 [(0, .ref a0), (1, .int i1), (2, .int i2), (3, .int i3)] [] h := by
  unfold f_X8_copyTo at e
  refine x_iload_n (pc := 0) 1 dX8_copyTo_0 rfl ?_
  refine x_iconst (pc := 1) dX8_copyTo_1 ?_
  refine x_iconst (pc := 2) dX8_copyTo_2 ?_
  rcases bnd_some e with ⟨h1, r2, ec, rfl⟩ | ⟨h1, r2, ec, e⟩
  · exact y_callS_x (pc := 3) (c_X8_isWithin hl ec) mf_X8_isWithin tw_3_26 lf_X8_72 dX8_copyTo_3 (by decide) rfl rfl (leb rfl) (xx_out0 rfl)
  refine y_callS_i (pc := 3) (c_X8_isWithin hl ec) mf_X8_isWithin tw_3_26 lf_X8_72 dX8_copyTo_3 (by decide) rfl rfl (leb rfl) ?_
  rcases bnd_some e with ⟨h3, r4, ec, rfl⟩ | ⟨h3, r4, ec, e⟩
  · exact y_callS_x (pc := 6) (c_X8_requireIndex hl ec) mf_X8_requireIndex tw_3_225 lf_X8_96 dX8_copyTo_6 (by decide) rfl rfl (leb rfl) (xx_out0 rfl)
  refine y_callS_v (pc := 6) (c_X8_requireIndex hl ec) mf_X8_requireIndex tw_3_225 lf_X8_96 dX8_copyTo_6 (by decide) rfl rfl (leb rfl) ?_
  refine x_aload_n (pc := 9) 0 dX8_copyTo_9 rfl ?_
  refine x_iload_n (pc := 10) 3 dX8_copyTo_10 rfl ?_
  obtain ⟨q5, e⟩ := chk_some e
  rcases bnd_some e with ⟨h6, r7, ec, rfl⟩ | ⟨h6, r7, ec, e⟩
  · exact y_callV_x (pc := 11) (c_X8_requireCell hl ec) q5 mf_X8_requireCell tw_4_67 ts_3_14 lf_X8_139 rfl rfl dX8_copyTo_11 (by decide) rfl rfl (leb rfl) (xx_out0 rfl)
  refine y_callV_v (pc := 11) (c_X8_requireCell hl ec) q5 mf_X8_requireCell tw_4_67 ts_3_14 lf_X8_139 rfl rfl dX8_copyTo_11 (by decide) rfl rfl (leb rfl) ?_
  refine x_aload_n (pc := 14) 0 dX8_copyTo_14 rfl ?_
  obtain ⟨q8, e⟩ := chk_some e
  obtain ⟨q9, e⟩ := chk_some e
  refine x_getR (pc := 15) gf_X8_55 rfl dX8_copyTo_15 q8 q9.1 ?_
  refine x_iload_n (pc := 18) 1 dX8_copyTo_18 rfl ?_
  obtain ⟨q10, e⟩ := chk_some e
  obtain ⟨q11, e⟩ := chk_some e
  refine x_aald (pc := 19) (t := 2) (by decide) dX8_copyTo_19 q9 q10 q11.1 ?_
  refine x_astore (pc := 20) dX8_copyTo_20 (by decide) rfl ?_
  refine x_aload_n (pc := 22) 1 dX8_copyTo_22 rfl ?_
  obtain ⟨q12, e⟩ := chk_some e
  refine x_getR (pc := 23) gf_X8_10 rfl dX8_copyTo_23 q8 q12.1 ?_
  obtain ⟨q13, e⟩ := chk_some e
  refine x_getR (pc := 26) gf_X8_159 rfl dX8_copyTo_26 q12 q13.1 ?_
  refine x_iload_n (pc := 29) 4 dX8_copyTo_29 rfl ?_
  obtain ⟨q14, e⟩ := chk_some e
  obtain ⟨q15, e⟩ := chk_some e
  refine x_aald (pc := 30) (t := 1) (by decide) dX8_copyTo_30 q13 q14 q15.1 ?_
  obtain ⟨q16, e⟩ := chk_some e
  refine x_getR (pc := 31) gf_X8_163 rfl dX8_copyTo_31 q15 q16.1 ?_
  refine x_astore (pc := 34) dX8_copyTo_34 (by decide) rfl ?_
  refine x_aload (pc := 36) 1 dX8_copyTo_36 rfl ?_
  refine x_getI (pc := 38) gf_X8_319 rfl dX8_copyTo_38 q11 ?_
  rcases bnd_some e with ⟨h17, r18, ec, rfl⟩ | ⟨h17, r18, ec, e⟩
  · exact y_callS_x (pc := 41) (c_X8_requireState hl ec) mf_X8_requireState tw_3_155 lf_X8_84 dX8_copyTo_41 (by decide) rfl rfl (leb rfl) (xx_out0 rfl)
  refine y_callS_v (pc := 41) (c_X8_requireState hl ec) mf_X8_requireState tw_3_155 lf_X8_84 dX8_copyTo_41 (by decide) rfl rfl (leb rfl) ?_
  refine x_iload_n (pc := 44) 4 dX8_copyTo_44 rfl ?_
  refine x_iconst (pc := 45) dX8_copyTo_45 ?_
  refine x_aload (pc := 46) 1 dX8_copyTo_46 rfl ?_
  obtain ⟨q19, e⟩ := chk_some e
  refine x_getI (pc := 48) gf_X8_323 rfl dX8_copyTo_48 q19 ?_
  refine x_iconst (pc := 51) dX8_copyTo_51 ?_
  refine x_isub (pc := 52) dX8_copyTo_52 ?_
  rcases bnd_some e with ⟨h20, r21, ec, rfl⟩ | ⟨h20, r21, ec, e⟩
  · exact y_callS_x (pc := 53) (c_X8_isWithin hl ec) mf_X8_isWithin tw_3_26 lf_X8_72 dX8_copyTo_53 (by decide) rfl rfl (leb rfl) (xx_out0 rfl)
  refine y_callS_i (pc := 53) (c_X8_isWithin hl ec) mf_X8_isWithin tw_3_26 lf_X8_72 dX8_copyTo_53 (by decide) rfl rfl (leb rfl) ?_
  rcases bnd_some e with ⟨h22, r23, ec, rfl⟩ | ⟨h22, r23, ec, e⟩
  · exact y_callS_x (pc := 56) (c_X8_requireElement hl ec) mf_X8_requireElement tw_5_122 lf_X8_233 dX8_copyTo_56 (by decide) rfl rfl (leb rfl) (xx_out0 rfl)
  refine y_callS_v (pc := 56) (c_X8_requireElement hl ec) mf_X8_requireElement tw_5_122 lf_X8_233 dX8_copyTo_56 (by decide) rfl rfl (leb rfl) ?_
  refine x_aload (pc := 59) 1 dX8_copyTo_59 rfl ?_
  refine x_aload (pc := 61) 0 dX8_copyTo_61 rfl ?_
  obtain ⟨q24, e⟩ := chk_some e
  refine x_getI (pc := 63) gf_X8_156 rfl dX8_copyTo_63 q24 ?_
  obtain ⟨q25, e⟩ := chk_some e
  rcases bnd_some e with ⟨h26, r27, ec, rfl⟩ | ⟨h26, r27, ec, e⟩
  · exact y_callV_x (pc := 66) (c_X2_accepts hl ec) q25 mf_X2_accepts tw_6_124 ts_6_6 lf_X8_326 rfl rfl dX8_copyTo_66 (by decide) rfl rfl (leb rfl) (xx_out0 rfl)
  refine y_callV_i (pc := 66) (c_X2_accepts hl ec) q25 mf_X2_accepts tw_6_124 ts_6_6 lf_X8_326 rfl rfl dX8_copyTo_66 (by decide) rfl rfl (leb rfl) ?_
  rcases bnd_some e with ⟨h28, r29, ec, rfl⟩ | ⟨h28, r29, ec, e⟩
  · exact y_callS_x (pc := 69) (c_X8_requireArgument hl ec) mf_X8_requireArgument tw_3_84 lf_X8_76 dX8_copyTo_69 (by decide) rfl rfl (leb rfl) (xx_out0 rfl)
  refine y_callS_v (pc := 69) (c_X8_requireArgument hl ec) mf_X8_requireArgument tw_3_84 lf_X8_76 dX8_copyTo_69 (by decide) rfl rfl (leb rfl) ?_
  refine x_aload (pc := 72) 1 dX8_copyTo_72 rfl ?_
  obtain ⟨q30, e⟩ := chk_some e
  obtain ⟨q31, e⟩ := chk_some e
  refine x_getR (pc := 74) gf_X8_329 rfl dX8_copyTo_74 q30 q31.1 ?_
  refine x_iload_n (pc := 77) 4 dX8_copyTo_77 rfl ?_
  obtain ⟨q32, e⟩ := chk_some e
  obtain ⟨q33, e⟩ := chk_some e
  refine x_aald (pc := 78) (t := 3) (by decide) dX8_copyTo_78 q31 q32 q33.1 ?_
  refine x_aload (pc := 79) 0 dX8_copyTo_79 rfl ?_
  rcases bnd_some e with ⟨h34, r35, ec, rfl⟩ | ⟨h34, r35, ec, e⟩
  · exact y_callV_x (pc := 81) (c_X4_copyFrom hl ec) q33 mf_X4_copyFrom tw_3_68 ts_3_1 lf_X8_333 rfl rfl dX8_copyTo_81 (by decide) rfl rfl (leb rfl) (xx_out0 rfl)
  refine y_callV_v (pc := 81) (c_X4_copyFrom hl ec) q33 mf_X4_copyFrom tw_3_68 ts_3_1 lf_X8_333 rfl rfl dX8_copyTo_81 (by decide) rfl rfl (leb rfl) ?_
  refine x_aload (pc := 84) 1 dX8_copyTo_84 rfl ?_
  obtain ⟨q36, e⟩ := chk_some e
  obtain ⟨q37, e⟩ := chk_some e
  refine x_getR (pc := 86) gf_X8_336 rfl dX8_copyTo_86 q36 q37.1 ?_
  refine x_iload_n (pc := 89) 4 dX8_copyTo_89 rfl ?_
  refine x_iconst (pc := 90) dX8_copyTo_90 ?_
  obtain ⟨q38, e⟩ := chk_some e
  replace e := lt_go e
  refine x_zast (pc := 91) dX8_copyTo_91 (Or.inr rfl) q37 q38 ?_
  refine x_aload (pc := 92) 0 dX8_copyTo_92 rfl ?_
  obtain ⟨q40, e⟩ := chk_some e
  refine x_getI (pc := 94) gf_X8_156 rfl dX8_copyTo_94 q40 ?_
  cases Option.some.inj e
  exact x_iret (pc := 97) rfl dX8_copyTo_97
abbrev w_X8_copyTo : Cond := (Cond.code yX8_copyTo cX8_copyTo 6 (Option.some Jvm.ClassFile.FieldType.int))
theorem mf_X8_copyTo : MF yX8_copyTo w_X8_copyTo cX8_copyTo 6 (Option.some Jvm.ClassFile.FieldType.int) 3 := ⟨⟨rfl, tw_6_121, by decide⟩, tw_1_1, ⟨by decide, by decide⟩, by decide +kernel⟩
theorem c_X8_copyTo {l : Launch} {K : Ctx} (hl : l.stackTraces = false) {h : Hp} {a0 : Nat} {i1 : Int32} {i2 : Int32} {i3 : Int32} {t : Rs Int32} (e : f_X8_copyTo h a0 i1 i2 i3 = some t) : Ctr l K 10 yX8_copyTo w_X8_copyTo [.ref a0, .int i1, .int i2, .int i3] h (tgI t) :=
  Ctr.of hl mf_X8_copyTo false (fun q => nomatch q) rfl (leb rfl) (p_X8_copyTo hl e)
/-! ## TableColumnBalancerLaw.copyTo -/
abbrev mM_L_copyTo : Mi := (11, yL_copyTo.cls, cL_copyTo, 6, (Option.some Jvm.ClassFile.FieldType.int), [((0 : Nat), (12 : Nat), (15 : Nat), (21 : Nat)), ((0 : Nat), (12 : Nat), (19 : Nat), (15 : Nat)), ((0 : Nat), (12 : Nat), (23 : Nat), (73 : Nat)), ((0 : Nat), (12 : Nat), (27 : Nat), (13 : Nat))], false)
noncomputable def f_L_copyTo (h : Hp) (a0 : Nat) (i1 : Int32) (i2 : Int32) (i3 : Int32) (a4 : Nat) : Option (Rs Int32) :=
  chk (okr h a0 8) <|
  bndX (f_X8_copyTo h a0 i1 i2 i3) (fun h2 r3 => (
    chk (okr h2 a4 21) <|
    chk (vp_in (iN 0) (qW h2 a4)) <|
    lt (putL h2 a4 (Int32.toNatClampNeg (iN 0)) (Int32.toInt64 r3)) fun h6 =>
    some (h6, .inr (iN 0))
  )) fun h2 k =>
  if k = 2 then (
    some (h2, .inr (iN 1))
  ) else
  if k = 0 then (
    some (h2, .inr (iN 2))
  ) else
  if k = 5 then (
    some (h2, .inr (iN 3))
  ) else
  if k = 1 then (
    some (h2, .inr (iN 4))
  ) else
  none
theorem p_L_copyTo {l : Launch} {K : Ctx} (hl : l.stackTraces = false) {h : Hp} {a0 : Nat} {i1 : Int32} {i2 : Int32} {i3 : Int32} {a4 : Nat} {t : Rs Int32} (e : f_L_copyTo h a0 i1 i2 i3 a4 = some t) : X l K mM_L_copyTo (tgI t) 0 [(0, .ref a0), (1, .int i1), (2, .int i2), (3, .int i3), (4, .ref a4)] [] h := by
  unfold f_L_copyTo at e
  refine x_aload (pc := 0) 4 dL_copyTo_0 rfl ?_
  refine x_iconst (pc := 2) dL_copyTo_2 ?_
  refine x_aload_n (pc := 3) 0 dL_copyTo_3 rfl ?_
  refine x_iload_n (pc := 4) 1 dL_copyTo_4 rfl ?_
  refine x_iload_n (pc := 5) 2 dL_copyTo_5 rfl ?_
  refine x_iload_n (pc := 6) 3 dL_copyTo_6 rfl ?_
  obtain ⟨q1, e⟩ := chk_some e
  rcases bndX_some e with ⟨h2, k, ec, e⟩ | ⟨h2, r3, ec, e⟩
  · rcases ite_some e with ⟨q7, e⟩ | ⟨q7, e⟩
    · subst q7
      refine y_callV_x (pc := 7) (c_X8_copyTo hl ec) q1 mf_X8_copyTo tw_6_119 tw_6_120 lf_L_136 rfl rfl dL_copyTo_7 (by decide) rfl rfl (leb rfl) (xx_catchA (pc := 7) [] [(0, 12, 19, 15), (0, 12, 23, 73), (0, 12, 27, 13)] (0, 12, 15, 21) rfl (by decide) (fun _ hz => absurd hz List.not_mem_nil) (by decide) (by decide) tw_3_187 tw_3_229 dL_copyTo_15 (by decide) rfl ?_)
      refine x_iconst (pc := 17) dL_copyTo_17 ?_
      cases Option.some.inj e
      exact x_iret (pc := 18) rfl dL_copyTo_18
    rcases ite_some e with ⟨q8, e⟩ | ⟨q8, e⟩
    · subst q8
      refine y_callV_x (pc := 7) (c_X8_copyTo hl ec) q1 mf_X8_copyTo tw_6_119 tw_6_120 lf_L_136 rfl rfl dL_copyTo_7 (by decide) rfl rfl (leb rfl) (xx_catchA (pc := 7) [(0, 12, 15, 21)] [(0, 12, 23, 73), (0, 12, 27, 13)] (0, 12, 19, 15) rfl (by decide) (List.forall_mem_cons.mpr ⟨⟨by decide, 2, by decide, by decide, tw_3_187⟩, fun _ hz => absurd hz List.not_mem_nil⟩) (by decide) (by decide) tw_3_77 tw_3_159 dL_copyTo_19 (by decide) rfl ?_)
      refine x_iconst (pc := 21) dL_copyTo_21 ?_
      cases Option.some.inj e
      exact x_iret (pc := 22) rfl dL_copyTo_22
    rcases ite_some e with ⟨q9, e⟩ | ⟨q9, e⟩
    · subst q9
      refine y_callV_x (pc := 7) (c_X8_copyTo hl ec) q1 mf_X8_copyTo tw_6_119 tw_6_120 lf_L_136 rfl rfl dL_copyTo_7 (by decide) rfl rfl (leb rfl) (xx_catchA (pc := 7) [(0, 12, 15, 21), (0, 12, 19, 15)] [(0, 12, 27, 13)] (0, 12, 23, 73) rfl (by decide) (List.forall_mem_cons.mpr ⟨⟨by decide, 2, by decide, by decide, tw_3_187⟩, List.forall_mem_cons.mpr ⟨⟨by decide, 0, by decide, by decide, tw_3_77⟩, fun _ hz => absurd hz List.not_mem_nil⟩⟩) (by decide) (by decide) tw_5_116 tw_5_126 dL_copyTo_23 (by decide) rfl ?_)
      refine x_iconst (pc := 25) dL_copyTo_25 ?_
      cases Option.some.inj e
      exact x_iret (pc := 26) rfl dL_copyTo_26
    rcases ite_some e with ⟨q10, e⟩ | ⟨q10, e⟩
    · subst q10
      refine y_callV_x (pc := 7) (c_X8_copyTo hl ec) q1 mf_X8_copyTo tw_6_119 tw_6_120 lf_L_136 rfl rfl dL_copyTo_7 (by decide) rfl rfl (leb rfl) (xx_catchA (pc := 7) [(0, 12, 15, 21), (0, 12, 19, 15), (0, 12, 23, 73)] [] (0, 12, 27, 13) rfl (by decide) (List.forall_mem_cons.mpr ⟨⟨by decide, 2, by decide, by decide, tw_3_187⟩, List.forall_mem_cons.mpr ⟨⟨by decide, 0, by decide, by decide, tw_3_77⟩, List.forall_mem_cons.mpr ⟨⟨by decide, 5, by decide, by decide, tw_5_116⟩, fun _ hz => absurd hz List.not_mem_nil⟩⟩⟩) (by decide) (by decide) tw_3_76 tw_3_88 dL_copyTo_27 (by decide) rfl ?_)
      refine x_iconst (pc := 29) dL_copyTo_29 ?_
      cases Option.some.inj e
      exact x_iret (pc := 30) rfl dL_copyTo_30
    cases e
  refine y_callV_i (pc := 7) (c_X8_copyTo hl ec) q1 mf_X8_copyTo tw_6_119 tw_6_120 lf_L_136 rfl rfl dL_copyTo_7 (by decide) rfl rfl (leb rfl) ?_
  refine x_i2l (pc := 10) dL_copyTo_10 ?_
  obtain ⟨q4, e⟩ := chk_some e
  obtain ⟨q5, e⟩ := chk_some e
  replace e := lt_go e
  refine x_last (pc := 11) dL_copyTo_11 q4 q5 ?_
  refine x_goto (pc := 12) (t := 31) dL_copyTo_12 (by decide) ?_
  refine x_iconst (pc := 31) dL_copyTo_31 ?_
  cases Option.some.inj e
  exact x_iret (pc := 32) rfl dL_copyTo_32
abbrev w_L_copyTo : Cond := (Cond.codeWith yL_copyTo cL_copyTo 6 (Option.some Jvm.ClassFile.FieldType.int) [((0 : Nat), (12 : Nat), (15 : Nat), (21 : Nat)), ((0 : Nat), (12 : Nat), (19 : Nat), (15 : Nat)), ((0 : Nat), (12 : Nat), (23 : Nat), (73 : Nat)), ((0 : Nat), (12 : Nat), (27 : Nat), (13 : Nat))])
theorem mf_L_copyTo : MFX yL_copyTo w_L_copyTo cL_copyTo 6 (Option.some Jvm.ClassFile.FieldType.int) 5 [((0 : Nat), (12 : Nat), (15 : Nat), (21 : Nat)), ((0 : Nat), (12 : Nat), (19 : Nat), (15 : Nat)), ((0 : Nat), (12 : Nat), (23 : Nat), (73 : Nat)), ((0 : Nat), (12 : Nat), (27 : Nat), (13 : Nat))] := ⟨⟨rfl, tw_6_117, by decide⟩, tw_1_0, ⟨by decide, by decide⟩, by decide +kernel⟩
theorem c_L_copyTo {l : Launch} {K : Ctx} (hl : l.stackTraces = false) {h : Hp} {a0 : Nat} {i1 : Int32} {i2 : Int32} {i3 : Int32} {a4 : Nat} {t : Rs Int32} (e : f_L_copyTo h a0 i1 i2 i3 a4 = some t) : Ctr l K 11 yL_copyTo w_L_copyTo [.ref a0, .int i1, .int i2, .int i3, .ref a4] h (tgI t) :=
  Ctr.ofX hl mf_L_copyTo rfl (leb rfl) (p_L_copyTo hl e)
/-! ## TableColumnBalancerModel.isUnder -/
abbrev mM_X9_isUnder : Mi := (8, yX9_isUnder.cls, cX9_isUnder, 2, (Option.some Jvm.ClassFile.FieldType.boolean), [], false)
noncomputable def f_X9_isUnder_L14 (h : Hp) (i0 : Int32) (i1 : Int32) : Option (Rs Int32) :=
  if i1 = (iN 4) then (
    if i0 = (iN 5) then (
      some (h, .inr (iN 1))
    ) else (
      some (h, .inr (iN 0))
    )
  ) else (
    some (h, .inr (iN 0))
  )
theorem p_X9_isUnder_L14 {l : Launch} {K : Ctx} (hl : l.stackTraces = false) {h : Hp} {i0 : Int32} {i1 : Int32} {t : Rs Int32} (e : f_X9_isUnder_L14 h i0 i1 = some t) : X l K mM_X9_isUnder (tgI t) 14 [(0, .int i0), (1, .int i1)] [] h := by
  unfold f_X9_isUnder_L14 at e
  refine x_iload_n (pc := 14) 1 dX9_isUnder_14 rfl ?_
  refine x_iconst (pc := 15) dX9_isUnder_15 ?_
  rcases ite_some e with ⟨q1, e⟩ | ⟨q1, e⟩
  · refine x_icmp_ne_f (pc := 16) (t := 28) dX9_isUnder_16 (by decide) q1 ?_
    refine x_iload_n (pc := 19) 0 dX9_isUnder_19 rfl ?_
    refine x_iconst (pc := 20) dX9_isUnder_20 ?_
    rcases ite_some e with ⟨q2, e⟩ | ⟨q2, e⟩
    · refine x_icmp_ne_f (pc := 21) (t := 28) dX9_isUnder_21 (by decide) q2 ?_
      refine x_iconst (pc := 24) dX9_isUnder_24 ?_
      refine x_goto (pc := 25) (t := 29) dX9_isUnder_25 (by decide) ?_
      cases Option.some.inj e
      exact x_zret (pc := 29) rfl (Or.inr rfl) dX9_isUnder_29
    · refine x_icmp_ne_t (pc := 21) (t := 28) dX9_isUnder_21 (by decide) q2 ?_
      refine x_iconst (pc := 28) dX9_isUnder_28 ?_
      cases Option.some.inj e
      exact x_zret (pc := 29) rfl (Or.inl rfl) dX9_isUnder_29
  · refine x_icmp_ne_t (pc := 16) (t := 28) dX9_isUnder_16 (by decide) q1 ?_
    refine x_iconst (pc := 28) dX9_isUnder_28 ?_
    cases Option.some.inj e
    exact x_zret (pc := 29) rfl (Or.inl rfl) dX9_isUnder_29
noncomputable def f_X9_isUnder (h : Hp) (i0 : Int32) (i1 : Int32) : Option (Rs Int32) :=
  if i0 = i1 then (
    some (h, .inr (iN 1))
  ) else (
    if i1 = 0 then (
      if i0 < (iN 4) then (
        some (h, .inr (iN 1))
      ) else (
        f_X9_isUnder_L14 h i0 i1
      )
    ) else (
      f_X9_isUnder_L14 h i0 i1
    )
  )
theorem p_X9_isUnder {l : Launch} {K : Ctx} (hl : l.stackTraces = false) {h : Hp} {i0 : Int32} {i1 : Int32} {t : Rs Int32} (e : f_X9_isUnder h i0 i1 = some t) : X l K mM_X9_isUnder (tgI t) 0 [(0, .int i0), (1, .int i1)] [] h := by
  unfold f_X9_isUnder at e
  refine x_iload_n (pc := 0) 0 dX9_isUnder_0 rfl ?_
  refine x_iload_n (pc := 1) 1 dX9_isUnder_1 rfl ?_
  rcases ite_some e with ⟨q1, e⟩ | ⟨q1, e⟩
  · refine x_icmp_eq_t (pc := 2) (t := 24) dX9_isUnder_2 (by decide) q1 ?_
    refine x_iconst (pc := 24) dX9_isUnder_24 ?_
    refine x_goto (pc := 25) (t := 29) dX9_isUnder_25 (by decide) ?_
    cases Option.some.inj e
    exact x_zret (pc := 29) rfl (Or.inr rfl) dX9_isUnder_29
  · refine x_icmp_eq_f (pc := 2) (t := 24) dX9_isUnder_2 (by decide) q1 ?_
    refine x_iload_n (pc := 5) 1 dX9_isUnder_5 rfl ?_
    rcases ite_some e with ⟨q2, e⟩ | ⟨q2, e⟩
    · refine x_if_ne_f (pc := 6) (t := 14) dX9_isUnder_6 (by decide) q2 ?_
      refine x_iload_n (pc := 9) 0 dX9_isUnder_9 rfl ?_
      refine x_iconst (pc := 10) dX9_isUnder_10 ?_
      rcases ite_some e with ⟨q3, e⟩ | ⟨q3, e⟩
      · refine x_icmp_lt_t (pc := 11) (t := 24) dX9_isUnder_11 (by decide) q3 ?_
        refine x_iconst (pc := 24) dX9_isUnder_24 ?_
        refine x_goto (pc := 25) (t := 29) dX9_isUnder_25 (by decide) ?_
        cases Option.some.inj e
        exact x_zret (pc := 29) rfl (Or.inr rfl) dX9_isUnder_29
      · refine x_icmp_lt_f (pc := 11) (t := 24) dX9_isUnder_11 (by decide) q3 ?_
        exact p_X9_isUnder_L14 hl e
    · refine x_if_ne_t (pc := 6) (t := 14) dX9_isUnder_6 (by decide) q2 ?_
      exact p_X9_isUnder_L14 hl e
abbrev w_X9_isUnder : Cond := (Cond.code yX9_isUnder cX9_isUnder 2 (Option.some Jvm.ClassFile.FieldType.boolean))
theorem mf_X9_isUnder : MF yX9_isUnder w_X9_isUnder cX9_isUnder 2 (Option.some Jvm.ClassFile.FieldType.boolean) 2 := ⟨⟨rfl, tw_9_17, by decide⟩, tw_1_11, ⟨by decide, by decide⟩, by decide +kernel⟩
theorem c_X9_isUnder {l : Launch} {K : Ctx} (hl : l.stackTraces = false) {h : Hp} {i0 : Int32} {i1 : Int32} {t : Rs Int32} (e : f_X9_isUnder h i0 i1 = some t) : Ctr l K 8 yX9_isUnder w_X9_isUnder [.int i0, .int i1] h (tgI t) :=
  Ctr.of hl mf_X9_isUnder false (fun q => nomatch q) rfl (leb rfl) (p_X9_isUnder hl e)
/-! ## TableColumnBalancerModel.copyTo -/
abbrev mM_X9_copyTo : Mi := (10, yX9_copyTo.cls, cX9_copyTo, 5, (Option.some Jvm.ClassFile.FieldType.int), [], false)
noncomputable def f_X9_copyTo_L20 (h : Hp) (a0 : Nat) : Option (Rs Int32) :=
  chk (okr h a0 9) <|
  bnd (f_X9_fails h a0 (iN 1)) fun h2 r3 =>
  some (h2, .inr r3)
theorem p_X9_copyTo_L20 {l : Launch} {K : Ctx} (hl : l.stackTraces = false) {h : Hp} {a0 : Nat} {t : Rs Int32} (e : f_X9_copyTo_L20 h a0 = some t) : X l K mM_X9_copyTo (tgI t) 20 [(0, .ref a0)] [] h := by
  unfold f_X9_copyTo_L20 at e
  refine x_aload_n (pc := 20) 0 dX9_copyTo_20 rfl ?_
  refine x_iconst (pc := 21) dX9_copyTo_21 ?_
  obtain ⟨q1, e⟩ := chk_some e
  rcases bnd_some e with ⟨h2, r3, ec, rfl⟩ | ⟨h2, r3, ec, e⟩
  · exact y_callV_x (pc := 22) (c_X9_fails hl ec) q1 mf_X9_fails tw_7_24 ts_6_7 lf_X9_95 rfl rfl dX9_copyTo_22 (by decide) rfl rfl (leb rfl) (xx_out0 rfl)
  refine y_callV_i (pc := 22) (c_X9_fails hl ec) q1 mf_X9_fails tw_7_24 ts_6_7 lf_X9_95 rfl rfl dX9_copyTo_22 (by decide) rfl rfl (leb rfl) ?_
  cases Option.some.inj e
  exact x_iret (pc := 25) rfl dX9_copyTo_25
noncomputable def f_X9_copyTo_B91 (k91 : Hp → Nat → Int32 → Int32 → Int32 → Int32 → Option (Rs Int32)) (h : Hp) (a0 : Nat) (i1 : Int32) (i2 : Int32) (i3 : Int32) (i4 : Int32) : Option (Rs Int32) :=
  if (iN 31) ≤ i4 then (
    chk (okr h a0 9) <|
    chk (okr h (qR h a0 11) 22) <|
    chk (vp_in (((iN 3) * i1) + i2) (qW h (qR h a0 11))) <|
    lt (putI h (qR h a0 11) (Int32.toNatClampNeg (((iN 3) * i1) + i2)) (iN 1)) fun h5 =>
    bnd (f_X9_of h5 a0 i3 (iN 3)) fun h6 r7 =>
    some (h6, .inr r7)
  ) else (
    chk (okr h a0 9) <|
    chk (okr h (qR h a0 10) 20) <|
    bnd (f_X9_of h a0 i3 i4) fun h10 r11 =>
    chk (okr h10 (qR h a0 10) 20) <|
    chk (vp_in (((iN 31) * (((iN 3) * i1) + i2)) + i4) (qW h10 (qR h a0 10))) <|
    lt (putI h10 (qR h a0 10) (Int32.toNatClampNeg (((iN 31) * (((iN 3) * i1) + i2)) + i4)) r11) fun h14 =>
    k91 h14 a0 i1 i2 i3 (i4 + iN 1)
  )
theorem p_X9_copyTo_B91 {l : Launch} {K : Ctx} (hl : l.stackTraces = false) {k91 : Hp → Nat → Int32 → Int32 → Int32 → Int32 → Option (Rs Int32)} (hk91 : ∀ (h : Hp) (a0 : Nat) (i1 : Int32) (i2 : Int32) (i3 : Int32) (i4 : Int32) (t : Rs Int32), k91 h a0 i1 i2 i3 i4 = some t → X l K mM_X9_copyTo (tgI t) 91 [(0, .ref a0), (1, .int i1), (2, .int i2), (3, .int i3), (4, .int i4)] [] h) {h : Hp} {a0 : Nat} {i1 : Int32} {i2 : Int32} {i3 : Int32} {i4 : Int32} {t : Rs Int32} (e : f_X9_copyTo_B91 k91 h a0 i1 i2 i3 i4 = some t) : X l K mM_X9_copyTo (tgI t) 91 [(0, .ref a0), (1, .int i1), (2, .int i2), (3, .int i3), (4, .int i4)] [] h := by
  unfold f_X9_copyTo_B91 at e
  refine x_iload (pc := 91) 4 dX9_copyTo_91 rfl ?_
  refine x_bipush (pc := 93) (v := iN 31) dX9_copyTo_93 rfl ?_
  rcases ite_some e with ⟨q1, e⟩ | ⟨q1, e⟩
  · refine x_icmp_ge_t (pc := 95) (t := 127) dX9_copyTo_95 (by decide) q1 ?_
    refine x_aload_n (pc := 127) 0 dX9_copyTo_127 rfl ?_
    obtain ⟨q2, e⟩ := chk_some e
    obtain ⟨q3, e⟩ := chk_some e
    refine x_getR (pc := 128) gf_X9_35 rfl dX9_copyTo_128 q2 q3.1 ?_
    refine x_iconst (pc := 131) dX9_copyTo_131 ?_
    refine x_iload_n (pc := 132) 1 dX9_copyTo_132 rfl ?_
    refine x_imul (pc := 133) dX9_copyTo_133 ?_
    refine x_iload_n (pc := 134) 2 dX9_copyTo_134 rfl ?_
    refine x_iadd (pc := 135) dX9_copyTo_135 ?_
    refine x_iconst (pc := 136) dX9_copyTo_136 ?_
    obtain ⟨q4, e⟩ := chk_some e
    replace e := lt_go e
    refine x_zast (pc := 137) dX9_copyTo_137 (Or.inr rfl) q3 q4 ?_
    refine x_aload_n (pc := 138) 0 dX9_copyTo_138 rfl ?_
    refine x_iload_n (pc := 139) 3 dX9_copyTo_139 rfl ?_
    refine x_iconst (pc := 140) dX9_copyTo_140 ?_
    rcases bnd_some e with ⟨h6, r7, ec, rfl⟩ | ⟨h6, r7, ec, e⟩
    · exact y_callV_x (pc := 141) (c_X9_of hl ec) (okr_pI q2) mf_X9_of tw_7_63 ts_6_12 lf_X9_91 rfl rfl dX9_copyTo_141 (by decide) rfl rfl (leb rfl) (xx_out0 rfl)
    refine y_callV_i (pc := 141) (c_X9_of hl ec) (okr_pI q2) mf_X9_of tw_7_63 ts_6_12 lf_X9_91 rfl rfl dX9_copyTo_141 (by decide) rfl rfl (leb rfl) ?_
    cases Option.some.inj e
    exact x_iret (pc := 144) rfl dX9_copyTo_144
  · refine x_icmp_ge_f (pc := 95) (t := 127) dX9_copyTo_95 (by decide) q1 ?_
    refine x_aload_n (pc := 98) 0 dX9_copyTo_98 rfl ?_
    obtain ⟨q8, e⟩ := chk_some e
    obtain ⟨q9, e⟩ := chk_some e
    refine x_getR (pc := 99) gf_X9_32 rfl dX9_copyTo_99 q8 q9.1 ?_
    refine x_bipush (pc := 102) (v := iN 31) dX9_copyTo_102 rfl ?_
    refine x_iconst (pc := 104) dX9_copyTo_104 ?_
    refine x_iload_n (pc := 105) 1 dX9_copyTo_105 rfl ?_
    refine x_imul (pc := 106) dX9_copyTo_106 ?_
    refine x_iload_n (pc := 107) 2 dX9_copyTo_107 rfl ?_
    refine x_iadd (pc := 108) dX9_copyTo_108 ?_
    refine x_imul (pc := 109) dX9_copyTo_109 ?_
    refine x_iload (pc := 110) 4 dX9_copyTo_110 rfl ?_
    refine x_iadd (pc := 112) dX9_copyTo_112 ?_
    refine x_aload_n (pc := 113) 0 dX9_copyTo_113 rfl ?_
    refine x_iload_n (pc := 114) 3 dX9_copyTo_114 rfl ?_
    refine x_iload (pc := 115) 4 dX9_copyTo_115 rfl ?_
    rcases bnd_some e with ⟨h10, r11, ec, rfl⟩ | ⟨h10, r11, ec, e⟩
    · exact y_callV_x (pc := 117) (c_X9_of hl ec) q8 mf_X9_of tw_7_63 ts_6_12 lf_X9_91 rfl rfl dX9_copyTo_117 (by decide) rfl rfl (leb rfl) (xx_out0 rfl)
    refine y_callV_i (pc := 117) (c_X9_of hl ec) q8 mf_X9_of tw_7_63 ts_6_12 lf_X9_91 rfl rfl dX9_copyTo_117 (by decide) rfl rfl (leb rfl) ?_
    obtain ⟨q12, e⟩ := chk_some e
    obtain ⟨q13, e⟩ := chk_some e
    replace e := lt_go e
    refine x_iast (pc := 120) dX9_copyTo_120 q12 q13 ?_
    refine x_iinc (pc := 121) 4 dX9_copyTo_121 rfl (by decide) rfl ?_
    refine x_goto (pc := 124) (t := 91) dX9_copyTo_124 (by decide) ?_
    exact x_sub1 (hk91 _ _ _ _ _ _ _ e) [1, 2, 3, 4, 0] rfl
noncomputable def f_X9_copyTo_L91 (n : Nat) : Hp → Nat → Int32 → Int32 → Int32 → Int32 → Option (Rs Int32) := Nat.rec (motive := fun _ => Hp → Nat → Int32 → Int32 → Int32 → Int32 → Option (Rs Int32)) (fun _ _ _ _ _ _ => none) (fun _ r => f_X9_copyTo_B91 r) n
theorem p_X9_copyTo_L91 {l : Launch} {K : Ctx} (hl : l.stackTraces = false) : ∀ (n : Nat) (h : Hp) (a0 : Nat) (i1 : Int32) (i2 : Int32) (i3 : Int32) (i4 : Int32) (t : Rs Int32) (e : f_X9_copyTo_L91 n h a0 i1 i2 i3 i4 = some t), X l K mM_X9_copyTo (tgI t) 91 [(0, .ref a0), (1, .int i1), (2, .int i2), (3, .int i3), (4, .int i4)] [] h := by
  intro n
  induction n with
  | zero => exact fun _ _ _ _ _ _ _ e => nomatch (show (none : Option (Rs Int32)) = some _ from e)
  | succ n ih => exact fun h a0 i1 i2 i3 i4 t e => p_X9_copyTo_B91 hl (fun h a0 i1 i2 i3 i4 t e => ih h a0 i1 i2 i3 i4 t e) e
noncomputable def f_X9_copyTo (h : Hp) (a0 : Nat) (i1 : Int32) (i2 : Int32) (i3 : Int32) : Option (Rs Int32) :=
  chk (okr h a0 9) <|
  lt (putI h a0 0 (iN 0)) fun h2 =>
  bnd (f_X9_isClip h2 i1) fun h3 r4 =>
  if r4 = 0 then (
    f_X9_copyTo_L20 h3 a0
  ) else (
    chk (okr h3 a0 9) <|
    bnd (f_X9_isCell h3 a0 i3) fun h7 r8 =>
    if r8 = 0 then (
      f_X9_copyTo_L20 h7 a0
    ) else (
      chk (okr h7 a0 9) <|
      chk (okr h7 (qR h7 a0 8) 20) <|
      chk (vp_in i1 (qW h7 (qR h7 a0 8))) <|
      if (qI h7 (qR h7 a0 8) (Int32.toNatClampNeg i1)) = (iN (-1)) then (
        bnd (f_X9_fails h7 a0 (iN 2)) fun h14 r15 =>
        some (h14, .inr r15)
      ) else (
        chk (okr h7 (qR h7 a0 9) 20) <|
        chk (vp_in i1 (qW h7 (qR h7 a0 9))) <|
        bnd (f_X9_in h7 i2 (iN 0) ((qI h7 (qR h7 a0 9) (Int32.toNatClampNeg i1)) - (iN 1))) fun h18 r19 =>
        if r19 = 0 then (
          chk (okr h18 a0 9) <|
          bnd (f_X9_fails h18 a0 (iN 3)) fun h22 r23 =>
          some (h22, .inr r23)
        ) else (
          chk (okr h18 a0 9) <|
          bnd (f_X9_of h18 a0 i3 (iN 3)) fun h25 r26 =>
          chk (okr h25 a0 9) <|
          chk (okr h25 (qR h25 a0 8) 20) <|
          chk (vp_in i1 (qW h25 (qR h25 a0 8))) <|
          bnd (f_X9_isUnder h25 r26 (qI h25 (qR h25 a0 8) (Int32.toNatClampNeg i1))) fun h30 r31 =>
          if r31 = 0 then (
            chk (okr h30 a0 9) <|
            bnd (f_X9_fails h30 a0 (iN 4)) fun h34 r35 =>
            some (h34, .inr r35)
          ) else (
            f_X9_copyTo_L91 2000 h30 a0 i1 i2 i3 (iN 0)
          )
        )
      )
    )
  )
theorem p_X9_copyTo {l : Launch} {K : Ctx} (hl : l.stackTraces = false) {h : Hp} {a0 : Nat} {i1 : Int32} {i2 : Int32} {i3 : Int32} {t : Rs Int32} (e : f_X9_copyTo h a0 i1 i2 i3 = some t) : X l K mM_X9_copyTo (tgI t) 0 [(0, .ref a0), (1, .int i1), (2, .int i2), (3, .int i3)] [] h := by
  unfold f_X9_copyTo at e
  refine x_aload_n (pc := 0) 0 dX9_copyTo_0 rfl ?_
  refine x_iconst (pc := 1) dX9_copyTo_1 ?_
  obtain ⟨q1, e⟩ := chk_some e
  replace e := lt_go e
  refine x_putI (pc := 2) pf_X9_84 rfl rfl rfl dX9_copyTo_2 q1 ?_
  refine x_iload_n (pc := 5) 1 dX9_copyTo_5 rfl ?_
  rcases bnd_some e with ⟨h3, r4, ec, rfl⟩ | ⟨h3, r4, ec, e⟩
  · exact y_callS_x (pc := 6) (c_X9_isClip hl ec) mf_X9_isClip tw_9_9 lf_X9_391 dX9_copyTo_6 (by decide) rfl rfl (leb rfl) (xx_out0 rfl)
  refine y_callS_i (pc := 6) (c_X9_isClip hl ec) mf_X9_isClip tw_9_9 lf_X9_391 dX9_copyTo_6 (by decide) rfl rfl (leb rfl) ?_
  rcases ite_some e with ⟨q5, e⟩ | ⟨q5, e⟩
  · refine x_if_eq_t (pc := 9) (t := 20) dX9_copyTo_9 (by decide) q5 ?_
    exact x_sub1 (p_X9_copyTo_L20 hl e) [0] rfl
  · refine x_if_eq_f (pc := 9) (t := 20) dX9_copyTo_9 (by decide) q5 ?_
    refine x_aload_n (pc := 12) 0 dX9_copyTo_12 rfl ?_
    refine x_iload_n (pc := 13) 3 dX9_copyTo_13 rfl ?_
    obtain ⟨q6, e⟩ := chk_some e
    rcases bnd_some e with ⟨h7, r8, ec, rfl⟩ | ⟨h7, r8, ec, e⟩
    · exact y_callV_x (pc := 14) (c_X9_isCell hl ec) q6 mf_X9_isCell tw_7_75 ts_6_14 lf_X9_120 rfl rfl dX9_copyTo_14 (by decide) rfl rfl (leb rfl) (xx_out0 rfl)
    refine y_callV_i (pc := 14) (c_X9_isCell hl ec) q6 mf_X9_isCell tw_7_75 ts_6_14 lf_X9_120 rfl rfl dX9_copyTo_14 (by decide) rfl rfl (leb rfl) ?_
    rcases ite_some e with ⟨q9, e⟩ | ⟨q9, e⟩
    · refine x_if_ne_f (pc := 17) (t := 26) dX9_copyTo_17 (by decide) q9 ?_
      exact x_sub1 (p_X9_copyTo_L20 hl e) [0] rfl
    · refine x_if_ne_t (pc := 17) (t := 26) dX9_copyTo_17 (by decide) q9 ?_
      refine x_aload_n (pc := 26) 0 dX9_copyTo_26 rfl ?_
      obtain ⟨q10, e⟩ := chk_some e
      obtain ⟨q11, e⟩ := chk_some e
      refine x_getR (pc := 27) gf_X9_26 rfl dX9_copyTo_27 q10 q11.1 ?_
      refine x_iload_n (pc := 30) 1 dX9_copyTo_30 rfl ?_
      obtain ⟨q12, e⟩ := chk_some e
      refine x_iald (pc := 31) dX9_copyTo_31 q11 q12 ?_
      refine x_iconst (pc := 32) dX9_copyTo_32 ?_
      rcases ite_some e with ⟨q13, e⟩ | ⟨q13, e⟩
      · refine x_icmp_ne_f (pc := 33) (t := 42) dX9_copyTo_33 (by decide) q13 ?_
        refine x_aload_n (pc := 36) 0 dX9_copyTo_36 rfl ?_
        refine x_iconst (pc := 37) dX9_copyTo_37 ?_
        rcases bnd_some e with ⟨h14, r15, ec, rfl⟩ | ⟨h14, r15, ec, e⟩
        · exact y_callV_x (pc := 38) (c_X9_fails hl ec) q10 mf_X9_fails tw_7_24 ts_6_7 lf_X9_95 rfl rfl dX9_copyTo_38 (by decide) rfl rfl (leb rfl) (xx_out0 rfl)
        refine y_callV_i (pc := 38) (c_X9_fails hl ec) q10 mf_X9_fails tw_7_24 ts_6_7 lf_X9_95 rfl rfl dX9_copyTo_38 (by decide) rfl rfl (leb rfl) ?_
        cases Option.some.inj e
        exact x_iret (pc := 41) rfl dX9_copyTo_41
      · refine x_icmp_ne_t (pc := 33) (t := 42) dX9_copyTo_33 (by decide) q13 ?_
        refine x_iload_n (pc := 42) 2 dX9_copyTo_42 rfl ?_
        refine x_iconst (pc := 43) dX9_copyTo_43 ?_
        refine x_aload_n (pc := 44) 0 dX9_copyTo_44 rfl ?_
        obtain ⟨q16, e⟩ := chk_some e
        refine x_getR (pc := 45) gf_X9_29 rfl dX9_copyTo_45 q10 q16.1 ?_
        refine x_iload_n (pc := 48) 1 dX9_copyTo_48 rfl ?_
        obtain ⟨q17, e⟩ := chk_some e
        refine x_iald (pc := 49) dX9_copyTo_49 q16 q17 ?_
        refine x_iconst (pc := 50) dX9_copyTo_50 ?_
        refine x_isub (pc := 51) dX9_copyTo_51 ?_
        rcases bnd_some e with ⟨h18, r19, ec, rfl⟩ | ⟨h18, r19, ec, e⟩
        · exact y_callS_x (pc := 52) (c_X9_in hl ec) mf_X9_in tw_7_20 lf_X9_87 dX9_copyTo_52 (by decide) rfl rfl (leb rfl) (xx_out0 rfl)
        refine y_callS_i (pc := 52) (c_X9_in hl ec) mf_X9_in tw_7_20 lf_X9_87 dX9_copyTo_52 (by decide) rfl rfl (leb rfl) ?_
        rcases ite_some e with ⟨q20, e⟩ | ⟨q20, e⟩
        · refine x_if_ne_f (pc := 55) (t := 64) dX9_copyTo_55 (by decide) q20 ?_
          refine x_aload_n (pc := 58) 0 dX9_copyTo_58 rfl ?_
          refine x_iconst (pc := 59) dX9_copyTo_59 ?_
          obtain ⟨q21, e⟩ := chk_some e
          rcases bnd_some e with ⟨h22, r23, ec, rfl⟩ | ⟨h22, r23, ec, e⟩
          · exact y_callV_x (pc := 60) (c_X9_fails hl ec) q21 mf_X9_fails tw_7_24 ts_6_7 lf_X9_95 rfl rfl dX9_copyTo_60 (by decide) rfl rfl (leb rfl) (xx_out0 rfl)
          refine y_callV_i (pc := 60) (c_X9_fails hl ec) q21 mf_X9_fails tw_7_24 ts_6_7 lf_X9_95 rfl rfl dX9_copyTo_60 (by decide) rfl rfl (leb rfl) ?_
          cases Option.some.inj e
          exact x_iret (pc := 63) rfl dX9_copyTo_63
        · refine x_if_ne_t (pc := 55) (t := 64) dX9_copyTo_55 (by decide) q20 ?_
          refine x_aload_n (pc := 64) 0 dX9_copyTo_64 rfl ?_
          refine x_iload_n (pc := 65) 3 dX9_copyTo_65 rfl ?_
          refine x_iconst (pc := 66) dX9_copyTo_66 ?_
          obtain ⟨q24, e⟩ := chk_some e
          rcases bnd_some e with ⟨h25, r26, ec, rfl⟩ | ⟨h25, r26, ec, e⟩
          · exact y_callV_x (pc := 67) (c_X9_of hl ec) q24 mf_X9_of tw_7_63 ts_6_12 lf_X9_91 rfl rfl dX9_copyTo_67 (by decide) rfl rfl (leb rfl) (xx_out0 rfl)
          refine y_callV_i (pc := 67) (c_X9_of hl ec) q24 mf_X9_of tw_7_63 ts_6_12 lf_X9_91 rfl rfl dX9_copyTo_67 (by decide) rfl rfl (leb rfl) ?_
          refine x_aload_n (pc := 70) 0 dX9_copyTo_70 rfl ?_
          obtain ⟨q27, e⟩ := chk_some e
          obtain ⟨q28, e⟩ := chk_some e
          refine x_getR (pc := 71) gf_X9_26 rfl dX9_copyTo_71 q27 q28.1 ?_
          refine x_iload_n (pc := 74) 1 dX9_copyTo_74 rfl ?_
          obtain ⟨q29, e⟩ := chk_some e
          refine x_iald (pc := 75) dX9_copyTo_75 q28 q29 ?_
          rcases bnd_some e with ⟨h30, r31, ec, rfl⟩ | ⟨h30, r31, ec, e⟩
          · exact y_callS_x (pc := 76) (c_X9_isUnder hl ec) mf_X9_isUnder tw_9_16 lf_X9_394 dX9_copyTo_76 (by decide) rfl rfl (leb rfl) (xx_out0 rfl)
          refine y_callS_i (pc := 76) (c_X9_isUnder hl ec) mf_X9_isUnder tw_9_16 lf_X9_394 dX9_copyTo_76 (by decide) rfl rfl (leb rfl) ?_
          rcases ite_some e with ⟨q32, e⟩ | ⟨q32, e⟩
          · refine x_if_ne_f (pc := 79) (t := 88) dX9_copyTo_79 (by decide) q32 ?_
            refine x_aload_n (pc := 82) 0 dX9_copyTo_82 rfl ?_
            refine x_iconst (pc := 83) dX9_copyTo_83 ?_
            obtain ⟨q33, e⟩ := chk_some e
            rcases bnd_some e with ⟨h34, r35, ec, rfl⟩ | ⟨h34, r35, ec, e⟩
            · exact y_callV_x (pc := 84) (c_X9_fails hl ec) q33 mf_X9_fails tw_7_24 ts_6_7 lf_X9_95 rfl rfl dX9_copyTo_84 (by decide) rfl rfl (leb rfl) (xx_out0 rfl)
            refine y_callV_i (pc := 84) (c_X9_fails hl ec) q33 mf_X9_fails tw_7_24 ts_6_7 lf_X9_95 rfl rfl dX9_copyTo_84 (by decide) rfl rfl (leb rfl) ?_
            cases Option.some.inj e
            exact x_iret (pc := 87) rfl dX9_copyTo_87
          · refine x_if_ne_t (pc := 79) (t := 88) dX9_copyTo_79 (by decide) q32 ?_
            refine x_iconst (pc := 88) dX9_copyTo_88 ?_
            refine x_istore (pc := 89) dX9_copyTo_89 (by decide) rfl ?_
            exact x_sub1 (p_X9_copyTo_L91 hl 2000 _ _ _ _ _ _ _ e) [1, 2, 3, 4, 0] rfl
abbrev w_X9_copyTo : Cond := (Cond.code yX9_copyTo cX9_copyTo 5 (Option.some Jvm.ClassFile.FieldType.int))
theorem mf_X9_copyTo : MF yX9_copyTo w_X9_copyTo cX9_copyTo 5 (Option.some Jvm.ClassFile.FieldType.int) 3 := ⟨⟨rfl, tw_9_14, by decide⟩, tw_1_11, ⟨by decide, by decide⟩, by decide +kernel⟩
theorem c_X9_copyTo {l : Launch} {K : Ctx} (hl : l.stackTraces = false) {h : Hp} {a0 : Nat} {i1 : Int32} {i2 : Int32} {i3 : Int32} {t : Rs Int32} (e : f_X9_copyTo h a0 i1 i2 i3 = some t) : Ctr l K 10 yX9_copyTo w_X9_copyTo [.ref a0, .int i1, .int i2, .int i3] h (tgI t) :=
  Ctr.of hl mf_X9_copyTo false (fun q => nomatch q) rfl (leb rfl) (p_X9_copyTo hl e)
/-! ## TableColumnBalancer.paste -/
abbrev mM_X8_paste : Mi := (14, yX8_paste.cls, cX8_paste, 6, (Option.some Jvm.ClassFile.FieldType.int), [], false)
noncomputable def f_X8_paste_L58 (h : Hp) (a0 : Nat) (i2 : Int32) (i3 : Int32) (i4 : Int32) (a5 : Nat) (s0 : Int32) : Option (Rs Int32) :=
  bnd (f_X8_requireElement h s0) fun h1 _ =>
  chk (okr h1 a0 8) <|
  chk (okr h1 (qR h1 a0 0) 7) <|
  bnd (f_X7_hasRoom h1 (qR h1 a0 0) i3 i4 (iN 1)) fun h5 r6 =>
  bnd (f_X8_requireState h5 r6) fun h7 _ =>
  chk (okr h7 a0 8) <|
  chk (okr h7 (qR h7 a0 0) 7) <|
  bnd (f_X7_place h7 (qR h7 a0 0) i3 i4 (iN 1)) fun h11 r12 =>
  chk (okr h11 a5 2) <|
  chk (okr h11 (qR h11 a5 4) 27) <|
  chk (vp_in i2 (qW h11 (qR h11 a5 4))) <|
  chk (okr h11 (qR h11 (qR h11 a5 4) (Int32.toNatClampNeg i2)) 4) <|
  chk (okr h11 r12 4) <|
  bnd (f_X4_copyFrom h11 r12 (qR h11 (qR h11 a5 4) (Int32.toNatClampNeg i2))) fun h18 _ =>
  chk (okr h18 a0 8) <|
  bnd (f_X8_changed h18 a0) fun h21 _ =>
  chk (okr h21 a0 8) <|
  chk (okr h21 (qR h21 a0 0) 7) <|
  some (h21, .inr ((qI h21 (qR h21 a0 0) 5) - (iN 1)))
theorem p_X8_paste_L58 {l : Launch} {K : Ctx} (hl : l.stackTraces = false) {h : Hp} {a0 : Nat} {i2 : Int32} {i3 : Int32} {i4 : Int32} {a5 : Nat} {s0 : Int32} {t : Rs Int32} (e : f_X8_paste_L58 h a0 i2 i3 i4 a5 s0 = some t) : X l K mM_X8_paste (tgI t) 58 [(0, .ref a0), (2, .int i2), (3, .int i3), (4, .int i4), (5, .ref a5)] [.int s0] h := by
  unfold f_X8_paste_L58 at e
  rcases bnd_some e with ⟨h1, r2, ec, rfl⟩ | ⟨h1, r2, ec, e⟩
  · exact y_callS_x (pc := 58) (c_X8_requireElement hl ec) mf_X8_requireElement tw_5_122 lf_X8_233 dX8_paste_58 (by decide) rfl rfl (leb rfl) (xx_out0 rfl)
  refine y_callS_v (pc := 58) (c_X8_requireElement hl ec) mf_X8_requireElement tw_5_122 lf_X8_233 dX8_paste_58 (by decide) rfl rfl (leb rfl) ?_
  refine x_aload_n (pc := 61) 0 dX8_paste_61 rfl ?_
  obtain ⟨q3, e⟩ := chk_some e
  obtain ⟨q4, e⟩ := chk_some e
  refine x_getR (pc := 62) gf_X8_10 rfl dX8_paste_62 q3 q4.1 ?_
  refine x_iload_n (pc := 65) 2 dX8_paste_65 rfl ?_
  refine x_iload (pc := 66) 3 dX8_paste_66 rfl ?_
  refine x_iconst (pc := 68) dX8_paste_68 ?_
  rcases bnd_some e with ⟨h5, r6, ec, rfl⟩ | ⟨h5, r6, ec, e⟩
  · exact y_callV_x (pc := 69) (c_X7_hasRoom hl ec) q4 mf_X7_hasRoom tw_4_34 ts_3_8 lf_X8_127 rfl rfl dX8_paste_69 (by decide) rfl rfl (leb rfl) (xx_out0 rfl)
  refine y_callV_i (pc := 69) (c_X7_hasRoom hl ec) q4 mf_X7_hasRoom tw_4_34 ts_3_8 lf_X8_127 rfl rfl dX8_paste_69 (by decide) rfl rfl (leb rfl) ?_
  rcases bnd_some e with ⟨h7, r8, ec, rfl⟩ | ⟨h7, r8, ec, e⟩
  · exact y_callS_x (pc := 72) (c_X8_requireState hl ec) mf_X8_requireState tw_3_155 lf_X8_84 dX8_paste_72 (by decide) rfl rfl (leb rfl) (xx_out0 rfl)
  refine y_callS_v (pc := 72) (c_X8_requireState hl ec) mf_X8_requireState tw_3_155 lf_X8_84 dX8_paste_72 (by decide) rfl rfl (leb rfl) ?_
  refine x_aload_n (pc := 75) 0 dX8_paste_75 rfl ?_
  obtain ⟨q9, e⟩ := chk_some e
  obtain ⟨q10, e⟩ := chk_some e
  refine x_getR (pc := 76) gf_X8_10 rfl dX8_paste_76 q9 q10.1 ?_
  refine x_iload_n (pc := 79) 2 dX8_paste_79 rfl ?_
  refine x_iload (pc := 80) 3 dX8_paste_80 rfl ?_
  refine x_iconst (pc := 82) dX8_paste_82 ?_
  rcases bnd_some e with ⟨h11, r12, ec, rfl⟩ | ⟨h11, r12, ec, e⟩
  · exact y_callV_x (pc := 83) (c_X7_place hl ec) q10 mf_X7_place tw_4_39 ts_3_9 lf_X8_130 rfl rfl dX8_paste_83 (by decide) rfl rfl (leb rfl) (xx_out0 rfl)
  refine y_callV_i (pc := 83) (c_X7_place hl ec) q10 mf_X7_place tw_4_39 ts_3_9 lf_X8_130 rfl rfl dX8_paste_83 (by decide) rfl rfl (leb rfl) ?_
  refine x_aload (pc := 86) 4 dX8_paste_86 rfl ?_
  obtain ⟨q13, e⟩ := chk_some e
  obtain ⟨q14, e⟩ := chk_some e
  refine x_getR (pc := 88) gf_X8_329 rfl dX8_paste_88 q13 q14.1 ?_
  refine x_iload_n (pc := 91) 1 dX8_paste_91 rfl ?_
  obtain ⟨q15, e⟩ := chk_some e
  obtain ⟨q16, e⟩ := chk_some e
  refine x_aald (pc := 92) (t := 3) (by decide) dX8_paste_92 q14 q15 q16.1 ?_
  obtain ⟨q17, e⟩ := chk_some e
  rcases bnd_some e with ⟨h18, r19, ec, rfl⟩ | ⟨h18, r19, ec, e⟩
  · exact y_callV_x (pc := 93) (c_X4_copyFrom hl ec) q17 mf_X4_copyFrom tw_3_68 ts_3_1 lf_X8_333 rfl rfl dX8_paste_93 (by decide) rfl rfl (leb rfl) (xx_out0 rfl)
  refine y_callV_v (pc := 93) (c_X4_copyFrom hl ec) q17 mf_X4_copyFrom tw_3_68 ts_3_1 lf_X8_333 rfl rfl dX8_paste_93 (by decide) rfl rfl (leb rfl) ?_
  refine x_aload_n (pc := 96) 0 dX8_paste_96 rfl ?_
  obtain ⟨q20, e⟩ := chk_some e
  rcases bnd_some e with ⟨h21, r22, ec, rfl⟩ | ⟨h21, r22, ec, e⟩
  · exact y_callV_x (pc := 97) (c_X8_changed hl ec) q20 mf_X8_changed tw_3_182 ts_3_5 lf_X8_93 rfl rfl dX8_paste_97 (by decide) rfl rfl (leb rfl) (xx_out0 rfl)
  refine y_callV_v (pc := 97) (c_X8_changed hl ec) q20 mf_X8_changed tw_3_182 ts_3_5 lf_X8_93 rfl rfl dX8_paste_97 (by decide) rfl rfl (leb rfl) ?_
  refine x_aload_n (pc := 100) 0 dX8_paste_100 rfl ?_
  obtain ⟨q23, e⟩ := chk_some e
  obtain ⟨q24, e⟩ := chk_some e
  refine x_getR (pc := 101) gf_X8_10 rfl dX8_paste_101 q23 q24.1 ?_
  refine x_getI (pc := 104) gf_X8_80 rfl dX8_paste_104 q24 ?_
  refine x_iconst (pc := 107) dX8_paste_107 ?_
  refine x_isub (pc := 108) dX8_paste_108 ?_
  cases Option.some.inj e
  exact x_iret (pc := 109) rfl dX8_paste_109
noncomputable def f_X8_paste_L57 (h : Hp) (a0 : Nat) (i2 : Int32) (i3 : Int32) (i4 : Int32) (a5 : Nat) : Option (Rs Int32) :=
  f_X8_paste_L58 h a0 i2 i3 i4 a5 (iN 0)
theorem p_X8_paste_L57 {l : Launch} {K : Ctx} (hl : l.stackTraces = false) {h : Hp} {a0 : Nat} {i2 : Int32} {i3 : Int32} {i4 : Int32} {a5 : Nat} {t : Rs Int32} (e : f_X8_paste_L57 h a0 i2 i3 i4 a5 = some t) : X l K mM_X8_paste (tgI t) 57 [(0, .ref a0), (2, .int i2), (3, .int i3), (4, .int i4), (5, .ref a5)] [] h := by
  unfold f_X8_paste_L57 at e
  refine x_iconst (pc := 57) dX8_paste_57 ?_
  exact p_X8_paste_L58 hl e
noncomputable def f_X8_paste (h : Hp) (a0 : Nat) (i1 : Int32) (i2 : Int32) (i3 : Int32) (i4 : Int32) : Option (Rs Int32) :=
  bnd (f_X8_isWithin h i1 (iN 0) (iN 1)) fun h1 r2 =>
  bnd (f_X8_requireIndex h1 r2) fun h3 _ =>
  chk (okr h3 a0 8) <|
  bnd (f_X8_requireRow h3 a0 i3) fun h6 _ =>
  chk (okr h6 a0 8) <|
  bnd (f_X8_requireColumn h6 a0 i4) fun h9 _ =>
  chk (okr h9 a0 8) <|
  chk (okr h9 (qR h9 a0 9) 26) <|
  chk (vp_in i1 (qW h9 (qR h9 a0 9))) <|
  chk (okr h9 (qR h9 (qR h9 a0 9) (Int32.toNatClampNeg i1)) 2) <|
  bnd (f_X8_isWithin h9 i2 (iN 0) ((qI h9 (qR h9 (qR h9 a0 9) (Int32.toNatClampNeg i1)) 2) - (iN 1))) fun h15 r16 =>
  if r16 = 0 then (
    f_X8_paste_L57 h15 a0 i2 i3 i4 (qR h9 (qR h9 a0 9) (Int32.toNatClampNeg i1))
  ) else (
    chk (okr h15 (qR h9 (qR h9 a0 9) (Int32.toNatClampNeg i1)) 2) <|
    chk (okr h15 (qR h15 (qR h9 (qR h9 a0 9) (Int32.toNatClampNeg i1)) 3) 22) <|
    chk (vp_in i2 (qW h15 (qR h15 (qR h9 (qR h9 a0 9) (Int32.toNatClampNeg i1)) 3))) <|
    if (qI h15 (qR h15 (qR h9 (qR h9 a0 9) (Int32.toNatClampNeg i1)) 3) (Int32.toNatClampNeg i2)) = 0 then (
      f_X8_paste_L57 h15 a0 i2 i3 i4 (qR h9 (qR h9 a0 9) (Int32.toNatClampNeg i1))
    ) else (
      f_X8_paste_L58 h15 a0 i2 i3 i4 (qR h9 (qR h9 a0 9) (Int32.toNatClampNeg i1)) (iN 1)
    )
  )
theorem p_X8_paste {l : Launch} {K : Ctx} (hl : l.stackTraces = false) {h : Hp} {a0 : Nat} {i1 : Int32} {i2 : Int32} {i3 : Int32} {i4 : Int32} {t : Rs Int32} (e : f_X8_paste h a0 i1 i2 i3 i4 = some t) : X l K mM_X8_paste (tgI t) 0 [(0, .ref a0), (1, .int i1), (2, .int i2), (3, .int i3), (4, .int i4)] [] h := by
  unfold f_X8_paste at e
  refine x_iload_n (pc := 0) 1 dX8_paste_0 rfl ?_
  refine x_iconst (pc := 1) dX8_paste_1 ?_
  refine x_iconst (pc := 2) dX8_paste_2 ?_
  rcases bnd_some e with ⟨h1, r2, ec, rfl⟩ | ⟨h1, r2, ec, e⟩
  · exact y_callS_x (pc := 3) (c_X8_isWithin hl ec) mf_X8_isWithin tw_3_26 lf_X8_72 dX8_paste_3 (by decide) rfl rfl (leb rfl) (xx_out0 rfl)
  refine y_callS_i (pc := 3) (c_X8_isWithin hl ec) mf_X8_isWithin tw_3_26 lf_X8_72 dX8_paste_3 (by decide) rfl rfl (leb rfl) ?_
  rcases bnd_some e with ⟨h3, r4, ec, rfl⟩ | ⟨h3, r4, ec, e⟩
  · exact y_callS_x (pc := 6) (c_X8_requireIndex hl ec) mf_X8_requireIndex tw_3_225 lf_X8_96 dX8_paste_6 (by decide) rfl rfl (leb rfl) (xx_out0 rfl)
  refine y_callS_v (pc := 6) (c_X8_requireIndex hl ec) mf_X8_requireIndex tw_3_225 lf_X8_96 dX8_paste_6 (by decide) rfl rfl (leb rfl) ?_
  refine x_aload_n (pc := 9) 0 dX8_paste_9 rfl ?_
  refine x_iload_n (pc := 10) 3 dX8_paste_10 rfl ?_
  obtain ⟨q5, e⟩ := chk_some e
  rcases bnd_some e with ⟨h6, r7, ec, rfl⟩ | ⟨h6, r7, ec, e⟩
  · exact y_callV_x (pc := 11) (c_X8_requireRow hl ec) q5 mf_X8_requireRow tw_4_30 ts_3_7 lf_X8_124 rfl rfl dX8_paste_11 (by decide) rfl rfl (leb rfl) (xx_out0 rfl)
  refine y_callV_v (pc := 11) (c_X8_requireRow hl ec) q5 mf_X8_requireRow tw_4_30 ts_3_7 lf_X8_124 rfl rfl dX8_paste_11 (by decide) rfl rfl (leb rfl) ?_
  refine x_aload_n (pc := 14) 0 dX8_paste_14 rfl ?_
  refine x_iload (pc := 15) 4 dX8_paste_15 rfl ?_
  obtain ⟨q8, e⟩ := chk_some e
  rcases bnd_some e with ⟨h9, r10, ec, rfl⟩ | ⟨h9, r10, ec, e⟩
  · exact y_callV_x (pc := 17) (c_X8_requireColumn hl ec) q8 mf_X8_requireColumn tw_4_11 ts_3_6 lf_X8_108 rfl rfl dX8_paste_17 (by decide) rfl rfl (leb rfl) (xx_out0 rfl)
  refine y_callV_v (pc := 17) (c_X8_requireColumn hl ec) q8 mf_X8_requireColumn tw_4_11 ts_3_6 lf_X8_108 rfl rfl dX8_paste_17 (by decide) rfl rfl (leb rfl) ?_
  refine x_aload_n (pc := 20) 0 dX8_paste_20 rfl ?_
  obtain ⟨q11, e⟩ := chk_some e
  obtain ⟨q12, e⟩ := chk_some e
  refine x_getR (pc := 21) gf_X8_55 rfl dX8_paste_21 q11 q12.1 ?_
  refine x_iload_n (pc := 24) 1 dX8_paste_24 rfl ?_
  obtain ⟨q13, e⟩ := chk_some e
  obtain ⟨q14, e⟩ := chk_some e
  refine x_aald (pc := 25) (t := 2) (by decide) dX8_paste_25 q12 q13 q14.1 ?_
  refine x_astore (pc := 26) dX8_paste_26 (by decide) rfl ?_
  refine x_iload_n (pc := 28) 3 dX8_paste_28 rfl ?_
  refine x_iconst (pc := 29) dX8_paste_29 ?_
  refine x_aload (pc := 30) 0 dX8_paste_30 rfl ?_
  refine x_getI (pc := 32) gf_X8_323 rfl dX8_paste_32 q14 ?_
  refine x_iconst (pc := 35) dX8_paste_35 ?_
  refine x_isub (pc := 36) dX8_paste_36 ?_
  rcases bnd_some e with ⟨h15, r16, ec, rfl⟩ | ⟨h15, r16, ec, e⟩
  · exact y_callS_x (pc := 37) (c_X8_isWithin hl ec) mf_X8_isWithin tw_3_26 lf_X8_72 dX8_paste_37 (by decide) rfl rfl (leb rfl) (xx_out0 rfl)
  refine y_callS_i (pc := 37) (c_X8_isWithin hl ec) mf_X8_isWithin tw_3_26 lf_X8_72 dX8_paste_37 (by decide) rfl rfl (leb rfl) ?_
  rcases ite_some e with ⟨q17, e⟩ | ⟨q17, e⟩
  · refine x_if_eq_t (pc := 40) (t := 57) dX8_paste_40 (by decide) q17 ?_
    exact x_sub1 (p_X8_paste_L57 hl e) [1, 3, 4, 5, 0] rfl
  · refine x_if_eq_f (pc := 40) (t := 57) dX8_paste_40 (by decide) q17 ?_
    refine x_aload (pc := 43) 0 dX8_paste_43 rfl ?_
    obtain ⟨q18, e⟩ := chk_some e
    obtain ⟨q19, e⟩ := chk_some e
    refine x_getR (pc := 45) gf_X8_336 rfl dX8_paste_45 q18 q19.1 ?_
    refine x_iload_n (pc := 48) 3 dX8_paste_48 rfl ?_
    obtain ⟨q20, e⟩ := chk_some e
    refine x_zald (pc := 49) dX8_paste_49 q19 q20 ?_
    rcases ite_some e with ⟨q21, e⟩ | ⟨q21, e⟩
    · refine x_if_eq_t (pc := 50) (t := 57) dX8_paste_50 (by decide) q21 ?_
      exact x_sub1 (p_X8_paste_L57 hl e) [1, 3, 4, 5, 0] rfl
    · refine x_if_eq_f (pc := 50) (t := 57) dX8_paste_50 (by decide) q21 ?_
      refine x_iconst (pc := 53) dX8_paste_53 ?_
      refine x_goto (pc := 54) (t := 58) dX8_paste_54 (by decide) ?_
      exact x_sub1 (p_X8_paste_L58 hl e) [1, 3, 4, 5, 0] rfl
abbrev w_X8_paste : Cond := (Cond.code yX8_paste cX8_paste 6 (Option.some Jvm.ClassFile.FieldType.int))
theorem mf_X8_paste : MF yX8_paste w_X8_paste cX8_paste 6 (Option.some Jvm.ClassFile.FieldType.int) 4 := ⟨⟨rfl, tw_6_134, by decide⟩, tw_1_1, ⟨by decide, by decide⟩, by decide +kernel⟩
theorem c_X8_paste {l : Launch} {K : Ctx} (hl : l.stackTraces = false) {h : Hp} {a0 : Nat} {i1 : Int32} {i2 : Int32} {i3 : Int32} {i4 : Int32} {t : Rs Int32} (e : f_X8_paste h a0 i1 i2 i3 i4 = some t) : Ctr l K 14 yX8_paste w_X8_paste [.ref a0, .int i1, .int i2, .int i3, .int i4] h (tgI t) :=
  Ctr.of hl mf_X8_paste false (fun q => nomatch q) rfl (leb rfl) (p_X8_paste hl e)
/-! ## TableColumnBalancerLaw.paste -/
abbrev mM_L_paste : Mi := (15, yL_paste.cls, cL_paste, 7, (Option.some Jvm.ClassFile.FieldType.int), [((0 : Nat), (14 : Nat), (17 : Nat), (21 : Nat)), ((0 : Nat), (14 : Nat), (21 : Nat), (73 : Nat)), ((0 : Nat), (14 : Nat), (25 : Nat), (15 : Nat))], false)
noncomputable def f_L_paste (h : Hp) (a0 : Nat) (i1 : Int32) (i2 : Int32) (i3 : Int32) (i4 : Int32) (a5 : Nat) : Option (Rs Int32) :=
  chk (okr h a0 8) <|
  bndX (f_X8_paste h a0 i1 i2 i3 i4) (fun h2 r3 => (
    chk (okr h2 a5 21) <|
    chk (vp_in (iN 0) (qW h2 a5)) <|
    lt (putL h2 a5 (Int32.toNatClampNeg (iN 0)) (Int32.toInt64 r3)) fun h6 =>
    some (h6, .inr (iN 0))
  )) fun h2 k =>
  if k = 2 then (
    some (h2, .inr (iN 1))
  ) else
  if k = 5 then (
    some (h2, .inr (iN 2))
  ) else
  if k = 0 then (
    some (h2, .inr (iN 3))
  ) else
  none
theorem p_L_paste {l : Launch} {K : Ctx} (hl : l.stackTraces = false) {h : Hp} {a0 : Nat} {i1 : Int32} {i2 : Int32} {i3 : Int32} {i4 : Int32} {a5 : Nat} {t : Rs Int32} (e : f_L_paste h a0 i1 i2 i3 i4 a5 = some t) : X l K mM_L_paste (tgI t) 0 [(0, .ref a0), (1, .int i1), (2, .int i2), (3, .int i3), (4, .int i4), (5, .ref a5)] [] h := by
  unfold f_L_paste at e
  refine x_aload (pc := 0) 5 dL_paste_0 rfl ?_
  refine x_iconst (pc := 2) dL_paste_2 ?_
  refine x_aload_n (pc := 3) 0 dL_paste_3 rfl ?_
  refine x_iload_n (pc := 4) 1 dL_paste_4 rfl ?_
  refine x_iload_n (pc := 5) 2 dL_paste_5 rfl ?_
  refine x_iload_n (pc := 6) 3 dL_paste_6 rfl ?_
  refine x_iload (pc := 7) 4 dL_paste_7 rfl ?_
  obtain ⟨q1, e⟩ := chk_some e
  rcases bndX_some e with ⟨h2, k, ec, e⟩ | ⟨h2, r3, ec, e⟩
  · rcases ite_some e with ⟨q7, e⟩ | ⟨q7, e⟩
    · subst q7
      refine y_callV_x (pc := 9) (c_X8_paste hl ec) q1 mf_X8_paste tw_6_132 tw_6_133 lf_L_139 rfl rfl dL_paste_9 (by decide) rfl rfl (leb rfl) (xx_catchA (pc := 9) [] [(0, 14, 21, 73), (0, 14, 25, 15)] (0, 14, 17, 21) rfl (by decide) (fun _ hz => absurd hz List.not_mem_nil) (by decide) (by decide) tw_3_187 tw_3_229 dL_paste_17 (by decide) rfl ?_)
      refine x_iconst (pc := 19) dL_paste_19 ?_
      cases Option.some.inj e
      exact x_iret (pc := 20) rfl dL_paste_20
    rcases ite_some e with ⟨q8, e⟩ | ⟨q8, e⟩
    · subst q8
      refine y_callV_x (pc := 9) (c_X8_paste hl ec) q1 mf_X8_paste tw_6_132 tw_6_133 lf_L_139 rfl rfl dL_paste_9 (by decide) rfl rfl (leb rfl) (xx_catchA (pc := 9) [(0, 14, 17, 21)] [(0, 14, 25, 15)] (0, 14, 21, 73) rfl (by decide) (List.forall_mem_cons.mpr ⟨⟨by decide, 2, by decide, by decide, tw_3_187⟩, fun _ hz => absurd hz List.not_mem_nil⟩) (by decide) (by decide) tw_5_116 tw_5_126 dL_paste_21 (by decide) rfl ?_)
      refine x_iconst (pc := 23) dL_paste_23 ?_
      cases Option.some.inj e
      exact x_iret (pc := 24) rfl dL_paste_24
    rcases ite_some e with ⟨q9, e⟩ | ⟨q9, e⟩
    · subst q9
      refine y_callV_x (pc := 9) (c_X8_paste hl ec) q1 mf_X8_paste tw_6_132 tw_6_133 lf_L_139 rfl rfl dL_paste_9 (by decide) rfl rfl (leb rfl) (xx_catchA (pc := 9) [(0, 14, 17, 21), (0, 14, 21, 73)] [] (0, 14, 25, 15) rfl (by decide) (List.forall_mem_cons.mpr ⟨⟨by decide, 2, by decide, by decide, tw_3_187⟩, List.forall_mem_cons.mpr ⟨⟨by decide, 5, by decide, by decide, tw_5_116⟩, fun _ hz => absurd hz List.not_mem_nil⟩⟩) (by decide) (by decide) tw_3_77 tw_3_159 dL_paste_25 (by decide) rfl ?_)
      refine x_iconst (pc := 27) dL_paste_27 ?_
      cases Option.some.inj e
      exact x_iret (pc := 28) rfl dL_paste_28
    cases e
  refine y_callV_i (pc := 9) (c_X8_paste hl ec) q1 mf_X8_paste tw_6_132 tw_6_133 lf_L_139 rfl rfl dL_paste_9 (by decide) rfl rfl (leb rfl) ?_
  refine x_i2l (pc := 12) dL_paste_12 ?_
  obtain ⟨q4, e⟩ := chk_some e
  obtain ⟨q5, e⟩ := chk_some e
  replace e := lt_go e
  refine x_last (pc := 13) dL_paste_13 q4 q5 ?_
  refine x_goto (pc := 14) (t := 29) dL_paste_14 (by decide) ?_
  refine x_iconst (pc := 29) dL_paste_29 ?_
  cases Option.some.inj e
  exact x_iret (pc := 30) rfl dL_paste_30
abbrev w_L_paste : Cond := (Cond.codeWith yL_paste cL_paste 7 (Option.some Jvm.ClassFile.FieldType.int) [((0 : Nat), (14 : Nat), (17 : Nat), (21 : Nat)), ((0 : Nat), (14 : Nat), (21 : Nat), (73 : Nat)), ((0 : Nat), (14 : Nat), (25 : Nat), (15 : Nat))])
theorem mf_L_paste : MFX yL_paste w_L_paste cL_paste 7 (Option.some Jvm.ClassFile.FieldType.int) 6 [((0 : Nat), (14 : Nat), (17 : Nat), (21 : Nat)), ((0 : Nat), (14 : Nat), (21 : Nat), (73 : Nat)), ((0 : Nat), (14 : Nat), (25 : Nat), (15 : Nat))] := ⟨⟨rfl, tw_6_130, by decide⟩, tw_1_0, ⟨by decide, by decide⟩, by decide +kernel⟩
theorem c_L_paste {l : Launch} {K : Ctx} (hl : l.stackTraces = false) {h : Hp} {a0 : Nat} {i1 : Int32} {i2 : Int32} {i3 : Int32} {i4 : Int32} {a5 : Nat} {t : Rs Int32} (e : f_L_paste h a0 i1 i2 i3 i4 a5 = some t) : Ctr l K 15 yL_paste w_L_paste [.ref a0, .int i1, .int i2, .int i3, .int i4, .ref a5] h (tgI t) :=
  Ctr.ofX hl mf_L_paste rfl (leb rfl) (p_L_paste hl e)
/-! ## TableColumnBalancerModel.paste -/
abbrev mM_X9_paste : Mi := (11, yX9_paste.cls, cX9_paste, 7, (Option.some Jvm.ClassFile.FieldType.int), [], false)
noncomputable def f_X9_paste_L29 (h : Hp) (a0 : Nat) : Option (Rs Int32) :=
  chk (okr h a0 9) <|
  bnd (f_X9_fails h a0 (iN 1)) fun h2 r3 =>
  some (h2, .inr r3)
theorem p_X9_paste_L29 {l : Launch} {K : Ctx} (hl : l.stackTraces = false) {h : Hp} {a0 : Nat} {t : Rs Int32} (e : f_X9_paste_L29 h a0 = some t) : X l K mM_X9_paste (tgI t) 29 [(0, .ref a0)] [] h := by
  unfold f_X9_paste_L29 at e
  refine x_aload_n (pc := 29) 0 dX9_paste_29 rfl ?_
  refine x_iconst (pc := 30) dX9_paste_30 ?_
  obtain ⟨q1, e⟩ := chk_some e
  rcases bnd_some e with ⟨h2, r3, ec, rfl⟩ | ⟨h2, r3, ec, e⟩
  · exact y_callV_x (pc := 31) (c_X9_fails hl ec) q1 mf_X9_fails tw_7_24 ts_6_7 lf_X9_95 rfl rfl dX9_paste_31 (by decide) rfl rfl (leb rfl) (xx_out0 rfl)
  refine y_callV_i (pc := 31) (c_X9_fails hl ec) q1 mf_X9_fails tw_7_24 ts_6_7 lf_X9_95 rfl rfl dX9_paste_31 (by decide) rfl rfl (leb rfl) ?_
  cases Option.some.inj e
  exact x_iret (pc := 34) rfl dX9_paste_34
noncomputable def f_X9_paste_L64 (h : Hp) (a0 : Nat) : Option (Rs Int32) :=
  chk (okr h a0 9) <|
  bnd (f_X9_fails h a0 (iN 2)) fun h2 r3 =>
  some (h2, .inr r3)
theorem p_X9_paste_L64 {l : Launch} {K : Ctx} (hl : l.stackTraces = false) {h : Hp} {a0 : Nat} {t : Rs Int32} (e : f_X9_paste_L64 h a0 = some t) : X l K mM_X9_paste (tgI t) 64 [(0, .ref a0)] [] h := by
  unfold f_X9_paste_L64 at e
  refine x_aload_n (pc := 64) 0 dX9_paste_64 rfl ?_
  refine x_iconst (pc := 65) dX9_paste_65 ?_
  obtain ⟨q1, e⟩ := chk_some e
  rcases bnd_some e with ⟨h2, r3, ec, rfl⟩ | ⟨h2, r3, ec, e⟩
  · exact y_callV_x (pc := 66) (c_X9_fails hl ec) q1 mf_X9_fails tw_7_24 ts_6_7 lf_X9_95 rfl rfl dX9_paste_66 (by decide) rfl rfl (leb rfl) (xx_out0 rfl)
  refine y_callV_i (pc := 66) (c_X9_fails hl ec) q1 mf_X9_fails tw_7_24 ts_6_7 lf_X9_95 rfl rfl dX9_paste_66 (by decide) rfl rfl (leb rfl) ?_
  cases Option.some.inj e
  exact x_iret (pc := 69) rfl dX9_paste_69
noncomputable def f_X9_paste_L92 (h : Hp) (a0 : Nat) : Option (Rs Int32) :=
  chk (okr h a0 9) <|
  bnd (f_X9_fails h a0 (iN 3)) fun h2 r3 =>
  some (h2, .inr r3)
theorem p_X9_paste_L92 {l : Launch} {K : Ctx} (hl : l.stackTraces = false) {h : Hp} {a0 : Nat} {t : Rs Int32} (e : f_X9_paste_L92 h a0 = some t) : X l K mM_X9_paste (tgI t) 92 [(0, .ref a0)] [] h := by
  unfold f_X9_paste_L92 at e
  refine x_aload_n (pc := 92) 0 dX9_paste_92 rfl ?_
  refine x_iconst (pc := 93) dX9_paste_93 ?_
  obtain ⟨q1, e⟩ := chk_some e
  rcases bnd_some e with ⟨h2, r3, ec, rfl⟩ | ⟨h2, r3, ec, e⟩
  · exact y_callV_x (pc := 94) (c_X9_fails hl ec) q1 mf_X9_fails tw_7_24 ts_6_7 lf_X9_95 rfl rfl dX9_paste_94 (by decide) rfl rfl (leb rfl) (xx_out0 rfl)
  refine y_callV_i (pc := 94) (c_X9_fails hl ec) q1 mf_X9_fails tw_7_24 ts_6_7 lf_X9_95 rfl rfl dX9_paste_94 (by decide) rfl rfl (leb rfl) ?_
  cases Option.some.inj e
  exact x_iret (pc := 97) rfl dX9_paste_97
noncomputable def f_X9_paste_B112 (k112 : Hp → Nat → Int32 → Int32 → Int32 → Int32 → Option (Rs Int32)) (h : Hp) (a0 : Nat) (i1 : Int32) (i2 : Int32) (i5 : Int32) (i6 : Int32) : Option (Rs Int32) :=
  if (iN 31) ≤ i6 then (
    some (h, .inr i5)
  ) else (
    chk (okr h a0 9) <|
    chk (okr h (qR h a0 1) 20) <|
    chk (okr h (qR h a0 10) 20) <|
    chk (vp_in (((iN 31) * (((iN 3) * i1) + i2)) + i6) (qW h (qR h a0 10))) <|
    chk (vp_in (((iN 10) + ((iN 31) * i5)) + i6) (qW h (qR h a0 1))) <|
    lt (putI h (qR h a0 1) (Int32.toNatClampNeg (((iN 10) + ((iN 31) * i5)) + i6)) (qI h (qR h a0 10) (Int32.toNatClampNeg (((iN 31) * (((iN 3) * i1) + i2)) + i6)))) fun h7 =>
    k112 h7 a0 i1 i2 i5 (i6 + iN 1)
  )
theorem p_X9_paste_B112 {l : Launch} {K : Ctx} (hl : l.stackTraces = false) {k112 : Hp → Nat → Int32 → Int32 → Int32 → Int32 → Option (Rs Int32)} (hk112 : ∀ (h : Hp) (a0 : Nat) (i1 : Int32) (i2 : Int32) (i5 : Int32) (i6 : Int32) (t : Rs Int32), k112 h a0 i1 i2 i5 i6 = some t → X l K mM_X9_paste (tgI t) 112 [(0, .ref a0), (1, .int i1), (2, .int i2), (5, .int i5), (6, .int i6)] [] h) {h : Hp} {a0 : Nat} {i1 : Int32} {i2 : Int32} {i5 : Int32} {i6 : Int32} {t : Rs Int32} (e : f_X9_paste_B112 k112 h a0 i1 i2 i5 i6 = some t) : X l K mM_X9_paste (tgI t) 112 [(0, .ref a0), (1, .int i1), (2, .int i2), (5, .int i5), (6, .int i6)] [] h := by
  unfold f_X9_paste_B112 at e
  refine x_iload (pc := 112) 4 dX9_paste_112 rfl ?_
  refine x_bipush (pc := 114) (v := iN 31) dX9_paste_114 rfl ?_
  rcases ite_some e with ⟨q1, e⟩ | ⟨q1, e⟩
  · refine x_icmp_ge_t (pc := 116) (t := 157) dX9_paste_116 (by decide) q1 ?_
    refine x_iload (pc := 157) 3 dX9_paste_157 rfl ?_
    cases Option.some.inj e
    exact x_iret (pc := 159) rfl dX9_paste_159
  · refine x_icmp_ge_f (pc := 116) (t := 157) dX9_paste_116 (by decide) q1 ?_
    refine x_aload_n (pc := 119) 0 dX9_paste_119 rfl ?_
    obtain ⟨q2, e⟩ := chk_some e
    obtain ⟨q3, e⟩ := chk_some e
    refine x_getR (pc := 120) gf_X9_9 rfl dX9_paste_120 q2 q3.1 ?_
    refine x_bipush (pc := 123) (v := iN 10) dX9_paste_123 rfl ?_
    refine x_bipush (pc := 125) (v := iN 31) dX9_paste_125 rfl ?_
    refine x_iload (pc := 127) 3 dX9_paste_127 rfl ?_
    refine x_imul (pc := 129) dX9_paste_129 ?_
    refine x_iadd (pc := 130) dX9_paste_130 ?_
    refine x_iload (pc := 131) 4 dX9_paste_131 rfl ?_
    refine x_iadd (pc := 133) dX9_paste_133 ?_
    refine x_aload_n (pc := 134) 0 dX9_paste_134 rfl ?_
    obtain ⟨q4, e⟩ := chk_some e
    refine x_getR (pc := 135) gf_X9_32 rfl dX9_paste_135 q2 q4.1 ?_
    refine x_bipush (pc := 138) (v := iN 31) dX9_paste_138 rfl ?_
    refine x_iconst (pc := 140) dX9_paste_140 ?_
    refine x_iload_n (pc := 141) 1 dX9_paste_141 rfl ?_
    refine x_imul (pc := 142) dX9_paste_142 ?_
    refine x_iload_n (pc := 143) 2 dX9_paste_143 rfl ?_
    refine x_iadd (pc := 144) dX9_paste_144 ?_
    refine x_imul (pc := 145) dX9_paste_145 ?_
    refine x_iload (pc := 146) 4 dX9_paste_146 rfl ?_
    refine x_iadd (pc := 148) dX9_paste_148 ?_
    obtain ⟨q5, e⟩ := chk_some e
    refine x_iald (pc := 149) dX9_paste_149 q4 q5 ?_
    obtain ⟨q6, e⟩ := chk_some e
    replace e := lt_go e
    refine x_iast (pc := 150) dX9_paste_150 q3 q6 ?_
    refine x_iinc (pc := 151) 4 dX9_paste_151 rfl (by decide) rfl ?_
    refine x_goto (pc := 154) (t := 112) dX9_paste_154 (by decide) ?_
    exact x_sub1 (hk112 _ _ _ _ _ _ _ e) [1, 2, 3, 4, 0] rfl
noncomputable def f_X9_paste_L112 (n : Nat) : Hp → Nat → Int32 → Int32 → Int32 → Int32 → Option (Rs Int32) := Nat.rec (motive := fun _ => Hp → Nat → Int32 → Int32 → Int32 → Int32 → Option (Rs Int32)) (fun _ _ _ _ _ _ => none) (fun _ r => f_X9_paste_B112 r) n
theorem p_X9_paste_L112 {l : Launch} {K : Ctx} (hl : l.stackTraces = false) : ∀ (n : Nat) (h : Hp) (a0 : Nat) (i1 : Int32) (i2 : Int32) (i5 : Int32) (i6 : Int32) (t : Rs Int32) (e : f_X9_paste_L112 n h a0 i1 i2 i5 i6 = some t), X l K mM_X9_paste (tgI t) 112 [(0, .ref a0), (1, .int i1), (2, .int i2), (5, .int i5), (6, .int i6)] [] h := by
  intro n
  induction n with
  | zero => exact fun _ _ _ _ _ _ _ e => nomatch (show (none : Option (Rs Int32)) = some _ from e)
  | succ n ih => exact fun h a0 i1 i2 i5 i6 t e => p_X9_paste_B112 hl (fun h a0 i1 i2 i5 i6 t e => ih h a0 i1 i2 i5 i6 t e) e
noncomputable def f_X9_paste (h : Hp) (a0 : Nat) (i1 : Int32) (i2 : Int32) (i3 : Int32) (i4 : Int32) : Option (Rs Int32) :=
  chk (okr h a0 9) <|
  lt (putI h a0 0 (iN 0)) fun h2 =>
  bnd (f_X9_isClip h2 i1) fun h3 r4 =>
  if r4 = 0 then (
    f_X9_paste_L29 h3 a0
  ) else (
    chk (okr h3 a0 9) <|
    bnd (f_X9_isRow h3 a0 i3) fun h7 r8 =>
    if r8 = 0 then (
      f_X9_paste_L29 h7 a0
    ) else (
      chk (okr h7 a0 9) <|
      bnd (f_X9_isColumn h7 a0 i4) fun h11 r12 =>
      if r12 = 0 then (
        f_X9_paste_L29 h11 a0
      ) else (
        chk (okr h11 a0 9) <|
        chk (okr h11 (qR h11 a0 9) 20) <|
        chk (vp_in i1 (qW h11 (qR h11 a0 9))) <|
        bnd (f_X9_in h11 i2 (iN 0) ((qI h11 (qR h11 a0 9) (Int32.toNatClampNeg i1)) - (iN 1))) fun h17 r18 =>
        if r18 = 0 then (
          f_X9_paste_L64 h17 a0
        ) else (
          chk (okr h17 a0 9) <|
          chk (okr h17 (qR h17 a0 11) 22) <|
          chk (vp_in (((iN 3) * i1) + i2) (qW h17 (qR h17 a0 11))) <|
          if (qI h17 (qR h17 a0 11) (Int32.toNatClampNeg (((iN 3) * i1) + i2))) = 0 then (
            f_X9_paste_L64 h17 a0
          ) else (
            chk (okr h17 (qR h17 a0 1) 20) <|
            chk (vp_in (iN 5) (qW h17 (qR h17 a0 1))) <|
            if (qI h17 (qR h17 a0 1) (Int32.toNatClampNeg (iN 5))) = (iN 16) then (
              f_X9_paste_L92 h17 a0
            ) else (
              bnd (f_X9_isFree h17 a0 i3 i4 (iN 1)) fun h27 r28 =>
              if r28 = 0 then (
                f_X9_paste_L92 h27 a0
              ) else (
                chk (okr h27 a0 9) <|
                bnd (f_X9_adds h27 a0 i3 i4 (iN 1) (iN 0)) fun h31 r32 =>
                f_X9_paste_L112 2000 h31 a0 i1 i2 r32 (iN 3)
              )
            )
          )
        )
      )
    )
  )
theorem p_X9_paste {l : Launch} {K : Ctx} (hl : l.stackTraces = false) {h : Hp} {a0 : Nat} {i1 : Int32} {i2 : Int32} {i3 : Int32} {i4 : Int32} {t : Rs Int32} (e : f_X9_paste h a0 i1 i2 i3 i4 = some t) : X l K mM_X9_paste (tgI t) 0 [(0, .ref a0), (1, .int i1), (2, .int i2), (3, .int i3), (4, .int i4)] [] h := by
  unfold f_X9_paste at e
  refine x_aload_n (pc := 0) 0 dX9_paste_0 rfl ?_
  refine x_iconst (pc := 1) dX9_paste_1 ?_
  obtain ⟨q1, e⟩ := chk_some e
  replace e := lt_go e
  refine x_putI (pc := 2) pf_X9_84 rfl rfl rfl dX9_paste_2 q1 ?_
  refine x_iload_n (pc := 5) 1 dX9_paste_5 rfl ?_
  rcases bnd_some e with ⟨h3, r4, ec, rfl⟩ | ⟨h3, r4, ec, e⟩
  · exact y_callS_x (pc := 6) (c_X9_isClip hl ec) mf_X9_isClip tw_9_9 lf_X9_391 dX9_paste_6 (by decide) rfl rfl (leb rfl) (xx_out0 rfl)
  refine y_callS_i (pc := 6) (c_X9_isClip hl ec) mf_X9_isClip tw_9_9 lf_X9_391 dX9_paste_6 (by decide) rfl rfl (leb rfl) ?_
  rcases ite_some e with ⟨q5, e⟩ | ⟨q5, e⟩
  · refine x_if_eq_t (pc := 9) (t := 29) dX9_paste_9 (by decide) q5 ?_
    exact x_sub1 (p_X9_paste_L29 hl e) [0] rfl
  · refine x_if_eq_f (pc := 9) (t := 29) dX9_paste_9 (by decide) q5 ?_
    refine x_aload_n (pc := 12) 0 dX9_paste_12 rfl ?_
    refine x_iload_n (pc := 13) 3 dX9_paste_13 rfl ?_
    obtain ⟨q6, e⟩ := chk_some e
    rcases bnd_some e with ⟨h7, r8, ec, rfl⟩ | ⟨h7, r8, ec, e⟩
    · exact y_callV_x (pc := 14) (c_X9_isRow hl ec) q6 mf_X9_isRow tw_7_51 ts_6_9 lf_X9_110 rfl rfl dX9_paste_14 (by decide) rfl rfl (leb rfl) (xx_out0 rfl)
    refine y_callV_i (pc := 14) (c_X9_isRow hl ec) q6 mf_X9_isRow tw_7_51 ts_6_9 lf_X9_110 rfl rfl dX9_paste_14 (by decide) rfl rfl (leb rfl) ?_
    rcases ite_some e with ⟨q9, e⟩ | ⟨q9, e⟩
    · refine x_if_eq_t (pc := 17) (t := 29) dX9_paste_17 (by decide) q9 ?_
      exact x_sub1 (p_X9_paste_L29 hl e) [0] rfl
    · refine x_if_eq_f (pc := 17) (t := 29) dX9_paste_17 (by decide) q9 ?_
      refine x_aload_n (pc := 20) 0 dX9_paste_20 rfl ?_
      refine x_iload (pc := 21) 4 dX9_paste_21 rfl ?_
      obtain ⟨q10, e⟩ := chk_some e
      rcases bnd_some e with ⟨h11, r12, ec, rfl⟩ | ⟨h11, r12, ec, e⟩
      · exact y_callV_x (pc := 23) (c_X9_isColumn hl ec) q10 mf_X9_isColumn tw_7_39 ts_6_8 lf_X9_103 rfl rfl dX9_paste_23 (by decide) rfl rfl (leb rfl) (xx_out0 rfl)
      refine y_callV_i (pc := 23) (c_X9_isColumn hl ec) q10 mf_X9_isColumn tw_7_39 ts_6_8 lf_X9_103 rfl rfl dX9_paste_23 (by decide) rfl rfl (leb rfl) ?_
      rcases ite_some e with ⟨q13, e⟩ | ⟨q13, e⟩
      · refine x_if_ne_f (pc := 26) (t := 35) dX9_paste_26 (by decide) q13 ?_
        exact x_sub1 (p_X9_paste_L29 hl e) [0] rfl
      · refine x_if_ne_t (pc := 26) (t := 35) dX9_paste_26 (by decide) q13 ?_
        refine x_iload_n (pc := 35) 2 dX9_paste_35 rfl ?_
        refine x_iconst (pc := 36) dX9_paste_36 ?_
        refine x_aload_n (pc := 37) 0 dX9_paste_37 rfl ?_
        obtain ⟨q14, e⟩ := chk_some e
        obtain ⟨q15, e⟩ := chk_some e
        refine x_getR (pc := 38) gf_X9_29 rfl dX9_paste_38 q14 q15.1 ?_
        refine x_iload_n (pc := 41) 1 dX9_paste_41 rfl ?_
        obtain ⟨q16, e⟩ := chk_some e
        refine x_iald (pc := 42) dX9_paste_42 q15 q16 ?_
        refine x_iconst (pc := 43) dX9_paste_43 ?_
        refine x_isub (pc := 44) dX9_paste_44 ?_
        rcases bnd_some e with ⟨h17, r18, ec, rfl⟩ | ⟨h17, r18, ec, e⟩
        · exact y_callS_x (pc := 45) (c_X9_in hl ec) mf_X9_in tw_7_20 lf_X9_87 dX9_paste_45 (by decide) rfl rfl (leb rfl) (xx_out0 rfl)
        refine y_callS_i (pc := 45) (c_X9_in hl ec) mf_X9_in tw_7_20 lf_X9_87 dX9_paste_45 (by decide) rfl rfl (leb rfl) ?_
        rcases ite_some e with ⟨q19, e⟩ | ⟨q19, e⟩
        · refine x_if_eq_t (pc := 48) (t := 64) dX9_paste_48 (by decide) q19 ?_
          exact x_sub1 (p_X9_paste_L64 hl e) [0] rfl
        · refine x_if_eq_f (pc := 48) (t := 64) dX9_paste_48 (by decide) q19 ?_
          refine x_aload_n (pc := 51) 0 dX9_paste_51 rfl ?_
          obtain ⟨q20, e⟩ := chk_some e
          obtain ⟨q21, e⟩ := chk_some e
          refine x_getR (pc := 52) gf_X9_35 rfl dX9_paste_52 q20 q21.1 ?_
          refine x_iconst (pc := 55) dX9_paste_55 ?_
          refine x_iload_n (pc := 56) 1 dX9_paste_56 rfl ?_
          refine x_imul (pc := 57) dX9_paste_57 ?_
          refine x_iload_n (pc := 58) 2 dX9_paste_58 rfl ?_
          refine x_iadd (pc := 59) dX9_paste_59 ?_
          obtain ⟨q22, e⟩ := chk_some e
          refine x_zald (pc := 60) dX9_paste_60 q21 q22 ?_
          rcases ite_some e with ⟨q23, e⟩ | ⟨q23, e⟩
          · refine x_if_ne_f (pc := 61) (t := 70) dX9_paste_61 (by decide) q23 ?_
            exact x_sub1 (p_X9_paste_L64 hl e) [0] rfl
          · refine x_if_ne_t (pc := 61) (t := 70) dX9_paste_61 (by decide) q23 ?_
            refine x_aload_n (pc := 70) 0 dX9_paste_70 rfl ?_
            obtain ⟨q24, e⟩ := chk_some e
            refine x_getR (pc := 71) gf_X9_9 rfl dX9_paste_71 q20 q24.1 ?_
            refine x_iconst (pc := 74) dX9_paste_74 ?_
            obtain ⟨q25, e⟩ := chk_some e
            refine x_iald (pc := 75) dX9_paste_75 q24 q25 ?_
            refine x_bipush (pc := 76) (v := iN 16) dX9_paste_76 rfl ?_
            rcases ite_some e with ⟨q26, e⟩ | ⟨q26, e⟩
            · refine x_icmp_eq_t (pc := 78) (t := 92) dX9_paste_78 (by decide) q26 ?_
              exact x_sub1 (p_X9_paste_L92 hl e) [0] rfl
            · refine x_icmp_eq_f (pc := 78) (t := 92) dX9_paste_78 (by decide) q26 ?_
              refine x_aload_n (pc := 81) 0 dX9_paste_81 rfl ?_
              refine x_iload_n (pc := 82) 3 dX9_paste_82 rfl ?_
              refine x_iload (pc := 83) 4 dX9_paste_83 rfl ?_
              refine x_iconst (pc := 85) dX9_paste_85 ?_
              rcases bnd_some e with ⟨h27, r28, ec, rfl⟩ | ⟨h27, r28, ec, e⟩
              · exact y_callV_x (pc := 86) (c_X9_isFree hl ec) q20 mf_X9_isFree tw_7_55 ts_6_10 lf_X9_113 rfl rfl dX9_paste_86 (by decide) rfl rfl (leb rfl) (xx_out0 rfl)
              refine y_callV_i (pc := 86) (c_X9_isFree hl ec) q20 mf_X9_isFree tw_7_55 ts_6_10 lf_X9_113 rfl rfl dX9_paste_86 (by decide) rfl rfl (leb rfl) ?_
              rcases ite_some e with ⟨q29, e⟩ | ⟨q29, e⟩
              · refine x_if_ne_f (pc := 89) (t := 98) dX9_paste_89 (by decide) q29 ?_
                exact x_sub1 (p_X9_paste_L92 hl e) [0] rfl
              · refine x_if_ne_t (pc := 89) (t := 98) dX9_paste_89 (by decide) q29 ?_
                refine x_aload_n (pc := 98) 0 dX9_paste_98 rfl ?_
                refine x_iload_n (pc := 99) 3 dX9_paste_99 rfl ?_
                refine x_iload (pc := 100) 4 dX9_paste_100 rfl ?_
                refine x_iconst (pc := 102) dX9_paste_102 ?_
                refine x_iconst (pc := 103) dX9_paste_103 ?_
                obtain ⟨q30, e⟩ := chk_some e
                rcases bnd_some e with ⟨h31, r32, ec, rfl⟩ | ⟨h31, r32, ec, e⟩
                · exact y_callV_x (pc := 104) (c_X9_adds hl ec) q30 mf_X9_adds tw_7_67 ts_6_13 lf_X9_116 rfl rfl dX9_paste_104 (by decide) rfl rfl (leb rfl) (xx_out0 rfl)
                refine y_callV_i (pc := 104) (c_X9_adds hl ec) q30 mf_X9_adds tw_7_67 ts_6_13 lf_X9_116 rfl rfl dX9_paste_104 (by decide) rfl rfl (leb rfl) ?_
                refine x_istore (pc := 107) dX9_paste_107 (by decide) rfl ?_
                refine x_iconst (pc := 109) dX9_paste_109 ?_
                refine x_istore (pc := 110) dX9_paste_110 (by decide) rfl ?_
                exact x_sub1 (p_X9_paste_L112 hl 2000 _ _ _ _ _ _ _ e) [2, 3, 4, 1, 0] rfl
abbrev w_X9_paste : Cond := (Cond.code yX9_paste cX9_paste 7 (Option.some Jvm.ClassFile.FieldType.int))
theorem mf_X9_paste : MF yX9_paste w_X9_paste cX9_paste 7 (Option.some Jvm.ClassFile.FieldType.int) 4 := ⟨⟨rfl, tw_9_21, by decide⟩, tw_1_11, ⟨by decide, by decide⟩, by decide +kernel⟩
theorem c_X9_paste {l : Launch} {K : Ctx} (hl : l.stackTraces = false) {h : Hp} {a0 : Nat} {i1 : Int32} {i2 : Int32} {i3 : Int32} {i4 : Int32} {t : Rs Int32} (e : f_X9_paste h a0 i1 i2 i3 i4 = some t) : Ctr l K 11 yX9_paste w_X9_paste [.ref a0, .int i1, .int i2, .int i3, .int i4] h (tgI t) :=
  Ctr.of hl mf_X9_paste false (fun q => nomatch q) rfl (leb rfl) (p_X9_paste hl e)
/-! ## TableColumnBalancer.save -/
abbrev mM_X8_save : Mi := (11, yX8_save.cls, cX8_save, 1, (Option.some Jvm.ClassFile.FieldType.int), [], false)
noncomputable def f_X8_save (h : Hp) (a0 : Nat) : Option (Rs Int32) :=
  chk (okr h a0 8) <|
  chk (okr h (qR h a0 6) 7) <|
  chk (okr h (qR h a0 0) 7) <|
  bnd (f_X7_copyFrom h (qR h a0 6) (qR h a0 0)) fun h4 _ =>
  chk (okr h4 a0 8) <|
  lt (putI h4 a0 7 (iN 1)) fun h7 =>
  chk (okr h7 (qR h7 a0 0) 7) <|
  some (h7, .inr (qI h7 (qR h7 a0 0) 5))
theorem p_X8_save {l : Launch} {K : Ctx} (hl : l.stackTraces = false) {h : Hp} {a0 : Nat} {t : Rs Int32} (e : f_X8_save h a0 = some t) : X l K mM_X8_save (tgI t) 0 [(0, .ref a0)] [] h := by
  unfold f_X8_save at e
  refine x_aload_n (pc := 0) 0 dX8_save_0 rfl ?_
  obtain ⟨q1, e⟩ := chk_some e
  obtain ⟨q2, e⟩ := chk_some e
  refine x_getR (pc := 1) gf_X8_43 rfl dX8_save_1 q1 q2.1 ?_
  refine x_aload_n (pc := 4) 0 dX8_save_4 rfl ?_
  obtain ⟨q3, e⟩ := chk_some e
  refine x_getR (pc := 5) gf_X8_10 rfl dX8_save_5 q1 q3.1 ?_
  rcases bnd_some e with ⟨h4, r5, ec, rfl⟩ | ⟨h4, r5, ec, e⟩
  · exact y_callV_x (pc := 8) (c_X7_copyFrom hl ec) q2 mf_X7_copyFrom tw_3_60 ts_2_15 lf_X8_195 rfl rfl dX8_save_8 (by decide) rfl rfl (leb rfl) (xx_out0 rfl)
  refine y_callV_v (pc := 8) (c_X7_copyFrom hl ec) q2 mf_X7_copyFrom tw_3_60 ts_2_15 lf_X8_195 rfl rfl dX8_save_8 (by decide) rfl rfl (leb rfl) ?_
  refine x_aload_n (pc := 11) 0 dX8_save_11 rfl ?_
  refine x_iconst (pc := 12) dX8_save_12 ?_
  obtain ⟨q6, e⟩ := chk_some e
  replace e := lt_go e
  refine x_putI (pc := 13) pf_X8_340 rfl (nar_z (Or.inr rfl)) (fit_z (Or.inr rfl)) dX8_save_13 q6 ?_
  refine x_aload_n (pc := 16) 0 dX8_save_16 rfl ?_
  obtain ⟨q8, e⟩ := chk_some e
  refine x_getR (pc := 17) gf_X8_10 rfl dX8_save_17 (okr_pI q6) q8.1 ?_
  refine x_getI (pc := 20) gf_X8_80 rfl dX8_save_20 q8 ?_
  cases Option.some.inj e
  exact x_iret (pc := 23) rfl dX8_save_23
abbrev w_X8_save : Cond := (Cond.code yX8_save cX8_save 1 (Option.some Jvm.ClassFile.FieldType.int))
theorem mf_X8_save : MF yX8_save w_X8_save cX8_save 1 (Option.some Jvm.ClassFile.FieldType.int) 0 := ⟨⟨rfl, tw_3_57, by decide⟩, tw_1_1, ⟨by decide, by decide⟩, by decide +kernel⟩
theorem c_X8_save {l : Launch} {K : Ctx} (hl : l.stackTraces = false) {h : Hp} {a0 : Nat} {t : Rs Int32} (e : f_X8_save h a0 = some t) : Ctr l K 11 yX8_save w_X8_save [.ref a0] h (tgI t) :=
  Ctr.of hl mf_X8_save false (fun q => nomatch q) rfl (leb rfl) (p_X8_save hl e)
/-! ## TableColumnBalancerModel.save -/
abbrev mM_X9_save : Mi := (8, yX9_save.cls, cX9_save, 2, (Option.some Jvm.ClassFile.FieldType.int), [], false)
noncomputable def f_X9_save_B7 (k7 : Hp → Nat → Int32 → Option (Rs Int32)) (h : Hp) (a0 : Nat) (i1 : Int32) : Option (Rs Int32) :=
  if (iN 506) ≤ i1 then (
    chk (okr h a0 9) <|
    lt (putI h a0 4 (iN 1)) fun h3 =>
    chk (okr h3 (qR h3 a0 1) 20) <|
    chk (vp_in (iN 5) (qW h3 (qR h3 a0 1))) <|
    some (h3, .inr (qI h3 (qR h3 a0 1) (Int32.toNatClampNeg (iN 5))))
  ) else (
    chk (okr h a0 9) <|
    chk (okr h (qR h a0 2) 20) <|
    chk (okr h (qR h a0 1) 20) <|
    chk (vp_in i1 (qW h (qR h a0 1))) <|
    chk (vp_in i1 (qW h (qR h a0 2))) <|
    lt (putI h (qR h a0 2) (Int32.toNatClampNeg i1) (qI h (qR h a0 1) (Int32.toNatClampNeg i1))) fun h11 =>
    k7 h11 a0 (i1 + iN 1)
  )
theorem p_X9_save_B7 {l : Launch} {K : Ctx} (hl : l.stackTraces = false) {k7 : Hp → Nat → Int32 → Option (Rs Int32)} (hk7 : ∀ (h : Hp) (a0 : Nat) (i1 : Int32) (t : Rs Int32), k7 h a0 i1 = some t → X l K mM_X9_save (tgI t) 7 [(0, .ref a0), (1, .int i1)] [] h) {h : Hp} {a0 : Nat} {i1 : Int32} {t : Rs Int32} (e : f_X9_save_B7 k7 h a0 i1 = some t) : X l K mM_X9_save (tgI t) 7 [(0, .ref a0), (1, .int i1)] [] h := by
  unfold f_X9_save_B7 at e
  refine x_iload_n (pc := 7) 1 dX9_save_7 rfl ?_
  refine x_sipush (pc := 8) (v := iN 506) dX9_save_8 rfl ?_
  rcases ite_some e with ⟨q1, e⟩ | ⟨q1, e⟩
  · refine x_icmp_ge_t (pc := 11) (t := 32) dX9_save_11 (by decide) q1 ?_
    refine x_aload_n (pc := 32) 0 dX9_save_32 rfl ?_
    refine x_iconst (pc := 33) dX9_save_33 ?_
    obtain ⟨q2, e⟩ := chk_some e
    replace e := lt_go e
    refine x_putI (pc := 34) pf_X9_397 rfl (nar_z (Or.inr rfl)) (fit_z (Or.inr rfl)) dX9_save_34 q2 ?_
    refine x_aload_n (pc := 37) 0 dX9_save_37 rfl ?_
    obtain ⟨q4, e⟩ := chk_some e
    refine x_getR (pc := 38) gf_X9_9 rfl dX9_save_38 (okr_pI q2) q4.1 ?_
    refine x_iconst (pc := 41) dX9_save_41 ?_
    obtain ⟨q5, e⟩ := chk_some e
    refine x_iald (pc := 42) dX9_save_42 q4 q5 ?_
    cases Option.some.inj e
    exact x_iret (pc := 43) rfl dX9_save_43
  · refine x_icmp_ge_f (pc := 11) (t := 32) dX9_save_11 (by decide) q1 ?_
    refine x_aload_n (pc := 14) 0 dX9_save_14 rfl ?_
    obtain ⟨q6, e⟩ := chk_some e
    obtain ⟨q7, e⟩ := chk_some e
    refine x_getR (pc := 15) gf_X9_13 rfl dX9_save_15 q6 q7.1 ?_
    refine x_iload_n (pc := 18) 1 dX9_save_18 rfl ?_
    refine x_aload_n (pc := 19) 0 dX9_save_19 rfl ?_
    obtain ⟨q8, e⟩ := chk_some e
    refine x_getR (pc := 20) gf_X9_9 rfl dX9_save_20 q6 q8.1 ?_
    refine x_iload_n (pc := 23) 1 dX9_save_23 rfl ?_
    obtain ⟨q9, e⟩ := chk_some e
    refine x_iald (pc := 24) dX9_save_24 q8 q9 ?_
    obtain ⟨q10, e⟩ := chk_some e
    replace e := lt_go e
    refine x_iast (pc := 25) dX9_save_25 q7 q10 ?_
    refine x_iinc (pc := 26) 1 dX9_save_26 rfl (by decide) rfl ?_
    refine x_goto (pc := 29) (t := 7) dX9_save_29 (by decide) ?_
    exact x_sub1 (hk7 _ _ _ _ e) [1, 0] rfl
noncomputable def f_X9_save_L7 (n : Nat) : Hp → Nat → Int32 → Option (Rs Int32) := Nat.rec (motive := fun _ => Hp → Nat → Int32 → Option (Rs Int32)) (fun _ _ _ => none) (fun _ r => f_X9_save_B7 r) n
theorem p_X9_save_L7 {l : Launch} {K : Ctx} (hl : l.stackTraces = false) : ∀ (n : Nat) (h : Hp) (a0 : Nat) (i1 : Int32) (t : Rs Int32) (e : f_X9_save_L7 n h a0 i1 = some t), X l K mM_X9_save (tgI t) 7 [(0, .ref a0), (1, .int i1)] [] h := by
  intro n
  induction n with
  | zero => exact fun _ _ _ _ e => nomatch (show (none : Option (Rs Int32)) = some _ from e)
  | succ n ih => exact fun h a0 i1 t e => p_X9_save_B7 hl (fun h a0 i1 t e => ih h a0 i1 t e) e
noncomputable def f_X9_save (h : Hp) (a0 : Nat) : Option (Rs Int32) :=
  chk (okr h a0 9) <|
  lt (putI h a0 0 (iN 0)) fun h2 =>
  f_X9_save_L7 2000 h2 a0 (iN 0)
theorem p_X9_save {l : Launch} {K : Ctx} (hl : l.stackTraces = false) {h : Hp} {a0 : Nat} {t : Rs Int32} (e : f_X9_save h a0 = some t) : X l K mM_X9_save (tgI t) 0 [(0, .ref a0)] [] h := by
  unfold f_X9_save at e
  refine x_aload_n (pc := 0) 0 dX9_save_0 rfl ?_
  refine x_iconst (pc := 1) dX9_save_1 ?_
  obtain ⟨q1, e⟩ := chk_some e
  replace e := lt_go e
  refine x_putI (pc := 2) pf_X9_84 rfl rfl rfl dX9_save_2 q1 ?_
  refine x_iconst (pc := 5) dX9_save_5 ?_
  refine x_istore_n (pc := 6) dX9_save_6 (by decide) rfl ?_
  exact x_sub1 (p_X9_save_L7 hl 2000 _ _ _ _ e) [1, 0] rfl
abbrev w_X9_save : Cond := (Cond.code yX9_save cX9_save 2 (Option.some Jvm.ClassFile.FieldType.int))
theorem mf_X9_save : MF yX9_save w_X9_save cX9_save 2 (Option.some Jvm.ClassFile.FieldType.int) 0 := ⟨⟨rfl, tw_9_25, by decide⟩, tw_1_11, ⟨by decide, by decide⟩, by decide +kernel⟩
theorem c_X9_save {l : Launch} {K : Ctx} (hl : l.stackTraces = false) {h : Hp} {a0 : Nat} {t : Rs Int32} (e : f_X9_save h a0 = some t) : Ctr l K 8 yX9_save w_X9_save [.ref a0] h (tgI t) :=
  Ctr.of hl mf_X9_save false (fun q => nomatch q) rfl (leb rfl) (p_X9_save hl e)
/-! ## TableColumnBalancer.restore -/
abbrev mM_X8_restore : Mi := (14, yX8_restore.cls, cX8_restore, 1, (Option.some Jvm.ClassFile.FieldType.int), [], false)
noncomputable def f_X8_restore (h : Hp) (a0 : Nat) : Option (Rs Int32) :=
  chk (okr h a0 8) <|
  bnd (f_X8_requireState h (qI h a0 7)) fun h2 _ =>
  chk (okr h2 a0 8) <|
  chk (okr h2 (qR h2 a0 0) 7) <|
  chk (okr h2 (qR h2 a0 6) 7) <|
  bnd (f_X7_copyFrom h2 (qR h2 a0 0) (qR h2 a0 6)) fun h7 _ =>
  chk (okr h7 a0 8) <|
  bnd (f_X8_changed h7 a0) fun h10 _ =>
  chk (okr h10 a0 8) <|
  chk (okr h10 (qR h10 a0 0) 7) <|
  some (h10, .inr (qI h10 (qR h10 a0 0) 5))
theorem p_X8_restore {l : Launch} {K : Ctx} (hl : l.stackTraces = false) {h : Hp} {a0 : Nat} {t : Rs Int32} (e : f_X8_restore h a0 = some t) : X l K mM_X8_restore (tgI t) 0 [(0, .ref a0)] [] h := by
  unfold f_X8_restore at e
  refine x_aload_n (pc := 0) 0 dX8_restore_0 rfl ?_
  obtain ⟨q1, e⟩ := chk_some e
  refine x_getI (pc := 1) gf_X8_340 rfl dX8_restore_1 q1 ?_
  rcases bnd_some e with ⟨h2, r3, ec, rfl⟩ | ⟨h2, r3, ec, e⟩
  · exact y_callS_x (pc := 4) (c_X8_requireState hl ec) mf_X8_requireState tw_3_155 lf_X8_84 dX8_restore_4 (by decide) rfl rfl (leb rfl) (xx_out0 rfl)
  refine y_callS_v (pc := 4) (c_X8_requireState hl ec) mf_X8_requireState tw_3_155 lf_X8_84 dX8_restore_4 (by decide) rfl rfl (leb rfl) ?_
  refine x_aload_n (pc := 7) 0 dX8_restore_7 rfl ?_
  obtain ⟨q4, e⟩ := chk_some e
  obtain ⟨q5, e⟩ := chk_some e
  refine x_getR (pc := 8) gf_X8_10 rfl dX8_restore_8 q4 q5.1 ?_
  refine x_aload_n (pc := 11) 0 dX8_restore_11 rfl ?_
  obtain ⟨q6, e⟩ := chk_some e
  refine x_getR (pc := 12) gf_X8_43 rfl dX8_restore_12 q4 q6.1 ?_
  rcases bnd_some e with ⟨h7, r8, ec, rfl⟩ | ⟨h7, r8, ec, e⟩
  · exact y_callV_x (pc := 15) (c_X7_copyFrom hl ec) q5 mf_X7_copyFrom tw_3_60 ts_2_15 lf_X8_195 rfl rfl dX8_restore_15 (by decide) rfl rfl (leb rfl) (xx_out0 rfl)
  refine y_callV_v (pc := 15) (c_X7_copyFrom hl ec) q5 mf_X7_copyFrom tw_3_60 ts_2_15 lf_X8_195 rfl rfl dX8_restore_15 (by decide) rfl rfl (leb rfl) ?_
  refine x_aload_n (pc := 18) 0 dX8_restore_18 rfl ?_
  obtain ⟨q9, e⟩ := chk_some e
  rcases bnd_some e with ⟨h10, r11, ec, rfl⟩ | ⟨h10, r11, ec, e⟩
  · exact y_callV_x (pc := 19) (c_X8_changed hl ec) q9 mf_X8_changed tw_3_182 ts_3_5 lf_X8_93 rfl rfl dX8_restore_19 (by decide) rfl rfl (leb rfl) (xx_out0 rfl)
  refine y_callV_v (pc := 19) (c_X8_changed hl ec) q9 mf_X8_changed tw_3_182 ts_3_5 lf_X8_93 rfl rfl dX8_restore_19 (by decide) rfl rfl (leb rfl) ?_
  refine x_aload_n (pc := 22) 0 dX8_restore_22 rfl ?_
  obtain ⟨q12, e⟩ := chk_some e
  obtain ⟨q13, e⟩ := chk_some e
  refine x_getR (pc := 23) gf_X8_10 rfl dX8_restore_23 q12 q13.1 ?_
  refine x_getI (pc := 26) gf_X8_80 rfl dX8_restore_26 q13 ?_
  cases Option.some.inj e
  exact x_iret (pc := 29) rfl dX8_restore_29
abbrev w_X8_restore : Cond := (Cond.code yX8_restore cX8_restore 1 (Option.some Jvm.ClassFile.FieldType.int))
theorem mf_X8_restore : MF yX8_restore w_X8_restore cX8_restore 1 (Option.some Jvm.ClassFile.FieldType.int) 0 := ⟨⟨rfl, tw_6_141, by decide⟩, tw_1_1, ⟨by decide, by decide⟩, by decide +kernel⟩
theorem c_X8_restore {l : Launch} {K : Ctx} (hl : l.stackTraces = false) {h : Hp} {a0 : Nat} {t : Rs Int32} (e : f_X8_restore h a0 = some t) : Ctr l K 14 yX8_restore w_X8_restore [.ref a0] h (tgI t) :=
  Ctr.of hl mf_X8_restore false (fun q => nomatch q) rfl (leb rfl) (p_X8_restore hl e)
/-! ## TableColumnBalancerLaw.restore -/
abbrev mM_L_restore : Mi := (15, yL_restore.cls, cL_restore, 3, (Option.some Jvm.ClassFile.FieldType.int), [((0 : Nat), (8 : Nat), (11 : Nat), (15 : Nat))], false)
noncomputable def f_L_restore (h : Hp) (a0 : Nat) (a1 : Nat) : Option (Rs Int32) :=
  chk (okr h a0 8) <|
  bndX (f_X8_restore h a0) (fun h2 r3 => (
    chk (okr h2 a1 21) <|
    chk (vp_in (iN 0) (qW h2 a1)) <|
    lt (putL h2 a1 (Int32.toNatClampNeg (iN 0)) (Int32.toInt64 r3)) fun h6 =>
    some (h6, .inr (iN 0))
  )) fun h2 k =>
  if k = 0 then (
    some (h2, .inr (iN 1))
  ) else
  none
theorem p_L_restore {l : Launch} {K : Ctx} (hl : l.stackTraces = false) {h : Hp} {a0 : Nat} {a1 : Nat} {t : Rs Int32} (e : f_L_restore h a0 a1 = some t) : X l K mM_L_restore (tgI t) 0 [(0, .ref a0), (1, .ref a1)] [] h := by
  unfold f_L_restore at e
  refine x_aload_n (pc := 0) 1 dL_restore_0 rfl ?_
  refine x_iconst (pc := 1) dL_restore_1 ?_
  refine x_aload_n (pc := 2) 0 dL_restore_2 rfl ?_
  obtain ⟨q1, e⟩ := chk_some e
  rcases bndX_some e with ⟨h2, k, ec, e⟩ | ⟨h2, r3, ec, e⟩
  · rcases ite_some e with ⟨q7, e⟩ | ⟨q7, e⟩
    · subst q7
      refine y_callV_x (pc := 3) (c_X8_restore hl ec) q1 mf_X8_restore tw_6_139 tw_6_140 lf_L_142 rfl rfl dL_restore_3 (by decide) rfl rfl (leb rfl) (xx_catch (pc := 3) [] [] (0, 8, 11, 15) rfl (by decide) (fun _ hz => absurd hz List.not_mem_nil) (by decide) (by decide) tw_3_77 tw_3_159 dL_restore_11 (by decide) rfl ?_)
      refine x_iconst (pc := 12) dL_restore_12 ?_
      cases Option.some.inj e
      exact x_iret (pc := 13) rfl dL_restore_13
    cases e
  refine y_callV_i (pc := 3) (c_X8_restore hl ec) q1 mf_X8_restore tw_6_139 tw_6_140 lf_L_142 rfl rfl dL_restore_3 (by decide) rfl rfl (leb rfl) ?_
  refine x_i2l (pc := 6) dL_restore_6 ?_
  obtain ⟨q4, e⟩ := chk_some e
  obtain ⟨q5, e⟩ := chk_some e
  replace e := lt_go e
  refine x_last (pc := 7) dL_restore_7 q4 q5 ?_
  refine x_goto (pc := 8) (t := 14) dL_restore_8 (by decide) ?_
  refine x_iconst (pc := 14) dL_restore_14 ?_
  cases Option.some.inj e
  exact x_iret (pc := 15) rfl dL_restore_15
abbrev w_L_restore : Cond := (Cond.codeWith yL_restore cL_restore 3 (Option.some Jvm.ClassFile.FieldType.int) [((0 : Nat), (8 : Nat), (11 : Nat), (15 : Nat))])
theorem mf_L_restore : MFX yL_restore w_L_restore cL_restore 3 (Option.some Jvm.ClassFile.FieldType.int) 2 [((0 : Nat), (8 : Nat), (11 : Nat), (15 : Nat))] := ⟨⟨rfl, tw_6_137, by decide⟩, tw_1_0, ⟨by decide, by decide⟩, by decide +kernel⟩
theorem c_L_restore {l : Launch} {K : Ctx} (hl : l.stackTraces = false) {h : Hp} {a0 : Nat} {a1 : Nat} {t : Rs Int32} (e : f_L_restore h a0 a1 = some t) : Ctr l K 15 yL_restore w_L_restore [.ref a0, .ref a1] h (tgI t) :=
  Ctr.ofX hl mf_L_restore rfl (leb rfl) (p_L_restore hl e)
/-! ## TableColumnBalancerModel.restore -/
abbrev mM_X9_restore : Mi := (9, yX9_restore.cls, cX9_restore, 2, (Option.some Jvm.ClassFile.FieldType.int), [], false)
noncomputable def f_X9_restore_B20 (k20 : Hp → Nat → Int32 → Option (Rs Int32)) (h : Hp) (a0 : Nat) (i1 : Int32) : Option (Rs Int32) :=
  if (iN 506) ≤ i1 then (
    chk (okr h a0 9) <|
    chk (okr h (qR h a0 1) 20) <|
    chk (vp_in (iN 5) (qW h (qR h a0 1))) <|
    some (h, .inr (qI h (qR h a0 1) (Int32.toNatClampNeg (iN 5))))
  ) else (
    chk (okr h a0 9) <|
    chk (okr h (qR h a0 1) 20) <|
    chk (okr h (qR h a0 2) 20) <|
    chk (vp_in i1 (qW h (qR h a0 2))) <|
    chk (vp_in i1 (qW h (qR h a0 1))) <|
    lt (putI h (qR h a0 1) (Int32.toNatClampNeg i1) (qI h (qR h a0 2) (Int32.toNatClampNeg i1))) fun h10 =>
    k20 h10 a0 (i1 + iN 1)
  )
theorem p_X9_restore_B20 {l : Launch} {K : Ctx} (hl : l.stackTraces = false) {k20 : Hp → Nat → Int32 → Option (Rs Int32)} (hk20 : ∀ (h : Hp) (a0 : Nat) (i1 : Int32) (t : Rs Int32), k20 h a0 i1 = some t → X l K mM_X9_restore (tgI t) 20 [(0, .ref a0), (1, .int i1)] [] h) {h : Hp} {a0 : Nat} {i1 : Int32} {t : Rs Int32} (e : f_X9_restore_B20 k20 h a0 i1 = some t) : X l K mM_X9_restore (tgI t) 20 [(0, .ref a0), (1, .int i1)] [] h := by
  unfold f_X9_restore_B20 at e
  refine x_iload_n (pc := 20) 1 dX9_restore_20 rfl ?_
  refine x_sipush (pc := 21) (v := iN 506) dX9_restore_21 rfl ?_
  rcases ite_some e with ⟨q1, e⟩ | ⟨q1, e⟩
  · refine x_icmp_ge_t (pc := 24) (t := 45) dX9_restore_24 (by decide) q1 ?_
    refine x_aload_n (pc := 45) 0 dX9_restore_45 rfl ?_
    obtain ⟨q2, e⟩ := chk_some e
    obtain ⟨q3, e⟩ := chk_some e
    refine x_getR (pc := 46) gf_X9_9 rfl dX9_restore_46 q2 q3.1 ?_
    refine x_iconst (pc := 49) dX9_restore_49 ?_
    obtain ⟨q4, e⟩ := chk_some e
    refine x_iald (pc := 50) dX9_restore_50 q3 q4 ?_
    cases Option.some.inj e
    exact x_iret (pc := 51) rfl dX9_restore_51
  · refine x_icmp_ge_f (pc := 24) (t := 45) dX9_restore_24 (by decide) q1 ?_
    refine x_aload_n (pc := 27) 0 dX9_restore_27 rfl ?_
    obtain ⟨q5, e⟩ := chk_some e
    obtain ⟨q6, e⟩ := chk_some e
    refine x_getR (pc := 28) gf_X9_9 rfl dX9_restore_28 q5 q6.1 ?_
    refine x_iload_n (pc := 31) 1 dX9_restore_31 rfl ?_
    refine x_aload_n (pc := 32) 0 dX9_restore_32 rfl ?_
    obtain ⟨q7, e⟩ := chk_some e
    refine x_getR (pc := 33) gf_X9_13 rfl dX9_restore_33 q5 q7.1 ?_
    refine x_iload_n (pc := 36) 1 dX9_restore_36 rfl ?_
    obtain ⟨q8, e⟩ := chk_some e
    refine x_iald (pc := 37) dX9_restore_37 q7 q8 ?_
    obtain ⟨q9, e⟩ := chk_some e
    replace e := lt_go e
    refine x_iast (pc := 38) dX9_restore_38 q6 q9 ?_
    refine x_iinc (pc := 39) 1 dX9_restore_39 rfl (by decide) rfl ?_
    refine x_goto (pc := 42) (t := 20) dX9_restore_42 (by decide) ?_
    exact x_sub1 (hk20 _ _ _ _ e) [1, 0] rfl
noncomputable def f_X9_restore_L20 (n : Nat) : Hp → Nat → Int32 → Option (Rs Int32) := Nat.rec (motive := fun _ => Hp → Nat → Int32 → Option (Rs Int32)) (fun _ _ _ => none) (fun _ r => f_X9_restore_B20 r) n
theorem p_X9_restore_L20 {l : Launch} {K : Ctx} (hl : l.stackTraces = false) : ∀ (n : Nat) (h : Hp) (a0 : Nat) (i1 : Int32) (t : Rs Int32) (e : f_X9_restore_L20 n h a0 i1 = some t), X l K mM_X9_restore (tgI t) 20 [(0, .ref a0), (1, .int i1)] [] h := by
  intro n
  induction n with
  | zero => exact fun _ _ _ _ e => nomatch (show (none : Option (Rs Int32)) = some _ from e)
  | succ n ih => exact fun h a0 i1 t e => p_X9_restore_B20 hl (fun h a0 i1 t e => ih h a0 i1 t e) e
noncomputable def f_X9_restore (h : Hp) (a0 : Nat) : Option (Rs Int32) :=
  chk (okr h a0 9) <|
  lt (putI h a0 0 (iN 0)) fun h2 =>
  if (qI h2 a0 4) = 0 then (
    bnd (f_X9_fails h2 a0 (iN 1)) fun h4 r5 =>
    some (h4, .inr r5)
  ) else (
    f_X9_restore_L20 2000 h2 a0 (iN 0)
  )
theorem p_X9_restore {l : Launch} {K : Ctx} (hl : l.stackTraces = false) {h : Hp} {a0 : Nat} {t : Rs Int32} (e : f_X9_restore h a0 = some t) : X l K mM_X9_restore (tgI t) 0 [(0, .ref a0)] [] h := by
  unfold f_X9_restore at e
  refine x_aload_n (pc := 0) 0 dX9_restore_0 rfl ?_
  refine x_iconst (pc := 1) dX9_restore_1 ?_
  obtain ⟨q1, e⟩ := chk_some e
  replace e := lt_go e
  refine x_putI (pc := 2) pf_X9_84 rfl rfl rfl dX9_restore_2 q1 ?_
  refine x_aload_n (pc := 5) 0 dX9_restore_5 rfl ?_
  refine x_getI (pc := 6) gf_X9_397 rfl dX9_restore_6 (okr_pI q1) ?_
  rcases ite_some e with ⟨q3, e⟩ | ⟨q3, e⟩
  · refine x_if_ne_f (pc := 9) (t := 18) dX9_restore_9 (by decide) q3 ?_
    refine x_aload_n (pc := 12) 0 dX9_restore_12 rfl ?_
    refine x_iconst (pc := 13) dX9_restore_13 ?_
    rcases bnd_some e with ⟨h4, r5, ec, rfl⟩ | ⟨h4, r5, ec, e⟩
    · exact y_callV_x (pc := 14) (c_X9_fails hl ec) (okr_pI q1) mf_X9_fails tw_7_24 ts_6_7 lf_X9_95 rfl rfl dX9_restore_14 (by decide) rfl rfl (leb rfl) (xx_out0 rfl)
    refine y_callV_i (pc := 14) (c_X9_fails hl ec) (okr_pI q1) mf_X9_fails tw_7_24 ts_6_7 lf_X9_95 rfl rfl dX9_restore_14 (by decide) rfl rfl (leb rfl) ?_
    cases Option.some.inj e
    exact x_iret (pc := 17) rfl dX9_restore_17
  · refine x_if_ne_t (pc := 9) (t := 18) dX9_restore_9 (by decide) q3 ?_
    refine x_iconst (pc := 18) dX9_restore_18 ?_
    refine x_istore_n (pc := 19) dX9_restore_19 (by decide) rfl ?_
    exact x_sub1 (p_X9_restore_L20 hl 2000 _ _ _ _ e) [1, 0] rfl
abbrev w_X9_restore : Cond := (Cond.code yX9_restore cX9_restore 2 (Option.some Jvm.ClassFile.FieldType.int))
theorem mf_X9_restore : MF yX9_restore w_X9_restore cX9_restore 2 (Option.some Jvm.ClassFile.FieldType.int) 0 := ⟨⟨rfl, tw_9_29, by decide⟩, tw_1_11, ⟨by decide, by decide⟩, by decide +kernel⟩
theorem c_X9_restore {l : Launch} {K : Ctx} (hl : l.stackTraces = false) {h : Hp} {a0 : Nat} {t : Rs Int32} (e : f_X9_restore h a0 = some t) : Ctr l K 9 yX9_restore w_X9_restore [.ref a0] h (tgI t) :=
  Ctr.of hl mf_X9_restore false (fun q => nomatch q) rfl (leb rfl) (p_X9_restore hl e)
