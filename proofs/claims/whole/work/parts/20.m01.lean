/-! ===== the methods as functions, each with its proof: made by program (gen_fun.py) ===== -/
/-! ## TableColumnBalancer$Content.<init> -/
abbrev mM_X4_init : Mi := (8, yX4_init.cls, cX4_init, 1, (Option.none : Option Jvm.ClassFile.FieldType), [], true)
noncomputable def f_X4_init (h : Hp) (a0 : Nat) : Option (Rs Unit) :=
  chk (qN h + 1 < 1000000) <|
  lt (newO h 20 12 12) fun h2 =>
  chk (okr h2 a0 4) <|
  lt (putR h2 a0 5 (qN h + 1)) fun h4 =>
  chk (qN h4 + 1 < 1000000) <|
  lt (newO h4 20 12 12) fun h6 =>
  lt (putR h6 a0 6 (qN h4 + 1)) fun h7 =>
  chk (qN h7 + 1 < 1000000) <|
  lt (newO h7 20 12 12) fun h9 =>
  lt (putR h9 a0 8 (qN h7 + 1)) fun h10 =>
  chk (qN h10 + 1 < 1000000) <|
  lt (newO h10 20 12 12) fun h12 =>
  lt (putR h12 a0 9 (qN h10 + 1)) fun h13 =>
  chk (qN h13 + 1 < 1000000) <|
  lt (newO h13 22 12 12) fun h15 =>
  lt (putR h15 a0 10 (qN h13 + 1)) fun h16 =>
  chk (qN h16 + 1 < 1000000) <|
  lt (newO h16 20 12 12) fun h18 =>
  lt (putR h18 a0 11 (qN h16 + 1)) fun h19 =>
  chk (qN h19 + 1 < 1000000) <|
  lt (newO h19 20 37 37) fun h21 =>
  lt (putR h21 a0 12 (qN h19 + 1)) fun h22 =>
  some (h22, .inr ())
theorem p_X4_init {l : Launch} {K : Ctx} (hl : l.stackTraces = false) {h : Hp} {a0 : Nat} {t : Rs Unit} (e : f_X4_init h a0 = some t) : X l K mM_X4_init (tgV t) 0 [(0, .ref a0)] [] h := by
  unfold f_X4_init at e
  refine x_aload_n (pc := 0) 0 dX4_init_0 rfl ?_
  refine x_objI (pc := 1) tw_1_57 tw_1_37 tw_1_38 dX4_init_1 (by decide) (leb rfl) ?_
  refine x_aload_n (pc := 4) 0 dX4_init_4 rfl ?_
  refine x_bipush (pc := 5) (v := iN 12) dX4_init_5 rfl ?_
  obtain ⟨q1, e⟩ := chk_some e
  replace e := lt_go e
  refine x_newa (pc := 7) (atype := .int) (t := 0) (w := 12) rfl (by decide) tw_1_103 dX4_init_7 (by decide) (by decide) (by decide) q1 ?_
  obtain ⟨q3, e⟩ := chk_some e
  replace e := lt_go e
  refine x_putR (pc := 9) pf_X4_9 rfl okr_new.1 (fun _ => rfl) (fun _ => rfl) dX4_init_9 q3 ?_
  refine x_aload_n (pc := 12) 0 dX4_init_12 rfl ?_
  refine x_bipush (pc := 13) (v := iN 12) dX4_init_13 rfl ?_
  obtain ⟨q5, e⟩ := chk_some e
  replace e := lt_go e
  refine x_newa (pc := 15) (atype := .int) (t := 0) (w := 12) rfl (by decide) tw_1_103 dX4_init_15 (by decide) (by decide) (by decide) q5 ?_
  replace e := lt_go e
  refine x_putR (pc := 17) pf_X4_15 rfl okr_new.1 (fun _ => rfl) (fun _ => rfl) dX4_init_17 (okr_nw (okr_pR q3)) ?_
  refine x_aload_n (pc := 20) 0 dX4_init_20 rfl ?_
  refine x_bipush (pc := 21) (v := iN 12) dX4_init_21 rfl ?_
  obtain ⟨q8, e⟩ := chk_some e
  replace e := lt_go e
  refine x_newa (pc := 23) (atype := .int) (t := 0) (w := 12) rfl (by decide) tw_1_103 dX4_init_23 (by decide) (by decide) (by decide) q8 ?_
  replace e := lt_go e
  refine x_putR (pc := 25) pf_X4_18 rfl okr_new.1 (fun _ => rfl) (fun _ => rfl) dX4_init_25 (okr_nw (okr_pR (okr_nw (okr_pR q3)))) ?_
  refine x_aload_n (pc := 28) 0 dX4_init_28 rfl ?_
  refine x_bipush (pc := 29) (v := iN 12) dX4_init_29 rfl ?_
  obtain ⟨q11, e⟩ := chk_some e
  replace e := lt_go e
  refine x_newa (pc := 31) (atype := .int) (t := 0) (w := 12) rfl (by decide) tw_1_103 dX4_init_31 (by decide) (by decide) (by decide) q11 ?_
  replace e := lt_go e
  refine x_putR (pc := 33) pf_X4_21 rfl okr_new.1 (fun _ => rfl) (fun _ => rfl) dX4_init_33 (okr_nw (okr_pR (okr_nw (okr_pR (okr_nw (okr_pR q3)))))) ?_
  refine x_aload_n (pc := 36) 0 dX4_init_36 rfl ?_
  refine x_bipush (pc := 37) (v := iN 12) dX4_init_37 rfl ?_
  obtain ⟨q14, e⟩ := chk_some e
  replace e := lt_go e
  refine x_newa (pc := 39) (atype := .boolean) (t := 2) (w := 12) rfl (by decide) tw_1_104 dX4_init_39 (by decide) (by decide) (by decide) q14 ?_
  replace e := lt_go e
  refine x_putR (pc := 41) pf_X4_24 rfl okr_new.1 (fun _ => rfl) (fun _ => rfl) dX4_init_41 (okr_nw (okr_pR (okr_nw (okr_pR (okr_nw (okr_pR (okr_nw (okr_pR q3)))))))) ?_
  refine x_aload_n (pc := 44) 0 dX4_init_44 rfl ?_
  refine x_bipush (pc := 45) (v := iN 12) dX4_init_45 rfl ?_
  obtain ⟨q17, e⟩ := chk_some e
  replace e := lt_go e
  refine x_newa (pc := 47) (atype := .int) (t := 0) (w := 12) rfl (by decide) tw_1_103 dX4_init_47 (by decide) (by decide) (by decide) q17 ?_
  replace e := lt_go e
  refine x_putR (pc := 49) pf_X4_28 rfl okr_new.1 (fun _ => rfl) (fun _ => rfl) dX4_init_49 (okr_nw (okr_pR (okr_nw (okr_pR (okr_nw (okr_pR (okr_nw (okr_pR (okr_nw (okr_pR q3)))))))))) ?_
  refine x_aload_n (pc := 52) 0 dX4_init_52 rfl ?_
  refine x_bipush (pc := 53) (v := iN 37) dX4_init_53 rfl ?_
  obtain ⟨q20, e⟩ := chk_some e
  replace e := lt_go e
  refine x_newa (pc := 55) (atype := .int) (t := 0) (w := 37) rfl (by decide) tw_1_103 dX4_init_55 (by decide) (by decide) (by decide) q20 ?_
  replace e := lt_go e
  refine x_putR (pc := 57) pf_X4_31 rfl okr_new.1 (fun _ => rfl) (fun _ => rfl) dX4_init_57 (okr_nw (okr_pR (okr_nw (okr_pR (okr_nw (okr_pR (okr_nw (okr_pR (okr_nw (okr_pR (okr_nw (okr_pR q3)))))))))))) ?_
  cases Option.some.inj e
  exact x_vret (pc := 60) rfl dX4_init_60
abbrev w_X4_init : Cond := (Cond.code yX4_init cX4_init 1 (Option.none : Option Jvm.ClassFile.FieldType))
theorem mf_X4_init : MF yX4_init w_X4_init cX4_init 1 (Option.none : Option Jvm.ClassFile.FieldType) 0 := ⟨⟨rfl, tw_1_56, by decide⟩, tw_1_4, ⟨by decide, by decide⟩, by decide +kernel⟩
theorem c_X4_init {l : Launch} {K : Ctx} (hl : l.stackTraces = false) {h : Hp} {a0 : Nat} {t : Rs Unit} (e : f_X4_init h a0 = some t) : Ctr l K 8 yX4_init w_X4_init [.ref a0] h (tgV t) :=
  Ctr.of hl mf_X4_init true (fun _ => rfl) rfl (leb rfl) (p_X4_init hl e)
/-! ## TableColumnBalancer$Cell.<init> -/
abbrev mM_X1_init : Mi := (9, yX1_init.cls, cX1_init, 1, (Option.none : Option Jvm.ClassFile.FieldType), [], true)
noncomputable def f_X1_init (h : Hp) (a0 : Nat) : Option (Rs Unit) :=
  chk (qN h + 1 < 1000000) <|
  lt (newO h 4 0 13) fun h2 =>
  bnd (f_X4_init h2 (qN h + 1)) fun h3 _ =>
  chk (okr h3 a0 1) <|
  chk (okr h3 (qN h + 1) 4) <|
  lt (putR h3 a0 3 (qN h + 1)) fun h7 =>
  some (h7, .inr ())
theorem p_X1_init {l : Launch} {K : Ctx} (hl : l.stackTraces = false) {h : Hp} {a0 : Nat} {t : Rs Unit} (e : f_X1_init h a0 = some t) : X l K mM_X1_init (tgV t) 0 [(0, .ref a0)] [] h := by
  unfold f_X1_init at e
  refine x_aload_n (pc := 0) 0 dX1_init_0 rfl ?_
  refine x_objI (pc := 1) tw_1_51 tw_1_37 tw_1_38 dX1_init_1 (by decide) (leb rfl) ?_
  refine x_aload_n (pc := 4) 0 dX1_init_4 rfl ?_
  obtain ⟨q1, e⟩ := chk_some e
  replace e := lt_go e
  refine x_new (pc := 5) (ci := 3) rfl tw_1_52 tw_1_53 tw_1_4 dX1_init_5 q1 ?_
  refine x_dup (pc := 8) dX1_init_8 rfl ?_
  rcases bnd_some e with ⟨h3, r4, ec, rfl⟩ | ⟨h3, r4, ec, e⟩
  · exact y_callI_x (pc := 9) (c_X4_init hl ec) mf_X4_init tw_1_55 rfl lf_X1_9 dX1_init_9 (by decide) rfl rfl (leb rfl) (xx_out0 rfl)
  refine y_callI_v (pc := 9) (c_X4_init hl ec) mf_X4_init tw_1_55 rfl lf_X1_9 dX1_init_9 (by decide) rfl rfl (leb rfl) ?_
  obtain ⟨q5, e⟩ := chk_some e
  obtain ⟨q6, e⟩ := chk_some e
  replace e := lt_go e
  refine x_putR (pc := 12) pf_X1_10 rfl q6.1 (fun _ => rfl) (fun _ => rfl) dX1_init_12 q5 ?_
  cases Option.some.inj e
  exact x_vret (pc := 15) rfl dX1_init_15
abbrev w_X1_init : Cond := (Cond.code yX1_init cX1_init 1 (Option.none : Option Jvm.ClassFile.FieldType))
theorem mf_X1_init : MF yX1_init w_X1_init cX1_init 1 (Option.none : Option Jvm.ClassFile.FieldType) 0 := ⟨⟨rfl, tw_1_50, by decide⟩, tw_1_3, ⟨by decide, by decide⟩, by decide +kernel⟩
theorem c_X1_init {l : Launch} {K : Ctx} (hl : l.stackTraces = false) {h : Hp} {a0 : Nat} {t : Rs Unit} (e : f_X1_init h a0 = some t) : Ctr l K 9 yX1_init w_X1_init [.ref a0] h (tgV t) :=
  Ctr.of hl mf_X1_init true (fun _ => rfl) rfl (leb rfl) (p_X1_init hl e)
/-! ## TableColumnBalancer$Table.<init> -/
abbrev mM_X7_init : Mi := (10, yX7_init.cls, cX7_init, 2, (Option.none : Option Jvm.ClassFile.FieldType), [], true)
noncomputable def f_X7_init_B45 (k45 : Hp → Nat → Int32 → Option (Rs Unit)) (h : Hp) (a0 : Nat) (i1 : Int32) : Option (Rs Unit) :=
  if (iN 16) ≤ i1 then (
    some (h, .inr ())
  ) else (
    chk (okr h a0 7) <|
    chk (okr h (qR h a0 8) 25) <|
    chk (qN h + 1 < 1000000) <|
    lt (newO h 1 0 4) fun h5 =>
    bnd (f_X1_init h5 (qN h + 1)) fun h6 _ =>
    chk (okr h6 (qR h a0 8) 25) <|
    chk (vp_in i1 (qW h6 (qR h a0 8))) <|
    chk (okr h6 (qN h + 1) 1) <|
    lt (putR h6 (qR h a0 8) (Int32.toNatClampNeg i1) (qN h + 1)) fun h11 =>
    k45 h11 a0 (i1 + iN 1)
  )
theorem p_X7_init_B45 {l : Launch} {K : Ctx} (hl : l.stackTraces = false) {k45 : Hp → Nat → Int32 → Option (Rs Unit)} (hk45 : ∀ (h : Hp) (a0 : Nat) (i1 : Int32) (t : Rs Unit), k45 h a0 i1 = some t → X l K mM_X7_init (tgV t) 45 [(0, .ref a0), (1, .int i1)] [] h) {h : Hp} {a0 : Nat} {i1 : Int32} {t : Rs Unit} (e : f_X7_init_B45 k45 h a0 i1 = some t) : X l K mM_X7_init (tgV t) 45 [(0, .ref a0), (1, .int i1)] [] h := by
  unfold f_X7_init_B45 at e
  refine x_iload_n (pc := 45) 1 dX7_init_45 rfl ?_
  refine x_bipush (pc := 46) (v := iN 16) dX7_init_46 rfl ?_
  rcases ite_some e with ⟨q1, e⟩ | ⟨q1, e⟩
  · refine x_icmp_ge_t (pc := 48) (t := 70) dX7_init_48 (by decide) q1 ?_
    cases Option.some.inj e
    exact x_vret (pc := 70) rfl dX7_init_70
  · refine x_icmp_ge_f (pc := 48) (t := 70) dX7_init_48 (by decide) q1 ?_
    refine x_aload_n (pc := 51) 0 dX7_init_51 rfl ?_
    obtain ⟨q2, e⟩ := chk_some e
    obtain ⟨q3, e⟩ := chk_some e
    refine x_getR (pc := 52) gf_X7_30 rfl dX7_init_52 q2 q3.1 ?_
    refine x_iload_n (pc := 55) 1 dX7_init_55 rfl ?_
    obtain ⟨q4, e⟩ := chk_some e
    replace e := lt_go e
    refine x_new (pc := 56) (ci := 0) rfl tw_1_45 tw_1_47 tw_1_3 dX7_init_56 q4 ?_
    refine x_dup (pc := 59) dX7_init_59 rfl ?_
    rcases bnd_some e with ⟨h6, r7, ec, rfl⟩ | ⟨h6, r7, ec, e⟩
    · exact y_callI_x (pc := 60) (c_X1_init hl ec) mf_X1_init tw_1_49 rfl lf_X7_34 dX7_init_60 (by decide) rfl rfl (leb rfl) (xx_out0 rfl)
    refine y_callI_v (pc := 60) (c_X1_init hl ec) mf_X1_init tw_1_49 rfl lf_X7_34 dX7_init_60 (by decide) rfl rfl (leb rfl) ?_
    obtain ⟨q8, e⟩ := chk_some e
    obtain ⟨q9, e⟩ := chk_some e
    obtain ⟨q10, e⟩ := chk_some e
    replace e := lt_go e
    refine x_aast (pc := 63) (t := 1) (by decide) dX7_init_63 q8 q9 q10 ?_
    refine x_iinc (pc := 64) 1 dX7_init_64 rfl (by decide) rfl ?_
    refine x_goto (pc := 67) (t := 45) dX7_init_67 (by decide) ?_
    exact x_sub1 (hk45 _ _ _ _ e) [1, 0] rfl
noncomputable def f_X7_init_L45 (n : Nat) : Hp → Nat → Int32 → Option (Rs Unit) := Nat.rec (motive := fun _ => Hp → Nat → Int32 → Option (Rs Unit)) (fun _ _ _ => none) (fun _ r => f_X7_init_B45 r) n
theorem p_X7_init_L45 {l : Launch} {K : Ctx} (hl : l.stackTraces = false) : ∀ (n : Nat) (h : Hp) (a0 : Nat) (i1 : Int32) (t : Rs Unit) (e : f_X7_init_L45 n h a0 i1 = some t), X l K mM_X7_init (tgV t) 45 [(0, .ref a0), (1, .int i1)] [] h := by
  intro n
  induction n with
  | zero => exact fun _ _ _ _ e => nomatch (show (none : Option (Rs Unit)) = some _ from e)
  | succ n ih => exact fun h a0 i1 t e => p_X7_init_B45 hl (fun h a0 i1 t e => ih h a0 i1 t e) e
noncomputable def f_X7_init (h : Hp) (a0 : Nat) : Option (Rs Unit) :=
  chk (okr h a0 7) <|
  lt (putI h a0 0 (iN 30)) fun h2 =>
  lt (putI h2 a0 1 (iN 1)) fun h3 =>
  lt (putI h3 a0 3 (iN 3)) fun h4 =>
  chk (qN h4 + 1 < 1000000) <|
  lt (newO h4 20 4 4) fun h6 =>
  lt (putR h6 a0 6 (qN h4 + 1)) fun h7 =>
  chk (qN h7 + 1 < 1000000) <|
  lt (newO h7 20 4 4) fun h9 =>
  lt (putR h9 a0 7 (qN h7 + 1)) fun h10 =>
  chk (qN h10 + 1 < 1000000) <|
  lt (newO h10 25 16 16) fun h12 =>
  lt (putR h12 a0 8 (qN h10 + 1)) fun h13 =>
  f_X7_init_L45 2000 h13 a0 (iN 0)
theorem p_X7_init {l : Launch} {K : Ctx} (hl : l.stackTraces = false) {h : Hp} {a0 : Nat} {t : Rs Unit} (e : f_X7_init h a0 = some t) : X l K mM_X7_init (tgV t) 0 [(0, .ref a0)] [] h := by
  unfold f_X7_init at e
  refine x_aload_n (pc := 0) 0 dX7_init_0 rfl ?_
  refine x_objI (pc := 1) tw_1_44 tw_1_37 tw_1_38 dX7_init_1 (by decide) (leb rfl) ?_
  refine x_aload_n (pc := 4) 0 dX7_init_4 rfl ?_
  refine x_bipush (pc := 5) (v := iN 30) dX7_init_5 rfl ?_
  obtain ⟨q1, e⟩ := chk_some e
  replace e := lt_go e
  refine x_putI (pc := 7) pf_X7_9 rfl rfl rfl dX7_init_7 q1 ?_
  refine x_aload_n (pc := 10) 0 dX7_init_10 rfl ?_
  refine x_iconst (pc := 11) dX7_init_11 ?_
  replace e := lt_go e
  refine x_putI (pc := 12) pf_X7_15 rfl rfl rfl dX7_init_12 (okr_pI q1) ?_
  refine x_aload_n (pc := 15) 0 dX7_init_15 rfl ?_
  refine x_iconst (pc := 16) dX7_init_16 ?_
  replace e := lt_go e
  refine x_putI (pc := 17) pf_X7_18 rfl rfl rfl dX7_init_17 (okr_pI (okr_pI q1)) ?_
  refine x_aload_n (pc := 20) 0 dX7_init_20 rfl ?_
  refine x_iconst (pc := 21) dX7_init_21 ?_
  obtain ⟨q5, e⟩ := chk_some e
  replace e := lt_go e
  refine x_newa (pc := 22) (atype := .int) (t := 0) (w := 4) rfl (by decide) tw_1_103 dX7_init_22 (by decide) (by decide) (by decide) q5 ?_
  replace e := lt_go e
  refine x_putR (pc := 24) pf_X7_21 rfl okr_new.1 (fun _ => rfl) (fun _ => rfl) dX7_init_24 (okr_nw (okr_pI (okr_pI (okr_pI q1)))) ?_
  refine x_aload_n (pc := 27) 0 dX7_init_27 rfl ?_
  refine x_iconst (pc := 28) dX7_init_28 ?_
  obtain ⟨q8, e⟩ := chk_some e
  replace e := lt_go e
  refine x_newa (pc := 29) (atype := .int) (t := 0) (w := 4) rfl (by decide) tw_1_103 dX7_init_29 (by decide) (by decide) (by decide) q8 ?_
  replace e := lt_go e
  refine x_putR (pc := 31) pf_X7_25 rfl okr_new.1 (fun _ => rfl) (fun _ => rfl) dX7_init_31 (okr_nw (okr_pR (okr_nw (okr_pI (okr_pI (okr_pI q1)))))) ?_
  refine x_aload_n (pc := 34) 0 dX7_init_34 rfl ?_
  refine x_bipush (pc := 35) (v := iN 16) dX7_init_35 rfl ?_
  obtain ⟨q11, e⟩ := chk_some e
  replace e := lt_go e
  refine x_anew (pc := 37) (t := 1) (w := 16) (by decide) tw_1_45 dX7_init_37 (by decide) (by decide) (by decide) q11 ?_
  replace e := lt_go e
  refine x_putR (pc := 40) pf_X7_30 rfl okr_new.1 (fun _ => rfl) (fun _ => rfl) dX7_init_40 (okr_nw (okr_pR (okr_nw (okr_pR (okr_nw (okr_pI (okr_pI (okr_pI q1)))))))) ?_
  refine x_iconst (pc := 43) dX7_init_43 ?_
  refine x_istore_n (pc := 44) dX7_init_44 (by decide) rfl ?_
  exact x_sub1 (p_X7_init_L45 hl 2000 _ _ _ _ e) [1, 0] rfl
abbrev w_X7_init : Cond := (Cond.code yX7_init cX7_init 2 (Option.none : Option Jvm.ClassFile.FieldType))
theorem mf_X7_init : MF yX7_init w_X7_init cX7_init 2 (Option.none : Option Jvm.ClassFile.FieldType) 0 := ⟨⟨rfl, tw_1_43, by decide⟩, tw_1_2, ⟨by decide, by decide⟩, by decide +kernel⟩
theorem c_X7_init {l : Launch} {K : Ctx} (hl : l.stackTraces = false) {h : Hp} {a0 : Nat} {t : Rs Unit} (e : f_X7_init h a0 = some t) : Ctr l K 10 yX7_init w_X7_init [.ref a0] h (tgV t) :=
  Ctr.of hl mf_X7_init true (fun _ => rfl) rfl (leb rfl) (p_X7_init hl e)
/-! ## TableColumnBalancer$Columns.<init> -/
abbrev mM_X3_init : Mi := (8, yX3_init.cls, cX3_init, 2, (Option.none : Option Jvm.ClassFile.FieldType), [], true)
noncomputable def f_X3_init (h : Hp) (a0 : Nat) (a1 : Nat) : Option (Rs Unit) :=
  chk (okr h a0 3) <|
  chk (okr h a1 7) <|
  lt (putR h a0 0 a1) fun h3 =>
  chk (qN h3 + 1 < 1000000) <|
  lt (newO h3 20 4 4) fun h5 =>
  lt (putR h5 a0 1 (qN h3 + 1)) fun h6 =>
  chk (qN h6 + 1 < 1000000) <|
  lt (newO h6 20 4 4) fun h8 =>
  lt (putR h8 a0 2 (qN h6 + 1)) fun h9 =>
  chk (qN h9 + 1 < 1000000) <|
  lt (newO h9 20 4 4) fun h11 =>
  lt (putR h11 a0 3 (qN h9 + 1)) fun h12 =>
  chk (qN h12 + 1 + 4 < 1000000) <|
  lt (newB h12 24 20 4 4) fun h14 =>
  lt (putR h14 a0 4 (qN h12 + 1)) fun h15 =>
  chk (qN h15 + 1 < 1000000) <|
  lt (newO h15 20 4 4) fun h17 =>
  lt (putR h17 a0 5 (qN h15 + 1)) fun h18 =>
  chk (qN h18 + 1 < 1000000) <|
  lt (newO h18 20 4 4) fun h20 =>
  lt (putR h20 a0 6 (qN h18 + 1)) fun h21 =>
  chk (qN h21 + 1 < 1000000) <|
  lt (newO h21 20 4 4) fun h23 =>
  lt (putR h23 a0 8 (qN h21 + 1)) fun h24 =>
  some (h24, .inr ())
theorem p_X3_init {l : Launch} {K : Ctx} (hl : l.stackTraces = false) {h : Hp} {a0 : Nat} {a1 : Nat} {t : Rs Unit} (e : f_X3_init h a0 a1 = some t) : X l K mM_X3_init (tgV t) 0 [(0, .ref a0), (1, .ref a1)] [] h := by
  unfold f_X3_init at e
  refine x_aload_n (pc := 0) 0 dX3_init_0 rfl ?_
  refine x_objI (pc := 1) tw_1_192 tw_1_37 tw_1_38 dX3_init_1 (by decide) (leb rfl) ?_
  refine x_aload_n (pc := 4) 0 dX3_init_4 rfl ?_
  refine x_aload_n (pc := 5) 1 dX3_init_5 rfl ?_
  obtain ⟨q1, e⟩ := chk_some e
  obtain ⟨q2, e⟩ := chk_some e
  replace e := lt_go e
  refine x_putR (pc := 6) pf_X3_9 rfl q2.1 (fun _ => rfl) (fun _ => rfl) dX3_init_6 q1 ?_
  refine x_aload_n (pc := 9) 0 dX3_init_9 rfl ?_
  refine x_iconst (pc := 10) dX3_init_10 ?_
  obtain ⟨q4, e⟩ := chk_some e
  replace e := lt_go e
  refine x_newa (pc := 11) (atype := .int) (t := 0) (w := 4) rfl (by decide) tw_1_103 dX3_init_11 (by decide) (by decide) (by decide) q4 ?_
  replace e := lt_go e
  refine x_putR (pc := 13) pf_X3_15 rfl okr_new.1 (fun _ => rfl) (fun _ => rfl) dX3_init_13 (okr_nw (okr_pR q1)) ?_
  refine x_aload_n (pc := 16) 0 dX3_init_16 rfl ?_
  refine x_iconst (pc := 17) dX3_init_17 ?_
  obtain ⟨q7, e⟩ := chk_some e
  replace e := lt_go e
  refine x_newa (pc := 18) (atype := .int) (t := 0) (w := 4) rfl (by decide) tw_1_103 dX3_init_18 (by decide) (by decide) (by decide) q7 ?_
  replace e := lt_go e
  refine x_putR (pc := 20) pf_X3_19 rfl okr_new.1 (fun _ => rfl) (fun _ => rfl) dX3_init_20 (okr_nw (okr_pR (okr_nw (okr_pR q1)))) ?_
  refine x_aload_n (pc := 23) 0 dX3_init_23 rfl ?_
  refine x_iconst (pc := 24) dX3_init_24 ?_
  obtain ⟨q10, e⟩ := chk_some e
  replace e := lt_go e
  refine x_newa (pc := 25) (atype := .int) (t := 0) (w := 4) rfl (by decide) tw_1_103 dX3_init_25 (by decide) (by decide) (by decide) q10 ?_
  replace e := lt_go e
  refine x_putR (pc := 27) pf_X3_22 rfl okr_new.1 (fun _ => rfl) (fun _ => rfl) dX3_init_27 (okr_nw (okr_pR (okr_nw (okr_pR (okr_nw (okr_pR q1)))))) ?_
  refine x_aload_n (pc := 30) 0 dX3_init_30 rfl ?_
  refine x_iconst (pc := 31) dX3_init_31 ?_
  refine x_iconst (pc := 32) dX3_init_32 ?_
  obtain ⟨q13, e⟩ := chk_some e
  replace e := lt_go e
  refine x_mna (pc := 33) (n := 4) (k := 4) tw_1_193 tw_1_103 dX3_init_33 (by decide) (by decide) (by decide) (by decide) (by decide) q13 ?_
  replace e := lt_go e
  refine x_putR (pc := 37) pf_X3_27 rfl okr_newB.1 (fun _ => rfl) (fun _ => rfl) dX3_init_37 (okr_nb (okr_pR (okr_nw (okr_pR (okr_nw (okr_pR (okr_nw (okr_pR q1)))))))) ?_
  refine x_aload_n (pc := 40) 0 dX3_init_40 rfl ?_
  refine x_iconst (pc := 41) dX3_init_41 ?_
  obtain ⟨q16, e⟩ := chk_some e
  replace e := lt_go e
  refine x_newa (pc := 42) (atype := .int) (t := 0) (w := 4) rfl (by decide) tw_1_103 dX3_init_42 (by decide) (by decide) (by decide) q16 ?_
  replace e := lt_go e
  refine x_putR (pc := 44) pf_X3_30 rfl okr_new.1 (fun _ => rfl) (fun _ => rfl) dX3_init_44 (okr_nw (okr_pR (okr_nb (okr_pR (okr_nw (okr_pR (okr_nw (okr_pR (okr_nw (okr_pR q1)))))))))) ?_
  refine x_aload_n (pc := 47) 0 dX3_init_47 rfl ?_
  refine x_iconst (pc := 48) dX3_init_48 ?_
  obtain ⟨q19, e⟩ := chk_some e
  replace e := lt_go e
  refine x_newa (pc := 49) (atype := .int) (t := 0) (w := 4) rfl (by decide) tw_1_103 dX3_init_49 (by decide) (by decide) (by decide) q19 ?_
  replace e := lt_go e
  refine x_putR (pc := 51) pf_X3_33 rfl okr_new.1 (fun _ => rfl) (fun _ => rfl) dX3_init_51 (okr_nw (okr_pR (okr_nw (okr_pR (okr_nb (okr_pR (okr_nw (okr_pR (okr_nw (okr_pR (okr_nw (okr_pR q1)))))))))))) ?_
  refine x_aload_n (pc := 54) 0 dX3_init_54 rfl ?_
  refine x_iconst (pc := 55) dX3_init_55 ?_
  obtain ⟨q22, e⟩ := chk_some e
  replace e := lt_go e
  refine x_newa (pc := 56) (atype := .int) (t := 0) (w := 4) rfl (by decide) tw_1_103 dX3_init_56 (by decide) (by decide) (by decide) q22 ?_
  replace e := lt_go e
  refine x_putR (pc := 58) pf_X3_36 rfl okr_new.1 (fun _ => rfl) (fun _ => rfl) dX3_init_58 (okr_nw (okr_pR (okr_nw (okr_pR (okr_nw (okr_pR (okr_nb (okr_pR (okr_nw (okr_pR (okr_nw (okr_pR (okr_nw (okr_pR q1)))))))))))))) ?_
  cases Option.some.inj e
  exact x_vret (pc := 61) rfl dX3_init_61
abbrev w_X3_init : Cond := (Cond.code yX3_init cX3_init 2 (Option.none : Option Jvm.ClassFile.FieldType))
theorem mf_X3_init : MF yX3_init w_X3_init cX3_init 2 (Option.none : Option Jvm.ClassFile.FieldType) 1 := ⟨⟨rfl, tw_1_191, by decide⟩, tw_1_5, ⟨by decide, by decide⟩, by decide +kernel⟩
theorem c_X3_init {l : Launch} {K : Ctx} (hl : l.stackTraces = false) {h : Hp} {a0 : Nat} {a1 : Nat} {t : Rs Unit} (e : f_X3_init h a0 a1 = some t) : Ctr l K 8 yX3_init w_X3_init [.ref a0, .ref a1] h (tgV t) :=
  Ctr.of hl mf_X3_init true (fun _ => rfl) rfl (leb rfl) (p_X3_init hl e)
/-! ## TableColumnBalancer$Search.<init> -/
abbrev mM_X6_init : Mi := (8, yX6_init.cls, cX6_init, 3, (Option.none : Option Jvm.ClassFile.FieldType), [], true)
noncomputable def f_X6_init (h : Hp) (a0 : Nat) (a1 : Nat) (a2 : Nat) : Option (Rs Unit) :=
  chk (okr h a0 6) <|
  chk (okr h a1 7) <|
  lt (putR h a0 0 a1) fun h3 =>
  chk (okr h3 a2 3) <|
  lt (putR h3 a0 1 a2) fun h5 =>
  chk (qN h5 + 1 < 1000000) <|
  lt (newO h5 20 37 37) fun h7 =>
  lt (putR h7 a0 2 (qN h5 + 1)) fun h8 =>
  chk (qN h8 + 1 + 37 < 1000000) <|
  lt (newB h8 24 20 37 4) fun h10 =>
  lt (putR h10 a0 3 (qN h8 + 1)) fun h11 =>
  chk (qN h11 + 1 < 1000000) <|
  lt (newO h11 20 4 4) fun h13 =>
  lt (putR h13 a0 4 (qN h11 + 1)) fun h14 =>
  chk (qN h14 + 1 + 5 < 1000000) <|
  lt (newB h14 24 20 5 6) fun h16 =>
  lt (putR h16 a0 7 (qN h14 + 1)) fun h17 =>
  chk (qN h17 + 1 < 1000000) <|
  lt (newO h17 20 4 4) fun h19 =>
  lt (putR h19 a0 8 (qN h17 + 1)) fun h20 =>
  some (h20, .inr ())
theorem p_X6_init {l : Launch} {K : Ctx} (hl : l.stackTraces = false) {h : Hp} {a0 : Nat} {a1 : Nat} {a2 : Nat} {t : Rs Unit} (e : f_X6_init h a0 a1 a2 = some t) : X l K mM_X6_init (tgV t) 0 [(0, .ref a0), (1, .ref a1), (2, .ref a2)] [] h := by
  unfold f_X6_init at e
  refine x_aload_n (pc := 0) 0 dX6_init_0 rfl ?_
  refine x_objI (pc := 1) tw_1_237 tw_1_37 tw_1_38 dX6_init_1 (by decide) (leb rfl) ?_
  refine x_aload_n (pc := 4) 0 dX6_init_4 rfl ?_
  refine x_aload_n (pc := 5) 1 dX6_init_5 rfl ?_
  obtain ⟨q1, e⟩ := chk_some e
  obtain ⟨q2, e⟩ := chk_some e
  replace e := lt_go e
  refine x_putR (pc := 6) pf_X6_9 rfl q2.1 (fun _ => rfl) (fun _ => rfl) dX6_init_6 q1 ?_
  refine x_aload_n (pc := 9) 0 dX6_init_9 rfl ?_
  refine x_aload_n (pc := 10) 2 dX6_init_10 rfl ?_
  obtain ⟨q4, e⟩ := chk_some e
  replace e := lt_go e
  refine x_putR (pc := 11) pf_X6_15 rfl q4.1 (fun _ => rfl) (fun _ => rfl) dX6_init_11 (okr_pR q1) ?_
  refine x_aload_n (pc := 14) 0 dX6_init_14 rfl ?_
  refine x_bipush (pc := 15) (v := iN 37) dX6_init_15 rfl ?_
  obtain ⟨q6, e⟩ := chk_some e
  replace e := lt_go e
  refine x_newa (pc := 17) (atype := .int) (t := 0) (w := 37) rfl (by decide) tw_1_103 dX6_init_17 (by decide) (by decide) (by decide) q6 ?_
  replace e := lt_go e
  refine x_putR (pc := 19) pf_X6_19 rfl okr_new.1 (fun _ => rfl) (fun _ => rfl) dX6_init_19 (okr_nw (okr_pR (okr_pR q1))) ?_
  refine x_aload_n (pc := 22) 0 dX6_init_22 rfl ?_
  refine x_bipush (pc := 23) (v := iN 37) dX6_init_23 rfl ?_
  refine x_iconst (pc := 25) dX6_init_25 ?_
  obtain ⟨q9, e⟩ := chk_some e
  replace e := lt_go e
  refine x_mna (pc := 26) (n := 37) (k := 4) tw_1_238 tw_1_103 dX6_init_26 (by decide) (by decide) (by decide) (by decide) (by decide) q9 ?_
  replace e := lt_go e
  refine x_putR (pc := 30) pf_X6_25 rfl okr_newB.1 (fun _ => rfl) (fun _ => rfl) dX6_init_30 (okr_nb (okr_pR (okr_nw (okr_pR (okr_pR q1))))) ?_
  refine x_aload_n (pc := 33) 0 dX6_init_33 rfl ?_
  refine x_iconst (pc := 34) dX6_init_34 ?_
  obtain ⟨q12, e⟩ := chk_some e
  replace e := lt_go e
  refine x_newa (pc := 35) (atype := .int) (t := 0) (w := 4) rfl (by decide) tw_1_103 dX6_init_35 (by decide) (by decide) (by decide) q12 ?_
  replace e := lt_go e
  refine x_putR (pc := 37) pf_X6_28 rfl okr_new.1 (fun _ => rfl) (fun _ => rfl) dX6_init_37 (okr_nw (okr_pR (okr_nb (okr_pR (okr_nw (okr_pR (okr_pR q1))))))) ?_
  refine x_aload_n (pc := 40) 0 dX6_init_40 rfl ?_
  refine x_iconst (pc := 41) dX6_init_41 ?_
  refine x_bipush (pc := 42) (v := iN 6) dX6_init_42 rfl ?_
  obtain ⟨q15, e⟩ := chk_some e
  replace e := lt_go e
  refine x_mna (pc := 44) (n := 5) (k := 6) tw_1_238 tw_1_103 dX6_init_44 (by decide) (by decide) (by decide) (by decide) (by decide) q15 ?_
  replace e := lt_go e
  refine x_putR (pc := 48) pf_X6_31 rfl okr_newB.1 (fun _ => rfl) (fun _ => rfl) dX6_init_48 (okr_nb (okr_pR (okr_nw (okr_pR (okr_nb (okr_pR (okr_nw (okr_pR (okr_pR q1))))))))) ?_
  refine x_aload_n (pc := 51) 0 dX6_init_51 rfl ?_
  refine x_iconst (pc := 52) dX6_init_52 ?_
  obtain ⟨q18, e⟩ := chk_some e
  replace e := lt_go e
  refine x_newa (pc := 53) (atype := .int) (t := 0) (w := 4) rfl (by decide) tw_1_103 dX6_init_53 (by decide) (by decide) (by decide) q18 ?_
  replace e := lt_go e
  refine x_putR (pc := 55) pf_X6_34 rfl okr_new.1 (fun _ => rfl) (fun _ => rfl) dX6_init_55 (okr_nw (okr_pR (okr_nb (okr_pR (okr_nw (okr_pR (okr_nb (okr_pR (okr_nw (okr_pR (okr_pR q1))))))))))) ?_
  cases Option.some.inj e
  exact x_vret (pc := 58) rfl dX6_init_58
abbrev w_X6_init : Cond := (Cond.code yX6_init cX6_init 3 (Option.none : Option Jvm.ClassFile.FieldType))
theorem mf_X6_init : MF yX6_init w_X6_init cX6_init 3 (Option.none : Option Jvm.ClassFile.FieldType) 2 := ⟨⟨rfl, tw_1_236, by decide⟩, tw_1_6, ⟨by decide, by decide⟩, by decide +kernel⟩
theorem c_X6_init {l : Launch} {K : Ctx} (hl : l.stackTraces = false) {h : Hp} {a0 : Nat} {a1 : Nat} {a2 : Nat} {t : Rs Unit} (e : f_X6_init h a0 a1 a2 = some t) : Ctr l K 8 yX6_init w_X6_init [.ref a0, .ref a1, .ref a2] h (tgV t) :=
  Ctr.of hl mf_X6_init true (fun _ => rfl) rfl (leb rfl) (p_X6_init hl e)
/-! ## TableColumnBalancer$Script.<init> -/
abbrev mM_X5_init : Mi := (9, yX5_init.cls, cX5_init, 1, (Option.none : Option Jvm.ClassFile.FieldType), [], true)
noncomputable def f_X5_init (h : Hp) (a0 : Nat) : Option (Rs Unit) :=
  chk (qN h + 1 < 1000000) <|
  lt (newO h 23 60 60) fun h2 =>
  chk (okr h2 a0 5) <|
  lt (putR h2 a0 0 (qN h + 1)) fun h4 =>
  lt (putI h4 a0 4 (iN (-1))) fun h5 =>
  chk (qN h5 + 1 < 1000000) <|
  lt (newO h5 4 0 13) fun h7 =>
  bnd (f_X4_init h7 (qN h5 + 1)) fun h8 _ =>
  chk (okr h8 a0 5) <|
  chk (okr h8 (qN h5 + 1) 4) <|
  lt (putR h8 a0 7 (qN h5 + 1)) fun h12 =>
  some (h12, .inr ())
theorem p_X5_init {l : Launch} {K : Ctx} (hl : l.stackTraces = false) {h : Hp} {a0 : Nat} {t : Rs Unit} (e : f_X5_init h a0 = some t) : X l K mM_X5_init (tgV t) 0 [(0, .ref a0)] [] h := by
  unfold f_X5_init at e
  refine x_aload_n (pc := 0) 0 dX5_init_0 rfl ?_
  refine x_objI (pc := 1) tw_2_41 tw_1_37 tw_1_38 dX5_init_1 (by decide) (leb rfl) ?_
  refine x_aload_n (pc := 4) 0 dX5_init_4 rfl ?_
  refine x_bipush (pc := 5) (v := iN 60) dX5_init_5 rfl ?_
  obtain ⟨q1, e⟩ := chk_some e
  replace e := lt_go e
  refine x_newa (pc := 7) (atype := .char) (t := 3) (w := 60) rfl (by decide) tw_2_71 dX5_init_7 (by decide) (by decide) (by decide) q1 ?_
  obtain ⟨q3, e⟩ := chk_some e
  replace e := lt_go e
  refine x_putR (pc := 9) pf_X5_9 rfl okr_new.1 (fun _ => rfl) (fun _ => rfl) dX5_init_9 q3 ?_
  refine x_aload_n (pc := 12) 0 dX5_init_12 rfl ?_
  refine x_iconst (pc := 13) dX5_init_13 ?_
  replace e := lt_go e
  refine x_putI (pc := 14) pf_X5_15 rfl rfl rfl dX5_init_14 (okr_pR q3) ?_
  refine x_aload_n (pc := 17) 0 dX5_init_17 rfl ?_
  obtain ⟨q6, e⟩ := chk_some e
  replace e := lt_go e
  refine x_new (pc := 18) (ci := 3) rfl tw_2_42 tw_1_53 tw_1_4 dX5_init_18 q6 ?_
  refine x_dup (pc := 21) dX5_init_21 rfl ?_
  rcases bnd_some e with ⟨h8, r9, ec, rfl⟩ | ⟨h8, r9, ec, e⟩
  · exact y_callI_x (pc := 22) (c_X4_init hl ec) mf_X4_init tw_1_55 rfl lf_X5_21 dX5_init_22 (by decide) rfl rfl (leb rfl) (xx_out0 rfl)
  refine y_callI_v (pc := 22) (c_X4_init hl ec) mf_X4_init tw_1_55 rfl lf_X5_21 dX5_init_22 (by decide) rfl rfl (leb rfl) ?_
  obtain ⟨q10, e⟩ := chk_some e
  obtain ⟨q11, e⟩ := chk_some e
  replace e := lt_go e
  refine x_putR (pc := 25) pf_X5_22 rfl q11.1 (fun _ => rfl) (fun _ => rfl) dX5_init_25 q10 ?_
  cases Option.some.inj e
  exact x_vret (pc := 28) rfl dX5_init_28
abbrev w_X5_init : Cond := (Cond.code yX5_init cX5_init 1 (Option.none : Option Jvm.ClassFile.FieldType))
theorem mf_X5_init : MF yX5_init w_X5_init cX5_init 1 (Option.none : Option Jvm.ClassFile.FieldType) 0 := ⟨⟨rfl, tw_2_40, by decide⟩, tw_1_7, ⟨by decide, by decide⟩, by decide +kernel⟩
theorem c_X5_init {l : Launch} {K : Ctx} (hl : l.stackTraces = false) {h : Hp} {a0 : Nat} {t : Rs Unit} (e : f_X5_init h a0 = some t) : Ctr l K 9 yX5_init w_X5_init [.ref a0] h (tgV t) :=
  Ctr.of hl mf_X5_init true (fun _ => rfl) rfl (leb rfl) (p_X5_init hl e)
/-! ## TableColumnBalancer$Clip.<init> -/
abbrev mM_X2_init : Mi := (9, yX2_init.cls, cX2_init, 2, (Option.none : Option Jvm.ClassFile.FieldType), [], true)
noncomputable def f_X2_init_B21 (k21 : Hp → Nat → Int32 → Option (Rs Unit)) (h : Hp) (a0 : Nat) (i1 : Int32) : Option (Rs Unit) :=
  if (iN 3) ≤ i1 then (
    some (h, .inr ())
  ) else (
    chk (okr h a0 2) <|
    chk (okr h (qR h a0 4) 27) <|
    chk (qN h + 1 < 1000000) <|
    lt (newO h 4 0 13) fun h5 =>
    bnd (f_X4_init h5 (qN h + 1)) fun h6 _ =>
    chk (okr h6 (qR h a0 4) 27) <|
    chk (vp_in i1 (qW h6 (qR h a0 4))) <|
    chk (okr h6 (qN h + 1) 4) <|
    lt (putR h6 (qR h a0 4) (Int32.toNatClampNeg i1) (qN h + 1)) fun h11 =>
    k21 h11 a0 (i1 + iN 1)
  )
theorem p_X2_init_B21 {l : Launch} {K : Ctx} (hl : l.stackTraces = false) {k21 : Hp → Nat → Int32 → Option (Rs Unit)} (hk21 : ∀ (h : Hp) (a0 : Nat) (i1 : Int32) (t : Rs Unit), k21 h a0 i1 = some t → X l K mM_X2_init (tgV t) 21 [(0, .ref a0), (1, .int i1)] [] h) {h : Hp} {a0 : Nat} {i1 : Int32} {t : Rs Unit} (e : f_X2_init_B21 k21 h a0 i1 = some t) : X l K mM_X2_init (tgV t) 21 [(0, .ref a0), (1, .int i1)] [] h := by
  unfold f_X2_init_B21 at e
  refine x_iload_n (pc := 21) 1 dX2_init_21 rfl ?_
  refine x_iconst (pc := 22) dX2_init_22 ?_
  rcases ite_some e with ⟨q1, e⟩ | ⟨q1, e⟩
  · refine x_icmp_ge_t (pc := 23) (t := 45) dX2_init_23 (by decide) q1 ?_
    cases Option.some.inj e
    exact x_vret (pc := 45) rfl dX2_init_45
  · refine x_icmp_ge_f (pc := 23) (t := 45) dX2_init_23 (by decide) q1 ?_
    refine x_aload_n (pc := 26) 0 dX2_init_26 rfl ?_
    obtain ⟨q2, e⟩ := chk_some e
    obtain ⟨q3, e⟩ := chk_some e
    refine x_getR (pc := 27) gf_X2_17 rfl dX2_init_27 q2 q3.1 ?_
    refine x_iload_n (pc := 30) 1 dX2_init_30 rfl ?_
    obtain ⟨q4, e⟩ := chk_some e
    replace e := lt_go e
    refine x_new (pc := 31) (ci := 3) rfl tw_2_79 tw_1_53 tw_1_4 dX2_init_31 q4 ?_
    refine x_dup (pc := 34) dX2_init_34 rfl ?_
    rcases bnd_some e with ⟨h6, r7, ec, rfl⟩ | ⟨h6, r7, ec, e⟩
    · exact y_callI_x (pc := 35) (c_X4_init hl ec) mf_X4_init tw_1_55 rfl lf_X2_21 dX2_init_35 (by decide) rfl rfl (leb rfl) (xx_out0 rfl)
    refine y_callI_v (pc := 35) (c_X4_init hl ec) mf_X4_init tw_1_55 rfl lf_X2_21 dX2_init_35 (by decide) rfl rfl (leb rfl) ?_
    obtain ⟨q8, e⟩ := chk_some e
    obtain ⟨q9, e⟩ := chk_some e
    obtain ⟨q10, e⟩ := chk_some e
    replace e := lt_go e
    refine x_aast (pc := 38) (t := 3) (by decide) dX2_init_38 q8 q9 q10 ?_
    refine x_iinc (pc := 39) 1 dX2_init_39 rfl (by decide) rfl ?_
    refine x_goto (pc := 42) (t := 21) dX2_init_42 (by decide) ?_
    exact x_sub1 (hk21 _ _ _ _ e) [1, 0] rfl
noncomputable def f_X2_init_L21 (n : Nat) : Hp → Nat → Int32 → Option (Rs Unit) := Nat.rec (motive := fun _ => Hp → Nat → Int32 → Option (Rs Unit)) (fun _ _ _ => none) (fun _ r => f_X2_init_B21 r) n
theorem p_X2_init_L21 {l : Launch} {K : Ctx} (hl : l.stackTraces = false) : ∀ (n : Nat) (h : Hp) (a0 : Nat) (i1 : Int32) (t : Rs Unit) (e : f_X2_init_L21 n h a0 i1 = some t), X l K mM_X2_init (tgV t) 21 [(0, .ref a0), (1, .int i1)] [] h := by
  intro n
  induction n with
  | zero => exact fun _ _ _ _ e => nomatch (show (none : Option (Rs Unit)) = some _ from e)
  | succ n ih => exact fun h a0 i1 t e => p_X2_init_B21 hl (fun h a0 i1 t e => ih h a0 i1 t e) e
noncomputable def f_X2_init (h : Hp) (a0 : Nat) : Option (Rs Unit) :=
  chk (qN h + 1 < 1000000) <|
  lt (newO h 22 3 3) fun h2 =>
  chk (okr h2 a0 2) <|
  lt (putR h2 a0 3 (qN h + 1)) fun h4 =>
  chk (qN h4 + 1 < 1000000) <|
  lt (newO h4 27 3 3) fun h6 =>
  lt (putR h6 a0 4 (qN h4 + 1)) fun h7 =>
  f_X2_init_L21 2000 h7 a0 (iN 0)
theorem p_X2_init {l : Launch} {K : Ctx} (hl : l.stackTraces = false) {h : Hp} {a0 : Nat} {t : Rs Unit} (e : f_X2_init h a0 = some t) : X l K mM_X2_init (tgV t) 0 [(0, .ref a0)] [] h := by
  unfold f_X2_init at e
  refine x_aload_n (pc := 0) 0 dX2_init_0 rfl ?_
  refine x_objI (pc := 1) tw_2_78 tw_1_37 tw_1_38 dX2_init_1 (by decide) (leb rfl) ?_
  refine x_aload_n (pc := 4) 0 dX2_init_4 rfl ?_
  refine x_iconst (pc := 5) dX2_init_5 ?_
  obtain ⟨q1, e⟩ := chk_some e
  replace e := lt_go e
  refine x_newa (pc := 6) (atype := .boolean) (t := 2) (w := 3) rfl (by decide) tw_1_104 dX2_init_6 (by decide) (by decide) (by decide) q1 ?_
  obtain ⟨q3, e⟩ := chk_some e
  replace e := lt_go e
  refine x_putR (pc := 8) pf_X2_9 rfl okr_new.1 (fun _ => rfl) (fun _ => rfl) dX2_init_8 q3 ?_
  refine x_aload_n (pc := 11) 0 dX2_init_11 rfl ?_
  refine x_iconst (pc := 12) dX2_init_12 ?_
  obtain ⟨q5, e⟩ := chk_some e
  replace e := lt_go e
  refine x_anew (pc := 13) (t := 3) (w := 3) (by decide) tw_2_79 dX2_init_13 (by decide) (by decide) (by decide) q5 ?_
  replace e := lt_go e
  refine x_putR (pc := 16) pf_X2_17 rfl okr_new.1 (fun _ => rfl) (fun _ => rfl) dX2_init_16 (okr_nw (okr_pR q3)) ?_
  refine x_iconst (pc := 19) dX2_init_19 ?_
  refine x_istore_n (pc := 20) dX2_init_20 (by decide) rfl ?_
  exact x_sub1 (p_X2_init_L21 hl 2000 _ _ _ _ e) [1, 0] rfl
abbrev w_X2_init : Cond := (Cond.code yX2_init cX2_init 2 (Option.none : Option Jvm.ClassFile.FieldType))
theorem mf_X2_init : MF yX2_init w_X2_init cX2_init 2 (Option.none : Option Jvm.ClassFile.FieldType) 0 := ⟨⟨rfl, tw_2_77, by decide⟩, tw_1_8, ⟨by decide, by decide⟩, by decide +kernel⟩
theorem c_X2_init {l : Launch} {K : Ctx} (hl : l.stackTraces = false) {h : Hp} {a0 : Nat} {t : Rs Unit} (e : f_X2_init h a0 = some t) : Ctr l K 9 yX2_init w_X2_init [.ref a0] h (tgV t) :=
  Ctr.of hl mf_X2_init true (fun _ => rfl) rfl (leb rfl) (p_X2_init hl e)
/-! ## TableColumnBalancer$Content.isText -/
abbrev mM_X4_isText : Mi := (8, yX4_isText.cls, cX4_isText, 1, (Option.some Jvm.ClassFile.FieldType.boolean), [], false)
noncomputable def f_X4_isText (h : Hp) (a0 : Nat) : Option (Rs Int32) :=
  chk (okr h a0 4) <|
  if (iN 3) < (qI h a0 0) then (
    some (h, .inr (iN 0))
  ) else (
    some (h, .inr (iN 1))
  )
theorem p_X4_isText {l : Launch} {K : Ctx} (hl : l.stackTraces = false) {h : Hp} {a0 : Nat} {t : Rs Int32} (e : f_X4_isText h a0 = some t) : X l K mM_X4_isText (tgI t) 0 [(0, .ref a0)] [] h := by
  unfold f_X4_isText at e
  refine x_aload_n (pc := 0) 0 dX4_isText_0 rfl ?_
  obtain ⟨q1, e⟩ := chk_some e
  refine x_getI (pc := 1) gf_X4_34 rfl dX4_isText_1 q1 ?_
  refine x_iconst (pc := 4) dX4_isText_4 ?_
  rcases ite_some e with ⟨q2, e⟩ | ⟨q2, e⟩
  · refine x_icmp_gt_t (pc := 5) (t := 12) dX4_isText_5 (by decide) q2 ?_
    refine x_iconst (pc := 12) dX4_isText_12 ?_
    cases Option.some.inj e
    exact x_zret (pc := 13) rfl (Or.inl rfl) dX4_isText_13
  · refine x_icmp_gt_f (pc := 5) (t := 12) dX4_isText_5 (by decide) q2 ?_
    refine x_iconst (pc := 8) dX4_isText_8 ?_
    refine x_goto (pc := 9) (t := 13) dX4_isText_9 (by decide) ?_
    cases Option.some.inj e
    exact x_zret (pc := 13) rfl (Or.inr rfl) dX4_isText_13
abbrev w_X4_isText : Cond := (Cond.code yX4_isText cX4_isText 1 (Option.some Jvm.ClassFile.FieldType.boolean))
theorem mf_X4_isText : MF yX4_isText w_X4_isText cX4_isText 1 (Option.some Jvm.ClassFile.FieldType.boolean) 0 := ⟨⟨rfl, tw_2_121, by decide⟩, tw_1_4, ⟨by decide, by decide⟩, by decide +kernel⟩
theorem c_X4_isText {l : Launch} {K : Ctx} (hl : l.stackTraces = false) {h : Hp} {a0 : Nat} {t : Rs Int32} (e : f_X4_isText h a0 = some t) : Ctr l K 8 yX4_isText w_X4_isText [.ref a0] h (tgI t) :=
  Ctr.of hl mf_X4_isText false (fun q => nomatch q) rfl (leb rfl) (p_X4_isText hl e)
/-! ## TableColumnBalancer$Content.minimum -/
abbrev mM_X4_minimum : Mi := (9, yX4_minimum.cls, cX4_minimum, 3, (Option.some Jvm.ClassFile.FieldType.int), [], false)
noncomputable def f_X4_minimum_B35 (k35 : Hp → Nat → Int32 → Int32 → Option (Rs Int32)) (h : Hp) (a0 : Nat) (i1 : Int32) (i2 : Int32) : Option (Rs Int32) :=
  chk (okr h a0 4) <|
  if (qI h a0 7) ≤ i2 then (
    some (h, .inr ((qI h a0 4) + i1))
  ) else (
    chk (okr h (qR h a0 8) 20) <|
    chk (vp_in i2 (qW h (qR h a0 8))) <|
    k35 h a0 (jmax i1 (qI h (qR h a0 8) (Int32.toNatClampNeg i2))) (i2 + iN 1)
  )
theorem p_X4_minimum_B35 {l : Launch} {K : Ctx} (hl : l.stackTraces = false) {k35 : Hp → Nat → Int32 → Int32 → Option (Rs Int32)} (hk35 : ∀ (h : Hp) (a0 : Nat) (i1 : Int32) (i2 : Int32) (t : Rs Int32), k35 h a0 i1 i2 = some t → X l K mM_X4_minimum (tgI t) 35 [(0, .ref a0), (1, .int i1), (2, .int i2)] [] h) {h : Hp} {a0 : Nat} {i1 : Int32} {i2 : Int32} {t : Rs Int32} (e : f_X4_minimum_B35 k35 h a0 i1 i2 = some t) : X l K mM_X4_minimum (tgI t) 35 [(0, .ref a0), (1, .int i1), (2, .int i2)] [] h := by
  unfold f_X4_minimum_B35 at e
  refine x_iload_n (pc := 35) 2 dX4_minimum_35 rfl ?_
  refine x_aload_n (pc := 36) 0 dX4_minimum_36 rfl ?_
  obtain ⟨q1, e⟩ := chk_some e
  refine x_getI (pc := 37) gf_X4_53 rfl dX4_minimum_37 q1 ?_
  rcases ite_some e with ⟨q2, e⟩ | ⟨q2, e⟩
  · refine x_icmp_ge_t (pc := 40) (t := 60) dX4_minimum_40 (by decide) q2 ?_
    refine x_aload_n (pc := 60) 0 dX4_minimum_60 rfl ?_
    refine x_getI (pc := 61) gf_X4_50 rfl dX4_minimum_61 q1 ?_
    refine x_iload_n (pc := 64) 1 dX4_minimum_64 rfl ?_
    refine x_iadd (pc := 65) dX4_minimum_65 ?_
    cases Option.some.inj e
    exact x_iret (pc := 66) rfl dX4_minimum_66
  · refine x_icmp_ge_f (pc := 40) (t := 60) dX4_minimum_40 (by decide) q2 ?_
    refine x_iload_n (pc := 43) 1 dX4_minimum_43 rfl ?_
    refine x_aload_n (pc := 44) 0 dX4_minimum_44 rfl ?_
    obtain ⟨q3, e⟩ := chk_some e
    refine x_getR (pc := 45) gf_X4_18 rfl dX4_minimum_45 q1 q3.1 ?_
    refine x_iload_n (pc := 48) 2 dX4_minimum_48 rfl ?_
    obtain ⟨q4, e⟩ := chk_some e
    refine x_iald (pc := 49) dX4_minimum_49 q3 q4 ?_
    refine x_mmax (pc := 50) tw_2_122 tw_2_123 tw_1_9 tw_2_124 (by decide) (leb rfl) dX4_minimum_50 ?_
    refine x_istore_n (pc := 53) dX4_minimum_53 (by decide) rfl ?_
    refine x_iinc (pc := 54) 2 dX4_minimum_54 rfl (by decide) rfl ?_
    refine x_goto (pc := 57) (t := 35) dX4_minimum_57 (by decide) ?_
    exact x_sub1 (hk35 _ _ _ _ _ e) [2, 1, 0] rfl
noncomputable def f_X4_minimum_L35 (n : Nat) : Hp → Nat → Int32 → Int32 → Option (Rs Int32) := Nat.rec (motive := fun _ => Hp → Nat → Int32 → Int32 → Option (Rs Int32)) (fun _ _ _ _ => none) (fun _ r => f_X4_minimum_B35 r) n
theorem p_X4_minimum_L35 {l : Launch} {K : Ctx} (hl : l.stackTraces = false) : ∀ (n : Nat) (h : Hp) (a0 : Nat) (i1 : Int32) (i2 : Int32) (t : Rs Int32) (e : f_X4_minimum_L35 n h a0 i1 i2 = some t), X l K mM_X4_minimum (tgI t) 35 [(0, .ref a0), (1, .int i1), (2, .int i2)] [] h := by
  intro n
  induction n with
  | zero => exact fun _ _ _ _ _ e => nomatch (show (none : Option (Rs Int32)) = some _ from e)
  | succ n ih => exact fun h a0 i1 i2 t e => p_X4_minimum_B35 hl (fun h a0 i1 i2 t e => ih h a0 i1 i2 t e) e
noncomputable def f_X4_minimum (h : Hp) (a0 : Nat) : Option (Rs Int32) :=
  chk (okr h a0 4) <|
  bnd (f_X4_isText h a0) fun h2 r3 =>
  if r3 = 0 then (
    chk (okr h2 a0 4) <|
    if (qI h2 a0 0) = (iN 4) then (
      chk (¬ (iN 2) = 0) <|
      some (h2, .inr (((qI h2 a0 1) + (iN 1)) / (iN 2)))
    ) else (
      some (h2, .inr (qI h2 a0 1))
    )
  ) else (
    f_X4_minimum_L35 2000 h2 a0 (iN 0) (iN 0)
  )
theorem p_X4_minimum {l : Launch} {K : Ctx} (hl : l.stackTraces = false) {h : Hp} {a0 : Nat} {t : Rs Int32} (e : f_X4_minimum h a0 = some t) : X l K mM_X4_minimum (tgI t) 0 [(0, .ref a0)] [] h := by
  unfold f_X4_minimum at e
  refine x_aload_n (pc := 0) 0 dX4_minimum_0 rfl ?_
  obtain ⟨q1, e⟩ := chk_some e
  rcases bnd_some e with ⟨h2, r3, ec, rfl⟩ | ⟨h2, r3, ec, e⟩
  · exact y_callV_x (pc := 1) (c_X4_isText hl ec) q1 mf_X4_isText tw_2_120 ts_1_4 lf_X4_79 rfl rfl dX4_minimum_1 (by decide) rfl rfl (leb rfl) (xx_out0 rfl)
  refine y_callV_i (pc := 1) (c_X4_isText hl ec) q1 mf_X4_isText tw_2_120 ts_1_4 lf_X4_79 rfl rfl dX4_minimum_1 (by decide) rfl rfl (leb rfl) ?_
  rcases ite_some e with ⟨q4, e⟩ | ⟨q4, e⟩
  · refine x_if_ne_f (pc := 4) (t := 31) dX4_minimum_4 (by decide) q4 ?_
    refine x_aload_n (pc := 7) 0 dX4_minimum_7 rfl ?_
    obtain ⟨q5, e⟩ := chk_some e
    refine x_getI (pc := 8) gf_X4_34 rfl dX4_minimum_8 q5 ?_
    refine x_iconst (pc := 11) dX4_minimum_11 ?_
    rcases ite_some e with ⟨q6, e⟩ | ⟨q6, e⟩
    · refine x_icmp_ne_f (pc := 12) (t := 26) dX4_minimum_12 (by decide) q6 ?_
      refine x_aload_n (pc := 15) 0 dX4_minimum_15 rfl ?_
      refine x_getI (pc := 16) gf_X4_38 rfl dX4_minimum_16 q5 ?_
      refine x_iconst (pc := 19) dX4_minimum_19 ?_
      refine x_iadd (pc := 20) dX4_minimum_20 ?_
      refine x_iconst (pc := 21) dX4_minimum_21 ?_
      obtain ⟨q7, e⟩ := chk_some e
      refine x_idiv (pc := 22) dX4_minimum_22 q7 ?_
      refine x_goto (pc := 23) (t := 30) dX4_minimum_23 (by decide) ?_
      cases Option.some.inj e
      exact x_iret (pc := 30) rfl dX4_minimum_30
    · refine x_icmp_ne_t (pc := 12) (t := 26) dX4_minimum_12 (by decide) q6 ?_
      refine x_aload_n (pc := 26) 0 dX4_minimum_26 rfl ?_
      refine x_getI (pc := 27) gf_X4_38 rfl dX4_minimum_27 q5 ?_
      cases Option.some.inj e
      exact x_iret (pc := 30) rfl dX4_minimum_30
  · refine x_if_ne_t (pc := 4) (t := 31) dX4_minimum_4 (by decide) q4 ?_
    refine x_iconst (pc := 31) dX4_minimum_31 ?_
    refine x_istore_n (pc := 32) dX4_minimum_32 (by decide) rfl ?_
    refine x_iconst (pc := 33) dX4_minimum_33 ?_
    refine x_istore_n (pc := 34) dX4_minimum_34 (by decide) rfl ?_
    exact x_sub1 (p_X4_minimum_L35 hl 2000 _ _ _ _ _ e) [2, 1, 0] rfl
abbrev w_X4_minimum : Cond := (Cond.code yX4_minimum cX4_minimum 3 (Option.some Jvm.ClassFile.FieldType.int))
theorem mf_X4_minimum : MF yX4_minimum w_X4_minimum cX4_minimum 3 (Option.some Jvm.ClassFile.FieldType.int) 0 := ⟨⟨rfl, tw_2_117, by decide⟩, tw_1_4, ⟨by decide, by decide⟩, by decide +kernel⟩
theorem c_X4_minimum {l : Launch} {K : Ctx} (hl : l.stackTraces = false) {h : Hp} {a0 : Nat} {t : Rs Int32} (e : f_X4_minimum h a0 = some t) : Ctr l K 9 yX4_minimum w_X4_minimum [.ref a0] h (tgI t) :=
  Ctr.of hl mf_X4_minimum false (fun q => nomatch q) rfl (leb rfl) (p_X4_minimum hl e)
/-! ## TableColumnBalancer$Table.minimumOf -/
abbrev mM_X7_minimumOf : Mi := (10, yX7_minimumOf.cls, cX7_minimumOf, 2, (Option.some Jvm.ClassFile.FieldType.int), [], false)
noncomputable def f_X7_minimumOf (h : Hp) (a0 : Nat) (a1 : Nat) : Option (Rs Int32) :=
  chk (okr h a1 1) <|
  chk (okr h (qR h a1 3) 4) <|
  bnd (f_X4_minimum h (qR h a1 3)) fun h3 r4 =>
  chk (okr h3 a0 7) <|
  some (h3, .inr (r4 + ((iN 2) * (qI h3 a0 2))))
theorem p_X7_minimumOf {l : Launch} {K : Ctx} (hl : l.stackTraces = false) {h : Hp} {a0 : Nat} {a1 : Nat} {t : Rs Int32} (e : f_X7_minimumOf h a0 a1 = some t) : X l K mM_X7_minimumOf (tgI t) 0 [(0, .ref a0), (1, .ref a1)] [] h := by
  unfold f_X7_minimumOf at e
  refine x_aload_n (pc := 0) 1 dX7_minimumOf_0 rfl ?_
  obtain ⟨q1, e⟩ := chk_some e
  obtain ⟨q2, e⟩ := chk_some e
  refine x_getR (pc := 1) gf_X7_65 rfl dX7_minimumOf_1 q1 q2.1 ?_
  rcases bnd_some e with ⟨h3, r4, ec, rfl⟩ | ⟨h3, r4, ec, e⟩
  · exact y_callV_x (pc := 4) (c_X4_minimum hl ec) q2 mf_X4_minimum tw_2_116 ts_1_3 lf_X7_69 rfl rfl dX7_minimumOf_4 (by decide) rfl rfl (leb rfl) (xx_out0 rfl)
  refine y_callV_i (pc := 4) (c_X4_minimum hl ec) q2 mf_X4_minimum tw_2_116 ts_1_3 lf_X7_69 rfl rfl dX7_minimumOf_4 (by decide) rfl rfl (leb rfl) ?_
  refine x_iconst (pc := 7) dX7_minimumOf_7 ?_
  refine x_aload_n (pc := 8) 0 dX7_minimumOf_8 rfl ?_
  obtain ⟨q5, e⟩ := chk_some e
  refine x_getI (pc := 9) gf_X7_35 rfl dX7_minimumOf_9 q5 ?_
  refine x_imul (pc := 12) dX7_minimumOf_12 ?_
  refine x_iadd (pc := 13) dX7_minimumOf_13 ?_
  cases Option.some.inj e
  exact x_iret (pc := 14) rfl dX7_minimumOf_14
abbrev w_X7_minimumOf : Cond := (Cond.code yX7_minimumOf cX7_minimumOf 2 (Option.some Jvm.ClassFile.FieldType.int))
theorem mf_X7_minimumOf : MF yX7_minimumOf w_X7_minimumOf cX7_minimumOf 2 (Option.some Jvm.ClassFile.FieldType.int) 1 := ⟨⟨rfl, tw_2_113, by decide⟩, tw_1_2, ⟨by decide, by decide⟩, by decide +kernel⟩
theorem c_X7_minimumOf {l : Launch} {K : Ctx} (hl : l.stackTraces = false) {h : Hp} {a0 : Nat} {a1 : Nat} {t : Rs Int32} (e : f_X7_minimumOf h a0 a1 = some t) : Ctr l K 10 yX7_minimumOf w_X7_minimumOf [.ref a0, .ref a1] h (tgI t) :=
  Ctr.of hl mf_X7_minimumOf false (fun q => nomatch q) rfl (leb rfl) (p_X7_minimumOf hl e)
/-! ## TableColumnBalancer$Content.maximum -/
abbrev mM_X4_maximum : Mi := (9, yX4_maximum.cls, cX4_maximum, 4, (Option.some Jvm.ClassFile.FieldType.int), [], false)
noncomputable def f_X4_maximum_L62 (k18 : Hp → Nat → Int32 → Int32 → Int32 → Option (Rs Int32)) (h : Hp) (a0 : Nat) (i1 : Int32) (i2 : Int32) (i3 : Int32) : Option (Rs Int32) :=
  k18 h a0 i1 i2 (i3 + iN 1)
theorem p_X4_maximum_L62 {l : Launch} {K : Ctx} (hl : l.stackTraces = false) {k18 : Hp → Nat → Int32 → Int32 → Int32 → Option (Rs Int32)} (hk18 : ∀ (h : Hp) (a0 : Nat) (i1 : Int32) (i2 : Int32) (i3 : Int32) (t : Rs Int32), k18 h a0 i1 i2 i3 = some t → X l K mM_X4_maximum (tgI t) 18 [(0, .ref a0), (1, .int i1), (2, .int i2), (3, .int i3)] [] h) {h : Hp} {a0 : Nat} {i1 : Int32} {i2 : Int32} {i3 : Int32} {t : Rs Int32} (e : f_X4_maximum_L62 k18 h a0 i1 i2 i3 = some t) : X l K mM_X4_maximum (tgI t) 62 [(0, .ref a0), (1, .int i1), (2, .int i2), (3, .int i3)] [] h := by
  unfold f_X4_maximum_L62 at e
  refine x_iinc (pc := 62) 3 dX4_maximum_62 rfl (by decide) rfl ?_
  refine x_goto (pc := 65) (t := 18) dX4_maximum_65 (by decide) ?_
  exact x_sub1 (hk18 _ _ _ _ _ _ e) [1, 2, 3, 0] rfl
noncomputable def f_X4_maximum_B18 (k18 : Hp → Nat → Int32 → Int32 → Int32 → Option (Rs Int32)) (h : Hp) (a0 : Nat) (i1 : Int32) (i2 : Int32) (i3 : Int32) : Option (Rs Int32) :=
  chk (okr h a0 4) <|
  if (qI h a0 7) ≤ i3 then (
    some (h, .inr ((qI h a0 4) + i1))
  ) else (
    chk (okr h (qR h a0 10) 22) <|
    chk (vp_in i3 (qW h (qR h a0 10))) <|
    if (qI h (qR h a0 10) (Int32.toNatClampNeg i3)) = 0 then (
      chk (okr h (qR h a0 9) 20) <|
      chk (vp_in i3 (qW h (qR h a0 9))) <|
      f_X4_maximum_L62 k18 h a0 i1 (i2 + (qI h (qR h a0 9) (Int32.toNatClampNeg i3))) i3
    ) else (
      chk (okr h (qR h a0 8) 20) <|
      chk (vp_in i3 (qW h (qR h a0 8))) <|
      f_X4_maximum_L62 k18 h a0 (jmax i1 (i2 + (qI h (qR h a0 8) (Int32.toNatClampNeg i3)))) (iN 0) i3
    )
  )
theorem p_X4_maximum_B18 {l : Launch} {K : Ctx} (hl : l.stackTraces = false) {k18 : Hp → Nat → Int32 → Int32 → Int32 → Option (Rs Int32)} (hk18 : ∀ (h : Hp) (a0 : Nat) (i1 : Int32) (i2 : Int32) (i3 : Int32) (t : Rs Int32), k18 h a0 i1 i2 i3 = some t → X l K mM_X4_maximum (tgI t) 18 [(0, .ref a0), (1, .int i1), (2, .int i2), (3, .int i3)] [] h) {h : Hp} {a0 : Nat} {i1 : Int32} {i2 : Int32} {i3 : Int32} {t : Rs Int32} (e : f_X4_maximum_B18 k18 h a0 i1 i2 i3 = some t) : X l K mM_X4_maximum (tgI t) 18 [(0, .ref a0), (1, .int i1), (2, .int i2), (3, .int i3)] [] h := by
  unfold f_X4_maximum_B18 at e
  refine x_iload_n (pc := 18) 3 dX4_maximum_18 rfl ?_
  refine x_aload_n (pc := 19) 0 dX4_maximum_19 rfl ?_
  obtain ⟨q1, e⟩ := chk_some e
  refine x_getI (pc := 20) gf_X4_53 rfl dX4_maximum_20 q1 ?_
  rcases ite_some e with ⟨q2, e⟩ | ⟨q2, e⟩
  · refine x_icmp_ge_t (pc := 23) (t := 68) dX4_maximum_23 (by decide) q2 ?_
    refine x_aload_n (pc := 68) 0 dX4_maximum_68 rfl ?_
    refine x_getI (pc := 69) gf_X4_50 rfl dX4_maximum_69 q1 ?_
    refine x_iload_n (pc := 72) 1 dX4_maximum_72 rfl ?_
    refine x_iadd (pc := 73) dX4_maximum_73 ?_
    cases Option.some.inj e
    exact x_iret (pc := 74) rfl dX4_maximum_74
  · refine x_icmp_ge_f (pc := 23) (t := 68) dX4_maximum_23 (by decide) q2 ?_
    refine x_aload_n (pc := 26) 0 dX4_maximum_26 rfl ?_
    obtain ⟨q3, e⟩ := chk_some e
    refine x_getR (pc := 27) gf_X4_24 rfl dX4_maximum_27 q1 q3.1 ?_
    refine x_iload_n (pc := 30) 3 dX4_maximum_30 rfl ?_
    obtain ⟨q4, e⟩ := chk_some e
    refine x_zald (pc := 31) dX4_maximum_31 q3 q4 ?_
    rcases ite_some e with ⟨q5, e⟩ | ⟨q5, e⟩
    · refine x_if_eq_t (pc := 32) (t := 53) dX4_maximum_32 (by decide) q5 ?_
      refine x_iload_n (pc := 53) 2 dX4_maximum_53 rfl ?_
      refine x_aload_n (pc := 54) 0 dX4_maximum_54 rfl ?_
      obtain ⟨q6, e⟩ := chk_some e
      refine x_getR (pc := 55) gf_X4_21 rfl dX4_maximum_55 q1 q6.1 ?_
      refine x_iload_n (pc := 58) 3 dX4_maximum_58 rfl ?_
      obtain ⟨q7, e⟩ := chk_some e
      refine x_iald (pc := 59) dX4_maximum_59 q6 q7 ?_
      refine x_iadd (pc := 60) dX4_maximum_60 ?_
      refine x_istore_n (pc := 61) dX4_maximum_61 (by decide) rfl ?_
      exact x_sub1 (p_X4_maximum_L62 hl hk18 e) [1, 2, 0, 3] rfl
    · refine x_if_eq_f (pc := 32) (t := 53) dX4_maximum_32 (by decide) q5 ?_
      refine x_iload_n (pc := 35) 1 dX4_maximum_35 rfl ?_
      refine x_iload_n (pc := 36) 2 dX4_maximum_36 rfl ?_
      refine x_aload_n (pc := 37) 0 dX4_maximum_37 rfl ?_
      obtain ⟨q8, e⟩ := chk_some e
      refine x_getR (pc := 38) gf_X4_18 rfl dX4_maximum_38 q1 q8.1 ?_
      refine x_iload_n (pc := 41) 3 dX4_maximum_41 rfl ?_
      obtain ⟨q9, e⟩ := chk_some e
      refine x_iald (pc := 42) dX4_maximum_42 q8 q9 ?_
      refine x_iadd (pc := 43) dX4_maximum_43 ?_
      refine x_mmax (pc := 44) tw_2_122 tw_2_123 tw_1_9 tw_2_124 (by decide) (leb rfl) dX4_maximum_44 ?_
      refine x_istore_n (pc := 47) dX4_maximum_47 (by decide) rfl ?_
      refine x_iconst (pc := 48) dX4_maximum_48 ?_
      refine x_istore_n (pc := 49) dX4_maximum_49 (by decide) rfl ?_
      refine x_goto (pc := 50) (t := 62) dX4_maximum_50 (by decide) ?_
      exact x_sub1 (p_X4_maximum_L62 hl hk18 e) [2, 1, 0, 3] rfl
noncomputable def f_X4_maximum_L18 (n : Nat) : Hp → Nat → Int32 → Int32 → Int32 → Option (Rs Int32) := Nat.rec (motive := fun _ => Hp → Nat → Int32 → Int32 → Int32 → Option (Rs Int32)) (fun _ _ _ _ _ => none) (fun _ r => f_X4_maximum_B18 r) n
theorem p_X4_maximum_L18 {l : Launch} {K : Ctx} (hl : l.stackTraces = false) : ∀ (n : Nat) (h : Hp) (a0 : Nat) (i1 : Int32) (i2 : Int32) (i3 : Int32) (t : Rs Int32) (e : f_X4_maximum_L18 n h a0 i1 i2 i3 = some t), X l K mM_X4_maximum (tgI t) 18 [(0, .ref a0), (1, .int i1), (2, .int i2), (3, .int i3)] [] h := by
  intro n
  induction n with
  | zero => exact fun _ _ _ _ _ _ e => nomatch (show (none : Option (Rs Int32)) = some _ from e)
  | succ n ih => exact fun h a0 i1 i2 i3 t e => p_X4_maximum_B18 hl (fun h a0 i1 i2 i3 t e => ih h a0 i1 i2 i3 t e) e
noncomputable def f_X4_maximum (h : Hp) (a0 : Nat) : Option (Rs Int32) :=
  chk (okr h a0 4) <|
  bnd (f_X4_isText h a0) fun h2 r3 =>
  if r3 = 0 then (
    chk (okr h2 a0 4) <|
    some (h2, .inr (qI h2 a0 1))
  ) else (
    f_X4_maximum_L18 2000 h2 a0 (iN 0) (iN 0) (iN 0)
  )
theorem p_X4_maximum {l : Launch} {K : Ctx} (hl : l.stackTraces = false) {h : Hp} {a0 : Nat} {t : Rs Int32} (e : f_X4_maximum h a0 = some t) : X l K mM_X4_maximum (tgI t) 0 [(0, .ref a0)] [] h := by
  unfold f_X4_maximum at e
  refine x_aload_n (pc := 0) 0 dX4_maximum_0 rfl ?_
  obtain ⟨q1, e⟩ := chk_some e
  rcases bnd_some e with ⟨h2, r3, ec, rfl⟩ | ⟨h2, r3, ec, e⟩
  · exact y_callV_x (pc := 1) (c_X4_isText hl ec) q1 mf_X4_isText tw_2_120 ts_1_4 lf_X4_79 rfl rfl dX4_maximum_1 (by decide) rfl rfl (leb rfl) (xx_out0 rfl)
  refine y_callV_i (pc := 1) (c_X4_isText hl ec) q1 mf_X4_isText tw_2_120 ts_1_4 lf_X4_79 rfl rfl dX4_maximum_1 (by decide) rfl rfl (leb rfl) ?_
  rcases ite_some e with ⟨q4, e⟩ | ⟨q4, e⟩
  · refine x_if_ne_f (pc := 4) (t := 12) dX4_maximum_4 (by decide) q4 ?_
    refine x_aload_n (pc := 7) 0 dX4_maximum_7 rfl ?_
    obtain ⟨q5, e⟩ := chk_some e
    refine x_getI (pc := 8) gf_X4_38 rfl dX4_maximum_8 q5 ?_
    cases Option.some.inj e
    exact x_iret (pc := 11) rfl dX4_maximum_11
  · refine x_if_ne_t (pc := 4) (t := 12) dX4_maximum_4 (by decide) q4 ?_
    refine x_iconst (pc := 12) dX4_maximum_12 ?_
    refine x_istore_n (pc := 13) dX4_maximum_13 (by decide) rfl ?_
    refine x_iconst (pc := 14) dX4_maximum_14 ?_
    refine x_istore_n (pc := 15) dX4_maximum_15 (by decide) rfl ?_
    refine x_iconst (pc := 16) dX4_maximum_16 ?_
    refine x_istore_n (pc := 17) dX4_maximum_17 (by decide) rfl ?_
    exact x_sub1 (p_X4_maximum_L18 hl 2000 _ _ _ _ _ _ e) [3, 2, 1, 0] rfl
abbrev w_X4_maximum : Cond := (Cond.code yX4_maximum cX4_maximum 4 (Option.some Jvm.ClassFile.FieldType.int))
theorem mf_X4_maximum : MF yX4_maximum w_X4_maximum cX4_maximum 4 (Option.some Jvm.ClassFile.FieldType.int) 0 := ⟨⟨rfl, tw_2_133, by decide⟩, tw_1_4, ⟨by decide, by decide⟩, by decide +kernel⟩
theorem c_X4_maximum {l : Launch} {K : Ctx} (hl : l.stackTraces = false) {h : Hp} {a0 : Nat} {t : Rs Int32} (e : f_X4_maximum h a0 = some t) : Ctr l K 9 yX4_maximum w_X4_maximum [.ref a0] h (tgI t) :=
  Ctr.of hl mf_X4_maximum false (fun q => nomatch q) rfl (leb rfl) (p_X4_maximum hl e)
/-! ## TableColumnBalancer$Table.maximumOf -/
abbrev mM_X7_maximumOf : Mi := (10, yX7_maximumOf.cls, cX7_maximumOf, 2, (Option.some Jvm.ClassFile.FieldType.int), [], false)
noncomputable def f_X7_maximumOf (h : Hp) (a0 : Nat) (a1 : Nat) : Option (Rs Int32) :=
  chk (okr h a1 1) <|
  chk (okr h (qR h a1 3) 4) <|
  bnd (f_X4_maximum h (qR h a1 3)) fun h3 r4 =>
  chk (okr h3 a0 7) <|
  some (h3, .inr (r4 + ((iN 2) * (qI h3 a0 2))))
theorem p_X7_maximumOf {l : Launch} {K : Ctx} (hl : l.stackTraces = false) {h : Hp} {a0 : Nat} {a1 : Nat} {t : Rs Int32} (e : f_X7_maximumOf h a0 a1 = some t) : X l K mM_X7_maximumOf (tgI t) 0 [(0, .ref a0), (1, .ref a1)] [] h := by
  unfold f_X7_maximumOf at e
  refine x_aload_n (pc := 0) 1 dX7_maximumOf_0 rfl ?_
  obtain ⟨q1, e⟩ := chk_some e
  obtain ⟨q2, e⟩ := chk_some e
  refine x_getR (pc := 1) gf_X7_65 rfl dX7_maximumOf_1 q1 q2.1 ?_
  rcases bnd_some e with ⟨h3, r4, ec, rfl⟩ | ⟨h3, r4, ec, e⟩
  · exact y_callV_x (pc := 4) (c_X4_maximum hl ec) q2 mf_X4_maximum tw_2_132 ts_1_6 lf_X7_75 rfl rfl dX7_maximumOf_4 (by decide) rfl rfl (leb rfl) (xx_out0 rfl)
  refine y_callV_i (pc := 4) (c_X4_maximum hl ec) q2 mf_X4_maximum tw_2_132 ts_1_6 lf_X7_75 rfl rfl dX7_maximumOf_4 (by decide) rfl rfl (leb rfl) ?_
  refine x_iconst (pc := 7) dX7_maximumOf_7 ?_
  refine x_aload_n (pc := 8) 0 dX7_maximumOf_8 rfl ?_
  obtain ⟨q5, e⟩ := chk_some e
  refine x_getI (pc := 9) gf_X7_35 rfl dX7_maximumOf_9 q5 ?_
  refine x_imul (pc := 12) dX7_maximumOf_12 ?_
  refine x_iadd (pc := 13) dX7_maximumOf_13 ?_
  cases Option.some.inj e
  exact x_iret (pc := 14) rfl dX7_maximumOf_14
abbrev w_X7_maximumOf : Cond := (Cond.code yX7_maximumOf cX7_maximumOf 2 (Option.some Jvm.ClassFile.FieldType.int))
theorem mf_X7_maximumOf : MF yX7_maximumOf w_X7_maximumOf cX7_maximumOf 2 (Option.some Jvm.ClassFile.FieldType.int) 1 := ⟨⟨rfl, tw_2_129, by decide⟩, tw_1_2, ⟨by decide, by decide⟩, by decide +kernel⟩
theorem c_X7_maximumOf {l : Launch} {K : Ctx} (hl : l.stackTraces = false) {h : Hp} {a0 : Nat} {a1 : Nat} {t : Rs Int32} (e : f_X7_maximumOf h a0 a1 = some t) : Ctr l K 10 yX7_maximumOf w_X7_maximumOf [.ref a0, .ref a1] h (tgI t) :=
  Ctr.of hl mf_X7_maximumOf false (fun q => nomatch q) rfl (leb rfl) (p_X7_maximumOf hl e)
/-! ## TableColumnBalancer$Columns.raiseMaximums -/
abbrev mM_X3_raiseMaximums : Mi := (8, yX3_raiseMaximums.cls, cX3_raiseMaximums, 2, (Option.none : Option Jvm.ClassFile.FieldType), [], false)
noncomputable def f_X3_raiseMaximums_B2 (k2 : Hp → Nat → Int32 → Option (Rs Unit)) (h : Hp) (a0 : Nat) (i1 : Int32) : Option (Rs Unit) :=
  chk (okr h a0 3) <|
  chk (okr h (qR h a0 0) 7) <|
  if (qI h (qR h a0 0) 3) ≤ i1 then (
    some (h, .inr ())
  ) else (
    chk (okr h (qR h a0 2) 20) <|
    chk (vp_in i1 (qW h (qR h a0 2))) <|
    chk (okr h (qR h a0 1) 20) <|
    chk (vp_in i1 (qW h (qR h a0 1))) <|
    lt (putI h (qR h a0 2) (Int32.toNatClampNeg i1) (jmax (qI h (qR h a0 2) (Int32.toNatClampNeg i1)) (qI h (qR h a0 1) (Int32.toNatClampNeg i1)))) fun h8 =>
    k2 h8 a0 (i1 + iN 1)
  )
theorem p_X3_raiseMaximums_B2 {l : Launch} {K : Ctx} (hl : l.stackTraces = false) {k2 : Hp → Nat → Int32 → Option (Rs Unit)} (hk2 : ∀ (h : Hp) (a0 : Nat) (i1 : Int32) (t : Rs Unit), k2 h a0 i1 = some t → X l K mM_X3_raiseMaximums (tgV t) 2 [(0, .ref a0), (1, .int i1)] [] h) {h : Hp} {a0 : Nat} {i1 : Int32} {t : Rs Unit} (e : f_X3_raiseMaximums_B2 k2 h a0 i1 = some t) : X l K mM_X3_raiseMaximums (tgV t) 2 [(0, .ref a0), (1, .int i1)] [] h := by
  unfold f_X3_raiseMaximums_B2 at e
  refine x_iload_n (pc := 2) 1 dX3_raiseMaximums_2 rfl ?_
  refine x_aload_n (pc := 3) 0 dX3_raiseMaximums_3 rfl ?_
  obtain ⟨q1, e⟩ := chk_some e
  obtain ⟨q2, e⟩ := chk_some e
  refine x_getR (pc := 4) gf_X3_9 rfl dX3_raiseMaximums_4 q1 q2.1 ?_
  refine x_getI (pc := 7) gf_X3_42 rfl dX3_raiseMaximums_7 q2 ?_
  rcases ite_some e with ⟨q3, e⟩ | ⟨q3, e⟩
  · refine x_icmp_ge_t (pc := 10) (t := 40) dX3_raiseMaximums_10 (by decide) q3 ?_
    cases Option.some.inj e
    exact x_vret (pc := 40) rfl dX3_raiseMaximums_40
  · refine x_icmp_ge_f (pc := 10) (t := 40) dX3_raiseMaximums_10 (by decide) q3 ?_
    refine x_aload_n (pc := 13) 0 dX3_raiseMaximums_13 rfl ?_
    obtain ⟨q4, e⟩ := chk_some e
    refine x_getR (pc := 14) gf_X3_19 rfl dX3_raiseMaximums_14 q1 q4.1 ?_
    refine x_iload_n (pc := 17) 1 dX3_raiseMaximums_17 rfl ?_
    refine x_aload_n (pc := 18) 0 dX3_raiseMaximums_18 rfl ?_
    refine x_getR (pc := 19) gf_X3_19 rfl dX3_raiseMaximums_19 q1 q4.1 ?_
    refine x_iload_n (pc := 22) 1 dX3_raiseMaximums_22 rfl ?_
    obtain ⟨q5, e⟩ := chk_some e
    refine x_iald (pc := 23) dX3_raiseMaximums_23 q4 q5 ?_
    refine x_aload_n (pc := 24) 0 dX3_raiseMaximums_24 rfl ?_
    obtain ⟨q6, e⟩ := chk_some e
    refine x_getR (pc := 25) gf_X3_15 rfl dX3_raiseMaximums_25 q1 q6.1 ?_
    refine x_iload_n (pc := 28) 1 dX3_raiseMaximums_28 rfl ?_
    obtain ⟨q7, e⟩ := chk_some e
    refine x_iald (pc := 29) dX3_raiseMaximums_29 q6 q7 ?_
    refine x_mmax (pc := 30) tw_2_125 tw_2_123 tw_1_9 tw_2_124 (by decide) (leb rfl) dX3_raiseMaximums_30 ?_
    replace e := lt_go e
    refine x_iast (pc := 33) dX3_raiseMaximums_33 q4 q5 ?_
    refine x_iinc (pc := 34) 1 dX3_raiseMaximums_34 rfl (by decide) rfl ?_
    refine x_goto (pc := 37) (t := 2) dX3_raiseMaximums_37 (by decide) ?_
    exact x_sub1 (hk2 _ _ _ _ e) [1, 0] rfl
noncomputable def f_X3_raiseMaximums_L2 (n : Nat) : Hp → Nat → Int32 → Option (Rs Unit) := Nat.rec (motive := fun _ => Hp → Nat → Int32 → Option (Rs Unit)) (fun _ _ _ => none) (fun _ r => f_X3_raiseMaximums_B2 r) n
theorem p_X3_raiseMaximums_L2 {l : Launch} {K : Ctx} (hl : l.stackTraces = false) : ∀ (n : Nat) (h : Hp) (a0 : Nat) (i1 : Int32) (t : Rs Unit) (e : f_X3_raiseMaximums_L2 n h a0 i1 = some t), X l K mM_X3_raiseMaximums (tgV t) 2 [(0, .ref a0), (1, .int i1)] [] h := by
  intro n
  induction n with
  | zero => exact fun _ _ _ _ e => nomatch (show (none : Option (Rs Unit)) = some _ from e)
  | succ n ih => exact fun h a0 i1 t e => p_X3_raiseMaximums_B2 hl (fun h a0 i1 t e => ih h a0 i1 t e) e
noncomputable def f_X3_raiseMaximums (h : Hp) (a0 : Nat) : Option (Rs Unit) :=
  f_X3_raiseMaximums_L2 2000 h a0 (iN 0)
theorem p_X3_raiseMaximums {l : Launch} {K : Ctx} (hl : l.stackTraces = false) {h : Hp} {a0 : Nat} {t : Rs Unit} (e : f_X3_raiseMaximums h a0 = some t) : X l K mM_X3_raiseMaximums (tgV t) 0 [(0, .ref a0)] [] h := by
  unfold f_X3_raiseMaximums at e
  refine x_iconst (pc := 0) dX3_raiseMaximums_0 ?_
  refine x_istore_n (pc := 1) dX3_raiseMaximums_1 (by decide) rfl ?_
  exact x_sub1 (p_X3_raiseMaximums_L2 hl 2000 _ _ _ _ e) [1, 0] rfl
abbrev w_X3_raiseMaximums : Cond := (Cond.code yX3_raiseMaximums cX3_raiseMaximums 2 (Option.none : Option Jvm.ClassFile.FieldType))
theorem mf_X3_raiseMaximums : MF yX3_raiseMaximums w_X3_raiseMaximums cX3_raiseMaximums 2 (Option.none : Option Jvm.ClassFile.FieldType) 0 := ⟨⟨rfl, tw_2_137, by decide⟩, tw_1_5, ⟨by decide, by decide⟩, by decide +kernel⟩
theorem c_X3_raiseMaximums {l : Launch} {K : Ctx} (hl : l.stackTraces = false) {h : Hp} {a0 : Nat} {t : Rs Unit} (e : f_X3_raiseMaximums h a0 = some t) : Ctr l K 8 yX3_raiseMaximums w_X3_raiseMaximums [.ref a0] h (tgV t) :=
  Ctr.of hl mf_X3_raiseMaximums false (fun q => nomatch q) rfl (leb rfl) (p_X3_raiseMaximums hl e)
/-! ## TableColumnBalancer$Columns.measureSingleCells -/
abbrev mM_X3_measureSingleCells : Mi := (11, yX3_measureSingleCells.cls, cX3_measureSingleCells, 3, (Option.none : Option Jvm.ClassFile.FieldType), [], false)
noncomputable def f_X3_measureSingleCells_L169 (k130 : Hp → Nat → Int32 → Option (Rs Unit)) (h : Hp) (a0 : Nat) (i1 : Int32) : Option (Rs Unit) :=
  k130 h a0 (i1 + iN 1)
theorem p_X3_measureSingleCells_L169 {l : Launch} {K : Ctx} (hl : l.stackTraces = false) {k130 : Hp → Nat → Int32 → Option (Rs Unit)} (hk130 : ∀ (h : Hp) (a0 : Nat) (i1 : Int32) (t : Rs Unit), k130 h a0 i1 = some t → X l K mM_X3_measureSingleCells (tgV t) 130 [(0, .ref a0), (1, .int i1)] [] h) {h : Hp} {a0 : Nat} {i1 : Int32} {t : Rs Unit} (e : f_X3_measureSingleCells_L169 k130 h a0 i1 = some t) : X l K mM_X3_measureSingleCells (tgV t) 169 [(0, .ref a0), (1, .int i1)] [] h := by
  unfold f_X3_measureSingleCells_L169 at e
  refine x_iinc (pc := 169) 1 dX3_measureSingleCells_169 rfl (by decide) rfl ?_
  refine x_goto (pc := 172) (t := 130) dX3_measureSingleCells_172 (by decide) ?_
  exact x_sub1 (hk130 _ _ _ _ e) [1, 0] rfl
noncomputable def f_X3_measureSingleCells_B130 (k130 : Hp → Nat → Int32 → Option (Rs Unit)) (h : Hp) (a0 : Nat) (i1 : Int32) : Option (Rs Unit) :=
  chk (okr h a0 3) <|
  chk (okr h (qR h a0 0) 7) <|
  if (qI h (qR h a0 0) 3) ≤ i1 then (
    bnd (f_X3_raiseMaximums h a0) fun h4 _ =>
    some (h4, .inr ())
  ) else (
    chk (okr h (qR h (qR h a0 0) 6) 20) <|
    chk (vp_in i1 (qW h (qR h (qR h a0 0) 6))) <|
    if (qI h (qR h (qR h a0 0) 6) (Int32.toNatClampNeg i1)) = (iN 1) then (
      chk (okr h (qR h a0 2) 20) <|
      chk (okr h (qR h (qR h a0 0) 7) 20) <|
      chk (vp_in i1 (qW h (qR h (qR h a0 0) 7))) <|
      chk (vp_in i1 (qW h (qR h a0 2))) <|
      lt (putI h (qR h a0 2) (Int32.toNatClampNeg i1) (qI h (qR h (qR h a0 0) 7) (Int32.toNatClampNeg i1))) fun h13 =>
      f_X3_measureSingleCells_L169 k130 h13 a0 i1
    ) else (
      f_X3_measureSingleCells_L169 k130 h a0 i1
    )
  )
theorem p_X3_measureSingleCells_B130 {l : Launch} {K : Ctx} (hl : l.stackTraces = false) {k130 : Hp → Nat → Int32 → Option (Rs Unit)} (hk130 : ∀ (h : Hp) (a0 : Nat) (i1 : Int32) (t : Rs Unit), k130 h a0 i1 = some t → X l K mM_X3_measureSingleCells (tgV t) 130 [(0, .ref a0), (1, .int i1)] [] h) {h : Hp} {a0 : Nat} {i1 : Int32} {t : Rs Unit} (e : f_X3_measureSingleCells_B130 k130 h a0 i1 = some t) : X l K mM_X3_measureSingleCells (tgV t) 130 [(0, .ref a0), (1, .int i1)] [] h := by
  unfold f_X3_measureSingleCells_B130 at e
  refine x_iload_n (pc := 130) 1 dX3_measureSingleCells_130 rfl ?_
  refine x_aload_n (pc := 131) 0 dX3_measureSingleCells_131 rfl ?_
  obtain ⟨q1, e⟩ := chk_some e
  obtain ⟨q2, e⟩ := chk_some e
  refine x_getR (pc := 132) gf_X3_9 rfl dX3_measureSingleCells_132 q1 q2.1 ?_
  refine x_getI (pc := 135) gf_X3_42 rfl dX3_measureSingleCells_135 q2 ?_
  rcases ite_some e with ⟨q3, e⟩ | ⟨q3, e⟩
  · refine x_icmp_ge_t (pc := 138) (t := 175) dX3_measureSingleCells_138 (by decide) q3 ?_
    refine x_aload_n (pc := 175) 0 dX3_measureSingleCells_175 rfl ?_
    rcases bnd_some e with ⟨h4, r5, ec, rfl⟩ | ⟨h4, r5, ec, e⟩
    · exact y_callV_x (pc := 176) (c_X3_raiseMaximums hl ec) q1 mf_X3_raiseMaximums tw_2_136 ts_1_7 lf_X3_95 rfl rfl dX3_measureSingleCells_176 (by decide) rfl rfl (leb rfl) (xx_out0 rfl)
    refine y_callV_v (pc := 176) (c_X3_raiseMaximums hl ec) q1 mf_X3_raiseMaximums tw_2_136 ts_1_7 lf_X3_95 rfl rfl dX3_measureSingleCells_176 (by decide) rfl rfl (leb rfl) ?_
    cases Option.some.inj e
    exact x_vret (pc := 179) rfl dX3_measureSingleCells_179
  · refine x_icmp_ge_f (pc := 138) (t := 175) dX3_measureSingleCells_138 (by decide) q3 ?_
    refine x_aload_n (pc := 141) 0 dX3_measureSingleCells_141 rfl ?_
    refine x_getR (pc := 142) gf_X3_9 rfl dX3_measureSingleCells_142 q1 q2.1 ?_
    obtain ⟨q6, e⟩ := chk_some e
    refine x_getR (pc := 145) gf_X3_89 rfl dX3_measureSingleCells_145 q2 q6.1 ?_
    refine x_iload_n (pc := 148) 1 dX3_measureSingleCells_148 rfl ?_
    obtain ⟨q7, e⟩ := chk_some e
    refine x_iald (pc := 149) dX3_measureSingleCells_149 q6 q7 ?_
    refine x_iconst (pc := 150) dX3_measureSingleCells_150 ?_
    rcases ite_some e with ⟨q8, e⟩ | ⟨q8, e⟩
    · refine x_icmp_ne_f (pc := 151) (t := 169) dX3_measureSingleCells_151 (by decide) q8 ?_
      refine x_aload_n (pc := 154) 0 dX3_measureSingleCells_154 rfl ?_
      obtain ⟨q9, e⟩ := chk_some e
      refine x_getR (pc := 155) gf_X3_19 rfl dX3_measureSingleCells_155 q1 q9.1 ?_
      refine x_iload_n (pc := 158) 1 dX3_measureSingleCells_158 rfl ?_
      refine x_aload_n (pc := 159) 0 dX3_measureSingleCells_159 rfl ?_
      refine x_getR (pc := 160) gf_X3_9 rfl dX3_measureSingleCells_160 q1 q2.1 ?_
      obtain ⟨q10, e⟩ := chk_some e
      refine x_getR (pc := 163) gf_X3_92 rfl dX3_measureSingleCells_163 q2 q10.1 ?_
      refine x_iload_n (pc := 166) 1 dX3_measureSingleCells_166 rfl ?_
      obtain ⟨q11, e⟩ := chk_some e
      refine x_iald (pc := 167) dX3_measureSingleCells_167 q10 q11 ?_
      obtain ⟨q12, e⟩ := chk_some e
      replace e := lt_go e
      refine x_iast (pc := 168) dX3_measureSingleCells_168 q9 q12 ?_
      exact p_X3_measureSingleCells_L169 hl hk130 e
    · refine x_icmp_ne_t (pc := 151) (t := 169) dX3_measureSingleCells_151 (by decide) q8 ?_
      exact p_X3_measureSingleCells_L169 hl hk130 e
noncomputable def f_X3_measureSingleCells_L130 (n : Nat) : Hp → Nat → Int32 → Option (Rs Unit) := Nat.rec (motive := fun _ => Hp → Nat → Int32 → Option (Rs Unit)) (fun _ _ _ => none) (fun _ r => f_X3_measureSingleCells_B130 r) n
theorem p_X3_measureSingleCells_L130 {l : Launch} {K : Ctx} (hl : l.stackTraces = false) : ∀ (n : Nat) (h : Hp) (a0 : Nat) (i1 : Int32) (t : Rs Unit) (e : f_X3_measureSingleCells_L130 n h a0 i1 = some t), X l K mM_X3_measureSingleCells (tgV t) 130 [(0, .ref a0), (1, .int i1)] [] h := by
  intro n
  induction n with
  | zero => exact fun _ _ _ _ e => nomatch (show (none : Option (Rs Unit)) = some _ from e)
  | succ n ih => exact fun h a0 i1 t e => p_X3_measureSingleCells_B130 hl (fun h a0 i1 t e => ih h a0 i1 t e) e
noncomputable def f_X3_measureSingleCells_L122 (k35 : Hp → Nat → Int32 → Option (Rs Unit)) (h : Hp) (a0 : Nat) (i1 : Int32) : Option (Rs Unit) :=
  k35 h a0 (i1 + iN 1)
theorem p_X3_measureSingleCells_L122 {l : Launch} {K : Ctx} (hl : l.stackTraces = false) {k35 : Hp → Nat → Int32 → Option (Rs Unit)} (hk35 : ∀ (h : Hp) (a0 : Nat) (i1 : Int32) (t : Rs Unit), k35 h a0 i1 = some t → X l K mM_X3_measureSingleCells (tgV t) 35 [(0, .ref a0), (1, .int i1)] [] h) {h : Hp} {a0 : Nat} {i1 : Int32} {t : Rs Unit} (e : f_X3_measureSingleCells_L122 k35 h a0 i1 = some t) : X l K mM_X3_measureSingleCells (tgV t) 122 [(0, .ref a0), (1, .int i1)] [] h := by
  unfold f_X3_measureSingleCells_L122 at e
  refine x_iinc (pc := 122) 1 dX3_measureSingleCells_122 rfl (by decide) rfl ?_
  refine x_goto (pc := 125) (t := 35) dX3_measureSingleCells_125 (by decide) ?_
  exact x_sub1 (hk35 _ _ _ _ e) [1, 0] rfl
noncomputable def f_X3_measureSingleCells_B35 (k35 : Hp → Nat → Int32 → Option (Rs Unit)) (h : Hp) (a0 : Nat) (i1 : Int32) : Option (Rs Unit) :=
  chk (okr h a0 3) <|
  chk (okr h (qR h a0 0) 7) <|
  if (qI h (qR h a0 0) 5) ≤ i1 then (
    f_X3_measureSingleCells_L130 2000 h a0 (iN 0)
  ) else (
    chk (okr h (qR h (qR h a0 0) 8) 25) <|
    chk (vp_in i1 (qW h (qR h (qR h a0 0) 8))) <|
    chk (okr h (qR h (qR h (qR h a0 0) 8) (Int32.toNatClampNeg i1)) 1) <|
    if (qI h (qR h (qR h (qR h a0 0) 8) (Int32.toNatClampNeg i1)) 2) = (iN 1) then (
      chk (okr h (qR h a0 1) 20) <|
      chk (vp_in (qI h (qR h (qR h (qR h a0 0) 8) (Int32.toNatClampNeg i1)) 1) (qW h (qR h a0 1))) <|
      bnd (f_X7_minimumOf h (qR h a0 0) (qR h (qR h (qR h a0 0) 8) (Int32.toNatClampNeg i1))) fun h10 r11 =>
      chk (okr h10 (qR h a0 1) 20) <|
      chk (vp_in (qI h (qR h (qR h (qR h a0 0) 8) (Int32.toNatClampNeg i1)) 1) (qW h10 (qR h a0 1))) <|
      lt (putI h10 (qR h a0 1) (Int32.toNatClampNeg (qI h (qR h (qR h (qR h a0 0) 8) (Int32.toNatClampNeg i1)) 1)) (jmax (qI h (qR h a0 1) (Int32.toNatClampNeg (qI h (qR h (qR h (qR h a0 0) 8) (Int32.toNatClampNeg i1)) 1))) r11)) fun h14 =>
      chk (okr h14 a0 3) <|
      chk (okr h14 (qR h14 a0 2) 20) <|
      chk (okr h14 (qR h (qR h (qR h a0 0) 8) (Int32.toNatClampNeg i1)) 1) <|
      chk (vp_in (qI h14 (qR h (qR h (qR h a0 0) 8) (Int32.toNatClampNeg i1)) 1) (qW h14 (qR h14 a0 2))) <|
      chk (okr h14 (qR h14 a0 0) 7) <|
      bnd (f_X7_maximumOf h14 (qR h14 a0 0) (qR h (qR h (qR h a0 0) 8) (Int32.toNatClampNeg i1))) fun h20 r21 =>
      chk (okr h20 (qR h14 a0 2) 20) <|
      chk (vp_in (qI h14 (qR h (qR h (qR h a0 0) 8) (Int32.toNatClampNeg i1)) 1) (qW h20 (qR h14 a0 2))) <|
      lt (putI h20 (qR h14 a0 2) (Int32.toNatClampNeg (qI h14 (qR h (qR h (qR h a0 0) 8) (Int32.toNatClampNeg i1)) 1)) (jmax (qI h14 (qR h14 a0 2) (Int32.toNatClampNeg (qI h14 (qR h (qR h (qR h a0 0) 8) (Int32.toNatClampNeg i1)) 1))) r21)) fun h24 =>
      f_X3_measureSingleCells_L122 k35 h24 a0 i1
    ) else (
      f_X3_measureSingleCells_L122 k35 h a0 i1
    )
  )
theorem p_X3_measureSingleCells_B35 {l : Launch} {K : Ctx} (hl : l.stackTraces = false) {k35 : Hp → Nat → Int32 → Option (Rs Unit)} (hk35 : ∀ (h : Hp) (a0 : Nat) (i1 : Int32) (t : Rs Unit), k35 h a0 i1 = some t → X l K mM_X3_measureSingleCells (tgV t) 35 [(0, .ref a0), (1, .int i1)] [] h) {h : Hp} {a0 : Nat} {i1 : Int32} {t : Rs Unit} (e : f_X3_measureSingleCells_B35 k35 h a0 i1 = some t) : X l K mM_X3_measureSingleCells (tgV t) 35 [(0, .ref a0), (1, .int i1)] [] h := by
  unfold f_X3_measureSingleCells_B35 at e
  refine x_iload_n (pc := 35) 1 dX3_measureSingleCells_35 rfl ?_
  refine x_aload_n (pc := 36) 0 dX3_measureSingleCells_36 rfl ?_
  obtain ⟨q1, e⟩ := chk_some e
  obtain ⟨q2, e⟩ := chk_some e
  refine x_getR (pc := 37) gf_X3_9 rfl dX3_measureSingleCells_37 q1 q2.1 ?_
  refine x_getI (pc := 40) gf_X3_61 rfl dX3_measureSingleCells_40 q2 ?_
  rcases ite_some e with ⟨q3, e⟩ | ⟨q3, e⟩
  · refine x_icmp_ge_t (pc := 43) (t := 128) dX3_measureSingleCells_43 (by decide) q3 ?_
    refine x_iconst (pc := 128) dX3_measureSingleCells_128 ?_
    refine x_istore_n (pc := 129) dX3_measureSingleCells_129 (by decide) rfl ?_
    exact x_sub1 (p_X3_measureSingleCells_L130 hl 2000 _ _ _ _ e) [1, 0] rfl
  · refine x_icmp_ge_f (pc := 43) (t := 128) dX3_measureSingleCells_43 (by decide) q3 ?_
    refine x_aload_n (pc := 46) 0 dX3_measureSingleCells_46 rfl ?_
    refine x_getR (pc := 47) gf_X3_9 rfl dX3_measureSingleCells_47 q1 q2.1 ?_
    obtain ⟨q4, e⟩ := chk_some e
    refine x_getR (pc := 50) gf_X3_64 rfl dX3_measureSingleCells_50 q2 q4.1 ?_
    refine x_iload_n (pc := 53) 1 dX3_measureSingleCells_53 rfl ?_
    obtain ⟨q5, e⟩ := chk_some e
    obtain ⟨q6, e⟩ := chk_some e
    refine x_aald (pc := 54) (t := 1) (by decide) dX3_measureSingleCells_54 q4 q5 q6.1 ?_
    refine x_astore_n (pc := 55) dX3_measureSingleCells_55 (by decide) rfl ?_
    refine x_aload_n (pc := 56) 0 dX3_measureSingleCells_56 rfl ?_
    refine x_getI (pc := 57) gf_X3_68 rfl dX3_measureSingleCells_57 q6 ?_
    refine x_iconst (pc := 60) dX3_measureSingleCells_60 ?_
    rcases ite_some e with ⟨q7, e⟩ | ⟨q7, e⟩
    · refine x_icmp_ne_f (pc := 61) (t := 122) dX3_measureSingleCells_61 (by decide) q7 ?_
      refine x_aload_n (pc := 64) 1 dX3_measureSingleCells_64 rfl ?_
      obtain ⟨q8, e⟩ := chk_some e
      refine x_getR (pc := 65) gf_X3_15 rfl dX3_measureSingleCells_65 q1 q8.1 ?_
      refine x_aload_n (pc := 68) 0 dX3_measureSingleCells_68 rfl ?_
      refine x_getI (pc := 69) gf_X3_73 rfl dX3_measureSingleCells_69 q6 ?_
      refine x_aload_n (pc := 72) 1 dX3_measureSingleCells_72 rfl ?_
      refine x_getR (pc := 73) gf_X3_15 rfl dX3_measureSingleCells_73 q1 q8.1 ?_
      refine x_aload_n (pc := 76) 0 dX3_measureSingleCells_76 rfl ?_
      refine x_getI (pc := 77) gf_X3_73 rfl dX3_measureSingleCells_77 q6 ?_
      obtain ⟨q9, e⟩ := chk_some e
      refine x_iald (pc := 80) dX3_measureSingleCells_80 q8 q9 ?_
      refine x_aload_n (pc := 81) 1 dX3_measureSingleCells_81 rfl ?_
      refine x_getR (pc := 82) gf_X3_9 rfl dX3_measureSingleCells_82 q1 q2.1 ?_
      refine x_aload_n (pc := 85) 0 dX3_measureSingleCells_85 rfl ?_
      rcases bnd_some e with ⟨h10, r11, ec, rfl⟩ | ⟨h10, r11, ec, e⟩
      · exact y_callV_x (pc := 86) (c_X7_minimumOf hl ec) q2 mf_X7_minimumOf tw_2_112 ts_1_2 lf_X3_76 rfl rfl dX3_measureSingleCells_86 (by decide) rfl rfl (leb rfl) (xx_out0 rfl)
      refine y_callV_i (pc := 86) (c_X7_minimumOf hl ec) q2 mf_X7_minimumOf tw_2_112 ts_1_2 lf_X3_76 rfl rfl dX3_measureSingleCells_86 (by decide) rfl rfl (leb rfl) ?_
      refine x_mmax (pc := 89) tw_2_125 tw_2_123 tw_1_9 tw_2_124 (by decide) (leb rfl) dX3_measureSingleCells_89 ?_
      obtain ⟨q12, e⟩ := chk_some e
      obtain ⟨q13, e⟩ := chk_some e
      replace e := lt_go e
      refine x_iast (pc := 92) dX3_measureSingleCells_92 q12 q13 ?_
      refine x_aload_n (pc := 93) 1 dX3_measureSingleCells_93 rfl ?_
      obtain ⟨q15, e⟩ := chk_some e
      obtain ⟨q16, e⟩ := chk_some e
      refine x_getR (pc := 94) gf_X3_19 rfl dX3_measureSingleCells_94 q15 q16.1 ?_
      refine x_aload_n (pc := 97) 0 dX3_measureSingleCells_97 rfl ?_
      obtain ⟨q17, e⟩ := chk_some e
      refine x_getI (pc := 98) gf_X3_73 rfl dX3_measureSingleCells_98 q17 ?_
      refine x_aload_n (pc := 101) 1 dX3_measureSingleCells_101 rfl ?_
      refine x_getR (pc := 102) gf_X3_19 rfl dX3_measureSingleCells_102 q15 q16.1 ?_
      refine x_aload_n (pc := 105) 0 dX3_measureSingleCells_105 rfl ?_
      refine x_getI (pc := 106) gf_X3_73 rfl dX3_measureSingleCells_106 q17 ?_
      obtain ⟨q18, e⟩ := chk_some e
      refine x_iald (pc := 109) dX3_measureSingleCells_109 q16 q18 ?_
      refine x_aload_n (pc := 110) 1 dX3_measureSingleCells_110 rfl ?_
      obtain ⟨q19, e⟩ := chk_some e
      refine x_getR (pc := 111) gf_X3_9 rfl dX3_measureSingleCells_111 q15 q19.1 ?_
      refine x_aload_n (pc := 114) 0 dX3_measureSingleCells_114 rfl ?_
      rcases bnd_some e with ⟨h20, r21, ec, rfl⟩ | ⟨h20, r21, ec, e⟩
      · exact y_callV_x (pc := 115) (c_X7_maximumOf hl ec) q19 mf_X7_maximumOf tw_2_128 ts_1_5 lf_X3_86 rfl rfl dX3_measureSingleCells_115 (by decide) rfl rfl (leb rfl) (xx_out0 rfl)
      refine y_callV_i (pc := 115) (c_X7_maximumOf hl ec) q19 mf_X7_maximumOf tw_2_128 ts_1_5 lf_X3_86 rfl rfl dX3_measureSingleCells_115 (by decide) rfl rfl (leb rfl) ?_
      refine x_mmax (pc := 118) tw_2_125 tw_2_123 tw_1_9 tw_2_124 (by decide) (leb rfl) dX3_measureSingleCells_118 ?_
      obtain ⟨q22, e⟩ := chk_some e
      obtain ⟨q23, e⟩ := chk_some e
      replace e := lt_go e
      refine x_iast (pc := 121) dX3_measureSingleCells_121 q22 q23 ?_
      exact x_sub1 (p_X3_measureSingleCells_L122 hl hk35 e) [1, 2] rfl
    · refine x_icmp_ne_t (pc := 61) (t := 122) dX3_measureSingleCells_61 (by decide) q7 ?_
      exact x_sub1 (p_X3_measureSingleCells_L122 hl hk35 e) [1, 2] rfl
noncomputable def f_X3_measureSingleCells_L35 (n : Nat) : Hp → Nat → Int32 → Option (Rs Unit) := Nat.rec (motive := fun _ => Hp → Nat → Int32 → Option (Rs Unit)) (fun _ _ _ => none) (fun _ r => f_X3_measureSingleCells_B35 r) n
theorem p_X3_measureSingleCells_L35 {l : Launch} {K : Ctx} (hl : l.stackTraces = false) : ∀ (n : Nat) (h : Hp) (a0 : Nat) (i1 : Int32) (t : Rs Unit) (e : f_X3_measureSingleCells_L35 n h a0 i1 = some t), X l K mM_X3_measureSingleCells (tgV t) 35 [(0, .ref a0), (1, .int i1)] [] h := by
  intro n
  induction n with
  | zero => exact fun _ _ _ _ e => nomatch (show (none : Option (Rs Unit)) = some _ from e)
  | succ n ih => exact fun h a0 i1 t e => p_X3_measureSingleCells_B35 hl (fun h a0 i1 t e => ih h a0 i1 t e) e
noncomputable def f_X3_measureSingleCells_B2 (k2 : Hp → Nat → Int32 → Option (Rs Unit)) (h : Hp) (a0 : Nat) (i1 : Int32) : Option (Rs Unit) :=
  chk (okr h a0 3) <|
  chk (okr h (qR h a0 0) 7) <|
  if (qI h (qR h a0 0) 3) ≤ i1 then (
    f_X3_measureSingleCells_L35 2000 h a0 (iN 0)
  ) else (
    chk (okr h (qR h a0 1) 20) <|
    chk (vp_in i1 (qW h (qR h a0 1))) <|
    lt (putI h (qR h a0 1) (Int32.toNatClampNeg i1) (iN 1)) fun h6 =>
    chk (okr h6 (qR h6 a0 2) 20) <|
    chk (vp_in i1 (qW h6 (qR h6 a0 2))) <|
    lt (putI h6 (qR h6 a0 2) (Int32.toNatClampNeg i1) (iN 1)) fun h9 =>
    k2 h9 a0 (i1 + iN 1)
  )
theorem p_X3_measureSingleCells_B2 {l : Launch} {K : Ctx} (hl : l.stackTraces = false) {k2 : Hp → Nat → Int32 → Option (Rs Unit)} (hk2 : ∀ (h : Hp) (a0 : Nat) (i1 : Int32) (t : Rs Unit), k2 h a0 i1 = some t → X l K mM_X3_measureSingleCells (tgV t) 2 [(0, .ref a0), (1, .int i1)] [] h) {h : Hp} {a0 : Nat} {i1 : Int32} {t : Rs Unit} (e : f_X3_measureSingleCells_B2 k2 h a0 i1 = some t) : X l K mM_X3_measureSingleCells (tgV t) 2 [(0, .ref a0), (1, .int i1)] [] h := by
  unfold f_X3_measureSingleCells_B2 at e
  refine x_iload_n (pc := 2) 1 dX3_measureSingleCells_2 rfl ?_
  refine x_aload_n (pc := 3) 0 dX3_measureSingleCells_3 rfl ?_
  obtain ⟨q1, e⟩ := chk_some e
  obtain ⟨q2, e⟩ := chk_some e
  refine x_getR (pc := 4) gf_X3_9 rfl dX3_measureSingleCells_4 q1 q2.1 ?_
  refine x_getI (pc := 7) gf_X3_42 rfl dX3_measureSingleCells_7 q2 ?_
  rcases ite_some e with ⟨q3, e⟩ | ⟨q3, e⟩
  · refine x_icmp_ge_t (pc := 10) (t := 33) dX3_measureSingleCells_10 (by decide) q3 ?_
    refine x_iconst (pc := 33) dX3_measureSingleCells_33 ?_
    refine x_istore_n (pc := 34) dX3_measureSingleCells_34 (by decide) rfl ?_
    exact x_sub1 (p_X3_measureSingleCells_L35 hl 2000 _ _ _ _ e) [1, 0] rfl
  · refine x_icmp_ge_f (pc := 10) (t := 33) dX3_measureSingleCells_10 (by decide) q3 ?_
    refine x_aload_n (pc := 13) 0 dX3_measureSingleCells_13 rfl ?_
    obtain ⟨q4, e⟩ := chk_some e
    refine x_getR (pc := 14) gf_X3_15 rfl dX3_measureSingleCells_14 q1 q4.1 ?_
    refine x_iload_n (pc := 17) 1 dX3_measureSingleCells_17 rfl ?_
    refine x_iconst (pc := 18) dX3_measureSingleCells_18 ?_
    obtain ⟨q5, e⟩ := chk_some e
    replace e := lt_go e
    refine x_iast (pc := 19) dX3_measureSingleCells_19 q4 q5 ?_
    refine x_aload_n (pc := 20) 0 dX3_measureSingleCells_20 rfl ?_
    obtain ⟨q7, e⟩ := chk_some e
    refine x_getR (pc := 21) gf_X3_19 rfl dX3_measureSingleCells_21 (okr_pI q1) q7.1 ?_
    refine x_iload_n (pc := 24) 1 dX3_measureSingleCells_24 rfl ?_
    refine x_iconst (pc := 25) dX3_measureSingleCells_25 ?_
    obtain ⟨q8, e⟩ := chk_some e
    replace e := lt_go e
    refine x_iast (pc := 26) dX3_measureSingleCells_26 q7 q8 ?_
    refine x_iinc (pc := 27) 1 dX3_measureSingleCells_27 rfl (by decide) rfl ?_
    refine x_goto (pc := 30) (t := 2) dX3_measureSingleCells_30 (by decide) ?_
    exact x_sub1 (hk2 _ _ _ _ e) [1, 0] rfl
noncomputable def f_X3_measureSingleCells_L2 (n : Nat) : Hp → Nat → Int32 → Option (Rs Unit) := Nat.rec (motive := fun _ => Hp → Nat → Int32 → Option (Rs Unit)) (fun _ _ _ => none) (fun _ r => f_X3_measureSingleCells_B2 r) n
theorem p_X3_measureSingleCells_L2 {l : Launch} {K : Ctx} (hl : l.stackTraces = false) : ∀ (n : Nat) (h : Hp) (a0 : Nat) (i1 : Int32) (t : Rs Unit) (e : f_X3_measureSingleCells_L2 n h a0 i1 = some t), X l K mM_X3_measureSingleCells (tgV t) 2 [(0, .ref a0), (1, .int i1)] [] h := by
  intro n
  induction n with
  | zero => exact fun _ _ _ _ e => nomatch (show (none : Option (Rs Unit)) = some _ from e)
  | succ n ih => exact fun h a0 i1 t e => p_X3_measureSingleCells_B2 hl (fun h a0 i1 t e => ih h a0 i1 t e) e
noncomputable def f_X3_measureSingleCells (h : Hp) (a0 : Nat) : Option (Rs Unit) :=
  f_X3_measureSingleCells_L2 2000 h a0 (iN 0)
theorem p_X3_measureSingleCells {l : Launch} {K : Ctx} (hl : l.stackTraces = false) {h : Hp} {a0 : Nat} {t : Rs Unit} (e : f_X3_measureSingleCells h a0 = some t) : X l K mM_X3_measureSingleCells (tgV t) 0 [(0, .ref a0)] [] h := by
  unfold f_X3_measureSingleCells at e
  refine x_iconst (pc := 0) dX3_measureSingleCells_0 ?_
  refine x_istore_n (pc := 1) dX3_measureSingleCells_1 (by decide) rfl ?_
  exact x_sub1 (p_X3_measureSingleCells_L2 hl 2000 _ _ _ _ e) [1, 0] rfl
abbrev w_X3_measureSingleCells : Cond := (Cond.code yX3_measureSingleCells cX3_measureSingleCells 3 (Option.none : Option Jvm.ClassFile.FieldType))
theorem mf_X3_measureSingleCells : MF yX3_measureSingleCells w_X3_measureSingleCells cX3_measureSingleCells 3 (Option.none : Option Jvm.ClassFile.FieldType) 0 := ⟨⟨rfl, tw_2_109, by decide⟩, tw_1_5, ⟨by decide, by decide⟩, by decide +kernel⟩
theorem c_X3_measureSingleCells {l : Launch} {K : Ctx} (hl : l.stackTraces = false) {h : Hp} {a0 : Nat} {t : Rs Unit} (e : f_X3_measureSingleCells h a0 = some t) : Ctr l K 11 yX3_measureSingleCells w_X3_measureSingleCells [.ref a0] h (tgV t) :=
  Ctr.of hl mf_X3_measureSingleCells false (fun q => nomatch q) rfl (leb rfl) (p_X3_measureSingleCells hl e)
/-! ## TableColumnBalancer$Table.widthIn -/
abbrev mM_X7_widthIn : Mi := (8, yX7_widthIn.cls, cX7_widthIn, 5, (Option.some Jvm.ClassFile.FieldType.int), [], false)
noncomputable def f_X7_widthIn_B18 (k18 : Hp → Nat → Nat → Int32 → Int32 → Option (Rs Int32)) (h : Hp) (a1 : Nat) (a2 : Nat) (i3 : Int32) (i4 : Int32) : Option (Rs Int32) :=
  chk (okr h a1 1) <|
  if ((qI h a1 1) + (qI h a1 2)) ≤ i4 then (
    some (h, .inr i3)
  ) else (
    chk (okr h a2 20) <|
    chk (vp_in i4 (qW h a2)) <|
    k18 h a1 a2 (i3 + (qI h a2 (Int32.toNatClampNeg i4))) (i4 + iN 1)
  )
theorem p_X7_widthIn_B18 {l : Launch} {K : Ctx} (hl : l.stackTraces = false) {k18 : Hp → Nat → Nat → Int32 → Int32 → Option (Rs Int32)} (hk18 : ∀ (h : Hp) (a1 : Nat) (a2 : Nat) (i3 : Int32) (i4 : Int32) (t : Rs Int32), k18 h a1 a2 i3 i4 = some t → X l K mM_X7_widthIn (tgI t) 18 [(1, .ref a1), (2, .ref a2), (3, .int i3), (4, .int i4)] [] h) {h : Hp} {a1 : Nat} {a2 : Nat} {i3 : Int32} {i4 : Int32} {t : Rs Int32} (e : f_X7_widthIn_B18 k18 h a1 a2 i3 i4 = some t) : X l K mM_X7_widthIn (tgI t) 18 [(1, .ref a1), (2, .ref a2), (3, .int i3), (4, .int i4)] [] h := by
  unfold f_X7_widthIn_B18 at e
  refine x_iload (pc := 18) 3 dX7_widthIn_18 rfl ?_
  refine x_aload_n (pc := 20) 0 dX7_widthIn_20 rfl ?_
  obtain ⟨q1, e⟩ := chk_some e
  refine x_getI (pc := 21) gf_X7_59 rfl dX7_widthIn_21 q1 ?_
  refine x_aload_n (pc := 24) 0 dX7_widthIn_24 rfl ?_
  refine x_getI (pc := 25) gf_X7_62 rfl dX7_widthIn_25 q1 ?_
  refine x_iadd (pc := 28) dX7_widthIn_28 ?_
  rcases ite_some e with ⟨q2, e⟩ | ⟨q2, e⟩
  · refine x_icmp_ge_t (pc := 29) (t := 45) dX7_widthIn_29 (by decide) q2 ?_
    refine x_iload_n (pc := 45) 2 dX7_widthIn_45 rfl ?_
    cases Option.some.inj e
    exact x_iret (pc := 46) rfl dX7_widthIn_46
  · refine x_icmp_ge_f (pc := 29) (t := 45) dX7_widthIn_29 (by decide) q2 ?_
    refine x_iload_n (pc := 32) 2 dX7_widthIn_32 rfl ?_
    refine x_aload_n (pc := 33) 1 dX7_widthIn_33 rfl ?_
    refine x_iload (pc := 34) 3 dX7_widthIn_34 rfl ?_
    obtain ⟨q3, e⟩ := chk_some e
    obtain ⟨q4, e⟩ := chk_some e
    refine x_iald (pc := 36) dX7_widthIn_36 q3 q4 ?_
    refine x_iadd (pc := 37) dX7_widthIn_37 ?_
    refine x_istore_n (pc := 38) dX7_widthIn_38 (by decide) rfl ?_
    refine x_iinc (pc := 39) 3 dX7_widthIn_39 rfl (by decide) rfl ?_
    refine x_goto (pc := 42) (t := 18) dX7_widthIn_42 (by decide) ?_
    exact x_sub1 (hk18 _ _ _ _ _ _ e) [2, 3, 1, 0] rfl
noncomputable def f_X7_widthIn_L18 (n : Nat) : Hp → Nat → Nat → Int32 → Int32 → Option (Rs Int32) := Nat.rec (motive := fun _ => Hp → Nat → Nat → Int32 → Int32 → Option (Rs Int32)) (fun _ _ _ _ _ => none) (fun _ r => f_X7_widthIn_B18 r) n
theorem p_X7_widthIn_L18 {l : Launch} {K : Ctx} (hl : l.stackTraces = false) : ∀ (n : Nat) (h : Hp) (a1 : Nat) (a2 : Nat) (i3 : Int32) (i4 : Int32) (t : Rs Int32) (e : f_X7_widthIn_L18 n h a1 a2 i3 i4 = some t), X l K mM_X7_widthIn (tgI t) 18 [(1, .ref a1), (2, .ref a2), (3, .int i3), (4, .int i4)] [] h := by
  intro n
  induction n with
  | zero => exact fun _ _ _ _ _ _ e => nomatch (show (none : Option (Rs Int32)) = some _ from e)
  | succ n ih => exact fun h a1 a2 i3 i4 t e => p_X7_widthIn_B18 hl (fun h a1 a2 i3 i4 t e => ih h a1 a2 i3 i4 t e) e
noncomputable def f_X7_widthIn (h : Hp) (a0 : Nat) (a1 : Nat) (a2 : Nat) : Option (Rs Int32) :=
  chk (okr h a0 7) <|
  chk (okr h a1 1) <|
  f_X7_widthIn_L18 2000 h a1 a2 ((qI h a0 1) * ((qI h a1 2) - (iN 1))) (qI h a1 1)
theorem p_X7_widthIn {l : Launch} {K : Ctx} (hl : l.stackTraces = false) {h : Hp} {a0 : Nat} {a1 : Nat} {a2 : Nat} {t : Rs Int32} (e : f_X7_widthIn h a0 a1 a2 = some t) : X l K mM_X7_widthIn (tgI t) 0 [(0, .ref a0), (1, .ref a1), (2, .ref a2)] [] h := by
  unfold f_X7_widthIn at e
  refine x_aload_n (pc := 0) 0 dX7_widthIn_0 rfl ?_
  obtain ⟨q1, e⟩ := chk_some e
  refine x_getI (pc := 1) gf_X7_15 rfl dX7_widthIn_1 q1 ?_
  refine x_aload_n (pc := 4) 1 dX7_widthIn_4 rfl ?_
  obtain ⟨q2, e⟩ := chk_some e
  refine x_getI (pc := 5) gf_X7_62 rfl dX7_widthIn_5 q2 ?_
  refine x_iconst (pc := 8) dX7_widthIn_8 ?_
  refine x_isub (pc := 9) dX7_widthIn_9 ?_
  refine x_imul (pc := 10) dX7_widthIn_10 ?_
  refine x_istore_n (pc := 11) dX7_widthIn_11 (by decide) rfl ?_
  refine x_aload_n (pc := 12) 2 dX7_widthIn_12 rfl ?_
  refine x_getI (pc := 13) gf_X7_59 rfl dX7_widthIn_13 q2 ?_
  refine x_istore (pc := 16) dX7_widthIn_16 (by decide) rfl ?_
  exact x_sub1 (p_X7_widthIn_L18 hl 2000 _ _ _ _ _ _ e) [3, 4, 1, 0] rfl
abbrev w_X7_widthIn : Cond := (Cond.code yX7_widthIn cX7_widthIn 5 (Option.some Jvm.ClassFile.FieldType.int))
theorem mf_X7_widthIn : MF yX7_widthIn w_X7_widthIn cX7_widthIn 5 (Option.some Jvm.ClassFile.FieldType.int) 2 := ⟨⟨rfl, tw_2_149, by decide⟩, tw_1_2, ⟨by decide, by decide⟩, by decide +kernel⟩
theorem c_X7_widthIn {l : Launch} {K : Ctx} (hl : l.stackTraces = false) {h : Hp} {a0 : Nat} {a1 : Nat} {a2 : Nat} {t : Rs Int32} (e : f_X7_widthIn h a0 a1 a2 = some t) : Ctr l K 8 yX7_widthIn w_X7_widthIn [.ref a0, .ref a1, .ref a2] h (tgI t) :=
  Ctr.of hl mf_X7_widthIn false (fun q => nomatch q) rfl (leb rfl) (p_X7_widthIn hl e)
/-! ## TableColumnBalancer$Cell.overlaps -/
abbrev mM_X1_overlaps : Mi := (8, yX1_overlaps.cls, cX1_overlaps, 3, (Option.some Jvm.ClassFile.FieldType.boolean), [], false)
noncomputable def f_X1_overlaps (h : Hp) (a0 : Nat) (i1 : Int32) (i2 : Int32) : Option (Rs Int32) :=
  chk (okr h a0 1) <|
  if (i1 + i2) ≤ (qI h a0 1) then (
    some (h, .inr (iN 0))
  ) else (
    if ((qI h a0 1) + (qI h a0 2)) ≤ i1 then (
      some (h, .inr (iN 0))
    ) else (
      some (h, .inr (iN 1))
    )
  )
theorem p_X1_overlaps {l : Launch} {K : Ctx} (hl : l.stackTraces = false) {h : Hp} {a0 : Nat} {i1 : Int32} {i2 : Int32} {t : Rs Int32} (e : f_X1_overlaps h a0 i1 i2 = some t) : X l K mM_X1_overlaps (tgI t) 0 [(0, .ref a0), (1, .int i1), (2, .int i2)] [] h := by
  unfold f_X1_overlaps at e
  refine x_aload_n (pc := 0) 0 dX1_overlaps_0 rfl ?_
  obtain ⟨q1, e⟩ := chk_some e
  refine x_getI (pc := 1) gf_X1_20 rfl dX1_overlaps_1 q1 ?_
  refine x_iload_n (pc := 4) 1 dX1_overlaps_4 rfl ?_
  refine x_iload_n (pc := 5) 2 dX1_overlaps_5 rfl ?_
  refine x_iadd (pc := 6) dX1_overlaps_6 ?_
  rcases ite_some e with ⟨q2, e⟩ | ⟨q2, e⟩
  · refine x_icmp_ge_t (pc := 7) (t := 27) dX1_overlaps_7 (by decide) q2 ?_
    refine x_iconst (pc := 27) dX1_overlaps_27 ?_
    cases Option.some.inj e
    exact x_zret (pc := 28) rfl (Or.inl rfl) dX1_overlaps_28
  · refine x_icmp_ge_f (pc := 7) (t := 27) dX1_overlaps_7 (by decide) q2 ?_
    refine x_iload_n (pc := 10) 1 dX1_overlaps_10 rfl ?_
    refine x_aload_n (pc := 11) 0 dX1_overlaps_11 rfl ?_
    refine x_getI (pc := 12) gf_X1_20 rfl dX1_overlaps_12 q1 ?_
    refine x_aload_n (pc := 15) 0 dX1_overlaps_15 rfl ?_
    refine x_getI (pc := 16) gf_X1_23 rfl dX1_overlaps_16 q1 ?_
    refine x_iadd (pc := 19) dX1_overlaps_19 ?_
    rcases ite_some e with ⟨q3, e⟩ | ⟨q3, e⟩
    · refine x_icmp_ge_t (pc := 20) (t := 27) dX1_overlaps_20 (by decide) q3 ?_
      refine x_iconst (pc := 27) dX1_overlaps_27 ?_
      cases Option.some.inj e
      exact x_zret (pc := 28) rfl (Or.inl rfl) dX1_overlaps_28
    · refine x_icmp_ge_f (pc := 20) (t := 27) dX1_overlaps_20 (by decide) q3 ?_
      refine x_iconst (pc := 23) dX1_overlaps_23 ?_
      refine x_goto (pc := 24) (t := 28) dX1_overlaps_24 (by decide) ?_
      cases Option.some.inj e
      exact x_zret (pc := 28) rfl (Or.inr rfl) dX1_overlaps_28
abbrev w_X1_overlaps : Cond := (Cond.code yX1_overlaps cX1_overlaps 3 (Option.some Jvm.ClassFile.FieldType.boolean))
theorem mf_X1_overlaps : MF yX1_overlaps w_X1_overlaps cX1_overlaps 3 (Option.some Jvm.ClassFile.FieldType.boolean) 2 := ⟨⟨rfl, tw_2_157, by decide⟩, tw_1_3, ⟨by decide, by decide⟩, by decide +kernel⟩
theorem c_X1_overlaps {l : Launch} {K : Ctx} (hl : l.stackTraces = false) {h : Hp} {a0 : Nat} {i1 : Int32} {i2 : Int32} {t : Rs Int32} (e : f_X1_overlaps h a0 i1 i2 = some t) : Ctr l K 8 yX1_overlaps w_X1_overlaps [.ref a0, .int i1, .int i2] h (tgI t) :=
  Ctr.of hl mf_X1_overlaps false (fun q => nomatch q) rfl (leb rfl) (p_X1_overlaps hl e)
/-! ## TableColumnBalancer$Columns.weighByMaximums -/
abbrev mM_X3_weighByMaximums : Mi := (9, yX3_weighByMaximums.cls, cX3_weighByMaximums, 5, (Option.none : Option Jvm.ClassFile.FieldType), [], false)
noncomputable def f_X3_weighByMaximums_L119 (k55 : Hp → Nat → Nat → Int32 → Int32 → Option (Rs Unit)) (h : Hp) (a0 : Nat) (a1 : Nat) (i2 : Int32) (i3 : Int32) (s0 : Int32) (s1 : Int32) (s2 : Nat) : Option (Rs Unit) :=
  chk (okr h s2 20) <|
  chk (vp_in s1 (qW h s2)) <|
  lt (putI h s2 (Int32.toNatClampNeg s1) s0) fun h3 =>
  k55 h3 a0 a1 i2 (i3 + iN 1)
theorem p_X3_weighByMaximums_L119 {l : Launch} {K : Ctx} (hl : l.stackTraces = false) {k55 : Hp → Nat → Nat → Int32 → Int32 → Option (Rs Unit)} (hk55 : ∀ (h : Hp) (a0 : Nat) (a1 : Nat) (i2 : Int32) (i3 : Int32) (t : Rs Unit), k55 h a0 a1 i2 i3 = some t → X l K mM_X3_weighByMaximums (tgV t) 55 [(0, .ref a0), (1, .ref a1), (2, .int i2), (3, .int i3)] [] h) {h : Hp} {a0 : Nat} {a1 : Nat} {i2 : Int32} {i3 : Int32} {s0 : Int32} {s1 : Int32} {s2 : Nat} {t : Rs Unit} (e : f_X3_weighByMaximums_L119 k55 h a0 a1 i2 i3 s0 s1 s2 = some t) : X l K mM_X3_weighByMaximums (tgV t) 119 [(0, .ref a0), (1, .ref a1), (2, .int i2), (3, .int i3)] [.int s0, .int s1, .ref s2] h := by
  unfold f_X3_weighByMaximums_L119 at e
  obtain ⟨q1, e⟩ := chk_some e
  obtain ⟨q2, e⟩ := chk_some e
  replace e := lt_go e
  refine x_iast (pc := 119) dX3_weighByMaximums_119 q1 q2 ?_
  refine x_iinc (pc := 120) 3 dX3_weighByMaximums_120 rfl (by decide) rfl ?_
  refine x_goto (pc := 123) (t := 55) dX3_weighByMaximums_123 (by decide) ?_
  exact x_sub1 (hk55 _ _ _ _ _ _ e) [1, 2, 3, 0] rfl
noncomputable def f_X3_weighByMaximums_L97 (k55 : Hp → Nat → Nat → Int32 → Int32 → Option (Rs Unit)) (h : Hp) (a0 : Nat) (a1 : Nat) (i2 : Int32) (i3 : Int32) (s0 : Int32) : Option (Rs Unit) :=
  chk (okr h a0 3) <|
  chk (okr h (qR h a0 8) 20) <|
  if s0 = 0 then (
    f_X3_weighByMaximums_L119 k55 h a0 a1 i2 i3 (iN 0) i3 (qR h a0 8)
  ) else (
    chk (okr h (qR h a0 2) 20) <|
    chk (vp_in i3 (qW h (qR h a0 2))) <|
    f_X3_weighByMaximums_L119 k55 h a0 a1 i2 i3 (qI h (qR h a0 2) (Int32.toNatClampNeg i3)) i3 (qR h a0 8)
  )
theorem p_X3_weighByMaximums_L97 {l : Launch} {K : Ctx} (hl : l.stackTraces = false) {k55 : Hp → Nat → Nat → Int32 → Int32 → Option (Rs Unit)} (hk55 : ∀ (h : Hp) (a0 : Nat) (a1 : Nat) (i2 : Int32) (i3 : Int32) (t : Rs Unit), k55 h a0 a1 i2 i3 = some t → X l K mM_X3_weighByMaximums (tgV t) 55 [(0, .ref a0), (1, .ref a1), (2, .int i2), (3, .int i3)] [] h) {h : Hp} {a0 : Nat} {a1 : Nat} {i2 : Int32} {i3 : Int32} {s0 : Int32} {t : Rs Unit} (e : f_X3_weighByMaximums_L97 k55 h a0 a1 i2 i3 s0 = some t) : X l K mM_X3_weighByMaximums (tgV t) 97 [(0, .ref a0), (1, .ref a1), (2, .int i2), (3, .int i3)] [.int s0] h := by
  unfold f_X3_weighByMaximums_L97 at e
  refine x_istore (pc := 97) dX3_weighByMaximums_97 (by decide) rfl ?_
  refine x_aload_n (pc := 99) 1 dX3_weighByMaximums_99 rfl ?_
  obtain ⟨q1, e⟩ := chk_some e
  obtain ⟨q2, e⟩ := chk_some e
  refine x_getR (pc := 100) gf_X3_36 rfl dX3_weighByMaximums_100 q1 q2.1 ?_
  refine x_iload_n (pc := 103) 4 dX3_weighByMaximums_103 rfl ?_
  refine x_iload (pc := 104) 0 dX3_weighByMaximums_104 rfl ?_
  rcases ite_some e with ⟨q3, e⟩ | ⟨q3, e⟩
  · refine x_if_eq_t (pc := 106) (t := 118) dX3_weighByMaximums_106 (by decide) q3 ?_
    refine x_iconst (pc := 118) dX3_weighByMaximums_118 ?_
    exact x_sub1 (p_X3_weighByMaximums_L119 hl hk55 e) [1, 2, 3, 4] rfl
  · refine x_if_eq_f (pc := 106) (t := 118) dX3_weighByMaximums_106 (by decide) q3 ?_
    refine x_aload_n (pc := 109) 1 dX3_weighByMaximums_109 rfl ?_
    obtain ⟨q4, e⟩ := chk_some e
    refine x_getR (pc := 110) gf_X3_19 rfl dX3_weighByMaximums_110 q1 q4.1 ?_
    refine x_iload_n (pc := 113) 4 dX3_weighByMaximums_113 rfl ?_
    obtain ⟨q5, e⟩ := chk_some e
    refine x_iald (pc := 114) dX3_weighByMaximums_114 q4 q5 ?_
    refine x_goto (pc := 115) (t := 119) dX3_weighByMaximums_115 (by decide) ?_
    exact x_sub1 (p_X3_weighByMaximums_L119 hl hk55 e) [1, 2, 3, 4] rfl
noncomputable def f_X3_weighByMaximums_L96 (k55 : Hp → Nat → Nat → Int32 → Int32 → Option (Rs Unit)) (h : Hp) (a0 : Nat) (a1 : Nat) (i2 : Int32) (i3 : Int32) : Option (Rs Unit) :=
  f_X3_weighByMaximums_L97 k55 h a0 a1 i2 i3 (iN 0)
theorem p_X3_weighByMaximums_L96 {l : Launch} {K : Ctx} (hl : l.stackTraces = false) {k55 : Hp → Nat → Nat → Int32 → Int32 → Option (Rs Unit)} (hk55 : ∀ (h : Hp) (a0 : Nat) (a1 : Nat) (i2 : Int32) (i3 : Int32) (t : Rs Unit), k55 h a0 a1 i2 i3 = some t → X l K mM_X3_weighByMaximums (tgV t) 55 [(0, .ref a0), (1, .ref a1), (2, .int i2), (3, .int i3)] [] h) {h : Hp} {a0 : Nat} {a1 : Nat} {i2 : Int32} {i3 : Int32} {t : Rs Unit} (e : f_X3_weighByMaximums_L96 k55 h a0 a1 i2 i3 = some t) : X l K mM_X3_weighByMaximums (tgV t) 96 [(0, .ref a0), (1, .ref a1), (2, .int i2), (3, .int i3)] [] h := by
  unfold f_X3_weighByMaximums_L96 at e
  refine x_iconst (pc := 96) dX3_weighByMaximums_96 ?_
  exact p_X3_weighByMaximums_L97 hl hk55 e
noncomputable def f_X3_weighByMaximums_L92 (k55 : Hp → Nat → Nat → Int32 → Int32 → Option (Rs Unit)) (h : Hp) (a0 : Nat) (a1 : Nat) (i2 : Int32) (i3 : Int32) : Option (Rs Unit) :=
  f_X3_weighByMaximums_L97 k55 h a0 a1 i2 i3 (iN 1)
theorem p_X3_weighByMaximums_L92 {l : Launch} {K : Ctx} (hl : l.stackTraces = false) {k55 : Hp → Nat → Nat → Int32 → Int32 → Option (Rs Unit)} (hk55 : ∀ (h : Hp) (a0 : Nat) (a1 : Nat) (i2 : Int32) (i3 : Int32) (t : Rs Unit), k55 h a0 a1 i2 i3 = some t → X l K mM_X3_weighByMaximums (tgV t) 55 [(0, .ref a0), (1, .ref a1), (2, .int i2), (3, .int i3)] [] h) {h : Hp} {a0 : Nat} {a1 : Nat} {i2 : Int32} {i3 : Int32} {t : Rs Unit} (e : f_X3_weighByMaximums_L92 k55 h a0 a1 i2 i3 = some t) : X l K mM_X3_weighByMaximums (tgV t) 92 [(0, .ref a0), (1, .ref a1), (2, .int i2), (3, .int i3)] [] h := by
  unfold f_X3_weighByMaximums_L92 at e
  refine x_iconst (pc := 92) dX3_weighByMaximums_92 ?_
  refine x_goto (pc := 93) (t := 97) dX3_weighByMaximums_93 (by decide) ?_
  exact p_X3_weighByMaximums_L97 hl hk55 e
noncomputable def f_X3_weighByMaximums_B55 (k55 : Hp → Nat → Nat → Int32 → Int32 → Option (Rs Unit)) (h : Hp) (a0 : Nat) (a1 : Nat) (i2 : Int32) (i3 : Int32) : Option (Rs Unit) :=
  chk (okr h a0 3) <|
  chk (okr h (qR h a0 0) 7) <|
  if (qI h (qR h a0 0) 3) ≤ i3 then (
    some (h, .inr ())
  ) else (
    chk (okr h a1 1) <|
    bnd (f_X1_overlaps h a1 i3 (iN 1)) fun h5 r6 =>
    if r6 = 0 then (
      f_X3_weighByMaximums_L96 k55 h5 a0 a1 i2 i3
    ) else (
      if i2 = 0 then (
        chk (okr h5 a0 3) <|
        chk (okr h5 (qR h5 a0 0) 7) <|
        chk (okr h5 (qR h5 (qR h5 a0 0) 6) 20) <|
        chk (vp_in i3 (qW h5 (qR h5 (qR h5 a0 0) 6))) <|
        if (qI h5 (qR h5 (qR h5 a0 0) 6) (Int32.toNatClampNeg i3)) = (iN 1) then (
          f_X3_weighByMaximums_L96 k55 h5 a0 a1 i2 i3
        ) else (
          f_X3_weighByMaximums_L92 k55 h5 a0 a1 i2 i3
        )
      ) else (
        f_X3_weighByMaximums_L92 k55 h5 a0 a1 i2 i3
      )
    )
  )
theorem p_X3_weighByMaximums_B55 {l : Launch} {K : Ctx} (hl : l.stackTraces = false) {k55 : Hp → Nat → Nat → Int32 → Int32 → Option (Rs Unit)} (hk55 : ∀ (h : Hp) (a0 : Nat) (a1 : Nat) (i2 : Int32) (i3 : Int32) (t : Rs Unit), k55 h a0 a1 i2 i3 = some t → X l K mM_X3_weighByMaximums (tgV t) 55 [(0, .ref a0), (1, .ref a1), (2, .int i2), (3, .int i3)] [] h) {h : Hp} {a0 : Nat} {a1 : Nat} {i2 : Int32} {i3 : Int32} {t : Rs Unit} (e : f_X3_weighByMaximums_B55 k55 h a0 a1 i2 i3 = some t) : X l K mM_X3_weighByMaximums (tgV t) 55 [(0, .ref a0), (1, .ref a1), (2, .int i2), (3, .int i3)] [] h := by
  unfold f_X3_weighByMaximums_B55 at e
  refine x_iload_n (pc := 55) 3 dX3_weighByMaximums_55 rfl ?_
  refine x_aload_n (pc := 56) 0 dX3_weighByMaximums_56 rfl ?_
  obtain ⟨q1, e⟩ := chk_some e
  obtain ⟨q2, e⟩ := chk_some e
  refine x_getR (pc := 57) gf_X3_9 rfl dX3_weighByMaximums_57 q1 q2.1 ?_
  refine x_getI (pc := 60) gf_X3_42 rfl dX3_weighByMaximums_60 q2 ?_
  rcases ite_some e with ⟨q3, e⟩ | ⟨q3, e⟩
  · refine x_icmp_ge_t (pc := 63) (t := 126) dX3_weighByMaximums_63 (by decide) q3 ?_
    cases Option.some.inj e
    exact x_vret (pc := 126) rfl dX3_weighByMaximums_126
  · refine x_icmp_ge_f (pc := 63) (t := 126) dX3_weighByMaximums_63 (by decide) q3 ?_
    refine x_aload_n (pc := 66) 1 dX3_weighByMaximums_66 rfl ?_
    refine x_iload_n (pc := 67) 3 dX3_weighByMaximums_67 rfl ?_
    refine x_iconst (pc := 68) dX3_weighByMaximums_68 ?_
    obtain ⟨q4, e⟩ := chk_some e
    rcases bnd_some e with ⟨h5, r6, ec, rfl⟩ | ⟨h5, r6, ec, e⟩
    · exact y_callV_x (pc := 69) (c_X1_overlaps hl ec) q4 mf_X1_overlaps tw_2_156 ts_1_12 lf_X3_114 rfl rfl dX3_weighByMaximums_69 (by decide) rfl rfl (leb rfl) (xx_out0 rfl)
    refine y_callV_i (pc := 69) (c_X1_overlaps hl ec) q4 mf_X1_overlaps tw_2_156 ts_1_12 lf_X3_114 rfl rfl dX3_weighByMaximums_69 (by decide) rfl rfl (leb rfl) ?_
    rcases ite_some e with ⟨q7, e⟩ | ⟨q7, e⟩
    · refine x_if_eq_t (pc := 72) (t := 96) dX3_weighByMaximums_72 (by decide) q7 ?_
      exact p_X3_weighByMaximums_L96 hl hk55 e
    · refine x_if_eq_f (pc := 72) (t := 96) dX3_weighByMaximums_72 (by decide) q7 ?_
      refine x_iload_n (pc := 75) 2 dX3_weighByMaximums_75 rfl ?_
      rcases ite_some e with ⟨q8, e⟩ | ⟨q8, e⟩
      · refine x_if_ne_f (pc := 76) (t := 92) dX3_weighByMaximums_76 (by decide) q8 ?_
        refine x_aload_n (pc := 79) 0 dX3_weighByMaximums_79 rfl ?_
        obtain ⟨q9, e⟩ := chk_some e
        obtain ⟨q10, e⟩ := chk_some e
        refine x_getR (pc := 80) gf_X3_9 rfl dX3_weighByMaximums_80 q9 q10.1 ?_
        obtain ⟨q11, e⟩ := chk_some e
        refine x_getR (pc := 83) gf_X3_89 rfl dX3_weighByMaximums_83 q10 q11.1 ?_
        refine x_iload_n (pc := 86) 3 dX3_weighByMaximums_86 rfl ?_
        obtain ⟨q12, e⟩ := chk_some e
        refine x_iald (pc := 87) dX3_weighByMaximums_87 q11 q12 ?_
        refine x_iconst (pc := 88) dX3_weighByMaximums_88 ?_
        rcases ite_some e with ⟨q13, e⟩ | ⟨q13, e⟩
        · refine x_icmp_eq_t (pc := 89) (t := 96) dX3_weighByMaximums_89 (by decide) q13 ?_
          exact p_X3_weighByMaximums_L96 hl hk55 e
        · refine x_icmp_eq_f (pc := 89) (t := 96) dX3_weighByMaximums_89 (by decide) q13 ?_
          exact p_X3_weighByMaximums_L92 hl hk55 e
      · refine x_if_ne_t (pc := 76) (t := 92) dX3_weighByMaximums_76 (by decide) q8 ?_
        exact p_X3_weighByMaximums_L92 hl hk55 e
noncomputable def f_X3_weighByMaximums_L55 (n : Nat) : Hp → Nat → Nat → Int32 → Int32 → Option (Rs Unit) := Nat.rec (motive := fun _ => Hp → Nat → Nat → Int32 → Int32 → Option (Rs Unit)) (fun _ _ _ _ _ => none) (fun _ r => f_X3_weighByMaximums_B55 r) n
theorem p_X3_weighByMaximums_L55 {l : Launch} {K : Ctx} (hl : l.stackTraces = false) : ∀ (n : Nat) (h : Hp) (a0 : Nat) (a1 : Nat) (i2 : Int32) (i3 : Int32) (t : Rs Unit) (e : f_X3_weighByMaximums_L55 n h a0 a1 i2 i3 = some t), X l K mM_X3_weighByMaximums (tgV t) 55 [(0, .ref a0), (1, .ref a1), (2, .int i2), (3, .int i3)] [] h := by
  intro n
  induction n with
  | zero => exact fun _ _ _ _ _ _ e => nomatch (show (none : Option (Rs Unit)) = some _ from e)
  | succ n ih => exact fun h a0 a1 i2 i3 t e => p_X3_weighByMaximums_B55 hl (fun h a0 a1 i2 i3 t e => ih h a0 a1 i2 i3 t e) e
noncomputable def f_X3_weighByMaximums_L46 (k4 : Hp → Nat → Nat → Int32 → Int32 → Option (Rs Unit)) (h : Hp) (a0 : Nat) (a1 : Nat) (i3 : Int32) (s0 : Int32) : Option (Rs Unit) :=
  k4 h a0 a1 s0 (i3 + iN 1)
theorem p_X3_weighByMaximums_L46 {l : Launch} {K : Ctx} (hl : l.stackTraces = false) {k4 : Hp → Nat → Nat → Int32 → Int32 → Option (Rs Unit)} (hk4 : ∀ (h : Hp) (a0 : Nat) (a1 : Nat) (i2 : Int32) (i3 : Int32) (t : Rs Unit), k4 h a0 a1 i2 i3 = some t → X l K mM_X3_weighByMaximums (tgV t) 4 [(0, .ref a0), (1, .ref a1), (2, .int i2), (3, .int i3)] [] h) {h : Hp} {a0 : Nat} {a1 : Nat} {i3 : Int32} {s0 : Int32} {t : Rs Unit} (e : f_X3_weighByMaximums_L46 k4 h a0 a1 i3 s0 = some t) : X l K mM_X3_weighByMaximums (tgV t) 46 [(0, .ref a0), (1, .ref a1), (3, .int i3)] [.int s0] h := by
  unfold f_X3_weighByMaximums_L46 at e
  refine x_istore_n (pc := 46) dX3_weighByMaximums_46 (by decide) rfl ?_
  refine x_iinc (pc := 47) 3 dX3_weighByMaximums_47 rfl (by decide) rfl ?_
  refine x_goto (pc := 50) (t := 4) dX3_weighByMaximums_50 (by decide) ?_
  exact x_sub1 (hk4 _ _ _ _ _ _ e) [2, 3, 1, 0] rfl
noncomputable def f_X3_weighByMaximums_L45 (k4 : Hp → Nat → Nat → Int32 → Int32 → Option (Rs Unit)) (h : Hp) (a0 : Nat) (a1 : Nat) (i3 : Int32) : Option (Rs Unit) :=
  f_X3_weighByMaximums_L46 k4 h a0 a1 i3 (iN 0)
theorem p_X3_weighByMaximums_L45 {l : Launch} {K : Ctx} (hl : l.stackTraces = false) {k4 : Hp → Nat → Nat → Int32 → Int32 → Option (Rs Unit)} (hk4 : ∀ (h : Hp) (a0 : Nat) (a1 : Nat) (i2 : Int32) (i3 : Int32) (t : Rs Unit), k4 h a0 a1 i2 i3 = some t → X l K mM_X3_weighByMaximums (tgV t) 4 [(0, .ref a0), (1, .ref a1), (2, .int i2), (3, .int i3)] [] h) {h : Hp} {a0 : Nat} {a1 : Nat} {i3 : Int32} {t : Rs Unit} (e : f_X3_weighByMaximums_L45 k4 h a0 a1 i3 = some t) : X l K mM_X3_weighByMaximums (tgV t) 45 [(0, .ref a0), (1, .ref a1), (3, .int i3)] [] h := by
  unfold f_X3_weighByMaximums_L45 at e
  refine x_iconst (pc := 45) dX3_weighByMaximums_45 ?_
  exact p_X3_weighByMaximums_L46 hl hk4 e
noncomputable def f_X3_weighByMaximums_L41 (k4 : Hp → Nat → Nat → Int32 → Int32 → Option (Rs Unit)) (h : Hp) (a0 : Nat) (a1 : Nat) (i3 : Int32) : Option (Rs Unit) :=
  f_X3_weighByMaximums_L46 k4 h a0 a1 i3 (iN 1)
theorem p_X3_weighByMaximums_L41 {l : Launch} {K : Ctx} (hl : l.stackTraces = false) {k4 : Hp → Nat → Nat → Int32 → Int32 → Option (Rs Unit)} (hk4 : ∀ (h : Hp) (a0 : Nat) (a1 : Nat) (i2 : Int32) (i3 : Int32) (t : Rs Unit), k4 h a0 a1 i2 i3 = some t → X l K mM_X3_weighByMaximums (tgV t) 4 [(0, .ref a0), (1, .ref a1), (2, .int i2), (3, .int i3)] [] h) {h : Hp} {a0 : Nat} {a1 : Nat} {i3 : Int32} {t : Rs Unit} (e : f_X3_weighByMaximums_L41 k4 h a0 a1 i3 = some t) : X l K mM_X3_weighByMaximums (tgV t) 41 [(0, .ref a0), (1, .ref a1), (3, .int i3)] [] h := by
  unfold f_X3_weighByMaximums_L41 at e
  refine x_iconst (pc := 41) dX3_weighByMaximums_41 ?_
  refine x_goto (pc := 42) (t := 46) dX3_weighByMaximums_42 (by decide) ?_
  exact p_X3_weighByMaximums_L46 hl hk4 e
noncomputable def f_X3_weighByMaximums_B4 (k4 : Hp → Nat → Nat → Int32 → Int32 → Option (Rs Unit)) (h : Hp) (a0 : Nat) (a1 : Nat) (i2 : Int32) (i3 : Int32) : Option (Rs Unit) :=
  chk (okr h a0 3) <|
  chk (okr h (qR h a0 0) 7) <|
  if (qI h (qR h a0 0) 3) ≤ i3 then (
    f_X3_weighByMaximums_L55 2000 h a0 a1 i2 (iN 0)
  ) else (
    if i2 = 0 then (
      f_X3_weighByMaximums_L45 k4 h a0 a1 i3
    ) else (
      chk (okr h a1 1) <|
      bnd (f_X1_overlaps h a1 i3 (iN 1)) fun h6 r7 =>
      if r7 = 0 then (
        f_X3_weighByMaximums_L41 k4 h6 a0 a1 i3
      ) else (
        chk (okr h6 a0 3) <|
        chk (okr h6 (qR h6 a0 0) 7) <|
        chk (okr h6 (qR h6 (qR h6 a0 0) 6) 20) <|
        chk (vp_in i3 (qW h6 (qR h6 (qR h6 a0 0) 6))) <|
        if (qI h6 (qR h6 (qR h6 a0 0) 6) (Int32.toNatClampNeg i3)) = (iN 1) then (
          f_X3_weighByMaximums_L41 k4 h6 a0 a1 i3
        ) else (
          f_X3_weighByMaximums_L45 k4 h6 a0 a1 i3
        )
      )
    )
  )
theorem p_X3_weighByMaximums_B4 {l : Launch} {K : Ctx} (hl : l.stackTraces = false) {k4 : Hp → Nat → Nat → Int32 → Int32 → Option (Rs Unit)} (hk4 : ∀ (h : Hp) (a0 : Nat) (a1 : Nat) (i2 : Int32) (i3 : Int32) (t : Rs Unit), k4 h a0 a1 i2 i3 = some t → X l K mM_X3_weighByMaximums (tgV t) 4 [(0, .ref a0), (1, .ref a1), (2, .int i2), (3, .int i3)] [] h) {h : Hp} {a0 : Nat} {a1 : Nat} {i2 : Int32} {i3 : Int32} {t : Rs Unit} (e : f_X3_weighByMaximums_B4 k4 h a0 a1 i2 i3 = some t) : X l K mM_X3_weighByMaximums (tgV t) 4 [(0, .ref a0), (1, .ref a1), (2, .int i2), (3, .int i3)] [] h := by
  unfold f_X3_weighByMaximums_B4 at e
  refine x_iload_n (pc := 4) 3 dX3_weighByMaximums_4 rfl ?_
  refine x_aload_n (pc := 5) 0 dX3_weighByMaximums_5 rfl ?_
  obtain ⟨q1, e⟩ := chk_some e
  obtain ⟨q2, e⟩ := chk_some e
  refine x_getR (pc := 6) gf_X3_9 rfl dX3_weighByMaximums_6 q1 q2.1 ?_
  refine x_getI (pc := 9) gf_X3_42 rfl dX3_weighByMaximums_9 q2 ?_
  rcases ite_some e with ⟨q3, e⟩ | ⟨q3, e⟩
  · refine x_icmp_ge_t (pc := 12) (t := 53) dX3_weighByMaximums_12 (by decide) q3 ?_
    refine x_iconst (pc := 53) dX3_weighByMaximums_53 ?_
    refine x_istore_n (pc := 54) dX3_weighByMaximums_54 (by decide) rfl ?_
    exact x_sub1 (p_X3_weighByMaximums_L55 hl 2000 _ _ _ _ _ _ e) [1, 2, 3, 0] rfl
  · refine x_icmp_ge_f (pc := 12) (t := 53) dX3_weighByMaximums_12 (by decide) q3 ?_
    refine x_iload_n (pc := 15) 2 dX3_weighByMaximums_15 rfl ?_
    rcases ite_some e with ⟨q4, e⟩ | ⟨q4, e⟩
    · refine x_if_eq_t (pc := 16) (t := 45) dX3_weighByMaximums_16 (by decide) q4 ?_
      exact x_sub1 (p_X3_weighByMaximums_L45 hl hk4 e) [0, 1, 3] rfl
    · refine x_if_eq_f (pc := 16) (t := 45) dX3_weighByMaximums_16 (by decide) q4 ?_
      refine x_aload_n (pc := 19) 1 dX3_weighByMaximums_19 rfl ?_
      refine x_iload_n (pc := 20) 3 dX3_weighByMaximums_20 rfl ?_
      refine x_iconst (pc := 21) dX3_weighByMaximums_21 ?_
      obtain ⟨q5, e⟩ := chk_some e
      rcases bnd_some e with ⟨h6, r7, ec, rfl⟩ | ⟨h6, r7, ec, e⟩
      · exact y_callV_x (pc := 22) (c_X1_overlaps hl ec) q5 mf_X1_overlaps tw_2_156 ts_1_12 lf_X3_114 rfl rfl dX3_weighByMaximums_22 (by decide) rfl rfl (leb rfl) (xx_out0 rfl)
      refine y_callV_i (pc := 22) (c_X1_overlaps hl ec) q5 mf_X1_overlaps tw_2_156 ts_1_12 lf_X3_114 rfl rfl dX3_weighByMaximums_22 (by decide) rfl rfl (leb rfl) ?_
      rcases ite_some e with ⟨q8, e⟩ | ⟨q8, e⟩
      · refine x_if_eq_t (pc := 25) (t := 41) dX3_weighByMaximums_25 (by decide) q8 ?_
        exact x_sub1 (p_X3_weighByMaximums_L41 hl hk4 e) [0, 1, 3] rfl
      · refine x_if_eq_f (pc := 25) (t := 41) dX3_weighByMaximums_25 (by decide) q8 ?_
        refine x_aload_n (pc := 28) 0 dX3_weighByMaximums_28 rfl ?_
        obtain ⟨q9, e⟩ := chk_some e
        obtain ⟨q10, e⟩ := chk_some e
        refine x_getR (pc := 29) gf_X3_9 rfl dX3_weighByMaximums_29 q9 q10.1 ?_
        obtain ⟨q11, e⟩ := chk_some e
        refine x_getR (pc := 32) gf_X3_89 rfl dX3_weighByMaximums_32 q10 q11.1 ?_
        refine x_iload_n (pc := 35) 3 dX3_weighByMaximums_35 rfl ?_
        obtain ⟨q12, e⟩ := chk_some e
        refine x_iald (pc := 36) dX3_weighByMaximums_36 q11 q12 ?_
        refine x_iconst (pc := 37) dX3_weighByMaximums_37 ?_
        rcases ite_some e with ⟨q13, e⟩ | ⟨q13, e⟩
        · refine x_icmp_ne_f (pc := 38) (t := 45) dX3_weighByMaximums_38 (by decide) q13 ?_
          exact x_sub1 (p_X3_weighByMaximums_L41 hl hk4 e) [0, 1, 3] rfl
        · refine x_icmp_ne_t (pc := 38) (t := 45) dX3_weighByMaximums_38 (by decide) q13 ?_
          exact x_sub1 (p_X3_weighByMaximums_L45 hl hk4 e) [0, 1, 3] rfl
noncomputable def f_X3_weighByMaximums_L4 (n : Nat) : Hp → Nat → Nat → Int32 → Int32 → Option (Rs Unit) := Nat.rec (motive := fun _ => Hp → Nat → Nat → Int32 → Int32 → Option (Rs Unit)) (fun _ _ _ _ _ => none) (fun _ r => f_X3_weighByMaximums_B4 r) n
theorem p_X3_weighByMaximums_L4 {l : Launch} {K : Ctx} (hl : l.stackTraces = false) : ∀ (n : Nat) (h : Hp) (a0 : Nat) (a1 : Nat) (i2 : Int32) (i3 : Int32) (t : Rs Unit) (e : f_X3_weighByMaximums_L4 n h a0 a1 i2 i3 = some t), X l K mM_X3_weighByMaximums (tgV t) 4 [(0, .ref a0), (1, .ref a1), (2, .int i2), (3, .int i3)] [] h := by
  intro n
  induction n with
  | zero => exact fun _ _ _ _ _ _ e => nomatch (show (none : Option (Rs Unit)) = some _ from e)
  | succ n ih => exact fun h a0 a1 i2 i3 t e => p_X3_weighByMaximums_B4 hl (fun h a0 a1 i2 i3 t e => ih h a0 a1 i2 i3 t e) e
noncomputable def f_X3_weighByMaximums (h : Hp) (a0 : Nat) (a1 : Nat) : Option (Rs Unit) :=
  f_X3_weighByMaximums_L4 2000 h a0 a1 (iN 1) (iN 0)
theorem p_X3_weighByMaximums {l : Launch} {K : Ctx} (hl : l.stackTraces = false) {h : Hp} {a0 : Nat} {a1 : Nat} {t : Rs Unit} (e : f_X3_weighByMaximums h a0 a1 = some t) : X l K mM_X3_weighByMaximums (tgV t) 0 [(0, .ref a0), (1, .ref a1)] [] h := by
  unfold f_X3_weighByMaximums at e
  refine x_iconst (pc := 0) dX3_weighByMaximums_0 ?_
  refine x_istore_n (pc := 1) dX3_weighByMaximums_1 (by decide) rfl ?_
  refine x_iconst (pc := 2) dX3_weighByMaximums_2 ?_
  refine x_istore_n (pc := 3) dX3_weighByMaximums_3 (by decide) rfl ?_
  exact x_sub1 (p_X3_weighByMaximums_L4 hl 2000 _ _ _ _ _ _ e) [2, 3, 1, 0] rfl
abbrev w_X3_weighByMaximums : Cond := (Cond.code yX3_weighByMaximums cX3_weighByMaximums 5 (Option.none : Option Jvm.ClassFile.FieldType))
theorem mf_X3_weighByMaximums : MF yX3_weighByMaximums w_X3_weighByMaximums cX3_weighByMaximums 5 (Option.none : Option Jvm.ClassFile.FieldType) 1 := ⟨⟨rfl, tw_2_153, by decide⟩, tw_1_5, ⟨by decide, by decide⟩, by decide +kernel⟩
theorem c_X3_weighByMaximums {l : Launch} {K : Ctx} (hl : l.stackTraces = false) {h : Hp} {a0 : Nat} {a1 : Nat} {t : Rs Unit} (e : f_X3_weighByMaximums h a0 a1 = some t) : Ctr l K 9 yX3_weighByMaximums w_X3_weighByMaximums [.ref a0, .ref a1] h (tgV t) :=
  Ctr.of hl mf_X3_weighByMaximums false (fun q => nomatch q) rfl (leb rfl) (p_X3_weighByMaximums hl e)
/-! ## TableColumnBalancer$Columns.share -/
abbrev mM_X3_share : Mi := (8, yX3_share.cls, cX3_share, 7, (Option.none : Option Jvm.ClassFile.FieldType), [], false)
noncomputable def f_X3_share_L132 (k94 : Hp → Nat → Nat → Int32 → Int32 → Option (Rs Unit)) (h : Hp) (a0 : Nat) (a2 : Nat) (i4 : Int32) (i5 : Int32) : Option (Rs Unit) :=
  k94 h a0 a2 i4 (i5 + iN 1)
theorem p_X3_share_L132 {l : Launch} {K : Ctx} (hl : l.stackTraces = false) {k94 : Hp → Nat → Nat → Int32 → Int32 → Option (Rs Unit)} (hk94 : ∀ (h : Hp) (a0 : Nat) (a2 : Nat) (i4 : Int32) (i5 : Int32) (t : Rs Unit), k94 h a0 a2 i4 i5 = some t → X l K mM_X3_share (tgV t) 94 [(0, .ref a0), (2, .ref a2), (4, .int i4), (5, .int i5)] [] h) {h : Hp} {a0 : Nat} {a2 : Nat} {i4 : Int32} {i5 : Int32} {t : Rs Unit} (e : f_X3_share_L132 k94 h a0 a2 i4 i5 = some t) : X l K mM_X3_share (tgV t) 132 [(0, .ref a0), (2, .ref a2), (4, .int i4), (5, .int i5)] [] h := by
  unfold f_X3_share_L132 at e
  refine x_iinc (pc := 132) 3 dX3_share_132 rfl (by decide) rfl ?_
  refine x_goto (pc := 135) (t := 94) dX3_share_135 (by decide) ?_
  exact x_sub1 (hk94 _ _ _ _ _ _ e) [1, 2, 3, 0] rfl
noncomputable def f_X3_share_B94 (k94 : Hp → Nat → Nat → Int32 → Int32 → Option (Rs Unit)) (h : Hp) (a0 : Nat) (a2 : Nat) (i4 : Int32) (i5 : Int32) : Option (Rs Unit) :=
  chk (okr h a0 3) <|
  chk (okr h (qR h a0 0) 7) <|
  if (qI h (qR h a0 0) 3) ≤ i5 then (
    some (h, .inr ())
  ) else (
    if i4 ≤ 0 then (
      some (h, .inr ())
    ) else (
      chk (okr h (qR h a0 8) 20) <|
      chk (vp_in i5 (qW h (qR h a0 8))) <|
      if (qI h (qR h a0 8) (Int32.toNatClampNeg i5)) ≤ 0 then (
        f_X3_share_L132 k94 h a0 a2 i4 i5
      ) else (
        chk (okr h a2 20) <|
        chk (vp_in i5 (qW h a2)) <|
        lt (putI h a2 (Int32.toNatClampNeg i5) ((qI h a2 (Int32.toNatClampNeg i5)) + (iN 1))) fun h10 =>
        f_X3_share_L132 k94 h10 a0 a2 (i4 + iN (-1)) i5
      )
    )
  )
theorem p_X3_share_B94 {l : Launch} {K : Ctx} (hl : l.stackTraces = false) {k94 : Hp → Nat → Nat → Int32 → Int32 → Option (Rs Unit)} (hk94 : ∀ (h : Hp) (a0 : Nat) (a2 : Nat) (i4 : Int32) (i5 : Int32) (t : Rs Unit), k94 h a0 a2 i4 i5 = some t → X l K mM_X3_share (tgV t) 94 [(0, .ref a0), (2, .ref a2), (4, .int i4), (5, .int i5)] [] h) {h : Hp} {a0 : Nat} {a2 : Nat} {i4 : Int32} {i5 : Int32} {t : Rs Unit} (e : f_X3_share_B94 k94 h a0 a2 i4 i5 = some t) : X l K mM_X3_share (tgV t) 94 [(0, .ref a0), (2, .ref a2), (4, .int i4), (5, .int i5)] [] h := by
  unfold f_X3_share_B94 at e
  refine x_iload (pc := 94) 3 dX3_share_94 rfl ?_
  refine x_aload_n (pc := 96) 0 dX3_share_96 rfl ?_
  obtain ⟨q1, e⟩ := chk_some e
  obtain ⟨q2, e⟩ := chk_some e
  refine x_getR (pc := 97) gf_X3_9 rfl dX3_share_97 q1 q2.1 ?_
  refine x_getI (pc := 100) gf_X3_42 rfl dX3_share_100 q2 ?_
  rcases ite_some e with ⟨q3, e⟩ | ⟨q3, e⟩
  · refine x_icmp_ge_t (pc := 103) (t := 138) dX3_share_103 (by decide) q3 ?_
    cases Option.some.inj e
    exact x_vret (pc := 138) rfl dX3_share_138
  · refine x_icmp_ge_f (pc := 103) (t := 138) dX3_share_103 (by decide) q3 ?_
    refine x_iload (pc := 106) 2 dX3_share_106 rfl ?_
    rcases ite_some e with ⟨q4, e⟩ | ⟨q4, e⟩
    · refine x_if_le_t (pc := 108) (t := 138) dX3_share_108 (by decide) q4 ?_
      cases Option.some.inj e
      exact x_vret (pc := 138) rfl dX3_share_138
    · refine x_if_le_f (pc := 108) (t := 138) dX3_share_108 (by decide) q4 ?_
      refine x_aload_n (pc := 111) 0 dX3_share_111 rfl ?_
      obtain ⟨q5, e⟩ := chk_some e
      refine x_getR (pc := 112) gf_X3_36 rfl dX3_share_112 q1 q5.1 ?_
      refine x_iload (pc := 115) 3 dX3_share_115 rfl ?_
      obtain ⟨q6, e⟩ := chk_some e
      refine x_iald (pc := 117) dX3_share_117 q5 q6 ?_
      rcases ite_some e with ⟨q7, e⟩ | ⟨q7, e⟩
      · refine x_if_le_t (pc := 118) (t := 132) dX3_share_118 (by decide) q7 ?_
        exact p_X3_share_L132 hl hk94 e
      · refine x_if_le_f (pc := 118) (t := 132) dX3_share_118 (by decide) q7 ?_
        refine x_aload_n (pc := 121) 1 dX3_share_121 rfl ?_
        refine x_iload (pc := 122) 3 dX3_share_122 rfl ?_
        refine x_dup2 (pc := 124) dX3_share_124 rfl rfl ?_
        obtain ⟨q8, e⟩ := chk_some e
        obtain ⟨q9, e⟩ := chk_some e
        refine x_iald (pc := 125) dX3_share_125 q8 q9 ?_
        refine x_iconst (pc := 126) dX3_share_126 ?_
        refine x_iadd (pc := 127) dX3_share_127 ?_
        replace e := lt_go e
        refine x_iast (pc := 128) dX3_share_128 q8 q9 ?_
        refine x_iinc (pc := 129) 2 dX3_share_129 rfl (by decide) rfl ?_
        exact x_sub1 (p_X3_share_L132 hl hk94 e) [1, 2, 0, 3] rfl
noncomputable def f_X3_share_L94 (n : Nat) : Hp → Nat → Nat → Int32 → Int32 → Option (Rs Unit) := Nat.rec (motive := fun _ => Hp → Nat → Nat → Int32 → Int32 → Option (Rs Unit)) (fun _ _ _ _ _ => none) (fun _ r => f_X3_share_B94 r) n
theorem p_X3_share_L94 {l : Launch} {K : Ctx} (hl : l.stackTraces = false) : ∀ (n : Nat) (h : Hp) (a0 : Nat) (a2 : Nat) (i4 : Int32) (i5 : Int32) (t : Rs Unit) (e : f_X3_share_L94 n h a0 a2 i4 i5 = some t), X l K mM_X3_share (tgV t) 94 [(0, .ref a0), (2, .ref a2), (4, .int i4), (5, .int i5)] [] h := by
  intro n
  induction n with
  | zero => exact fun _ _ _ _ _ _ e => nomatch (show (none : Option (Rs Unit)) = some _ from e)
  | succ n ih => exact fun h a0 a2 i4 i5 t e => p_X3_share_B94 hl (fun h a0 a2 i4 i5 t e => ih h a0 a2 i4 i5 t e) e
noncomputable def f_X3_share_B44 (k44 : Hp → Nat → Int32 → Nat → Int32 → Int32 → Int32 → Option (Rs Unit)) (h : Hp) (a0 : Nat) (i1 : Int32) (a2 : Nat) (i3 : Int32) (i4 : Int32) (i5 : Int32) : Option (Rs Unit) :=
  chk (okr h a0 3) <|
  chk (okr h (qR h a0 0) 7) <|
  if (qI h (qR h a0 0) 3) ≤ i5 then (
    f_X3_share_L94 2000 h a0 a2 i4 (iN 0)
  ) else (
    chk (okr h (qR h a0 8) 20) <|
    chk (vp_in i5 (qW h (qR h a0 8))) <|
    chk (¬ i3 = 0) <|
    chk (okr h a2 20) <|
    chk (vp_in i5 (qW h a2)) <|
    lt (putI h a2 (Int32.toNatClampNeg i5) ((qI h a2 (Int32.toNatClampNeg i5)) + ((i1 * (qI h (qR h a0 8) (Int32.toNatClampNeg i5))) / i3))) fun h9 =>
    k44 h9 a0 i1 a2 i3 (i4 - ((i1 * (qI h (qR h a0 8) (Int32.toNatClampNeg i5))) / i3)) (i5 + iN 1)
  )
theorem p_X3_share_B44 {l : Launch} {K : Ctx} (hl : l.stackTraces = false) {k44 : Hp → Nat → Int32 → Nat → Int32 → Int32 → Int32 → Option (Rs Unit)} (hk44 : ∀ (h : Hp) (a0 : Nat) (i1 : Int32) (a2 : Nat) (i3 : Int32) (i4 : Int32) (i5 : Int32) (t : Rs Unit), k44 h a0 i1 a2 i3 i4 i5 = some t → X l K mM_X3_share (tgV t) 44 [(0, .ref a0), (1, .int i1), (2, .ref a2), (3, .int i3), (4, .int i4), (5, .int i5)] [] h) {h : Hp} {a0 : Nat} {i1 : Int32} {a2 : Nat} {i3 : Int32} {i4 : Int32} {i5 : Int32} {t : Rs Unit} (e : f_X3_share_B44 k44 h a0 i1 a2 i3 i4 i5 = some t) : X l K mM_X3_share (tgV t) 44 [(0, .ref a0), (1, .int i1), (2, .ref a2), (3, .int i3), (4, .int i4), (5, .int i5)] [] h := by
  unfold f_X3_share_B44 at e
  refine x_iload (pc := 44) 5 dX3_share_44 rfl ?_
  refine x_aload_n (pc := 46) 0 dX3_share_46 rfl ?_
  obtain ⟨q1, e⟩ := chk_some e
  obtain ⟨q2, e⟩ := chk_some e
  refine x_getR (pc := 47) gf_X3_9 rfl dX3_share_47 q1 q2.1 ?_
  refine x_getI (pc := 50) gf_X3_42 rfl dX3_share_50 q2 ?_
  rcases ite_some e with ⟨q3, e⟩ | ⟨q3, e⟩
  · refine x_icmp_ge_t (pc := 53) (t := 91) dX3_share_53 (by decide) q3 ?_
    refine x_iconst (pc := 91) dX3_share_91 ?_
    refine x_istore (pc := 92) dX3_share_92 (by decide) rfl ?_
    exact x_sub1 (p_X3_share_L94 hl 2000 _ _ _ _ _ _ e) [1, 3, 5, 0] rfl
  · refine x_icmp_ge_f (pc := 53) (t := 91) dX3_share_53 (by decide) q3 ?_
    refine x_iload_n (pc := 56) 1 dX3_share_56 rfl ?_
    refine x_aload_n (pc := 57) 0 dX3_share_57 rfl ?_
    obtain ⟨q4, e⟩ := chk_some e
    refine x_getR (pc := 58) gf_X3_36 rfl dX3_share_58 q1 q4.1 ?_
    refine x_iload (pc := 61) 5 dX3_share_61 rfl ?_
    obtain ⟨q5, e⟩ := chk_some e
    refine x_iald (pc := 63) dX3_share_63 q4 q5 ?_
    refine x_imul (pc := 64) dX3_share_64 ?_
    refine x_iload_n (pc := 65) 3 dX3_share_65 rfl ?_
    obtain ⟨q6, e⟩ := chk_some e
    refine x_idiv (pc := 66) dX3_share_66 q6 ?_
    refine x_istore (pc := 67) dX3_share_67 (by decide) rfl ?_
    refine x_aload_n (pc := 69) 3 dX3_share_69 rfl ?_
    refine x_iload (pc := 70) 6 dX3_share_70 rfl ?_
    refine x_dup2 (pc := 72) dX3_share_72 rfl rfl ?_
    obtain ⟨q7, e⟩ := chk_some e
    obtain ⟨q8, e⟩ := chk_some e
    refine x_iald (pc := 73) dX3_share_73 q7 q8 ?_
    refine x_iload (pc := 74) 0 dX3_share_74 rfl ?_
    refine x_iadd (pc := 76) dX3_share_76 ?_
    replace e := lt_go e
    refine x_iast (pc := 77) dX3_share_77 q7 q8 ?_
    refine x_iload (pc := 78) 5 dX3_share_78 rfl ?_
    refine x_iload (pc := 80) 0 dX3_share_80 rfl ?_
    refine x_isub (pc := 82) dX3_share_82 ?_
    refine x_istore (pc := 83) dX3_share_83 (by decide) rfl ?_
    refine x_iinc (pc := 85) 6 dX3_share_85 rfl (by decide) rfl ?_
    refine x_goto (pc := 88) (t := 44) dX3_share_88 (by decide) ?_
    exact x_sub1 (hk44 _ _ _ _ _ _ _ _ e) [3, 4, 5, 6, 1, 0] rfl
noncomputable def f_X3_share_L44 (n : Nat) : Hp → Nat → Int32 → Nat → Int32 → Int32 → Int32 → Option (Rs Unit) := Nat.rec (motive := fun _ => Hp → Nat → Int32 → Nat → Int32 → Int32 → Int32 → Option (Rs Unit)) (fun _ _ _ _ _ _ _ => none) (fun _ r => f_X3_share_B44 r) n
theorem p_X3_share_L44 {l : Launch} {K : Ctx} (hl : l.stackTraces = false) : ∀ (n : Nat) (h : Hp) (a0 : Nat) (i1 : Int32) (a2 : Nat) (i3 : Int32) (i4 : Int32) (i5 : Int32) (t : Rs Unit) (e : f_X3_share_L44 n h a0 i1 a2 i3 i4 i5 = some t), X l K mM_X3_share (tgV t) 44 [(0, .ref a0), (1, .int i1), (2, .ref a2), (3, .int i3), (4, .int i4), (5, .int i5)] [] h := by
  intro n
  induction n with
  | zero => exact fun _ _ _ _ _ _ _ _ e => nomatch (show (none : Option (Rs Unit)) = some _ from e)
  | succ n ih => exact fun h a0 i1 a2 i3 i4 i5 t e => p_X3_share_B44 hl (fun h a0 i1 a2 i3 i4 i5 t e => ih h a0 i1 a2 i3 i4 i5 t e) e
noncomputable def f_X3_share_B5 (k5 : Hp → Nat → Int32 → Nat → Int32 → Int32 → Option (Rs Unit)) (h : Hp) (a0 : Nat) (i1 : Int32) (a2 : Nat) (i3 : Int32) (i4 : Int32) : Option (Rs Unit) :=
  chk (okr h a0 3) <|
  chk (okr h (qR h a0 0) 7) <|
  if (qI h (qR h a0 0) 3) ≤ i4 then (
    if 0 < i3 then (
      f_X3_share_L44 2000 h a0 i1 a2 i3 i1 (iN 0)
    ) else (
      some (h, .inr ())
    )
  ) else (
    chk (okr h (qR h a0 8) 20) <|
    chk (vp_in i4 (qW h (qR h a0 8))) <|
    k5 h a0 i1 a2 (i3 + (qI h (qR h a0 8) (Int32.toNatClampNeg i4))) (i4 + iN 1)
  )
theorem p_X3_share_B5 {l : Launch} {K : Ctx} (hl : l.stackTraces = false) {k5 : Hp → Nat → Int32 → Nat → Int32 → Int32 → Option (Rs Unit)} (hk5 : ∀ (h : Hp) (a0 : Nat) (i1 : Int32) (a2 : Nat) (i3 : Int32) (i4 : Int32) (t : Rs Unit), k5 h a0 i1 a2 i3 i4 = some t → X l K mM_X3_share (tgV t) 5 [(0, .ref a0), (1, .int i1), (2, .ref a2), (3, .int i3), (4, .int i4)] [] h) {h : Hp} {a0 : Nat} {i1 : Int32} {a2 : Nat} {i3 : Int32} {i4 : Int32} {t : Rs Unit} (e : f_X3_share_B5 k5 h a0 i1 a2 i3 i4 = some t) : X l K mM_X3_share (tgV t) 5 [(0, .ref a0), (1, .int i1), (2, .ref a2), (3, .int i3), (4, .int i4)] [] h := by
  unfold f_X3_share_B5 at e
  refine x_iload (pc := 5) 4 dX3_share_5 rfl ?_
  refine x_aload_n (pc := 7) 0 dX3_share_7 rfl ?_
  obtain ⟨q1, e⟩ := chk_some e
  obtain ⟨q2, e⟩ := chk_some e
  refine x_getR (pc := 8) gf_X3_9 rfl dX3_share_8 q1 q2.1 ?_
  refine x_getI (pc := 11) gf_X3_42 rfl dX3_share_11 q2 ?_
  rcases ite_some e with ⟨q3, e⟩ | ⟨q3, e⟩
  · refine x_icmp_ge_t (pc := 14) (t := 33) dX3_share_14 (by decide) q3 ?_
    refine x_iload_n (pc := 33) 3 dX3_share_33 rfl ?_
    rcases ite_some e with ⟨q4, e⟩ | ⟨q4, e⟩
    · refine x_if_gt_t (pc := 34) (t := 38) dX3_share_34 (by decide) q4 ?_
      refine x_iload_n (pc := 38) 1 dX3_share_38 rfl ?_
      refine x_istore (pc := 39) dX3_share_39 (by decide) rfl ?_
      refine x_iconst (pc := 41) dX3_share_41 ?_
      refine x_istore (pc := 42) dX3_share_42 (by decide) rfl ?_
      exact x_sub1 (p_X3_share_L44 hl 2000 _ _ _ _ _ _ _ _ e) [2, 3, 4, 5, 1, 0] rfl
    · refine x_if_gt_f (pc := 34) (t := 38) dX3_share_34 (by decide) q4 ?_
      cases Option.some.inj e
      exact x_vret (pc := 37) rfl dX3_share_37
  · refine x_icmp_ge_f (pc := 14) (t := 33) dX3_share_14 (by decide) q3 ?_
    refine x_iload_n (pc := 17) 3 dX3_share_17 rfl ?_
    refine x_aload_n (pc := 18) 0 dX3_share_18 rfl ?_
    obtain ⟨q5, e⟩ := chk_some e
    refine x_getR (pc := 19) gf_X3_36 rfl dX3_share_19 q1 q5.1 ?_
    refine x_iload (pc := 22) 4 dX3_share_22 rfl ?_
    obtain ⟨q6, e⟩ := chk_some e
    refine x_iald (pc := 24) dX3_share_24 q5 q6 ?_
    refine x_iadd (pc := 25) dX3_share_25 ?_
    refine x_istore_n (pc := 26) dX3_share_26 (by decide) rfl ?_
    refine x_iinc (pc := 27) 4 dX3_share_27 rfl (by decide) rfl ?_
    refine x_goto (pc := 30) (t := 5) dX3_share_30 (by decide) ?_
    exact x_sub1 (hk5 _ _ _ _ _ _ _ e) [2, 3, 4, 1, 0] rfl
noncomputable def f_X3_share_L5 (n : Nat) : Hp → Nat → Int32 → Nat → Int32 → Int32 → Option (Rs Unit) := Nat.rec (motive := fun _ => Hp → Nat → Int32 → Nat → Int32 → Int32 → Option (Rs Unit)) (fun _ _ _ _ _ _ => none) (fun _ r => f_X3_share_B5 r) n
theorem p_X3_share_L5 {l : Launch} {K : Ctx} (hl : l.stackTraces = false) : ∀ (n : Nat) (h : Hp) (a0 : Nat) (i1 : Int32) (a2 : Nat) (i3 : Int32) (i4 : Int32) (t : Rs Unit) (e : f_X3_share_L5 n h a0 i1 a2 i3 i4 = some t), X l K mM_X3_share (tgV t) 5 [(0, .ref a0), (1, .int i1), (2, .ref a2), (3, .int i3), (4, .int i4)] [] h := by
  intro n
  induction n with
  | zero => exact fun _ _ _ _ _ _ _ e => nomatch (show (none : Option (Rs Unit)) = some _ from e)
  | succ n ih => exact fun h a0 i1 a2 i3 i4 t e => p_X3_share_B5 hl (fun h a0 i1 a2 i3 i4 t e => ih h a0 i1 a2 i3 i4 t e) e
noncomputable def f_X3_share (h : Hp) (a0 : Nat) (i1 : Int32) (a2 : Nat) : Option (Rs Unit) :=
  f_X3_share_L5 2000 h a0 i1 a2 (iN 0) (iN 0)
theorem p_X3_share {l : Launch} {K : Ctx} (hl : l.stackTraces = false) {h : Hp} {a0 : Nat} {i1 : Int32} {a2 : Nat} {t : Rs Unit} (e : f_X3_share h a0 i1 a2 = some t) : X l K mM_X3_share (tgV t) 0 [(0, .ref a0), (1, .int i1), (2, .ref a2)] [] h := by
  unfold f_X3_share at e
  refine x_iconst (pc := 0) dX3_share_0 ?_
  refine x_istore_n (pc := 1) dX3_share_1 (by decide) rfl ?_
  refine x_iconst (pc := 2) dX3_share_2 ?_
  refine x_istore (pc := 3) dX3_share_3 (by decide) rfl ?_
  exact x_sub1 (p_X3_share_L5 hl 2000 _ _ _ _ _ _ _ e) [2, 3, 4, 1, 0] rfl
abbrev w_X3_share : Cond := (Cond.code yX3_share cX3_share 7 (Option.none : Option Jvm.ClassFile.FieldType))
theorem mf_X3_share : MF yX3_share w_X3_share cX3_share 7 (Option.none : Option Jvm.ClassFile.FieldType) 2 := ⟨⟨rfl, tw_2_161, by decide⟩, tw_1_5, ⟨by decide, by decide⟩, by decide +kernel⟩
theorem c_X3_share {l : Launch} {K : Ctx} (hl : l.stackTraces = false) {h : Hp} {a0 : Nat} {i1 : Int32} {a2 : Nat} {t : Rs Unit} (e : f_X3_share h a0 i1 a2 = some t) : Ctr l K 8 yX3_share w_X3_share [.ref a0, .int i1, .ref a2] h (tgV t) :=
  Ctr.of hl mf_X3_share false (fun q => nomatch q) rfl (leb rfl) (p_X3_share hl e)
/-! ## TableColumnBalancer$Columns.widen -/
abbrev mM_X3_widen : Mi := (10, yX3_widen.cls, cX3_widen, 5, (Option.none : Option Jvm.ClassFile.FieldType), [], false)
noncomputable def f_X3_widen (h : Hp) (a0 : Nat) (a1 : Nat) (i2 : Int32) (a3 : Nat) : Option (Rs Unit) :=
  chk (okr h a0 3) <|
  chk (okr h (qR h a0 0) 7) <|
  bnd (f_X7_widthIn h (qR h a0 0) a1 a3) fun h3 r4 =>
  if (i2 - r4) ≤ 0 then (
    some (h3, .inr ())
  ) else (
    chk (okr h3 a0 3) <|
    bnd (f_X3_weighByMaximums h3 a0 a1) fun h7 _ =>
    chk (okr h7 a0 3) <|
    bnd (f_X3_share h7 a0 (i2 - r4) a3) fun h10 _ =>
    some (h10, .inr ())
  )
theorem p_X3_widen {l : Launch} {K : Ctx} (hl : l.stackTraces = false) {h : Hp} {a0 : Nat} {a1 : Nat} {i2 : Int32} {a3 : Nat} {t : Rs Unit} (e : f_X3_widen h a0 a1 i2 a3 = some t) : X l K mM_X3_widen (tgV t) 0 [(0, .ref a0), (1, .ref a1), (2, .int i2), (3, .ref a3)] [] h := by
  unfold f_X3_widen at e
  refine x_iload_n (pc := 0) 2 dX3_widen_0 rfl ?_
  refine x_aload_n (pc := 1) 0 dX3_widen_1 rfl ?_
  obtain ⟨q1, e⟩ := chk_some e
  obtain ⟨q2, e⟩ := chk_some e
  refine x_getR (pc := 2) gf_X3_9 rfl dX3_widen_2 q1 q2.1 ?_
  refine x_aload_n (pc := 5) 1 dX3_widen_5 rfl ?_
  refine x_aload_n (pc := 6) 3 dX3_widen_6 rfl ?_
  rcases bnd_some e with ⟨h3, r4, ec, rfl⟩ | ⟨h3, r4, ec, e⟩
  · exact y_callV_x (pc := 7) (c_X7_widthIn hl ec) q2 mf_X7_widthIn tw_2_148 ts_1_10 lf_X3_102 rfl rfl dX3_widen_7 (by decide) rfl rfl (leb rfl) (xx_out0 rfl)
  refine y_callV_i (pc := 7) (c_X7_widthIn hl ec) q2 mf_X7_widthIn tw_2_148 ts_1_10 lf_X3_102 rfl rfl dX3_widen_7 (by decide) rfl rfl (leb rfl) ?_
  refine x_isub (pc := 10) dX3_widen_10 ?_
  refine x_istore (pc := 11) dX3_widen_11 (by decide) rfl ?_
  refine x_iload (pc := 13) 0 dX3_widen_13 rfl ?_
  rcases ite_some e with ⟨q5, e⟩ | ⟨q5, e⟩
  · refine x_if_le_t (pc := 15) (t := 30) dX3_widen_15 (by decide) q5 ?_
    cases Option.some.inj e
    exact x_vret (pc := 30) rfl dX3_widen_30
  · refine x_if_le_f (pc := 15) (t := 30) dX3_widen_15 (by decide) q5 ?_
    refine x_aload_n (pc := 18) 1 dX3_widen_18 rfl ?_
    refine x_aload_n (pc := 19) 2 dX3_widen_19 rfl ?_
    obtain ⟨q6, e⟩ := chk_some e
    rcases bnd_some e with ⟨h7, r8, ec, rfl⟩ | ⟨h7, r8, ec, e⟩
    · exact y_callV_x (pc := 20) (c_X3_weighByMaximums hl ec) q6 mf_X3_weighByMaximums tw_2_152 ts_1_11 lf_X3_106 rfl rfl dX3_widen_20 (by decide) rfl rfl (leb rfl) (xx_out0 rfl)
    refine y_callV_v (pc := 20) (c_X3_weighByMaximums hl ec) q6 mf_X3_weighByMaximums tw_2_152 ts_1_11 lf_X3_106 rfl rfl dX3_widen_20 (by decide) rfl rfl (leb rfl) ?_
    refine x_aload_n (pc := 23) 1 dX3_widen_23 rfl ?_
    refine x_iload (pc := 24) 0 dX3_widen_24 rfl ?_
    refine x_aload_n (pc := 26) 4 dX3_widen_26 rfl ?_
    obtain ⟨q9, e⟩ := chk_some e
    rcases bnd_some e with ⟨h10, r11, ec, rfl⟩ | ⟨h10, r11, ec, e⟩
    · exact y_callV_x (pc := 27) (c_X3_share hl ec) q9 mf_X3_share tw_2_160 ts_1_13 lf_X3_110 rfl rfl dX3_widen_27 (by decide) rfl rfl (leb rfl) (xx_out0 rfl)
    refine y_callV_v (pc := 27) (c_X3_share hl ec) q9 mf_X3_share tw_2_160 ts_1_13 lf_X3_110 rfl rfl dX3_widen_27 (by decide) rfl rfl (leb rfl) ?_
    cases Option.some.inj e
    exact x_vret (pc := 30) rfl dX3_widen_30
abbrev w_X3_widen : Cond := (Cond.code yX3_widen cX3_widen 5 (Option.none : Option Jvm.ClassFile.FieldType))
theorem mf_X3_widen : MF yX3_widen w_X3_widen cX3_widen 5 (Option.none : Option Jvm.ClassFile.FieldType) 3 := ⟨⟨rfl, tw_2_145, by decide⟩, tw_1_5, ⟨by decide, by decide⟩, by decide +kernel⟩
theorem c_X3_widen {l : Launch} {K : Ctx} (hl : l.stackTraces = false) {h : Hp} {a0 : Nat} {a1 : Nat} {i2 : Int32} {a3 : Nat} {t : Rs Unit} (e : f_X3_widen h a0 a1 i2 a3 = some t) : Ctr l K 10 yX3_widen w_X3_widen [.ref a0, .ref a1, .int i2, .ref a3] h (tgV t) :=
  Ctr.of hl mf_X3_widen false (fun q => nomatch q) rfl (leb rfl) (p_X3_widen hl e)
/-! ## TableColumnBalancer$Columns.measureCellsOfSpan -/
abbrev mM_X3_measureCellsOfSpan : Mi := (11, yX3_measureCellsOfSpan.cls, cX3_measureCellsOfSpan, 4, (Option.none : Option Jvm.ClassFile.FieldType), [], false)
noncomputable def f_X3_measureCellsOfSpan_L69 (k2 : Hp → Nat → Int32 → Int32 → Option (Rs Unit)) (h : Hp) (a0 : Nat) (i1 : Int32) (i2 : Int32) : Option (Rs Unit) :=
  k2 h a0 i1 (i2 + iN 1)
theorem p_X3_measureCellsOfSpan_L69 {l : Launch} {K : Ctx} (hl : l.stackTraces = false) {k2 : Hp → Nat → Int32 → Int32 → Option (Rs Unit)} (hk2 : ∀ (h : Hp) (a0 : Nat) (i1 : Int32) (i2 : Int32) (t : Rs Unit), k2 h a0 i1 i2 = some t → X l K mM_X3_measureCellsOfSpan (tgV t) 2 [(0, .ref a0), (1, .int i1), (2, .int i2)] [] h) {h : Hp} {a0 : Nat} {i1 : Int32} {i2 : Int32} {t : Rs Unit} (e : f_X3_measureCellsOfSpan_L69 k2 h a0 i1 i2 = some t) : X l K mM_X3_measureCellsOfSpan (tgV t) 69 [(0, .ref a0), (1, .int i1), (2, .int i2)] [] h := by
  unfold f_X3_measureCellsOfSpan_L69 at e
  refine x_iinc (pc := 69) 2 dX3_measureCellsOfSpan_69 rfl (by decide) rfl ?_
  refine x_goto (pc := 72) (t := 2) dX3_measureCellsOfSpan_72 (by decide) ?_
  exact x_sub1 (hk2 _ _ _ _ _ e) [1, 2, 0] rfl
noncomputable def f_X3_measureCellsOfSpan_B2 (k2 : Hp → Nat → Int32 → Int32 → Option (Rs Unit)) (h : Hp) (a0 : Nat) (i1 : Int32) (i2 : Int32) : Option (Rs Unit) :=
  chk (okr h a0 3) <|
  chk (okr h (qR h a0 0) 7) <|
  if (qI h (qR h a0 0) 5) ≤ i2 then (
    some (h, .inr ())
  ) else (
    chk (okr h (qR h (qR h a0 0) 8) 25) <|
    chk (vp_in i2 (qW h (qR h (qR h a0 0) 8))) <|
    chk (okr h (qR h (qR h (qR h a0 0) 8) (Int32.toNatClampNeg i2)) 1) <|
    if (qI h (qR h (qR h (qR h a0 0) 8) (Int32.toNatClampNeg i2)) 2) = i1 then (
      bnd (f_X7_minimumOf h (qR h a0 0) (qR h (qR h (qR h a0 0) 8) (Int32.toNatClampNeg i2))) fun h8 r9 =>
      chk (okr h8 a0 3) <|
      chk (okr h8 (qR h8 a0 1) 20) <|
      bnd (f_X3_widen h8 a0 (qR h (qR h (qR h a0 0) 8) (Int32.toNatClampNeg i2)) r9 (qR h8 a0 1)) fun h12 _ =>
      chk (okr h12 a0 3) <|
      bnd (f_X3_raiseMaximums h12 a0) fun h15 _ =>
      chk (okr h15 a0 3) <|
      chk (okr h15 (qR h15 a0 0) 7) <|
      bnd (f_X7_maximumOf h15 (qR h15 a0 0) (qR h (qR h (qR h a0 0) 8) (Int32.toNatClampNeg i2))) fun h19 r20 =>
      chk (okr h19 a0 3) <|
      chk (okr h19 (qR h19 a0 2) 20) <|
      bnd (f_X3_widen h19 a0 (qR h (qR h (qR h a0 0) 8) (Int32.toNatClampNeg i2)) r20 (qR h19 a0 2)) fun h23 _ =>
      f_X3_measureCellsOfSpan_L69 k2 h23 a0 i1 i2
    ) else (
      f_X3_measureCellsOfSpan_L69 k2 h a0 i1 i2
    )
  )
theorem p_X3_measureCellsOfSpan_B2 {l : Launch} {K : Ctx} (hl : l.stackTraces = false) {k2 : Hp → Nat → Int32 → Int32 → Option (Rs Unit)} (hk2 : ∀ (h : Hp) (a0 : Nat) (i1 : Int32) (i2 : Int32) (t : Rs Unit), k2 h a0 i1 i2 = some t → X l K mM_X3_measureCellsOfSpan (tgV t) 2 [(0, .ref a0), (1, .int i1), (2, .int i2)] [] h) {h : Hp} {a0 : Nat} {i1 : Int32} {i2 : Int32} {t : Rs Unit} (e : f_X3_measureCellsOfSpan_B2 k2 h a0 i1 i2 = some t) : X l K mM_X3_measureCellsOfSpan (tgV t) 2 [(0, .ref a0), (1, .int i1), (2, .int i2)] [] h := by
  unfold f_X3_measureCellsOfSpan_B2 at e
  refine x_iload_n (pc := 2) 2 dX3_measureCellsOfSpan_2 rfl ?_
  refine x_aload_n (pc := 3) 0 dX3_measureCellsOfSpan_3 rfl ?_
  obtain ⟨q1, e⟩ := chk_some e
  obtain ⟨q2, e⟩ := chk_some e
  refine x_getR (pc := 4) gf_X3_9 rfl dX3_measureCellsOfSpan_4 q1 q2.1 ?_
  refine x_getI (pc := 7) gf_X3_61 rfl dX3_measureCellsOfSpan_7 q2 ?_
  rcases ite_some e with ⟨q3, e⟩ | ⟨q3, e⟩
  · refine x_icmp_ge_t (pc := 10) (t := 75) dX3_measureCellsOfSpan_10 (by decide) q3 ?_
    cases Option.some.inj e
    exact x_vret (pc := 75) rfl dX3_measureCellsOfSpan_75
  · refine x_icmp_ge_f (pc := 10) (t := 75) dX3_measureCellsOfSpan_10 (by decide) q3 ?_
    refine x_aload_n (pc := 13) 0 dX3_measureCellsOfSpan_13 rfl ?_
    refine x_getR (pc := 14) gf_X3_9 rfl dX3_measureCellsOfSpan_14 q1 q2.1 ?_
    obtain ⟨q4, e⟩ := chk_some e
    refine x_getR (pc := 17) gf_X3_64 rfl dX3_measureCellsOfSpan_17 q2 q4.1 ?_
    refine x_iload_n (pc := 20) 2 dX3_measureCellsOfSpan_20 rfl ?_
    obtain ⟨q5, e⟩ := chk_some e
    obtain ⟨q6, e⟩ := chk_some e
    refine x_aald (pc := 21) (t := 1) (by decide) dX3_measureCellsOfSpan_21 q4 q5 q6.1 ?_
    refine x_astore_n (pc := 22) dX3_measureCellsOfSpan_22 (by decide) rfl ?_
    refine x_aload_n (pc := 23) 0 dX3_measureCellsOfSpan_23 rfl ?_
    refine x_getI (pc := 24) gf_X3_68 rfl dX3_measureCellsOfSpan_24 q6 ?_
    refine x_iload_n (pc := 27) 2 dX3_measureCellsOfSpan_27 rfl ?_
    rcases ite_some e with ⟨q7, e⟩ | ⟨q7, e⟩
    · refine x_icmp_ne_f (pc := 28) (t := 69) dX3_measureCellsOfSpan_28 (by decide) q7 ?_
      refine x_aload_n (pc := 31) 1 dX3_measureCellsOfSpan_31 rfl ?_
      refine x_aload_n (pc := 32) 0 dX3_measureCellsOfSpan_32 rfl ?_
      refine x_aload_n (pc := 33) 1 dX3_measureCellsOfSpan_33 rfl ?_
      refine x_getR (pc := 34) gf_X3_9 rfl dX3_measureCellsOfSpan_34 q1 q2.1 ?_
      refine x_aload_n (pc := 37) 0 dX3_measureCellsOfSpan_37 rfl ?_
      rcases bnd_some e with ⟨h8, r9, ec, rfl⟩ | ⟨h8, r9, ec, e⟩
      · exact y_callV_x (pc := 38) (c_X7_minimumOf hl ec) q2 mf_X7_minimumOf tw_2_112 ts_1_2 lf_X3_76 rfl rfl dX3_measureCellsOfSpan_38 (by decide) rfl rfl (leb rfl) (xx_out0 rfl)
      refine y_callV_i (pc := 38) (c_X7_minimumOf hl ec) q2 mf_X7_minimumOf tw_2_112 ts_1_2 lf_X3_76 rfl rfl dX3_measureCellsOfSpan_38 (by decide) rfl rfl (leb rfl) ?_
      refine x_aload_n (pc := 41) 1 dX3_measureCellsOfSpan_41 rfl ?_
      obtain ⟨q10, e⟩ := chk_some e
      obtain ⟨q11, e⟩ := chk_some e
      refine x_getR (pc := 42) gf_X3_15 rfl dX3_measureCellsOfSpan_42 q10 q11.1 ?_
      rcases bnd_some e with ⟨h12, r13, ec, rfl⟩ | ⟨h12, r13, ec, e⟩
      · exact y_callV_x (pc := 45) (c_X3_widen hl ec) q10 mf_X3_widen tw_2_144 ts_1_9 lf_X3_98 rfl rfl dX3_measureCellsOfSpan_45 (by decide) rfl rfl (leb rfl) (xx_out0 rfl)
      refine y_callV_v (pc := 45) (c_X3_widen hl ec) q10 mf_X3_widen tw_2_144 ts_1_9 lf_X3_98 rfl rfl dX3_measureCellsOfSpan_45 (by decide) rfl rfl (leb rfl) ?_
      refine x_aload_n (pc := 48) 1 dX3_measureCellsOfSpan_48 rfl ?_
      obtain ⟨q14, e⟩ := chk_some e
      rcases bnd_some e with ⟨h15, r16, ec, rfl⟩ | ⟨h15, r16, ec, e⟩
      · exact y_callV_x (pc := 49) (c_X3_raiseMaximums hl ec) q14 mf_X3_raiseMaximums tw_2_136 ts_1_7 lf_X3_95 rfl rfl dX3_measureCellsOfSpan_49 (by decide) rfl rfl (leb rfl) (xx_out0 rfl)
      refine y_callV_v (pc := 49) (c_X3_raiseMaximums hl ec) q14 mf_X3_raiseMaximums tw_2_136 ts_1_7 lf_X3_95 rfl rfl dX3_measureCellsOfSpan_49 (by decide) rfl rfl (leb rfl) ?_
      refine x_aload_n (pc := 52) 1 dX3_measureCellsOfSpan_52 rfl ?_
      refine x_aload_n (pc := 53) 0 dX3_measureCellsOfSpan_53 rfl ?_
      refine x_aload_n (pc := 54) 1 dX3_measureCellsOfSpan_54 rfl ?_
      obtain ⟨q17, e⟩ := chk_some e
      obtain ⟨q18, e⟩ := chk_some e
      refine x_getR (pc := 55) gf_X3_9 rfl dX3_measureCellsOfSpan_55 q17 q18.1 ?_
      refine x_aload_n (pc := 58) 0 dX3_measureCellsOfSpan_58 rfl ?_
      rcases bnd_some e with ⟨h19, r20, ec, rfl⟩ | ⟨h19, r20, ec, e⟩
      · exact y_callV_x (pc := 59) (c_X7_maximumOf hl ec) q18 mf_X7_maximumOf tw_2_128 ts_1_5 lf_X3_86 rfl rfl dX3_measureCellsOfSpan_59 (by decide) rfl rfl (leb rfl) (xx_out0 rfl)
      refine y_callV_i (pc := 59) (c_X7_maximumOf hl ec) q18 mf_X7_maximumOf tw_2_128 ts_1_5 lf_X3_86 rfl rfl dX3_measureCellsOfSpan_59 (by decide) rfl rfl (leb rfl) ?_
      refine x_aload_n (pc := 62) 1 dX3_measureCellsOfSpan_62 rfl ?_
      obtain ⟨q21, e⟩ := chk_some e
      obtain ⟨q22, e⟩ := chk_some e
      refine x_getR (pc := 63) gf_X3_19 rfl dX3_measureCellsOfSpan_63 q21 q22.1 ?_
      rcases bnd_some e with ⟨h23, r24, ec, rfl⟩ | ⟨h23, r24, ec, e⟩
      · exact y_callV_x (pc := 66) (c_X3_widen hl ec) q21 mf_X3_widen tw_2_144 ts_1_9 lf_X3_98 rfl rfl dX3_measureCellsOfSpan_66 (by decide) rfl rfl (leb rfl) (xx_out0 rfl)
      refine y_callV_v (pc := 66) (c_X3_widen hl ec) q21 mf_X3_widen tw_2_144 ts_1_9 lf_X3_98 rfl rfl dX3_measureCellsOfSpan_66 (by decide) rfl rfl (leb rfl) ?_
      exact x_sub1 (p_X3_measureCellsOfSpan_L69 hl hk2 e) [1, 2, 3] rfl
    · refine x_icmp_ne_t (pc := 28) (t := 69) dX3_measureCellsOfSpan_28 (by decide) q7 ?_
      exact x_sub1 (p_X3_measureCellsOfSpan_L69 hl hk2 e) [1, 2, 3] rfl
noncomputable def f_X3_measureCellsOfSpan_L2 (n : Nat) : Hp → Nat → Int32 → Int32 → Option (Rs Unit) := Nat.rec (motive := fun _ => Hp → Nat → Int32 → Int32 → Option (Rs Unit)) (fun _ _ _ _ => none) (fun _ r => f_X3_measureCellsOfSpan_B2 r) n
theorem p_X3_measureCellsOfSpan_L2 {l : Launch} {K : Ctx} (hl : l.stackTraces = false) : ∀ (n : Nat) (h : Hp) (a0 : Nat) (i1 : Int32) (i2 : Int32) (t : Rs Unit) (e : f_X3_measureCellsOfSpan_L2 n h a0 i1 i2 = some t), X l K mM_X3_measureCellsOfSpan (tgV t) 2 [(0, .ref a0), (1, .int i1), (2, .int i2)] [] h := by
  intro n
  induction n with
  | zero => exact fun _ _ _ _ _ e => nomatch (show (none : Option (Rs Unit)) = some _ from e)
  | succ n ih => exact fun h a0 i1 i2 t e => p_X3_measureCellsOfSpan_B2 hl (fun h a0 i1 i2 t e => ih h a0 i1 i2 t e) e
noncomputable def f_X3_measureCellsOfSpan (h : Hp) (a0 : Nat) (i1 : Int32) : Option (Rs Unit) :=
  f_X3_measureCellsOfSpan_L2 2000 h a0 i1 (iN 0)
theorem p_X3_measureCellsOfSpan {l : Launch} {K : Ctx} (hl : l.stackTraces = false) {h : Hp} {a0 : Nat} {i1 : Int32} {t : Rs Unit} (e : f_X3_measureCellsOfSpan h a0 i1 = some t) : X l K mM_X3_measureCellsOfSpan (tgV t) 0 [(0, .ref a0), (1, .int i1)] [] h := by
  unfold f_X3_measureCellsOfSpan at e
  refine x_iconst (pc := 0) dX3_measureCellsOfSpan_0 ?_
  refine x_istore_n (pc := 1) dX3_measureCellsOfSpan_1 (by decide) rfl ?_
  exact x_sub1 (p_X3_measureCellsOfSpan_L2 hl 2000 _ _ _ _ _ e) [1, 2, 0] rfl
abbrev w_X3_measureCellsOfSpan : Cond := (Cond.code yX3_measureCellsOfSpan cX3_measureCellsOfSpan 4 (Option.none : Option Jvm.ClassFile.FieldType))
theorem mf_X3_measureCellsOfSpan : MF yX3_measureCellsOfSpan w_X3_measureCellsOfSpan cX3_measureCellsOfSpan 4 (Option.none : Option Jvm.ClassFile.FieldType) 1 := ⟨⟨rfl, tw_2_141, by decide⟩, tw_1_5, ⟨by decide, by decide⟩, by decide +kernel⟩
theorem c_X3_measureCellsOfSpan {l : Launch} {K : Ctx} (hl : l.stackTraces = false) {h : Hp} {a0 : Nat} {i1 : Int32} {t : Rs Unit} (e : f_X3_measureCellsOfSpan h a0 i1 = some t) : Ctr l K 11 yX3_measureCellsOfSpan w_X3_measureCellsOfSpan [.ref a0, .int i1] h (tgV t) :=
  Ctr.of hl mf_X3_measureCellsOfSpan false (fun q => nomatch q) rfl (leb rfl) (p_X3_measureCellsOfSpan hl e)
/-! ## TableColumnBalancer$Columns.findPercentages -/
abbrev mM_X3_findPercentages : Mi := (8, yX3_findPercentages.cls, cX3_findPercentages, 4, (Option.none : Option Jvm.ClassFile.FieldType), [], false)
noncomputable def f_X3_findPercentages_L61 (k5 : Hp → Nat → Int32 → Int32 → Option (Rs Unit)) (h : Hp) (a0 : Nat) (i1 : Int32) (i2 : Int32) (s0 : Int32) (s1 : Int32) (s2 : Nat) : Option (Rs Unit) :=
  chk (okr h s2 20) <|
  chk (vp_in s1 (qW h s2)) <|
  lt (putI h s2 (Int32.toNatClampNeg s1) s0) fun h3 =>
  chk (okr h3 a0 3) <|
  chk (okr h3 (qR h3 a0 3) 20) <|
  chk (vp_in i2 (qW h3 (qR h3 a0 3))) <|
  k5 h3 a0 (i1 - (qI h3 (qR h3 a0 3) (Int32.toNatClampNeg i2))) (i2 + iN 1)
theorem p_X3_findPercentages_L61 {l : Launch} {K : Ctx} (hl : l.stackTraces = false) {k5 : Hp → Nat → Int32 → Int32 → Option (Rs Unit)} (hk5 : ∀ (h : Hp) (a0 : Nat) (i1 : Int32) (i2 : Int32) (t : Rs Unit), k5 h a0 i1 i2 = some t → X l K mM_X3_findPercentages (tgV t) 5 [(0, .ref a0), (1, .int i1), (2, .int i2)] [] h) {h : Hp} {a0 : Nat} {i1 : Int32} {i2 : Int32} {s0 : Int32} {s1 : Int32} {s2 : Nat} {t : Rs Unit} (e : f_X3_findPercentages_L61 k5 h a0 i1 i2 s0 s1 s2 = some t) : X l K mM_X3_findPercentages (tgV t) 61 [(0, .ref a0), (1, .int i1), (2, .int i2)] [.int s0, .int s1, .ref s2] h := by
  unfold f_X3_findPercentages_L61 at e
  obtain ⟨q1, e⟩ := chk_some e
  obtain ⟨q2, e⟩ := chk_some e
  replace e := lt_go e
  refine x_iast (pc := 61) dX3_findPercentages_61 q1 q2 ?_
  refine x_iload_n (pc := 62) 1 dX3_findPercentages_62 rfl ?_
  refine x_aload_n (pc := 63) 0 dX3_findPercentages_63 rfl ?_
  obtain ⟨q4, e⟩ := chk_some e
  obtain ⟨q5, e⟩ := chk_some e
  refine x_getR (pc := 64) gf_X3_22 rfl dX3_findPercentages_64 q4 q5.1 ?_
  refine x_iload_n (pc := 67) 2 dX3_findPercentages_67 rfl ?_
  obtain ⟨q6, e⟩ := chk_some e
  refine x_iald (pc := 68) dX3_findPercentages_68 q5 q6 ?_
  refine x_isub (pc := 69) dX3_findPercentages_69 ?_
  refine x_istore_n (pc := 70) dX3_findPercentages_70 (by decide) rfl ?_
  refine x_iinc (pc := 71) 2 dX3_findPercentages_71 rfl (by decide) rfl ?_
  refine x_goto (pc := 74) (t := 5) dX3_findPercentages_74 (by decide) ?_
  exact x_sub1 (hk5 _ _ _ _ _ e) [2, 1, 0] rfl
noncomputable def f_X3_findPercentages_L34 (k5 : Hp → Nat → Int32 → Int32 → Option (Rs Unit)) (h : Hp) (a0 : Nat) (i1 : Int32) (i2 : Int32) (s0 : Int32) : Option (Rs Unit) :=
  chk (okr h a0 3) <|
  chk (okr h (qR h a0 3) 20) <|
  if s0 = 0 then (
    f_X3_findPercentages_L61 k5 h a0 i1 i2 (iN 0) i2 (qR h a0 3)
  ) else (
    chk (okr h (qR h a0 0) 7) <|
    chk (okr h (qR h (qR h a0 0) 7) 20) <|
    chk (vp_in i2 (qW h (qR h (qR h a0 0) 7))) <|
    f_X3_findPercentages_L61 k5 h a0 i1 i2 (jmin (qI h (qR h (qR h a0 0) 7) (Int32.toNatClampNeg i2)) i1) i2 (qR h a0 3)
  )
theorem p_X3_findPercentages_L34 {l : Launch} {K : Ctx} (hl : l.stackTraces = false) {k5 : Hp → Nat → Int32 → Int32 → Option (Rs Unit)} (hk5 : ∀ (h : Hp) (a0 : Nat) (i1 : Int32) (i2 : Int32) (t : Rs Unit), k5 h a0 i1 i2 = some t → X l K mM_X3_findPercentages (tgV t) 5 [(0, .ref a0), (1, .int i1), (2, .int i2)] [] h) {h : Hp} {a0 : Nat} {i1 : Int32} {i2 : Int32} {s0 : Int32} {t : Rs Unit} (e : f_X3_findPercentages_L34 k5 h a0 i1 i2 s0 = some t) : X l K mM_X3_findPercentages (tgV t) 34 [(0, .ref a0), (1, .int i1), (2, .int i2)] [.int s0] h := by
  unfold f_X3_findPercentages_L34 at e
  refine x_istore_n (pc := 34) dX3_findPercentages_34 (by decide) rfl ?_
  refine x_aload_n (pc := 35) 1 dX3_findPercentages_35 rfl ?_
  obtain ⟨q1, e⟩ := chk_some e
  obtain ⟨q2, e⟩ := chk_some e
  refine x_getR (pc := 36) gf_X3_22 rfl dX3_findPercentages_36 q1 q2.1 ?_
  refine x_iload_n (pc := 39) 3 dX3_findPercentages_39 rfl ?_
  refine x_iload_n (pc := 40) 0 dX3_findPercentages_40 rfl ?_
  rcases ite_some e with ⟨q3, e⟩ | ⟨q3, e⟩
  · refine x_if_eq_t (pc := 41) (t := 60) dX3_findPercentages_41 (by decide) q3 ?_
    refine x_iconst (pc := 60) dX3_findPercentages_60 ?_
    exact x_sub1 (p_X3_findPercentages_L61 hl hk5 e) [1, 2, 3] rfl
  · refine x_if_eq_f (pc := 41) (t := 60) dX3_findPercentages_41 (by decide) q3 ?_
    refine x_aload_n (pc := 44) 1 dX3_findPercentages_44 rfl ?_
    obtain ⟨q4, e⟩ := chk_some e
    refine x_getR (pc := 45) gf_X3_9 rfl dX3_findPercentages_45 q1 q4.1 ?_
    obtain ⟨q5, e⟩ := chk_some e
    refine x_getR (pc := 48) gf_X3_92 rfl dX3_findPercentages_48 q4 q5.1 ?_
    refine x_iload_n (pc := 51) 3 dX3_findPercentages_51 rfl ?_
    obtain ⟨q6, e⟩ := chk_some e
    refine x_iald (pc := 52) dX3_findPercentages_52 q5 q6 ?_
    refine x_iload_n (pc := 53) 2 dX3_findPercentages_53 rfl ?_
    refine x_mmin (pc := 54) tw_2_166 tw_2_167 tw_1_9 tw_2_168 (by decide) (leb rfl) dX3_findPercentages_54 ?_
    refine x_goto (pc := 57) (t := 61) dX3_findPercentages_57 (by decide) ?_
    exact x_sub1 (p_X3_findPercentages_L61 hl hk5 e) [1, 2, 3] rfl
noncomputable def f_X3_findPercentages_B5 (k5 : Hp → Nat → Int32 → Int32 → Option (Rs Unit)) (h : Hp) (a0 : Nat) (i1 : Int32) (i2 : Int32) : Option (Rs Unit) :=
  chk (okr h a0 3) <|
  chk (okr h (qR h a0 0) 7) <|
  if (qI h (qR h a0 0) 3) ≤ i2 then (
    some (h, .inr ())
  ) else (
    chk (okr h (qR h (qR h a0 0) 6) 20) <|
    chk (vp_in i2 (qW h (qR h (qR h a0 0) 6))) <|
    if (qI h (qR h (qR h a0 0) 6) (Int32.toNatClampNeg i2)) = (iN 2) then (
      f_X3_findPercentages_L34 k5 h a0 i1 i2 (iN 1)
    ) else (
      f_X3_findPercentages_L34 k5 h a0 i1 i2 (iN 0)
    )
  )
theorem p_X3_findPercentages_B5 {l : Launch} {K : Ctx} (hl : l.stackTraces = false) {k5 : Hp → Nat → Int32 → Int32 → Option (Rs Unit)} (hk5 : ∀ (h : Hp) (a0 : Nat) (i1 : Int32) (i2 : Int32) (t : Rs Unit), k5 h a0 i1 i2 = some t → X l K mM_X3_findPercentages (tgV t) 5 [(0, .ref a0), (1, .int i1), (2, .int i2)] [] h) {h : Hp} {a0 : Nat} {i1 : Int32} {i2 : Int32} {t : Rs Unit} (e : f_X3_findPercentages_B5 k5 h a0 i1 i2 = some t) : X l K mM_X3_findPercentages (tgV t) 5 [(0, .ref a0), (1, .int i1), (2, .int i2)] [] h := by
  unfold f_X3_findPercentages_B5 at e
  refine x_iload_n (pc := 5) 2 dX3_findPercentages_5 rfl ?_
  refine x_aload_n (pc := 6) 0 dX3_findPercentages_6 rfl ?_
  obtain ⟨q1, e⟩ := chk_some e
  obtain ⟨q2, e⟩ := chk_some e
  refine x_getR (pc := 7) gf_X3_9 rfl dX3_findPercentages_7 q1 q2.1 ?_
  refine x_getI (pc := 10) gf_X3_42 rfl dX3_findPercentages_10 q2 ?_
  rcases ite_some e with ⟨q3, e⟩ | ⟨q3, e⟩
  · refine x_icmp_ge_t (pc := 13) (t := 77) dX3_findPercentages_13 (by decide) q3 ?_
    cases Option.some.inj e
    exact x_vret (pc := 77) rfl dX3_findPercentages_77
  · refine x_icmp_ge_f (pc := 13) (t := 77) dX3_findPercentages_13 (by decide) q3 ?_
    refine x_aload_n (pc := 16) 0 dX3_findPercentages_16 rfl ?_
    refine x_getR (pc := 17) gf_X3_9 rfl dX3_findPercentages_17 q1 q2.1 ?_
    obtain ⟨q4, e⟩ := chk_some e
    refine x_getR (pc := 20) gf_X3_89 rfl dX3_findPercentages_20 q2 q4.1 ?_
    refine x_iload_n (pc := 23) 2 dX3_findPercentages_23 rfl ?_
    obtain ⟨q5, e⟩ := chk_some e
    refine x_iald (pc := 24) dX3_findPercentages_24 q4 q5 ?_
    refine x_iconst (pc := 25) dX3_findPercentages_25 ?_
    rcases ite_some e with ⟨q6, e⟩ | ⟨q6, e⟩
    · refine x_icmp_ne_f (pc := 26) (t := 33) dX3_findPercentages_26 (by decide) q6 ?_
      refine x_iconst (pc := 29) dX3_findPercentages_29 ?_
      refine x_goto (pc := 30) (t := 34) dX3_findPercentages_30 (by decide) ?_
      exact p_X3_findPercentages_L34 hl hk5 e
    · refine x_icmp_ne_t (pc := 26) (t := 33) dX3_findPercentages_26 (by decide) q6 ?_
      refine x_iconst (pc := 33) dX3_findPercentages_33 ?_
      exact p_X3_findPercentages_L34 hl hk5 e
noncomputable def f_X3_findPercentages_L5 (n : Nat) : Hp → Nat → Int32 → Int32 → Option (Rs Unit) := Nat.rec (motive := fun _ => Hp → Nat → Int32 → Int32 → Option (Rs Unit)) (fun _ _ _ _ => none) (fun _ r => f_X3_findPercentages_B5 r) n
theorem p_X3_findPercentages_L5 {l : Launch} {K : Ctx} (hl : l.stackTraces = false) : ∀ (n : Nat) (h : Hp) (a0 : Nat) (i1 : Int32) (i2 : Int32) (t : Rs Unit) (e : f_X3_findPercentages_L5 n h a0 i1 i2 = some t), X l K mM_X3_findPercentages (tgV t) 5 [(0, .ref a0), (1, .int i1), (2, .int i2)] [] h := by
  intro n
  induction n with
  | zero => exact fun _ _ _ _ _ e => nomatch (show (none : Option (Rs Unit)) = some _ from e)
  | succ n ih => exact fun h a0 i1 i2 t e => p_X3_findPercentages_B5 hl (fun h a0 i1 i2 t e => ih h a0 i1 i2 t e) e
noncomputable def f_X3_findPercentages (h : Hp) (a0 : Nat) : Option (Rs Unit) :=
  f_X3_findPercentages_L5 2000 h a0 (iN 100) (iN 0)
theorem p_X3_findPercentages {l : Launch} {K : Ctx} (hl : l.stackTraces = false) {h : Hp} {a0 : Nat} {t : Rs Unit} (e : f_X3_findPercentages h a0 = some t) : X l K mM_X3_findPercentages (tgV t) 0 [(0, .ref a0)] [] h := by
  unfold f_X3_findPercentages at e
  refine x_bipush (pc := 0) (v := iN 100) dX3_findPercentages_0 rfl ?_
  refine x_istore_n (pc := 2) dX3_findPercentages_2 (by decide) rfl ?_
  refine x_iconst (pc := 3) dX3_findPercentages_3 ?_
  refine x_istore_n (pc := 4) dX3_findPercentages_4 (by decide) rfl ?_
  exact x_sub1 (p_X3_findPercentages_L5 hl 2000 _ _ _ _ _ e) [2, 1, 0] rfl
abbrev w_X3_findPercentages : Cond := (Cond.code yX3_findPercentages cX3_findPercentages 4 (Option.none : Option Jvm.ClassFile.FieldType))
theorem mf_X3_findPercentages : MF yX3_findPercentages w_X3_findPercentages cX3_findPercentages 4 (Option.none : Option Jvm.ClassFile.FieldType) 0 := ⟨⟨rfl, tw_2_165, by decide⟩, tw_1_5, ⟨by decide, by decide⟩, by decide +kernel⟩
theorem c_X3_findPercentages {l : Launch} {K : Ctx} (hl : l.stackTraces = false) {h : Hp} {a0 : Nat} {t : Rs Unit} (e : f_X3_findPercentages h a0 = some t) : Ctr l K 8 yX3_findPercentages w_X3_findPercentages [.ref a0] h (tgV t) :=
  Ctr.of hl mf_X3_findPercentages false (fun q => nomatch q) rfl (leb rfl) (p_X3_findPercentages hl e)
/-! ## TableColumnBalancer$Table.usableWidth -/
abbrev mM_X7_usableWidth : Mi := (8, yX7_usableWidth.cls, cX7_usableWidth, 2, (Option.some Jvm.ClassFile.FieldType.int), [], false)
noncomputable def f_X7_usableWidth (h : Hp) (a0 : Nat) (i1 : Int32) : Option (Rs Int32) :=
  chk (okr h a0 7) <|
  some (h, .inr (i1 - ((qI h a0 1) * ((qI h a0 3) + (iN 1)))))
theorem p_X7_usableWidth {l : Launch} {K : Ctx} (hl : l.stackTraces = false) {h : Hp} {a0 : Nat} {i1 : Int32} {t : Rs Int32} (e : f_X7_usableWidth h a0 i1 = some t) : X l K mM_X7_usableWidth (tgI t) 0 [(0, .ref a0), (1, .int i1)] [] h := by
  unfold f_X7_usableWidth at e
  refine x_iload_n (pc := 0) 1 dX7_usableWidth_0 rfl ?_
  refine x_aload_n (pc := 1) 0 dX7_usableWidth_1 rfl ?_
  obtain ⟨q1, e⟩ := chk_some e
  refine x_getI (pc := 2) gf_X7_15 rfl dX7_usableWidth_2 q1 ?_
  refine x_aload_n (pc := 5) 0 dX7_usableWidth_5 rfl ?_
  refine x_getI (pc := 6) gf_X7_18 rfl dX7_usableWidth_6 q1 ?_
  refine x_iconst (pc := 9) dX7_usableWidth_9 ?_
  refine x_iadd (pc := 10) dX7_usableWidth_10 ?_
  refine x_imul (pc := 11) dX7_usableWidth_11 ?_
  refine x_isub (pc := 12) dX7_usableWidth_12 ?_
  cases Option.some.inj e
  exact x_iret (pc := 13) rfl dX7_usableWidth_13
abbrev w_X7_usableWidth : Cond := (Cond.code yX7_usableWidth cX7_usableWidth 2 (Option.some Jvm.ClassFile.FieldType.int))
theorem mf_X7_usableWidth : MF yX7_usableWidth w_X7_usableWidth cX7_usableWidth 2 (Option.some Jvm.ClassFile.FieldType.int) 1 := ⟨⟨rfl, tw_2_176, by decide⟩, tw_1_2, ⟨by decide, by decide⟩, by decide +kernel⟩
theorem c_X7_usableWidth {l : Launch} {K : Ctx} (hl : l.stackTraces = false) {h : Hp} {a0 : Nat} {i1 : Int32} {t : Rs Int32} (e : f_X7_usableWidth h a0 i1 = some t) : Ctr l K 8 yX7_usableWidth w_X7_usableWidth [.ref a0, .int i1] h (tgI t) :=
  Ctr.of hl mf_X7_usableWidth false (fun q => nomatch q) rfl (leb rfl) (p_X7_usableWidth hl e)
/-! ## TableColumnBalancer$Columns.findGuesses -/
abbrev mM_X3_findGuesses : Mi := (9, yX3_findGuesses.cls, cX3_findGuesses, 7, (Option.none : Option Jvm.ClassFile.FieldType), [], false)
noncomputable def f_X3_findGuesses_B185 (k171 : Hp → Nat → Int32 → Option (Rs Unit)) (k185 : Hp → Nat → Int32 → Int32 → Option (Rs Unit)) (h : Hp) (a0 : Nat) (i2 : Int32) (i3 : Int32) : Option (Rs Unit) :=
  chk (okr h a0 3) <|
  chk (okr h (qR h a0 0) 7) <|
  if (qI h (qR h a0 0) 3) ≤ i3 then (
    k171 h a0 (i2 + iN 1)
  ) else (
    chk (okr h (qR h a0 5) 20) <|
    chk (vp_in i2 (qW h (qR h a0 5))) <|
    chk (okr h (qR h a0 4) 24) <|
    chk (vp_in i2 (qW h (qR h a0 4))) <|
    chk (okr h (qR h (qR h a0 4) (Int32.toNatClampNeg i2)) 20) <|
    chk (vp_in i3 (qW h (qR h (qR h a0 4) (Int32.toNatClampNeg i2)))) <|
    lt (putI h (qR h a0 5) (Int32.toNatClampNeg i2) ((qI h (qR h a0 5) (Int32.toNatClampNeg i2)) + (qI h (qR h (qR h a0 4) (Int32.toNatClampNeg i2)) (Int32.toNatClampNeg i3)))) fun h10 =>
    k185 h10 a0 i2 (i3 + iN 1)
  )
theorem p_X3_findGuesses_B185 {l : Launch} {K : Ctx} (hl : l.stackTraces = false) {k171 : Hp → Nat → Int32 → Option (Rs Unit)} {k185 : Hp → Nat → Int32 → Int32 → Option (Rs Unit)} (hk171 : ∀ (h : Hp) (a0 : Nat) (i2 : Int32) (t : Rs Unit), k171 h a0 i2 = some t → X l K mM_X3_findGuesses (tgV t) 171 [(0, .ref a0), (2, .int i2)] [] h) (hk185 : ∀ (h : Hp) (a0 : Nat) (i2 : Int32) (i3 : Int32) (t : Rs Unit), k185 h a0 i2 i3 = some t → X l K mM_X3_findGuesses (tgV t) 185 [(0, .ref a0), (2, .int i2), (3, .int i3)] [] h) {h : Hp} {a0 : Nat} {i2 : Int32} {i3 : Int32} {t : Rs Unit} (e : f_X3_findGuesses_B185 k171 k185 h a0 i2 i3 = some t) : X l K mM_X3_findGuesses (tgV t) 185 [(0, .ref a0), (2, .int i2), (3, .int i3)] [] h := by
  unfold f_X3_findGuesses_B185 at e
  refine x_iload_n (pc := 185) 2 dX3_findGuesses_185 rfl ?_
  refine x_aload_n (pc := 186) 0 dX3_findGuesses_186 rfl ?_
  obtain ⟨q1, e⟩ := chk_some e
  obtain ⟨q2, e⟩ := chk_some e
  refine x_getR (pc := 187) gf_X3_9 rfl dX3_findGuesses_187 q1 q2.1 ?_
  refine x_getI (pc := 190) gf_X3_42 rfl dX3_findGuesses_190 q2 ?_
  rcases ite_some e with ⟨q3, e⟩ | ⟨q3, e⟩
  · refine x_icmp_ge_t (pc := 193) (t := 219) dX3_findGuesses_193 (by decide) q3 ?_
    refine x_iinc (pc := 219) 1 dX3_findGuesses_219 rfl (by decide) rfl ?_
    refine x_goto (pc := 222) (t := 171) dX3_findGuesses_222 (by decide) ?_
    exact x_sub1 (hk171 _ _ _ _ e) [1, 0] rfl
  · refine x_icmp_ge_f (pc := 193) (t := 219) dX3_findGuesses_193 (by decide) q3 ?_
    refine x_aload_n (pc := 196) 0 dX3_findGuesses_196 rfl ?_
    obtain ⟨q4, e⟩ := chk_some e
    refine x_getR (pc := 197) gf_X3_30 rfl dX3_findGuesses_197 q1 q4.1 ?_
    refine x_iload_n (pc := 200) 1 dX3_findGuesses_200 rfl ?_
    refine x_dup2 (pc := 201) dX3_findGuesses_201 rfl rfl ?_
    obtain ⟨q5, e⟩ := chk_some e
    refine x_iald (pc := 202) dX3_findGuesses_202 q4 q5 ?_
    refine x_aload_n (pc := 203) 0 dX3_findGuesses_203 rfl ?_
    obtain ⟨q6, e⟩ := chk_some e
    refine x_getR (pc := 204) gf_X3_27 rfl dX3_findGuesses_204 q1 q6.1 ?_
    refine x_iload_n (pc := 207) 1 dX3_findGuesses_207 rfl ?_
    obtain ⟨q7, e⟩ := chk_some e
    obtain ⟨q8, e⟩ := chk_some e
    refine x_aald (pc := 208) (t := 0) (by decide) dX3_findGuesses_208 q6 q7 q8.1 ?_
    refine x_iload_n (pc := 209) 2 dX3_findGuesses_209 rfl ?_
    obtain ⟨q9, e⟩ := chk_some e
    refine x_iald (pc := 210) dX3_findGuesses_210 q8 q9 ?_
    refine x_iadd (pc := 211) dX3_findGuesses_211 ?_
    replace e := lt_go e
    refine x_iast (pc := 212) dX3_findGuesses_212 q4 q5 ?_
    refine x_iinc (pc := 213) 2 dX3_findGuesses_213 rfl (by decide) rfl ?_
    refine x_goto (pc := 216) (t := 185) dX3_findGuesses_216 (by decide) ?_
    exact x_sub1 (hk185 _ _ _ _ _ e) [1, 2, 0] rfl
noncomputable def f_X3_findGuesses_L185 (k171 : Hp → Nat → Int32 → Option (Rs Unit)) (n : Nat) : Hp → Nat → Int32 → Int32 → Option (Rs Unit) := Nat.rec (motive := fun _ => Hp → Nat → Int32 → Int32 → Option (Rs Unit)) (fun _ _ _ _ => none) (fun _ r => f_X3_findGuesses_B185 k171 r) n
theorem p_X3_findGuesses_L185 {l : Launch} {K : Ctx} (hl : l.stackTraces = false) {k171 : Hp → Nat → Int32 → Option (Rs Unit)} (hk171 : ∀ (h : Hp) (a0 : Nat) (i2 : Int32) (t : Rs Unit), k171 h a0 i2 = some t → X l K mM_X3_findGuesses (tgV t) 171 [(0, .ref a0), (2, .int i2)] [] h) : ∀ (n : Nat) (h : Hp) (a0 : Nat) (i2 : Int32) (i3 : Int32) (t : Rs Unit) (e : f_X3_findGuesses_L185 k171 n h a0 i2 i3 = some t), X l K mM_X3_findGuesses (tgV t) 185 [(0, .ref a0), (2, .int i2), (3, .int i3)] [] h := by
  intro n
  induction n with
  | zero => exact fun _ _ _ _ _ e => nomatch (show (none : Option (Rs Unit)) = some _ from e)
  | succ n ih => exact fun h a0 i2 i3 t e => p_X3_findGuesses_B185 hl hk171 (fun h a0 i2 i3 t e => ih h a0 i2 i3 t e) e
noncomputable def f_X3_findGuesses_B171 (k171 : Hp → Nat → Int32 → Option (Rs Unit)) (h : Hp) (a0 : Nat) (i2 : Int32) : Option (Rs Unit) :=
  if (iN 4) ≤ i2 then (
    some (h, .inr ())
  ) else (
    chk (okr h a0 3) <|
    chk (okr h (qR h a0 5) 20) <|
    chk (vp_in i2 (qW h (qR h a0 5))) <|
    lt (putI h (qR h a0 5) (Int32.toNatClampNeg i2) (iN 0)) fun h5 =>
    f_X3_findGuesses_L185 k171 2000 h5 a0 i2 (iN 0)
  )
theorem p_X3_findGuesses_B171 {l : Launch} {K : Ctx} (hl : l.stackTraces = false) {k171 : Hp → Nat → Int32 → Option (Rs Unit)} (hk171 : ∀ (h : Hp) (a0 : Nat) (i2 : Int32) (t : Rs Unit), k171 h a0 i2 = some t → X l K mM_X3_findGuesses (tgV t) 171 [(0, .ref a0), (2, .int i2)] [] h) {h : Hp} {a0 : Nat} {i2 : Int32} {t : Rs Unit} (e : f_X3_findGuesses_B171 k171 h a0 i2 = some t) : X l K mM_X3_findGuesses (tgV t) 171 [(0, .ref a0), (2, .int i2)] [] h := by
  unfold f_X3_findGuesses_B171 at e
  refine x_iload_n (pc := 171) 1 dX3_findGuesses_171 rfl ?_
  refine x_iconst (pc := 172) dX3_findGuesses_172 ?_
  rcases ite_some e with ⟨q1, e⟩ | ⟨q1, e⟩
  · refine x_icmp_ge_t (pc := 173) (t := 225) dX3_findGuesses_173 (by decide) q1 ?_
    cases Option.some.inj e
    exact x_vret (pc := 225) rfl dX3_findGuesses_225
  · refine x_icmp_ge_f (pc := 173) (t := 225) dX3_findGuesses_173 (by decide) q1 ?_
    refine x_aload_n (pc := 176) 0 dX3_findGuesses_176 rfl ?_
    obtain ⟨q2, e⟩ := chk_some e
    obtain ⟨q3, e⟩ := chk_some e
    refine x_getR (pc := 177) gf_X3_30 rfl dX3_findGuesses_177 q2 q3.1 ?_
    refine x_iload_n (pc := 180) 1 dX3_findGuesses_180 rfl ?_
    refine x_iconst (pc := 181) dX3_findGuesses_181 ?_
    obtain ⟨q4, e⟩ := chk_some e
    replace e := lt_go e
    refine x_iast (pc := 182) dX3_findGuesses_182 q3 q4 ?_
    refine x_iconst (pc := 183) dX3_findGuesses_183 ?_
    refine x_istore_n (pc := 184) dX3_findGuesses_184 (by decide) rfl ?_
    exact x_sub1 (p_X3_findGuesses_L185 hl hk171 2000 _ _ _ _ _ e) [1, 2, 0] rfl
noncomputable def f_X3_findGuesses_L171 (n : Nat) : Hp → Nat → Int32 → Option (Rs Unit) := Nat.rec (motive := fun _ => Hp → Nat → Int32 → Option (Rs Unit)) (fun _ _ _ => none) (fun _ r => f_X3_findGuesses_B171 r) n
theorem p_X3_findGuesses_L171 {l : Launch} {K : Ctx} (hl : l.stackTraces = false) : ∀ (n : Nat) (h : Hp) (a0 : Nat) (i2 : Int32) (t : Rs Unit) (e : f_X3_findGuesses_L171 n h a0 i2 = some t), X l K mM_X3_findGuesses (tgV t) 171 [(0, .ref a0), (2, .int i2)] [] h := by
  intro n
  induction n with
  | zero => exact fun _ _ _ _ e => nomatch (show (none : Option (Rs Unit)) = some _ from e)
  | succ n ih => exact fun h a0 i2 t e => p_X3_findGuesses_B171 hl (fun h a0 i2 t e => ih h a0 i2 t e) e
noncomputable def f_X3_findGuesses_L162 (k17 : Hp → Nat → Int32 → Int32 → Option (Rs Unit)) (h : Hp) (a0 : Nat) (i1 : Int32) (i2 : Int32) (s0 : Int32) (s1 : Int32) (s2 : Nat) : Option (Rs Unit) :=
  chk (okr h s2 20) <|
  chk (vp_in s1 (qW h s2)) <|
  lt (putI h s2 (Int32.toNatClampNeg s1) s0) fun h3 =>
  k17 h3 a0 i1 (i2 + iN 1)
theorem p_X3_findGuesses_L162 {l : Launch} {K : Ctx} (hl : l.stackTraces = false) {k17 : Hp → Nat → Int32 → Int32 → Option (Rs Unit)} (hk17 : ∀ (h : Hp) (a0 : Nat) (i1 : Int32) (i2 : Int32) (t : Rs Unit), k17 h a0 i1 i2 = some t → X l K mM_X3_findGuesses (tgV t) 17 [(0, .ref a0), (1, .int i1), (2, .int i2)] [] h) {h : Hp} {a0 : Nat} {i1 : Int32} {i2 : Int32} {s0 : Int32} {s1 : Int32} {s2 : Nat} {t : Rs Unit} (e : f_X3_findGuesses_L162 k17 h a0 i1 i2 s0 s1 s2 = some t) : X l K mM_X3_findGuesses (tgV t) 162 [(0, .ref a0), (1, .int i1), (2, .int i2)] [.int s0, .int s1, .ref s2] h := by
  unfold f_X3_findGuesses_L162 at e
  obtain ⟨q1, e⟩ := chk_some e
  obtain ⟨q2, e⟩ := chk_some e
  replace e := lt_go e
  refine x_iast (pc := 162) dX3_findGuesses_162 q1 q2 ?_
  refine x_iinc (pc := 163) 2 dX3_findGuesses_163 rfl (by decide) rfl ?_
  refine x_goto (pc := 166) (t := 17) dX3_findGuesses_166 (by decide) ?_
  exact x_sub1 (hk17 _ _ _ _ _ e) [1, 2, 0] rfl
noncomputable def f_X3_findGuesses_L86 (k17 : Hp → Nat → Int32 → Int32 → Option (Rs Unit)) (h : Hp) (a0 : Nat) (i1 : Int32) (i2 : Int32) (i3 : Int32) (i4 : Int32) (i5 : Int32) (s0 : Int32) : Option (Rs Unit) :=
  chk (okr h a0 3) <|
  chk (okr h (qR h a0 4) 24) <|
  chk (vp_in (iN 0) (qW h (qR h a0 4))) <|
  chk (okr h (qR h (qR h a0 4) (Int32.toNatClampNeg (iN 0))) 20) <|
  chk (vp_in i2 (qW h (qR h (qR h a0 4) (Int32.toNatClampNeg (iN 0))))) <|
  lt (putI h (qR h (qR h a0 4) (Int32.toNatClampNeg (iN 0))) (Int32.toNatClampNeg i2) i4) fun h6 =>
  chk (okr h6 (qR h6 a0 4) 24) <|
  chk (vp_in (iN 1) (qW h6 (qR h6 a0 4))) <|
  chk (okr h6 (qR h6 (qR h6 a0 4) (Int32.toNatClampNeg (iN 1))) 20) <|
  chk (vp_in i2 (qW h6 (qR h6 (qR h6 a0 4) (Int32.toNatClampNeg (iN 1))))) <|
  lt (putI h6 (qR h6 (qR h6 a0 4) (Int32.toNatClampNeg (iN 1))) (Int32.toNatClampNeg i2) (jmax i4 i5)) fun h11 =>
  chk (okr h11 (qR h11 a0 4) 24) <|
  chk (vp_in (iN 2) (qW h11 (qR h11 a0 4))) <|
  chk (okr h11 (qR h11 (qR h11 a0 4) (Int32.toNatClampNeg (iN 2))) 20) <|
  chk (vp_in (iN 1) (qW h11 (qR h11 a0 4))) <|
  chk (okr h11 (qR h11 (qR h11 a0 4) (Int32.toNatClampNeg (iN 1))) 20) <|
  chk (vp_in i2 (qW h11 (qR h11 (qR h11 a0 4) (Int32.toNatClampNeg (iN 1))))) <|
  chk (vp_in i2 (qW h11 (qR h11 (qR h11 a0 4) (Int32.toNatClampNeg (iN 2))))) <|
  lt (putI h11 (qR h11 (qR h11 a0 4) (Int32.toNatClampNeg (iN 2))) (Int32.toNatClampNeg i2) (jmax (qI h11 (qR h11 (qR h11 a0 4) (Int32.toNatClampNeg (iN 1))) (Int32.toNatClampNeg i2)) s0)) fun h19 =>
  chk (okr h19 (qR h19 a0 4) 24) <|
  chk (vp_in (iN 3) (qW h19 (qR h19 a0 4))) <|
  chk (okr h19 (qR h19 (qR h19 a0 4) (Int32.toNatClampNeg (iN 3))) 20) <|
  if i3 = 0 then (
    chk (okr h19 (qR h19 a0 2) 20) <|
    chk (vp_in i2 (qW h19 (qR h19 a0 2))) <|
    f_X3_findGuesses_L162 k17 h19 a0 i1 i2 (qI h19 (qR h19 a0 2) (Int32.toNatClampNeg i2)) i2 (qR h19 (qR h19 a0 4) (Int32.toNatClampNeg (iN 3)))
  ) else (
    chk (vp_in (iN 2) (qW h19 (qR h19 a0 4))) <|
    chk (okr h19 (qR h19 (qR h19 a0 4) (Int32.toNatClampNeg (iN 2))) 20) <|
    chk (vp_in i2 (qW h19 (qR h19 (qR h19 a0 4) (Int32.toNatClampNeg (iN 2))))) <|
    f_X3_findGuesses_L162 k17 h19 a0 i1 i2 (qI h19 (qR h19 (qR h19 a0 4) (Int32.toNatClampNeg (iN 2))) (Int32.toNatClampNeg i2)) i2 (qR h19 (qR h19 a0 4) (Int32.toNatClampNeg (iN 3)))
  )
theorem p_X3_findGuesses_L86 {l : Launch} {K : Ctx} (hl : l.stackTraces = false) {k17 : Hp → Nat → Int32 → Int32 → Option (Rs Unit)} (hk17 : ∀ (h : Hp) (a0 : Nat) (i1 : Int32) (i2 : Int32) (t : Rs Unit), k17 h a0 i1 i2 = some t → X l K mM_X3_findGuesses (tgV t) 17 [(0, .ref a0), (1, .int i1), (2, .int i2)] [] h) {h : Hp} {a0 : Nat} {i1 : Int32} {i2 : Int32} {i3 : Int32} {i4 : Int32} {i5 : Int32} {s0 : Int32} {t : Rs Unit} (e : f_X3_findGuesses_L86 k17 h a0 i1 i2 i3 i4 i5 s0 = some t) : X l K mM_X3_findGuesses (tgV t) 86 [(0, .ref a0), (1, .int i1), (2, .int i2), (3, .int i3), (4, .int i4), (5, .int i5)] [.int s0] h := by
  unfold f_X3_findGuesses_L86 at e
  refine x_istore (pc := 86) dX3_findGuesses_86 (by decide) rfl ?_
  refine x_aload_n (pc := 88) 1 dX3_findGuesses_88 rfl ?_
  obtain ⟨q1, e⟩ := chk_some e
  obtain ⟨q2, e⟩ := chk_some e
  refine x_getR (pc := 89) gf_X3_27 rfl dX3_findGuesses_89 q1 q2.1 ?_
  refine x_iconst (pc := 92) dX3_findGuesses_92 ?_
  obtain ⟨q3, e⟩ := chk_some e
  obtain ⟨q4, e⟩ := chk_some e
  refine x_aald (pc := 93) (t := 0) (by decide) dX3_findGuesses_93 q2 q3 q4.1 ?_
  refine x_iload_n (pc := 94) 3 dX3_findGuesses_94 rfl ?_
  refine x_iload (pc := 95) 5 dX3_findGuesses_95 rfl ?_
  obtain ⟨q5, e⟩ := chk_some e
  replace e := lt_go e
  refine x_iast (pc := 97) dX3_findGuesses_97 q4 q5 ?_
  refine x_aload_n (pc := 98) 1 dX3_findGuesses_98 rfl ?_
  obtain ⟨q7, e⟩ := chk_some e
  refine x_getR (pc := 99) gf_X3_27 rfl dX3_findGuesses_99 (okr_pI q1) q7.1 ?_
  refine x_iconst (pc := 102) dX3_findGuesses_102 ?_
  obtain ⟨q8, e⟩ := chk_some e
  obtain ⟨q9, e⟩ := chk_some e
  refine x_aald (pc := 103) (t := 0) (by decide) dX3_findGuesses_103 q7 q8 q9.1 ?_
  refine x_iload_n (pc := 104) 3 dX3_findGuesses_104 rfl ?_
  refine x_iload (pc := 105) 5 dX3_findGuesses_105 rfl ?_
  refine x_iload (pc := 107) 6 dX3_findGuesses_107 rfl ?_
  refine x_mmax (pc := 109) tw_2_125 tw_2_123 tw_1_9 tw_2_124 (by decide) (leb rfl) dX3_findGuesses_109 ?_
  obtain ⟨q10, e⟩ := chk_some e
  replace e := lt_go e
  refine x_iast (pc := 112) dX3_findGuesses_112 q9 q10 ?_
  refine x_aload_n (pc := 113) 1 dX3_findGuesses_113 rfl ?_
  obtain ⟨q12, e⟩ := chk_some e
  refine x_getR (pc := 114) gf_X3_27 rfl dX3_findGuesses_114 (okr_pI (okr_pI q1)) q12.1 ?_
  refine x_iconst (pc := 117) dX3_findGuesses_117 ?_
  obtain ⟨q13, e⟩ := chk_some e
  obtain ⟨q14, e⟩ := chk_some e
  refine x_aald (pc := 118) (t := 0) (by decide) dX3_findGuesses_118 q12 q13 q14.1 ?_
  refine x_iload_n (pc := 119) 3 dX3_findGuesses_119 rfl ?_
  refine x_aload_n (pc := 120) 1 dX3_findGuesses_120 rfl ?_
  refine x_getR (pc := 121) gf_X3_27 rfl dX3_findGuesses_121 (okr_pI (okr_pI q1)) q12.1 ?_
  refine x_iconst (pc := 124) dX3_findGuesses_124 ?_
  obtain ⟨q15, e⟩ := chk_some e
  obtain ⟨q16, e⟩ := chk_some e
  refine x_aald (pc := 125) (t := 0) (by decide) dX3_findGuesses_125 q12 q15 q16.1 ?_
  refine x_iload_n (pc := 126) 3 dX3_findGuesses_126 rfl ?_
  obtain ⟨q17, e⟩ := chk_some e
  refine x_iald (pc := 127) dX3_findGuesses_127 q16 q17 ?_
  refine x_iload (pc := 128) 0 dX3_findGuesses_128 rfl ?_
  refine x_mmax (pc := 130) tw_2_125 tw_2_123 tw_1_9 tw_2_124 (by decide) (leb rfl) dX3_findGuesses_130 ?_
  obtain ⟨q18, e⟩ := chk_some e
  replace e := lt_go e
  refine x_iast (pc := 133) dX3_findGuesses_133 q14 q18 ?_
  refine x_aload_n (pc := 134) 1 dX3_findGuesses_134 rfl ?_
  obtain ⟨q20, e⟩ := chk_some e
  refine x_getR (pc := 135) gf_X3_27 rfl dX3_findGuesses_135 (okr_pI (okr_pI (okr_pI q1))) q20.1 ?_
  refine x_iconst (pc := 138) dX3_findGuesses_138 ?_
  obtain ⟨q21, e⟩ := chk_some e
  obtain ⟨q22, e⟩ := chk_some e
  refine x_aald (pc := 139) (t := 0) (by decide) dX3_findGuesses_139 q20 q21 q22.1 ?_
  refine x_iload_n (pc := 140) 3 dX3_findGuesses_140 rfl ?_
  refine x_iload_n (pc := 141) 4 dX3_findGuesses_141 rfl ?_
  rcases ite_some e with ⟨q23, e⟩ | ⟨q23, e⟩
  · refine x_if_ne_f (pc := 142) (t := 154) dX3_findGuesses_142 (by decide) q23 ?_
    refine x_aload_n (pc := 145) 1 dX3_findGuesses_145 rfl ?_
    obtain ⟨q24, e⟩ := chk_some e
    refine x_getR (pc := 146) gf_X3_19 rfl dX3_findGuesses_146 (okr_pI (okr_pI (okr_pI q1))) q24.1 ?_
    refine x_iload_n (pc := 149) 3 dX3_findGuesses_149 rfl ?_
    obtain ⟨q25, e⟩ := chk_some e
    refine x_iald (pc := 150) dX3_findGuesses_150 q24 q25 ?_
    refine x_goto (pc := 151) (t := 162) dX3_findGuesses_151 (by decide) ?_
    exact x_sub1 (p_X3_findGuesses_L162 hl hk17 e) [1, 2, 3] rfl
  · refine x_if_ne_t (pc := 142) (t := 154) dX3_findGuesses_142 (by decide) q23 ?_
    refine x_aload_n (pc := 154) 1 dX3_findGuesses_154 rfl ?_
    refine x_getR (pc := 155) gf_X3_27 rfl dX3_findGuesses_155 (okr_pI (okr_pI (okr_pI q1))) q20.1 ?_
    refine x_iconst (pc := 158) dX3_findGuesses_158 ?_
    obtain ⟨q26, e⟩ := chk_some e
    obtain ⟨q27, e⟩ := chk_some e
    refine x_aald (pc := 159) (t := 0) (by decide) dX3_findGuesses_159 q20 q26 q27.1 ?_
    refine x_iload_n (pc := 160) 3 dX3_findGuesses_160 rfl ?_
    obtain ⟨q28, e⟩ := chk_some e
    refine x_iald (pc := 161) dX3_findGuesses_161 q27 q28 ?_
    exact x_sub1 (p_X3_findGuesses_L162 hl hk17 e) [1, 2, 3] rfl
noncomputable def f_X3_findGuesses_L66 (k17 : Hp → Nat → Int32 → Int32 → Option (Rs Unit)) (h : Hp) (a0 : Nat) (i1 : Int32) (i2 : Int32) (i3 : Int32) (i4 : Int32) (s0 : Int32) : Option (Rs Unit) :=
  if i3 = (iN 1) then (
    chk (okr h a0 3) <|
    chk (okr h (qR h a0 0) 7) <|
    chk (okr h (qR h (qR h a0 0) 7) 20) <|
    chk (vp_in i2 (qW h (qR h (qR h a0 0) 7))) <|
    f_X3_findGuesses_L86 k17 h a0 i1 i2 i3 i4 s0 (qI h (qR h (qR h a0 0) 7) (Int32.toNatClampNeg i2))
  ) else (
    f_X3_findGuesses_L86 k17 h a0 i1 i2 i3 i4 s0 (iN 0)
  )
theorem p_X3_findGuesses_L66 {l : Launch} {K : Ctx} (hl : l.stackTraces = false) {k17 : Hp → Nat → Int32 → Int32 → Option (Rs Unit)} (hk17 : ∀ (h : Hp) (a0 : Nat) (i1 : Int32) (i2 : Int32) (t : Rs Unit), k17 h a0 i1 i2 = some t → X l K mM_X3_findGuesses (tgV t) 17 [(0, .ref a0), (1, .int i1), (2, .int i2)] [] h) {h : Hp} {a0 : Nat} {i1 : Int32} {i2 : Int32} {i3 : Int32} {i4 : Int32} {s0 : Int32} {t : Rs Unit} (e : f_X3_findGuesses_L66 k17 h a0 i1 i2 i3 i4 s0 = some t) : X l K mM_X3_findGuesses (tgV t) 66 [(0, .ref a0), (1, .int i1), (2, .int i2), (3, .int i3), (4, .int i4)] [.int s0] h := by
  unfold f_X3_findGuesses_L66 at e
  refine x_istore (pc := 66) dX3_findGuesses_66 (by decide) rfl ?_
  refine x_iload_n (pc := 68) 4 dX3_findGuesses_68 rfl ?_
  refine x_iconst (pc := 69) dX3_findGuesses_69 ?_
  rcases ite_some e with ⟨q1, e⟩ | ⟨q1, e⟩
  · refine x_icmp_ne_f (pc := 70) (t := 85) dX3_findGuesses_70 (by decide) q1 ?_
    refine x_aload_n (pc := 73) 1 dX3_findGuesses_73 rfl ?_
    obtain ⟨q2, e⟩ := chk_some e
    obtain ⟨q3, e⟩ := chk_some e
    refine x_getR (pc := 74) gf_X3_9 rfl dX3_findGuesses_74 q2 q3.1 ?_
    obtain ⟨q4, e⟩ := chk_some e
    refine x_getR (pc := 77) gf_X3_92 rfl dX3_findGuesses_77 q3 q4.1 ?_
    refine x_iload_n (pc := 80) 3 dX3_findGuesses_80 rfl ?_
    obtain ⟨q5, e⟩ := chk_some e
    refine x_iald (pc := 81) dX3_findGuesses_81 q4 q5 ?_
    refine x_goto (pc := 82) (t := 86) dX3_findGuesses_82 (by decide) ?_
    exact x_sub1 (p_X3_findGuesses_L86 hl hk17 e) [1, 2, 3, 4, 5, 0] rfl
  · refine x_icmp_ne_t (pc := 70) (t := 85) dX3_findGuesses_70 (by decide) q1 ?_
    refine x_iconst (pc := 85) dX3_findGuesses_85 ?_
    exact x_sub1 (p_X3_findGuesses_L86 hl hk17 e) [1, 2, 3, 4, 5, 0] rfl
noncomputable def f_X3_findGuesses_B17 (k17 : Hp → Nat → Int32 → Int32 → Option (Rs Unit)) (h : Hp) (a0 : Nat) (i1 : Int32) (i2 : Int32) : Option (Rs Unit) :=
  chk (okr h a0 3) <|
  chk (okr h (qR h a0 0) 7) <|
  if (qI h (qR h a0 0) 3) ≤ i2 then (
    f_X3_findGuesses_L171 2000 h a0 (iN 0)
  ) else (
    chk (okr h (qR h (qR h a0 0) 6) 20) <|
    chk (vp_in i2 (qW h (qR h (qR h a0 0) 6))) <|
    chk (okr h (qR h a0 1) 20) <|
    chk (vp_in i2 (qW h (qR h a0 1))) <|
    if (qI h (qR h (qR h a0 0) 6) (Int32.toNatClampNeg i2)) = (iN 2) then (
      chk (okr h (qR h a0 3) 20) <|
      chk (vp_in i2 (qW h (qR h a0 3))) <|
      chk (¬ (iN 100) = 0) <|
      f_X3_findGuesses_L66 k17 h a0 i1 i2 (qI h (qR h (qR h a0 0) 6) (Int32.toNatClampNeg i2)) (qI h (qR h a0 1) (Int32.toNatClampNeg i2)) ((i1 * (qI h (qR h a0 3) (Int32.toNatClampNeg i2))) / (iN 100))
    ) else (
      f_X3_findGuesses_L66 k17 h a0 i1 i2 (qI h (qR h (qR h a0 0) 6) (Int32.toNatClampNeg i2)) (qI h (qR h a0 1) (Int32.toNatClampNeg i2)) (iN 0)
    )
  )
theorem p_X3_findGuesses_B17 {l : Launch} {K : Ctx} (hl : l.stackTraces = false) {k17 : Hp → Nat → Int32 → Int32 → Option (Rs Unit)} (hk17 : ∀ (h : Hp) (a0 : Nat) (i1 : Int32) (i2 : Int32) (t : Rs Unit), k17 h a0 i1 i2 = some t → X l K mM_X3_findGuesses (tgV t) 17 [(0, .ref a0), (1, .int i1), (2, .int i2)] [] h) {h : Hp} {a0 : Nat} {i1 : Int32} {i2 : Int32} {t : Rs Unit} (e : f_X3_findGuesses_B17 k17 h a0 i1 i2 = some t) : X l K mM_X3_findGuesses (tgV t) 17 [(0, .ref a0), (1, .int i1), (2, .int i2)] [] h := by
  unfold f_X3_findGuesses_B17 at e
  refine x_iload_n (pc := 17) 2 dX3_findGuesses_17 rfl ?_
  refine x_aload_n (pc := 18) 0 dX3_findGuesses_18 rfl ?_
  obtain ⟨q1, e⟩ := chk_some e
  obtain ⟨q2, e⟩ := chk_some e
  refine x_getR (pc := 19) gf_X3_9 rfl dX3_findGuesses_19 q1 q2.1 ?_
  refine x_getI (pc := 22) gf_X3_42 rfl dX3_findGuesses_22 q2 ?_
  rcases ite_some e with ⟨q3, e⟩ | ⟨q3, e⟩
  · refine x_icmp_ge_t (pc := 25) (t := 169) dX3_findGuesses_25 (by decide) q3 ?_
    refine x_iconst (pc := 169) dX3_findGuesses_169 ?_
    refine x_istore_n (pc := 170) dX3_findGuesses_170 (by decide) rfl ?_
    exact x_sub1 (p_X3_findGuesses_L171 hl 2000 _ _ _ _ e) [1, 0] rfl
  · refine x_icmp_ge_f (pc := 25) (t := 169) dX3_findGuesses_25 (by decide) q3 ?_
    refine x_aload_n (pc := 28) 0 dX3_findGuesses_28 rfl ?_
    refine x_getR (pc := 29) gf_X3_9 rfl dX3_findGuesses_29 q1 q2.1 ?_
    obtain ⟨q4, e⟩ := chk_some e
    refine x_getR (pc := 32) gf_X3_89 rfl dX3_findGuesses_32 q2 q4.1 ?_
    refine x_iload_n (pc := 35) 2 dX3_findGuesses_35 rfl ?_
    obtain ⟨q5, e⟩ := chk_some e
    refine x_iald (pc := 36) dX3_findGuesses_36 q4 q5 ?_
    refine x_istore_n (pc := 37) dX3_findGuesses_37 (by decide) rfl ?_
    refine x_aload_n (pc := 38) 1 dX3_findGuesses_38 rfl ?_
    obtain ⟨q6, e⟩ := chk_some e
    refine x_getR (pc := 39) gf_X3_15 rfl dX3_findGuesses_39 q1 q6.1 ?_
    refine x_iload_n (pc := 42) 3 dX3_findGuesses_42 rfl ?_
    obtain ⟨q7, e⟩ := chk_some e
    refine x_iald (pc := 43) dX3_findGuesses_43 q6 q7 ?_
    refine x_istore (pc := 44) dX3_findGuesses_44 (by decide) rfl ?_
    refine x_iload_n (pc := 46) 1 dX3_findGuesses_46 rfl ?_
    refine x_iconst (pc := 47) dX3_findGuesses_47 ?_
    rcases ite_some e with ⟨q8, e⟩ | ⟨q8, e⟩
    · refine x_icmp_ne_f (pc := 48) (t := 65) dX3_findGuesses_48 (by decide) q8 ?_
      refine x_iload_n (pc := 51) 3 dX3_findGuesses_51 rfl ?_
      refine x_aload_n (pc := 52) 2 dX3_findGuesses_52 rfl ?_
      obtain ⟨q9, e⟩ := chk_some e
      refine x_getR (pc := 53) gf_X3_22 rfl dX3_findGuesses_53 q1 q9.1 ?_
      refine x_iload_n (pc := 56) 4 dX3_findGuesses_56 rfl ?_
      obtain ⟨q10, e⟩ := chk_some e
      refine x_iald (pc := 57) dX3_findGuesses_57 q9 q10 ?_
      refine x_imul (pc := 58) dX3_findGuesses_58 ?_
      refine x_bipush (pc := 59) (v := iN 100) dX3_findGuesses_59 rfl ?_
      obtain ⟨q11, e⟩ := chk_some e
      refine x_idiv (pc := 61) dX3_findGuesses_61 q11 ?_
      refine x_goto (pc := 62) (t := 66) dX3_findGuesses_62 (by decide) ?_
      exact x_sub1 (p_X3_findGuesses_L66 hl hk17 e) [2, 3, 4, 1, 0] rfl
    · refine x_icmp_ne_t (pc := 48) (t := 65) dX3_findGuesses_48 (by decide) q8 ?_
      refine x_iconst (pc := 65) dX3_findGuesses_65 ?_
      exact x_sub1 (p_X3_findGuesses_L66 hl hk17 e) [2, 3, 4, 1, 0] rfl
noncomputable def f_X3_findGuesses_L17 (n : Nat) : Hp → Nat → Int32 → Int32 → Option (Rs Unit) := Nat.rec (motive := fun _ => Hp → Nat → Int32 → Int32 → Option (Rs Unit)) (fun _ _ _ _ => none) (fun _ r => f_X3_findGuesses_B17 r) n
theorem p_X3_findGuesses_L17 {l : Launch} {K : Ctx} (hl : l.stackTraces = false) : ∀ (n : Nat) (h : Hp) (a0 : Nat) (i1 : Int32) (i2 : Int32) (t : Rs Unit) (e : f_X3_findGuesses_L17 n h a0 i1 i2 = some t), X l K mM_X3_findGuesses (tgV t) 17 [(0, .ref a0), (1, .int i1), (2, .int i2)] [] h := by
  intro n
  induction n with
  | zero => exact fun _ _ _ _ _ e => nomatch (show (none : Option (Rs Unit)) = some _ from e)
  | succ n ih => exact fun h a0 i1 i2 t e => p_X3_findGuesses_B17 hl (fun h a0 i1 i2 t e => ih h a0 i1 i2 t e) e
noncomputable def f_X3_findGuesses (h : Hp) (a0 : Nat) : Option (Rs Unit) :=
  chk (okr h a0 3) <|
  chk (okr h (qR h a0 0) 7) <|
  bnd (f_X7_usableWidth h (qR h a0 0) (qI h (qR h a0 0) 0)) fun h3 r4 =>
  f_X3_findGuesses_L17 2000 h3 a0 r4 (iN 0)
theorem p_X3_findGuesses {l : Launch} {K : Ctx} (hl : l.stackTraces = false) {h : Hp} {a0 : Nat} {t : Rs Unit} (e : f_X3_findGuesses h a0 = some t) : X l K mM_X3_findGuesses (tgV t) 0 [(0, .ref a0)] [] h := by
  unfold f_X3_findGuesses at e
  refine x_aload_n (pc := 0) 0 dX3_findGuesses_0 rfl ?_
  obtain ⟨q1, e⟩ := chk_some e
  obtain ⟨q2, e⟩ := chk_some e
  refine x_getR (pc := 1) gf_X3_9 rfl dX3_findGuesses_1 q1 q2.1 ?_
  refine x_aload_n (pc := 4) 0 dX3_findGuesses_4 rfl ?_
  refine x_getR (pc := 5) gf_X3_9 rfl dX3_findGuesses_5 q1 q2.1 ?_
  refine x_getI (pc := 8) gf_X3_121 rfl dX3_findGuesses_8 q2 ?_
  rcases bnd_some e with ⟨h3, r4, ec, rfl⟩ | ⟨h3, r4, ec, e⟩
  · exact y_callV_x (pc := 11) (c_X7_usableWidth hl ec) q2 mf_X7_usableWidth tw_2_175 ts_2_0 lf_X3_124 rfl rfl dX3_findGuesses_11 (by decide) rfl rfl (leb rfl) (xx_out0 rfl)
  refine y_callV_i (pc := 11) (c_X7_usableWidth hl ec) q2 mf_X7_usableWidth tw_2_175 ts_2_0 lf_X3_124 rfl rfl dX3_findGuesses_11 (by decide) rfl rfl (leb rfl) ?_
  refine x_istore_n (pc := 14) dX3_findGuesses_14 (by decide) rfl ?_
  refine x_iconst (pc := 15) dX3_findGuesses_15 ?_
  refine x_istore_n (pc := 16) dX3_findGuesses_16 (by decide) rfl ?_
  exact x_sub1 (p_X3_findGuesses_L17 hl 2000 _ _ _ _ _ e) [2, 1, 0] rfl
abbrev w_X3_findGuesses : Cond := (Cond.code yX3_findGuesses cX3_findGuesses 7 (Option.none : Option Jvm.ClassFile.FieldType))
theorem mf_X3_findGuesses : MF yX3_findGuesses w_X3_findGuesses cX3_findGuesses 7 (Option.none : Option Jvm.ClassFile.FieldType) 0 := ⟨⟨rfl, tw_2_172, by decide⟩, tw_1_5, ⟨by decide, by decide⟩, by decide +kernel⟩
theorem c_X3_findGuesses {l : Launch} {K : Ctx} (hl : l.stackTraces = false) {h : Hp} {a0 : Nat} {t : Rs Unit} (e : f_X3_findGuesses h a0 = some t) : Ctr l K 9 yX3_findGuesses w_X3_findGuesses [.ref a0] h (tgV t) :=
  Ctr.of hl mf_X3_findGuesses false (fun q => nomatch q) rfl (leb rfl) (p_X3_findGuesses hl e)
/-! ## TableColumnBalancer$Columns.weighRest -/
abbrev mM_X3_weighRest : Mi := (8, yX3_weighRest.cls, cX3_weighRest, 4, (Option.none : Option Jvm.ClassFile.FieldType), [], false)
noncomputable def f_X3_weighRest_L134 (k37 : Hp → Nat → Int32 → Int32 → Int32 → Option (Rs Unit)) (h : Hp) (a0 : Nat) (i1 : Int32) (i2 : Int32) (i3 : Int32) : Option (Rs Unit) :=
  k37 h a0 i1 i2 (i3 + iN 1)
theorem p_X3_weighRest_L134 {l : Launch} {K : Ctx} (hl : l.stackTraces = false) {k37 : Hp → Nat → Int32 → Int32 → Int32 → Option (Rs Unit)} (hk37 : ∀ (h : Hp) (a0 : Nat) (i1 : Int32) (i2 : Int32) (i3 : Int32) (t : Rs Unit), k37 h a0 i1 i2 i3 = some t → X l K mM_X3_weighRest (tgV t) 37 [(0, .ref a0), (1, .int i1), (2, .int i2), (3, .int i3)] [] h) {h : Hp} {a0 : Nat} {i1 : Int32} {i2 : Int32} {i3 : Int32} {t : Rs Unit} (e : f_X3_weighRest_L134 k37 h a0 i1 i2 i3 = some t) : X l K mM_X3_weighRest (tgV t) 134 [(0, .ref a0), (1, .int i1), (2, .int i2), (3, .int i3)] [] h := by
  unfold f_X3_weighRest_L134 at e
  refine x_iinc (pc := 134) 3 dX3_weighRest_134 rfl (by decide) rfl ?_
  refine x_goto (pc := 137) (t := 37) dX3_weighRest_137 (by decide) ?_
  exact x_sub1 (hk37 _ _ _ _ _ _ e) [1, 2, 3, 0] rfl
noncomputable def f_X3_weighRest_L133 (k37 : Hp → Nat → Int32 → Int32 → Int32 → Option (Rs Unit)) (h : Hp) (a0 : Nat) (i1 : Int32) (i2 : Int32) (i3 : Int32) (s0 : Int32) (s1 : Int32) (s2 : Nat) : Option (Rs Unit) :=
  chk (okr h s2 20) <|
  chk (vp_in s1 (qW h s2)) <|
  lt (putI h s2 (Int32.toNatClampNeg s1) s0) fun h3 =>
  f_X3_weighRest_L134 k37 h3 a0 i1 i2 i3
theorem p_X3_weighRest_L133 {l : Launch} {K : Ctx} (hl : l.stackTraces = false) {k37 : Hp → Nat → Int32 → Int32 → Int32 → Option (Rs Unit)} (hk37 : ∀ (h : Hp) (a0 : Nat) (i1 : Int32) (i2 : Int32) (i3 : Int32) (t : Rs Unit), k37 h a0 i1 i2 i3 = some t → X l K mM_X3_weighRest (tgV t) 37 [(0, .ref a0), (1, .int i1), (2, .int i2), (3, .int i3)] [] h) {h : Hp} {a0 : Nat} {i1 : Int32} {i2 : Int32} {i3 : Int32} {s0 : Int32} {s1 : Int32} {s2 : Nat} {t : Rs Unit} (e : f_X3_weighRest_L133 k37 h a0 i1 i2 i3 s0 s1 s2 = some t) : X l K mM_X3_weighRest (tgV t) 133 [(0, .ref a0), (1, .int i1), (2, .int i2), (3, .int i3)] [.int s0, .int s1, .ref s2] h := by
  unfold f_X3_weighRest_L133 at e
  obtain ⟨q1, e⟩ := chk_some e
  obtain ⟨q2, e⟩ := chk_some e
  replace e := lt_go e
  refine x_iast (pc := 133) dX3_weighRest_133 q1 q2 ?_
  exact p_X3_weighRest_L134 hl hk37 e
noncomputable def f_X3_weighRest_B37 (k37 : Hp → Nat → Int32 → Int32 → Int32 → Option (Rs Unit)) (h : Hp) (a0 : Nat) (i1 : Int32) (i2 : Int32) (i3 : Int32) : Option (Rs Unit) :=
  chk (okr h a0 3) <|
  chk (okr h (qR h a0 0) 7) <|
  if (qI h (qR h a0 0) 3) ≤ i3 then (
    some (h, .inr ())
  ) else (
    if (iN 3) ≤ i1 then (
      if i2 = (iN 2) then (
        chk (okr h (qR h a0 8) 20) <|
        chk (okr h (qR h a0 3) 20) <|
        chk (vp_in i3 (qW h (qR h a0 3))) <|
        chk (vp_in i3 (qW h (qR h a0 8))) <|
        lt (putI h (qR h a0 8) (Int32.toNatClampNeg i3) ((qI h (qR h a0 3) (Int32.toNatClampNeg i3)) + (iN 1))) fun h10 =>
        f_X3_weighRest_L134 k37 h10 a0 i1 i2 i3
      ) else (
        chk (okr h (qR h a0 8) 20) <|
        chk (okr h (qR h (qR h a0 0) 6) 20) <|
        chk (vp_in i3 (qW h (qR h (qR h a0 0) 6))) <|
        if (qI h (qR h (qR h a0 0) 6) (Int32.toNatClampNeg i3)) = i2 then (
          chk (okr h (qR h a0 4) 24) <|
          chk (vp_in (iN 3) (qW h (qR h a0 4))) <|
          chk (okr h (qR h (qR h a0 4) (Int32.toNatClampNeg (iN 3))) 20) <|
          chk (vp_in i3 (qW h (qR h (qR h a0 4) (Int32.toNatClampNeg (iN 3))))) <|
          f_X3_weighRest_L133 k37 h a0 i1 i2 i3 (qI h (qR h (qR h a0 4) (Int32.toNatClampNeg (iN 3))) (Int32.toNatClampNeg i3)) i3 (qR h a0 8)
        ) else (
          f_X3_weighRest_L133 k37 h a0 i1 i2 i3 (iN 0) i3 (qR h a0 8)
        )
      )
    ) else (
      chk (okr h (qR h a0 8) 20) <|
      chk (okr h (qR h a0 4) 24) <|
      chk (vp_in (i1 + (iN 1)) (qW h (qR h a0 4))) <|
      chk (okr h (qR h (qR h a0 4) (Int32.toNatClampNeg (i1 + (iN 1)))) 20) <|
      chk (vp_in i3 (qW h (qR h (qR h a0 4) (Int32.toNatClampNeg (i1 + (iN 1)))))) <|
      chk (vp_in i1 (qW h (qR h a0 4))) <|
      chk (okr h (qR h (qR h a0 4) (Int32.toNatClampNeg i1)) 20) <|
      chk (vp_in i3 (qW h (qR h (qR h a0 4) (Int32.toNatClampNeg i1)))) <|
      chk (vp_in i3 (qW h (qR h a0 8))) <|
      lt (putI h (qR h a0 8) (Int32.toNatClampNeg i3) ((qI h (qR h (qR h a0 4) (Int32.toNatClampNeg (i1 + (iN 1)))) (Int32.toNatClampNeg i3)) - (qI h (qR h (qR h a0 4) (Int32.toNatClampNeg i1)) (Int32.toNatClampNeg i3)))) fun h28 =>
      f_X3_weighRest_L134 k37 h28 a0 i1 i2 i3
    )
  )
theorem p_X3_weighRest_B37 {l : Launch} {K : Ctx} (hl : l.stackTraces = false) {k37 : Hp → Nat → Int32 → Int32 → Int32 → Option (Rs Unit)} (hk37 : ∀ (h : Hp) (a0 : Nat) (i1 : Int32) (i2 : Int32) (i3 : Int32) (t : Rs Unit), k37 h a0 i1 i2 i3 = some t → X l K mM_X3_weighRest (tgV t) 37 [(0, .ref a0), (1, .int i1), (2, .int i2), (3, .int i3)] [] h) {h : Hp} {a0 : Nat} {i1 : Int32} {i2 : Int32} {i3 : Int32} {t : Rs Unit} (e : f_X3_weighRest_B37 k37 h a0 i1 i2 i3 = some t) : X l K mM_X3_weighRest (tgV t) 37 [(0, .ref a0), (1, .int i1), (2, .int i2), (3, .int i3)] [] h := by
  unfold f_X3_weighRest_B37 at e
  refine x_iload_n (pc := 37) 3 dX3_weighRest_37 rfl ?_
  refine x_aload_n (pc := 38) 0 dX3_weighRest_38 rfl ?_
  obtain ⟨q1, e⟩ := chk_some e
  obtain ⟨q2, e⟩ := chk_some e
  refine x_getR (pc := 39) gf_X3_9 rfl dX3_weighRest_39 q1 q2.1 ?_
  refine x_getI (pc := 42) gf_X3_42 rfl dX3_weighRest_42 q2 ?_
  rcases ite_some e with ⟨q3, e⟩ | ⟨q3, e⟩
  · refine x_icmp_ge_t (pc := 45) (t := 140) dX3_weighRest_45 (by decide) q3 ?_
    cases Option.some.inj e
    exact x_vret (pc := 140) rfl dX3_weighRest_140
  · refine x_icmp_ge_f (pc := 45) (t := 140) dX3_weighRest_45 (by decide) q3 ?_
    refine x_iload_n (pc := 48) 1 dX3_weighRest_48 rfl ?_
    refine x_iconst (pc := 49) dX3_weighRest_49 ?_
    rcases ite_some e with ⟨q4, e⟩ | ⟨q4, e⟩
    · refine x_icmp_ge_t (pc := 50) (t := 81) dX3_weighRest_50 (by decide) q4 ?_
      refine x_iload_n (pc := 81) 2 dX3_weighRest_81 rfl ?_
      refine x_iconst (pc := 82) dX3_weighRest_82 ?_
      rcases ite_some e with ⟨q5, e⟩ | ⟨q5, e⟩
      · refine x_icmp_ne_f (pc := 83) (t := 103) dX3_weighRest_83 (by decide) q5 ?_
        refine x_aload_n (pc := 86) 0 dX3_weighRest_86 rfl ?_
        obtain ⟨q6, e⟩ := chk_some e
        refine x_getR (pc := 87) gf_X3_36 rfl dX3_weighRest_87 q1 q6.1 ?_
        refine x_iload_n (pc := 90) 3 dX3_weighRest_90 rfl ?_
        refine x_aload_n (pc := 91) 0 dX3_weighRest_91 rfl ?_
        obtain ⟨q7, e⟩ := chk_some e
        refine x_getR (pc := 92) gf_X3_22 rfl dX3_weighRest_92 q1 q7.1 ?_
        refine x_iload_n (pc := 95) 3 dX3_weighRest_95 rfl ?_
        obtain ⟨q8, e⟩ := chk_some e
        refine x_iald (pc := 96) dX3_weighRest_96 q7 q8 ?_
        refine x_iconst (pc := 97) dX3_weighRest_97 ?_
        refine x_iadd (pc := 98) dX3_weighRest_98 ?_
        obtain ⟨q9, e⟩ := chk_some e
        replace e := lt_go e
        refine x_iast (pc := 99) dX3_weighRest_99 q6 q9 ?_
        refine x_goto (pc := 100) (t := 134) dX3_weighRest_100 (by decide) ?_
        exact p_X3_weighRest_L134 hl hk37 e
      · refine x_icmp_ne_t (pc := 83) (t := 103) dX3_weighRest_83 (by decide) q5 ?_
        refine x_aload_n (pc := 103) 0 dX3_weighRest_103 rfl ?_
        obtain ⟨q11, e⟩ := chk_some e
        refine x_getR (pc := 104) gf_X3_36 rfl dX3_weighRest_104 q1 q11.1 ?_
        refine x_iload_n (pc := 107) 3 dX3_weighRest_107 rfl ?_
        refine x_aload_n (pc := 108) 0 dX3_weighRest_108 rfl ?_
        refine x_getR (pc := 109) gf_X3_9 rfl dX3_weighRest_109 q1 q2.1 ?_
        obtain ⟨q12, e⟩ := chk_some e
        refine x_getR (pc := 112) gf_X3_89 rfl dX3_weighRest_112 q2 q12.1 ?_
        refine x_iload_n (pc := 115) 3 dX3_weighRest_115 rfl ?_
        obtain ⟨q13, e⟩ := chk_some e
        refine x_iald (pc := 116) dX3_weighRest_116 q12 q13 ?_
        refine x_iload_n (pc := 117) 2 dX3_weighRest_117 rfl ?_
        rcases ite_some e with ⟨q14, e⟩ | ⟨q14, e⟩
        · refine x_icmp_ne_f (pc := 118) (t := 132) dX3_weighRest_118 (by decide) q14 ?_
          refine x_aload_n (pc := 121) 0 dX3_weighRest_121 rfl ?_
          obtain ⟨q15, e⟩ := chk_some e
          refine x_getR (pc := 122) gf_X3_27 rfl dX3_weighRest_122 q1 q15.1 ?_
          refine x_iconst (pc := 125) dX3_weighRest_125 ?_
          obtain ⟨q16, e⟩ := chk_some e
          obtain ⟨q17, e⟩ := chk_some e
          refine x_aald (pc := 126) (t := 0) (by decide) dX3_weighRest_126 q15 q16 q17.1 ?_
          refine x_iload_n (pc := 127) 3 dX3_weighRest_127 rfl ?_
          obtain ⟨q18, e⟩ := chk_some e
          refine x_iald (pc := 128) dX3_weighRest_128 q17 q18 ?_
          refine x_goto (pc := 129) (t := 133) dX3_weighRest_129 (by decide) ?_
          exact p_X3_weighRest_L133 hl hk37 e
        · refine x_icmp_ne_t (pc := 118) (t := 132) dX3_weighRest_118 (by decide) q14 ?_
          refine x_iconst (pc := 132) dX3_weighRest_132 ?_
          exact p_X3_weighRest_L133 hl hk37 e
    · refine x_icmp_ge_f (pc := 50) (t := 81) dX3_weighRest_50 (by decide) q4 ?_
      refine x_aload_n (pc := 53) 0 dX3_weighRest_53 rfl ?_
      obtain ⟨q19, e⟩ := chk_some e
      refine x_getR (pc := 54) gf_X3_36 rfl dX3_weighRest_54 q1 q19.1 ?_
      refine x_iload_n (pc := 57) 3 dX3_weighRest_57 rfl ?_
      refine x_aload_n (pc := 58) 0 dX3_weighRest_58 rfl ?_
      obtain ⟨q20, e⟩ := chk_some e
      refine x_getR (pc := 59) gf_X3_27 rfl dX3_weighRest_59 q1 q20.1 ?_
      refine x_iload_n (pc := 62) 1 dX3_weighRest_62 rfl ?_
      refine x_iconst (pc := 63) dX3_weighRest_63 ?_
      refine x_iadd (pc := 64) dX3_weighRest_64 ?_
      obtain ⟨q21, e⟩ := chk_some e
      obtain ⟨q22, e⟩ := chk_some e
      refine x_aald (pc := 65) (t := 0) (by decide) dX3_weighRest_65 q20 q21 q22.1 ?_
      refine x_iload_n (pc := 66) 3 dX3_weighRest_66 rfl ?_
      obtain ⟨q23, e⟩ := chk_some e
      refine x_iald (pc := 67) dX3_weighRest_67 q22 q23 ?_
      refine x_aload_n (pc := 68) 0 dX3_weighRest_68 rfl ?_
      refine x_getR (pc := 69) gf_X3_27 rfl dX3_weighRest_69 q1 q20.1 ?_
      refine x_iload_n (pc := 72) 1 dX3_weighRest_72 rfl ?_
      obtain ⟨q24, e⟩ := chk_some e
      obtain ⟨q25, e⟩ := chk_some e
      refine x_aald (pc := 73) (t := 0) (by decide) dX3_weighRest_73 q20 q24 q25.1 ?_
      refine x_iload_n (pc := 74) 3 dX3_weighRest_74 rfl ?_
      obtain ⟨q26, e⟩ := chk_some e
      refine x_iald (pc := 75) dX3_weighRest_75 q25 q26 ?_
      refine x_isub (pc := 76) dX3_weighRest_76 ?_
      obtain ⟨q27, e⟩ := chk_some e
      replace e := lt_go e
      refine x_iast (pc := 77) dX3_weighRest_77 q19 q27 ?_
      refine x_goto (pc := 78) (t := 134) dX3_weighRest_78 (by decide) ?_
      exact p_X3_weighRest_L134 hl hk37 e
noncomputable def f_X3_weighRest_L37 (n : Nat) : Hp → Nat → Int32 → Int32 → Int32 → Option (Rs Unit) := Nat.rec (motive := fun _ => Hp → Nat → Int32 → Int32 → Int32 → Option (Rs Unit)) (fun _ _ _ _ _ => none) (fun _ r => f_X3_weighRest_B37 r) n
theorem p_X3_weighRest_L37 {l : Launch} {K : Ctx} (hl : l.stackTraces = false) : ∀ (n : Nat) (h : Hp) (a0 : Nat) (i1 : Int32) (i2 : Int32) (i3 : Int32) (t : Rs Unit) (e : f_X3_weighRest_L37 n h a0 i1 i2 i3 = some t), X l K mM_X3_weighRest (tgV t) 37 [(0, .ref a0), (1, .int i1), (2, .int i2), (3, .int i3)] [] h := by
  intro n
  induction n with
  | zero => exact fun _ _ _ _ _ _ e => nomatch (show (none : Option (Rs Unit)) = some _ from e)
  | succ n ih => exact fun h a0 i1 i2 i3 t e => p_X3_weighRest_B37 hl (fun h a0 i1 i2 i3 t e => ih h a0 i1 i2 i3 t e) e
noncomputable def f_X3_weighRest_B4 (k4 : Hp → Nat → Int32 → Int32 → Int32 → Option (Rs Unit)) (h : Hp) (a0 : Nat) (i1 : Int32) (i2 : Int32) (i3 : Int32) : Option (Rs Unit) :=
  chk (okr h a0 3) <|
  chk (okr h (qR h a0 0) 7) <|
  if (qI h (qR h a0 0) 3) ≤ i3 then (
    f_X3_weighRest_L37 2000 h a0 i1 i2 (iN 0)
  ) else (
    chk (okr h (qR h (qR h a0 0) 6) 20) <|
    chk (vp_in i3 (qW h (qR h (qR h a0 0) 6))) <|
    k4 h a0 i1 (jmin i2 (qI h (qR h (qR h a0 0) 6) (Int32.toNatClampNeg i3))) (i3 + iN 1)
  )
theorem p_X3_weighRest_B4 {l : Launch} {K : Ctx} (hl : l.stackTraces = false) {k4 : Hp → Nat → Int32 → Int32 → Int32 → Option (Rs Unit)} (hk4 : ∀ (h : Hp) (a0 : Nat) (i1 : Int32) (i2 : Int32) (i3 : Int32) (t : Rs Unit), k4 h a0 i1 i2 i3 = some t → X l K mM_X3_weighRest (tgV t) 4 [(0, .ref a0), (1, .int i1), (2, .int i2), (3, .int i3)] [] h) {h : Hp} {a0 : Nat} {i1 : Int32} {i2 : Int32} {i3 : Int32} {t : Rs Unit} (e : f_X3_weighRest_B4 k4 h a0 i1 i2 i3 = some t) : X l K mM_X3_weighRest (tgV t) 4 [(0, .ref a0), (1, .int i1), (2, .int i2), (3, .int i3)] [] h := by
  unfold f_X3_weighRest_B4 at e
  refine x_iload_n (pc := 4) 3 dX3_weighRest_4 rfl ?_
  refine x_aload_n (pc := 5) 0 dX3_weighRest_5 rfl ?_
  obtain ⟨q1, e⟩ := chk_some e
  obtain ⟨q2, e⟩ := chk_some e
  refine x_getR (pc := 6) gf_X3_9 rfl dX3_weighRest_6 q1 q2.1 ?_
  refine x_getI (pc := 9) gf_X3_42 rfl dX3_weighRest_9 q2 ?_
  rcases ite_some e with ⟨q3, e⟩ | ⟨q3, e⟩
  · refine x_icmp_ge_t (pc := 12) (t := 35) dX3_weighRest_12 (by decide) q3 ?_
    refine x_iconst (pc := 35) dX3_weighRest_35 ?_
    refine x_istore_n (pc := 36) dX3_weighRest_36 (by decide) rfl ?_
    exact x_sub1 (p_X3_weighRest_L37 hl 2000 _ _ _ _ _ _ e) [1, 2, 3, 0] rfl
  · refine x_icmp_ge_f (pc := 12) (t := 35) dX3_weighRest_12 (by decide) q3 ?_
    refine x_iload_n (pc := 15) 2 dX3_weighRest_15 rfl ?_
    refine x_aload_n (pc := 16) 0 dX3_weighRest_16 rfl ?_
    refine x_getR (pc := 17) gf_X3_9 rfl dX3_weighRest_17 q1 q2.1 ?_
    obtain ⟨q4, e⟩ := chk_some e
    refine x_getR (pc := 20) gf_X3_89 rfl dX3_weighRest_20 q2 q4.1 ?_
    refine x_iload_n (pc := 23) 3 dX3_weighRest_23 rfl ?_
    obtain ⟨q5, e⟩ := chk_some e
    refine x_iald (pc := 24) dX3_weighRest_24 q4 q5 ?_
    refine x_mmin (pc := 25) tw_2_166 tw_2_167 tw_1_9 tw_2_168 (by decide) (leb rfl) dX3_weighRest_25 ?_
    refine x_istore_n (pc := 28) dX3_weighRest_28 (by decide) rfl ?_
    refine x_iinc (pc := 29) 3 dX3_weighRest_29 rfl (by decide) rfl ?_
    refine x_goto (pc := 32) (t := 4) dX3_weighRest_32 (by decide) ?_
    exact x_sub1 (hk4 _ _ _ _ _ _ e) [2, 3, 1, 0] rfl
noncomputable def f_X3_weighRest_L4 (n : Nat) : Hp → Nat → Int32 → Int32 → Int32 → Option (Rs Unit) := Nat.rec (motive := fun _ => Hp → Nat → Int32 → Int32 → Int32 → Option (Rs Unit)) (fun _ _ _ _ _ => none) (fun _ r => f_X3_weighRest_B4 r) n
theorem p_X3_weighRest_L4 {l : Launch} {K : Ctx} (hl : l.stackTraces = false) : ∀ (n : Nat) (h : Hp) (a0 : Nat) (i1 : Int32) (i2 : Int32) (i3 : Int32) (t : Rs Unit) (e : f_X3_weighRest_L4 n h a0 i1 i2 i3 = some t), X l K mM_X3_weighRest (tgV t) 4 [(0, .ref a0), (1, .int i1), (2, .int i2), (3, .int i3)] [] h := by
  intro n
  induction n with
  | zero => exact fun _ _ _ _ _ _ e => nomatch (show (none : Option (Rs Unit)) = some _ from e)
  | succ n ih => exact fun h a0 i1 i2 i3 t e => p_X3_weighRest_B4 hl (fun h a0 i1 i2 i3 t e => ih h a0 i1 i2 i3 t e) e
noncomputable def f_X3_weighRest (h : Hp) (a0 : Nat) (i1 : Int32) : Option (Rs Unit) :=
  f_X3_weighRest_L4 2000 h a0 i1 (iN 2) (iN 0)
theorem p_X3_weighRest {l : Launch} {K : Ctx} (hl : l.stackTraces = false) {h : Hp} {a0 : Nat} {i1 : Int32} {t : Rs Unit} (e : f_X3_weighRest h a0 i1 = some t) : X l K mM_X3_weighRest (tgV t) 0 [(0, .ref a0), (1, .int i1)] [] h := by
  unfold f_X3_weighRest at e
  refine x_iconst (pc := 0) dX3_weighRest_0 ?_
  refine x_istore_n (pc := 1) dX3_weighRest_1 (by decide) rfl ?_
  refine x_iconst (pc := 2) dX3_weighRest_2 ?_
  refine x_istore_n (pc := 3) dX3_weighRest_3 (by decide) rfl ?_
  exact x_sub1 (p_X3_weighRest_L4 hl 2000 _ _ _ _ _ _ e) [2, 3, 1, 0] rfl
abbrev w_X3_weighRest : Cond := (Cond.code yX3_weighRest cX3_weighRest 4 (Option.none : Option Jvm.ClassFile.FieldType))
theorem mf_X3_weighRest : MF yX3_weighRest w_X3_weighRest cX3_weighRest 4 (Option.none : Option Jvm.ClassFile.FieldType) 1 := ⟨⟨rfl, tw_2_184, by decide⟩, tw_1_5, ⟨by decide, by decide⟩, by decide +kernel⟩
theorem c_X3_weighRest {l : Launch} {K : Ctx} (hl : l.stackTraces = false) {h : Hp} {a0 : Nat} {i1 : Int32} {t : Rs Unit} (e : f_X3_weighRest h a0 i1 = some t) : Ctr l K 8 yX3_weighRest w_X3_weighRest [.ref a0, .int i1] h (tgV t) :=
  Ctr.of hl mf_X3_weighRest false (fun q => nomatch q) rfl (leb rfl) (p_X3_weighRest hl e)
/-! ## TableColumnBalancer$Columns.findAutomatic -/
abbrev mM_X3_findAutomatic : Mi := (9, yX3_findAutomatic.cls, cX3_findAutomatic, 4, (Option.none : Option Jvm.ClassFile.FieldType), [], false)
noncomputable def f_X3_findAutomatic_B63 (k63 : Hp → Nat → Int32 → Int32 → Int32 → Option (Rs Unit)) (h : Hp) (a0 : Nat) (i1 : Int32) (i2 : Int32) (i3 : Int32) : Option (Rs Unit) :=
  chk (okr h a0 3) <|
  chk (okr h (qR h a0 0) 7) <|
  if (qI h (qR h a0 0) 3) ≤ i3 then (
    chk (okr h (qR h a0 5) 20) <|
    chk (vp_in i2 (qW h (qR h a0 5))) <|
    if i1 ≤ (qI h (qR h a0 5) (Int32.toNatClampNeg i2)) then (
      some (h, .inr ())
    ) else (
      bnd (f_X3_weighRest h a0 i2) fun h7 _ =>
      chk (okr h7 a0 3) <|
      chk (okr h7 (qR h7 a0 5) 20) <|
      chk (vp_in i2 (qW h7 (qR h7 a0 5))) <|
      chk (okr h7 (qR h7 a0 6) 20) <|
      bnd (f_X3_share h7 a0 (i1 - (qI h7 (qR h7 a0 5) (Int32.toNatClampNeg i2))) (qR h7 a0 6)) fun h13 _ =>
      some (h13, .inr ())
    )
  ) else (
    chk (okr h (qR h a0 6) 20) <|
    chk (okr h (qR h a0 4) 24) <|
    chk (vp_in i2 (qW h (qR h a0 4))) <|
    chk (okr h (qR h (qR h a0 4) (Int32.toNatClampNeg i2)) 20) <|
    chk (vp_in i3 (qW h (qR h (qR h a0 4) (Int32.toNatClampNeg i2)))) <|
    chk (vp_in i3 (qW h (qR h a0 6))) <|
    lt (putI h (qR h a0 6) (Int32.toNatClampNeg i3) (qI h (qR h (qR h a0 4) (Int32.toNatClampNeg i2)) (Int32.toNatClampNeg i3))) fun h21 =>
    k63 h21 a0 i1 i2 (i3 + iN 1)
  )
theorem p_X3_findAutomatic_B63 {l : Launch} {K : Ctx} (hl : l.stackTraces = false) {k63 : Hp → Nat → Int32 → Int32 → Int32 → Option (Rs Unit)} (hk63 : ∀ (h : Hp) (a0 : Nat) (i1 : Int32) (i2 : Int32) (i3 : Int32) (t : Rs Unit), k63 h a0 i1 i2 i3 = some t → X l K mM_X3_findAutomatic (tgV t) 63 [(0, .ref a0), (1, .int i1), (2, .int i2), (3, .int i3)] [] h) {h : Hp} {a0 : Nat} {i1 : Int32} {i2 : Int32} {i3 : Int32} {t : Rs Unit} (e : f_X3_findAutomatic_B63 k63 h a0 i1 i2 i3 = some t) : X l K mM_X3_findAutomatic (tgV t) 63 [(0, .ref a0), (1, .int i1), (2, .int i2), (3, .int i3)] [] h := by
  unfold f_X3_findAutomatic_B63 at e
  refine x_iload_n (pc := 63) 3 dX3_findAutomatic_63 rfl ?_
  refine x_aload_n (pc := 64) 0 dX3_findAutomatic_64 rfl ?_
  obtain ⟨q1, e⟩ := chk_some e
  obtain ⟨q2, e⟩ := chk_some e
  refine x_getR (pc := 65) gf_X3_9 rfl dX3_findAutomatic_65 q1 q2.1 ?_
  refine x_getI (pc := 68) gf_X3_42 rfl dX3_findAutomatic_68 q2 ?_
  rcases ite_some e with ⟨q3, e⟩ | ⟨q3, e⟩
  · refine x_icmp_ge_t (pc := 71) (t := 94) dX3_findAutomatic_71 (by decide) q3 ?_
    refine x_aload_n (pc := 94) 0 dX3_findAutomatic_94 rfl ?_
    obtain ⟨q4, e⟩ := chk_some e
    refine x_getR (pc := 95) gf_X3_30 rfl dX3_findAutomatic_95 q1 q4.1 ?_
    refine x_iload_n (pc := 98) 2 dX3_findAutomatic_98 rfl ?_
    obtain ⟨q5, e⟩ := chk_some e
    refine x_iald (pc := 99) dX3_findAutomatic_99 q4 q5 ?_
    refine x_iload_n (pc := 100) 1 dX3_findAutomatic_100 rfl ?_
    rcases ite_some e with ⟨q6, e⟩ | ⟨q6, e⟩
    · refine x_icmp_ge_t (pc := 101) (t := 125) dX3_findAutomatic_101 (by decide) q6 ?_
      cases Option.some.inj e
      exact x_vret (pc := 125) rfl dX3_findAutomatic_125
    · refine x_icmp_ge_f (pc := 101) (t := 125) dX3_findAutomatic_101 (by decide) q6 ?_
      refine x_aload_n (pc := 104) 0 dX3_findAutomatic_104 rfl ?_
      refine x_iload_n (pc := 105) 2 dX3_findAutomatic_105 rfl ?_
      rcases bnd_some e with ⟨h7, r8, ec, rfl⟩ | ⟨h7, r8, ec, e⟩
      · exact y_callV_x (pc := 106) (c_X3_weighRest hl ec) q1 mf_X3_weighRest tw_2_183 ts_2_2 lf_X3_132 rfl rfl dX3_findAutomatic_106 (by decide) rfl rfl (leb rfl) (xx_out0 rfl)
      refine y_callV_v (pc := 106) (c_X3_weighRest hl ec) q1 mf_X3_weighRest tw_2_183 ts_2_2 lf_X3_132 rfl rfl dX3_findAutomatic_106 (by decide) rfl rfl (leb rfl) ?_
      refine x_aload_n (pc := 109) 0 dX3_findAutomatic_109 rfl ?_
      refine x_iload_n (pc := 110) 1 dX3_findAutomatic_110 rfl ?_
      refine x_aload_n (pc := 111) 0 dX3_findAutomatic_111 rfl ?_
      obtain ⟨q9, e⟩ := chk_some e
      obtain ⟨q10, e⟩ := chk_some e
      refine x_getR (pc := 112) gf_X3_30 rfl dX3_findAutomatic_112 q9 q10.1 ?_
      refine x_iload_n (pc := 115) 2 dX3_findAutomatic_115 rfl ?_
      obtain ⟨q11, e⟩ := chk_some e
      refine x_iald (pc := 116) dX3_findAutomatic_116 q10 q11 ?_
      refine x_isub (pc := 117) dX3_findAutomatic_117 ?_
      refine x_aload_n (pc := 118) 0 dX3_findAutomatic_118 rfl ?_
      obtain ⟨q12, e⟩ := chk_some e
      refine x_getR (pc := 119) gf_X3_33 rfl dX3_findAutomatic_119 q9 q12.1 ?_
      rcases bnd_some e with ⟨h13, r14, ec, rfl⟩ | ⟨h13, r14, ec, e⟩
      · exact y_callV_x (pc := 122) (c_X3_share hl ec) q9 mf_X3_share tw_2_160 ts_1_13 lf_X3_110 rfl rfl dX3_findAutomatic_122 (by decide) rfl rfl (leb rfl) (xx_out0 rfl)
      refine y_callV_v (pc := 122) (c_X3_share hl ec) q9 mf_X3_share tw_2_160 ts_1_13 lf_X3_110 rfl rfl dX3_findAutomatic_122 (by decide) rfl rfl (leb rfl) ?_
      cases Option.some.inj e
      exact x_vret (pc := 125) rfl dX3_findAutomatic_125
  · refine x_icmp_ge_f (pc := 71) (t := 94) dX3_findAutomatic_71 (by decide) q3 ?_
    refine x_aload_n (pc := 74) 0 dX3_findAutomatic_74 rfl ?_
    obtain ⟨q15, e⟩ := chk_some e
    refine x_getR (pc := 75) gf_X3_33 rfl dX3_findAutomatic_75 q1 q15.1 ?_
    refine x_iload_n (pc := 78) 3 dX3_findAutomatic_78 rfl ?_
    refine x_aload_n (pc := 79) 0 dX3_findAutomatic_79 rfl ?_
    obtain ⟨q16, e⟩ := chk_some e
    refine x_getR (pc := 80) gf_X3_27 rfl dX3_findAutomatic_80 q1 q16.1 ?_
    refine x_iload_n (pc := 83) 2 dX3_findAutomatic_83 rfl ?_
    obtain ⟨q17, e⟩ := chk_some e
    obtain ⟨q18, e⟩ := chk_some e
    refine x_aald (pc := 84) (t := 0) (by decide) dX3_findAutomatic_84 q16 q17 q18.1 ?_
    refine x_iload_n (pc := 85) 3 dX3_findAutomatic_85 rfl ?_
    obtain ⟨q19, e⟩ := chk_some e
    refine x_iald (pc := 86) dX3_findAutomatic_86 q18 q19 ?_
    obtain ⟨q20, e⟩ := chk_some e
    replace e := lt_go e
    refine x_iast (pc := 87) dX3_findAutomatic_87 q15 q20 ?_
    refine x_iinc (pc := 88) 3 dX3_findAutomatic_88 rfl (by decide) rfl ?_
    refine x_goto (pc := 91) (t := 63) dX3_findAutomatic_91 (by decide) ?_
    exact x_sub1 (hk63 _ _ _ _ _ _ e) [1, 2, 3, 0] rfl
noncomputable def f_X3_findAutomatic_L63 (n : Nat) : Hp → Nat → Int32 → Int32 → Int32 → Option (Rs Unit) := Nat.rec (motive := fun _ => Hp → Nat → Int32 → Int32 → Int32 → Option (Rs Unit)) (fun _ _ _ _ _ => none) (fun _ r => f_X3_findAutomatic_B63 r) n
theorem p_X3_findAutomatic_L63 {l : Launch} {K : Ctx} (hl : l.stackTraces = false) : ∀ (n : Nat) (h : Hp) (a0 : Nat) (i1 : Int32) (i2 : Int32) (i3 : Int32) (t : Rs Unit) (e : f_X3_findAutomatic_L63 n h a0 i1 i2 i3 = some t), X l K mM_X3_findAutomatic (tgV t) 63 [(0, .ref a0), (1, .int i1), (2, .int i2), (3, .int i3)] [] h := by
  intro n
  induction n with
  | zero => exact fun _ _ _ _ _ _ e => nomatch (show (none : Option (Rs Unit)) = some _ from e)
  | succ n ih => exact fun h a0 i1 i2 i3 t e => p_X3_findAutomatic_B63 hl (fun h a0 i1 i2 i3 t e => ih h a0 i1 i2 i3 t e) e
noncomputable def f_X3_findAutomatic_L55 (k38 : Hp → Nat → Int32 → Int32 → Int32 → Option (Rs Unit)) (h : Hp) (a0 : Nat) (i1 : Int32) (i2 : Int32) (i3 : Int32) : Option (Rs Unit) :=
  k38 h a0 i1 i2 (i3 + iN 1)
theorem p_X3_findAutomatic_L55 {l : Launch} {K : Ctx} (hl : l.stackTraces = false) {k38 : Hp → Nat → Int32 → Int32 → Int32 → Option (Rs Unit)} (hk38 : ∀ (h : Hp) (a0 : Nat) (i1 : Int32) (i2 : Int32) (i3 : Int32) (t : Rs Unit), k38 h a0 i1 i2 i3 = some t → X l K mM_X3_findAutomatic (tgV t) 38 [(0, .ref a0), (1, .int i1), (2, .int i2), (3, .int i3)] [] h) {h : Hp} {a0 : Nat} {i1 : Int32} {i2 : Int32} {i3 : Int32} {t : Rs Unit} (e : f_X3_findAutomatic_L55 k38 h a0 i1 i2 i3 = some t) : X l K mM_X3_findAutomatic (tgV t) 55 [(0, .ref a0), (1, .int i1), (2, .int i2), (3, .int i3)] [] h := by
  unfold f_X3_findAutomatic_L55 at e
  refine x_iinc (pc := 55) 3 dX3_findAutomatic_55 rfl (by decide) rfl ?_
  refine x_goto (pc := 58) (t := 38) dX3_findAutomatic_58 (by decide) ?_
  exact x_sub1 (hk38 _ _ _ _ _ _ e) [1, 2, 3, 0] rfl
noncomputable def f_X3_findAutomatic_B38 (k38 : Hp → Nat → Int32 → Int32 → Int32 → Option (Rs Unit)) (h : Hp) (a0 : Nat) (i1 : Int32) (i2 : Int32) (i3 : Int32) : Option (Rs Unit) :=
  if (iN 4) ≤ i3 then (
    f_X3_findAutomatic_L63 2000 h a0 i1 i2 (iN 0)
  ) else (
    chk (okr h a0 3) <|
    chk (okr h (qR h a0 5) 20) <|
    chk (vp_in i3 (qW h (qR h a0 5))) <|
    if i1 < (qI h (qR h a0 5) (Int32.toNatClampNeg i3)) then (
      f_X3_findAutomatic_L55 k38 h a0 i1 i2 i3
    ) else (
      f_X3_findAutomatic_L55 k38 h a0 i1 i3 i3
    )
  )
theorem p_X3_findAutomatic_B38 {l : Launch} {K : Ctx} (hl : l.stackTraces = false) {k38 : Hp → Nat → Int32 → Int32 → Int32 → Option (Rs Unit)} (hk38 : ∀ (h : Hp) (a0 : Nat) (i1 : Int32) (i2 : Int32) (i3 : Int32) (t : Rs Unit), k38 h a0 i1 i2 i3 = some t → X l K mM_X3_findAutomatic (tgV t) 38 [(0, .ref a0), (1, .int i1), (2, .int i2), (3, .int i3)] [] h) {h : Hp} {a0 : Nat} {i1 : Int32} {i2 : Int32} {i3 : Int32} {t : Rs Unit} (e : f_X3_findAutomatic_B38 k38 h a0 i1 i2 i3 = some t) : X l K mM_X3_findAutomatic (tgV t) 38 [(0, .ref a0), (1, .int i1), (2, .int i2), (3, .int i3)] [] h := by
  unfold f_X3_findAutomatic_B38 at e
  refine x_iload_n (pc := 38) 3 dX3_findAutomatic_38 rfl ?_
  refine x_iconst (pc := 39) dX3_findAutomatic_39 ?_
  rcases ite_some e with ⟨q1, e⟩ | ⟨q1, e⟩
  · refine x_icmp_ge_t (pc := 40) (t := 61) dX3_findAutomatic_40 (by decide) q1 ?_
    refine x_iconst (pc := 61) dX3_findAutomatic_61 ?_
    refine x_istore_n (pc := 62) dX3_findAutomatic_62 (by decide) rfl ?_
    exact x_sub1 (p_X3_findAutomatic_L63 hl 2000 _ _ _ _ _ _ e) [1, 2, 3, 0] rfl
  · refine x_icmp_ge_f (pc := 40) (t := 61) dX3_findAutomatic_40 (by decide) q1 ?_
    refine x_aload_n (pc := 43) 0 dX3_findAutomatic_43 rfl ?_
    obtain ⟨q2, e⟩ := chk_some e
    obtain ⟨q3, e⟩ := chk_some e
    refine x_getR (pc := 44) gf_X3_30 rfl dX3_findAutomatic_44 q2 q3.1 ?_
    refine x_iload_n (pc := 47) 3 dX3_findAutomatic_47 rfl ?_
    obtain ⟨q4, e⟩ := chk_some e
    refine x_iald (pc := 48) dX3_findAutomatic_48 q3 q4 ?_
    refine x_iload_n (pc := 49) 1 dX3_findAutomatic_49 rfl ?_
    rcases ite_some e with ⟨q5, e⟩ | ⟨q5, e⟩
    · refine x_icmp_gt_t (pc := 50) (t := 55) dX3_findAutomatic_50 (by decide) q5 ?_
      exact p_X3_findAutomatic_L55 hl hk38 e
    · refine x_icmp_gt_f (pc := 50) (t := 55) dX3_findAutomatic_50 (by decide) q5 ?_
      refine x_iload_n (pc := 53) 3 dX3_findAutomatic_53 rfl ?_
      refine x_istore_n (pc := 54) dX3_findAutomatic_54 (by decide) rfl ?_
      exact x_sub1 (p_X3_findAutomatic_L55 hl hk38 e) [1, 2, 0, 3] rfl
noncomputable def f_X3_findAutomatic_L38 (n : Nat) : Hp → Nat → Int32 → Int32 → Int32 → Option (Rs Unit) := Nat.rec (motive := fun _ => Hp → Nat → Int32 → Int32 → Int32 → Option (Rs Unit)) (fun _ _ _ _ _ => none) (fun _ r => f_X3_findAutomatic_B38 r) n
theorem p_X3_findAutomatic_L38 {l : Launch} {K : Ctx} (hl : l.stackTraces = false) : ∀ (n : Nat) (h : Hp) (a0 : Nat) (i1 : Int32) (i2 : Int32) (i3 : Int32) (t : Rs Unit) (e : f_X3_findAutomatic_L38 n h a0 i1 i2 i3 = some t), X l K mM_X3_findAutomatic (tgV t) 38 [(0, .ref a0), (1, .int i1), (2, .int i2), (3, .int i3)] [] h := by
  intro n
  induction n with
  | zero => exact fun _ _ _ _ _ _ e => nomatch (show (none : Option (Rs Unit)) = some _ from e)
  | succ n ih => exact fun h a0 i1 i2 i3 t e => p_X3_findAutomatic_B38 hl (fun h a0 i1 i2 i3 t e => ih h a0 i1 i2 i3 t e) e
noncomputable def f_X3_findAutomatic_L31 (h : Hp) (a0 : Nat) (i1 : Int32) (s0 : Int32) (s1 : Nat) : Option (Rs Unit) :=
  chk (okr h s1 3) <|
  chk (s0 = 0 ∨ s0 = 1) <|
  lt (putI h s1 7 s0) fun h3 =>
  f_X3_findAutomatic_L38 2000 h3 a0 i1 (iN 0) (iN 1)
theorem p_X3_findAutomatic_L31 {l : Launch} {K : Ctx} (hl : l.stackTraces = false) {h : Hp} {a0 : Nat} {i1 : Int32} {s0 : Int32} {s1 : Nat} {t : Rs Unit} (e : f_X3_findAutomatic_L31 h a0 i1 s0 s1 = some t) : X l K mM_X3_findAutomatic (tgV t) 31 [(0, .ref a0), (1, .int i1)] [.int s0, .ref s1] h := by
  unfold f_X3_findAutomatic_L31 at e
  obtain ⟨q1, e⟩ := chk_some e
  obtain ⟨q2, e⟩ := chk_some e
  replace e := lt_go e
  refine x_putI (pc := 31) pf_X3_128 rfl (nar_z q2) (fit_z q2) dX3_findAutomatic_31 q1 ?_
  refine x_iconst (pc := 34) dX3_findAutomatic_34 ?_
  refine x_istore_n (pc := 35) dX3_findAutomatic_35 (by decide) rfl ?_
  refine x_iconst (pc := 36) dX3_findAutomatic_36 ?_
  refine x_istore_n (pc := 37) dX3_findAutomatic_37 (by decide) rfl ?_
  exact x_sub1 (p_X3_findAutomatic_L38 hl 2000 _ _ _ _ _ _ e) [2, 3, 1, 0] rfl
noncomputable def f_X3_findAutomatic (h : Hp) (a0 : Nat) : Option (Rs Unit) :=
  chk (okr h a0 3) <|
  chk (okr h (qR h a0 0) 7) <|
  bnd (f_X7_usableWidth h (qR h a0 0) (qI h (qR h a0 0) 0)) fun h3 r4 =>
  chk (okr h3 a0 3) <|
  chk (okr h3 (qR h3 a0 5) 20) <|
  chk (vp_in (iN 0) (qW h3 (qR h3 a0 5))) <|
  if r4 < (qI h3 (qR h3 a0 5) (Int32.toNatClampNeg (iN 0))) then (
    f_X3_findAutomatic_L31 h3 a0 r4 (iN 0) a0
  ) else (
    f_X3_findAutomatic_L31 h3 a0 r4 (iN 1) a0
  )
theorem p_X3_findAutomatic {l : Launch} {K : Ctx} (hl : l.stackTraces = false) {h : Hp} {a0 : Nat} {t : Rs Unit} (e : f_X3_findAutomatic h a0 = some t) : X l K mM_X3_findAutomatic (tgV t) 0 [(0, .ref a0)] [] h := by
  unfold f_X3_findAutomatic at e
  refine x_aload_n (pc := 0) 0 dX3_findAutomatic_0 rfl ?_
  obtain ⟨q1, e⟩ := chk_some e
  obtain ⟨q2, e⟩ := chk_some e
  refine x_getR (pc := 1) gf_X3_9 rfl dX3_findAutomatic_1 q1 q2.1 ?_
  refine x_aload_n (pc := 4) 0 dX3_findAutomatic_4 rfl ?_
  refine x_getR (pc := 5) gf_X3_9 rfl dX3_findAutomatic_5 q1 q2.1 ?_
  refine x_getI (pc := 8) gf_X3_121 rfl dX3_findAutomatic_8 q2 ?_
  rcases bnd_some e with ⟨h3, r4, ec, rfl⟩ | ⟨h3, r4, ec, e⟩
  · exact y_callV_x (pc := 11) (c_X7_usableWidth hl ec) q2 mf_X7_usableWidth tw_2_175 ts_2_0 lf_X3_124 rfl rfl dX3_findAutomatic_11 (by decide) rfl rfl (leb rfl) (xx_out0 rfl)
  refine y_callV_i (pc := 11) (c_X7_usableWidth hl ec) q2 mf_X7_usableWidth tw_2_175 ts_2_0 lf_X3_124 rfl rfl dX3_findAutomatic_11 (by decide) rfl rfl (leb rfl) ?_
  refine x_istore_n (pc := 14) dX3_findAutomatic_14 (by decide) rfl ?_
  refine x_aload_n (pc := 15) 1 dX3_findAutomatic_15 rfl ?_
  refine x_iload_n (pc := 16) 0 dX3_findAutomatic_16 rfl ?_
  refine x_aload_n (pc := 17) 1 dX3_findAutomatic_17 rfl ?_
  obtain ⟨q5, e⟩ := chk_some e
  obtain ⟨q6, e⟩ := chk_some e
  refine x_getR (pc := 18) gf_X3_30 rfl dX3_findAutomatic_18 q5 q6.1 ?_
  refine x_iconst (pc := 21) dX3_findAutomatic_21 ?_
  obtain ⟨q7, e⟩ := chk_some e
  refine x_iald (pc := 22) dX3_findAutomatic_22 q6 q7 ?_
  rcases ite_some e with ⟨q8, e⟩ | ⟨q8, e⟩
  · refine x_icmp_lt_t (pc := 23) (t := 30) dX3_findAutomatic_23 (by decide) q8 ?_
    refine x_iconst (pc := 30) dX3_findAutomatic_30 ?_
    exact x_sub1 (p_X3_findAutomatic_L31 hl e) [1, 0] rfl
  · refine x_icmp_lt_f (pc := 23) (t := 30) dX3_findAutomatic_23 (by decide) q8 ?_
    refine x_iconst (pc := 26) dX3_findAutomatic_26 ?_
    refine x_goto (pc := 27) (t := 31) dX3_findAutomatic_27 (by decide) ?_
    exact x_sub1 (p_X3_findAutomatic_L31 hl e) [1, 0] rfl
abbrev w_X3_findAutomatic : Cond := (Cond.code yX3_findAutomatic cX3_findAutomatic 4 (Option.none : Option Jvm.ClassFile.FieldType))
theorem mf_X3_findAutomatic : MF yX3_findAutomatic w_X3_findAutomatic cX3_findAutomatic 4 (Option.none : Option Jvm.ClassFile.FieldType) 0 := ⟨⟨rfl, tw_2_180, by decide⟩, tw_1_5, ⟨by decide, by decide⟩, by decide +kernel⟩
theorem c_X3_findAutomatic {l : Launch} {K : Ctx} (hl : l.stackTraces = false) {h : Hp} {a0 : Nat} {t : Rs Unit} (e : f_X3_findAutomatic h a0 = some t) : Ctr l K 9 yX3_findAutomatic w_X3_findAutomatic [.ref a0] h (tgV t) :=
  Ctr.of hl mf_X3_findAutomatic false (fun q => nomatch q) rfl (leb rfl) (p_X3_findAutomatic hl e)
/-! ## TableColumnBalancer$Columns.measure -/
abbrev mM_X3_measure : Mi := (12, yX3_measure.cls, cX3_measure, 2, (Option.none : Option Jvm.ClassFile.FieldType), [], false)
noncomputable def f_X3_measure_B6 (k6 : Hp → Nat → Int32 → Option (Rs Unit)) (h : Hp) (a0 : Nat) (i1 : Int32) : Option (Rs Unit) :=
  chk (okr h a0 3) <|
  chk (okr h (qR h a0 0) 7) <|
  if (qI h (qR h a0 0) 3) < i1 then (
    bnd (f_X3_findPercentages h a0) fun h4 _ =>
    chk (okr h4 a0 3) <|
    bnd (f_X3_findGuesses h4 a0) fun h7 _ =>
    chk (okr h7 a0 3) <|
    bnd (f_X3_findAutomatic h7 a0) fun h10 _ =>
    some (h10, .inr ())
  ) else (
    bnd (f_X3_measureCellsOfSpan h a0 i1) fun h12 _ =>
    k6 h12 a0 (i1 + iN 1)
  )
theorem p_X3_measure_B6 {l : Launch} {K : Ctx} (hl : l.stackTraces = false) {k6 : Hp → Nat → Int32 → Option (Rs Unit)} (hk6 : ∀ (h : Hp) (a0 : Nat) (i1 : Int32) (t : Rs Unit), k6 h a0 i1 = some t → X l K mM_X3_measure (tgV t) 6 [(0, .ref a0), (1, .int i1)] [] h) {h : Hp} {a0 : Nat} {i1 : Int32} {t : Rs Unit} (e : f_X3_measure_B6 k6 h a0 i1 = some t) : X l K mM_X3_measure (tgV t) 6 [(0, .ref a0), (1, .int i1)] [] h := by
  unfold f_X3_measure_B6 at e
  refine x_iload_n (pc := 6) 1 dX3_measure_6 rfl ?_
  refine x_aload_n (pc := 7) 0 dX3_measure_7 rfl ?_
  obtain ⟨q1, e⟩ := chk_some e
  obtain ⟨q2, e⟩ := chk_some e
  refine x_getR (pc := 8) gf_X3_9 rfl dX3_measure_8 q1 q2.1 ?_
  refine x_getI (pc := 11) gf_X3_42 rfl dX3_measure_11 q2 ?_
  rcases ite_some e with ⟨q3, e⟩ | ⟨q3, e⟩
  · refine x_icmp_gt_t (pc := 14) (t := 28) dX3_measure_14 (by decide) q3 ?_
    refine x_aload_n (pc := 28) 0 dX3_measure_28 rfl ?_
    rcases bnd_some e with ⟨h4, r5, ec, rfl⟩ | ⟨h4, r5, ec, e⟩
    · exact y_callV_x (pc := 29) (c_X3_findPercentages hl ec) q1 mf_X3_findPercentages tw_2_164 ts_1_14 lf_X3_52 rfl rfl dX3_measure_29 (by decide) rfl rfl (leb rfl) (xx_out0 rfl)
    refine y_callV_v (pc := 29) (c_X3_findPercentages hl ec) q1 mf_X3_findPercentages tw_2_164 ts_1_14 lf_X3_52 rfl rfl dX3_measure_29 (by decide) rfl rfl (leb rfl) ?_
    refine x_aload_n (pc := 32) 0 dX3_measure_32 rfl ?_
    obtain ⟨q6, e⟩ := chk_some e
    rcases bnd_some e with ⟨h7, r8, ec, rfl⟩ | ⟨h7, r8, ec, e⟩
    · exact y_callV_x (pc := 33) (c_X3_findGuesses hl ec) q6 mf_X3_findGuesses tw_2_171 ts_1_15 lf_X3_55 rfl rfl dX3_measure_33 (by decide) rfl rfl (leb rfl) (xx_out0 rfl)
    refine y_callV_v (pc := 33) (c_X3_findGuesses hl ec) q6 mf_X3_findGuesses tw_2_171 ts_1_15 lf_X3_55 rfl rfl dX3_measure_33 (by decide) rfl rfl (leb rfl) ?_
    refine x_aload_n (pc := 36) 0 dX3_measure_36 rfl ?_
    obtain ⟨q9, e⟩ := chk_some e
    rcases bnd_some e with ⟨h10, r11, ec, rfl⟩ | ⟨h10, r11, ec, e⟩
    · exact y_callV_x (pc := 37) (c_X3_findAutomatic hl ec) q9 mf_X3_findAutomatic tw_2_179 ts_2_1 lf_X3_58 rfl rfl dX3_measure_37 (by decide) rfl rfl (leb rfl) (xx_out0 rfl)
    refine y_callV_v (pc := 37) (c_X3_findAutomatic hl ec) q9 mf_X3_findAutomatic tw_2_179 ts_2_1 lf_X3_58 rfl rfl dX3_measure_37 (by decide) rfl rfl (leb rfl) ?_
    cases Option.some.inj e
    exact x_vret (pc := 40) rfl dX3_measure_40
  · refine x_icmp_gt_f (pc := 14) (t := 28) dX3_measure_14 (by decide) q3 ?_
    refine x_aload_n (pc := 17) 0 dX3_measure_17 rfl ?_
    refine x_iload_n (pc := 18) 1 dX3_measure_18 rfl ?_
    rcases bnd_some e with ⟨h12, r13, ec, rfl⟩ | ⟨h12, r13, ec, e⟩
    · exact y_callV_x (pc := 19) (c_X3_measureCellsOfSpan hl ec) q1 mf_X3_measureCellsOfSpan tw_2_140 ts_1_8 lf_X3_48 rfl rfl dX3_measure_19 (by decide) rfl rfl (leb rfl) (xx_out0 rfl)
    refine y_callV_v (pc := 19) (c_X3_measureCellsOfSpan hl ec) q1 mf_X3_measureCellsOfSpan tw_2_140 ts_1_8 lf_X3_48 rfl rfl dX3_measure_19 (by decide) rfl rfl (leb rfl) ?_
    refine x_iinc (pc := 22) 1 dX3_measure_22 rfl (by decide) rfl ?_
    refine x_goto (pc := 25) (t := 6) dX3_measure_25 (by decide) ?_
    exact x_sub1 (hk6 _ _ _ _ e) [1, 0] rfl
noncomputable def f_X3_measure_L6 (n : Nat) : Hp → Nat → Int32 → Option (Rs Unit) := Nat.rec (motive := fun _ => Hp → Nat → Int32 → Option (Rs Unit)) (fun _ _ _ => none) (fun _ r => f_X3_measure_B6 r) n
theorem p_X3_measure_L6 {l : Launch} {K : Ctx} (hl : l.stackTraces = false) : ∀ (n : Nat) (h : Hp) (a0 : Nat) (i1 : Int32) (t : Rs Unit) (e : f_X3_measure_L6 n h a0 i1 = some t), X l K mM_X3_measure (tgV t) 6 [(0, .ref a0), (1, .int i1)] [] h := by
  intro n
  induction n with
  | zero => exact fun _ _ _ _ e => nomatch (show (none : Option (Rs Unit)) = some _ from e)
  | succ n ih => exact fun h a0 i1 t e => p_X3_measure_B6 hl (fun h a0 i1 t e => ih h a0 i1 t e) e
noncomputable def f_X3_measure (h : Hp) (a0 : Nat) : Option (Rs Unit) :=
  chk (okr h a0 3) <|
  bnd (f_X3_measureSingleCells h a0) fun h2 _ =>
  f_X3_measure_L6 2000 h2 a0 (iN 2)
theorem p_X3_measure {l : Launch} {K : Ctx} (hl : l.stackTraces = false) {h : Hp} {a0 : Nat} {t : Rs Unit} (e : f_X3_measure h a0 = some t) : X l K mM_X3_measure (tgV t) 0 [(0, .ref a0)] [] h := by
  unfold f_X3_measure at e
  refine x_aload_n (pc := 0) 0 dX3_measure_0 rfl ?_
  obtain ⟨q1, e⟩ := chk_some e
  rcases bnd_some e with ⟨h2, r3, ec, rfl⟩ | ⟨h2, r3, ec, e⟩
  · exact y_callV_x (pc := 1) (c_X3_measureSingleCells hl ec) q1 mf_X3_measureSingleCells tw_2_108 ts_1_1 lf_X3_39 rfl rfl dX3_measure_1 (by decide) rfl rfl (leb rfl) (xx_out0 rfl)
  refine y_callV_v (pc := 1) (c_X3_measureSingleCells hl ec) q1 mf_X3_measureSingleCells tw_2_108 ts_1_1 lf_X3_39 rfl rfl dX3_measure_1 (by decide) rfl rfl (leb rfl) ?_
  refine x_iconst (pc := 4) dX3_measure_4 ?_
  refine x_istore_n (pc := 5) dX3_measure_5 (by decide) rfl ?_
  exact x_sub1 (p_X3_measure_L6 hl 2000 _ _ _ _ e) [1, 0] rfl
abbrev w_X3_measure : Cond := (Cond.code yX3_measure cX3_measure 2 (Option.none : Option Jvm.ClassFile.FieldType))
theorem mf_X3_measure : MF yX3_measure w_X3_measure cX3_measure 2 (Option.none : Option Jvm.ClassFile.FieldType) 0 := ⟨⟨rfl, tw_2_105, by decide⟩, tw_1_5, ⟨by decide, by decide⟩, by decide +kernel⟩
theorem c_X3_measure {l : Launch} {K : Ctx} (hl : l.stackTraces = false) {h : Hp} {a0 : Nat} {t : Rs Unit} (e : f_X3_measure h a0 = some t) : Ctr l K 12 yX3_measure w_X3_measure [.ref a0] h (tgV t) :=
  Ctr.of hl mf_X3_measure false (fun q => nomatch q) rfl (leb rfl) (p_X3_measure hl e)
/-! ## TableColumnBalancer$Search.isFree -/
abbrev mM_X6_isFree : Mi := (8, yX6_isFree.cls, cX6_isFree, 2, (Option.some Jvm.ClassFile.FieldType.boolean), [], false)
noncomputable def f_X6_isFree (h : Hp) (a0 : Nat) (i1 : Int32) : Option (Rs Int32) :=
  chk (okr h a0 6) <|
  chk (okr h (qR h a0 0) 7) <|
  chk (okr h (qR h (qR h a0 0) 6) 20) <|
  chk (vp_in i1 (qW h (qR h (qR h a0 0) 6))) <|
  if (qI h (qR h (qR h a0 0) 6) (Int32.toNatClampNeg i1)) = (iN 1) then (
    some (h, .inr (iN 0))
  ) else (
    some (h, .inr (iN 1))
  )
theorem p_X6_isFree {l : Launch} {K : Ctx} (hl : l.stackTraces = false) {h : Hp} {a0 : Nat} {i1 : Int32} {t : Rs Int32} (e : f_X6_isFree h a0 i1 = some t) : X l K mM_X6_isFree (tgI t) 0 [(0, .ref a0), (1, .int i1)] [] h := by
  unfold f_X6_isFree at e
  refine x_aload_n (pc := 0) 0 dX6_isFree_0 rfl ?_
  obtain ⟨q1, e⟩ := chk_some e
  obtain ⟨q2, e⟩ := chk_some e
  refine x_getR (pc := 1) gf_X6_9 rfl dX6_isFree_1 q1 q2.1 ?_
  obtain ⟨q3, e⟩ := chk_some e
  refine x_getR (pc := 4) gf_X6_88 rfl dX6_isFree_4 q2 q3.1 ?_
  refine x_iload_n (pc := 7) 1 dX6_isFree_7 rfl ?_
  obtain ⟨q4, e⟩ := chk_some e
  refine x_iald (pc := 8) dX6_isFree_8 q3 q4 ?_
  refine x_iconst (pc := 9) dX6_isFree_9 ?_
  rcases ite_some e with ⟨q5, e⟩ | ⟨q5, e⟩
  · refine x_icmp_eq_t (pc := 10) (t := 17) dX6_isFree_10 (by decide) q5 ?_
    refine x_iconst (pc := 17) dX6_isFree_17 ?_
    cases Option.some.inj e
    exact x_zret (pc := 18) rfl (Or.inl rfl) dX6_isFree_18
  · refine x_icmp_eq_f (pc := 10) (t := 17) dX6_isFree_10 (by decide) q5 ?_
    refine x_iconst (pc := 13) dX6_isFree_13 ?_
    refine x_goto (pc := 14) (t := 18) dX6_isFree_14 (by decide) ?_
    cases Option.some.inj e
    exact x_zret (pc := 18) rfl (Or.inr rfl) dX6_isFree_18
abbrev w_X6_isFree : Cond := (Cond.code yX6_isFree cX6_isFree 2 (Option.some Jvm.ClassFile.FieldType.boolean))
theorem mf_X6_isFree : MF yX6_isFree w_X6_isFree cX6_isFree 2 (Option.some Jvm.ClassFile.FieldType.boolean) 1 := ⟨⟨rfl, tw_2_193, by decide⟩, tw_1_6, ⟨by decide, by decide⟩, by decide +kernel⟩
theorem c_X6_isFree {l : Launch} {K : Ctx} (hl : l.stackTraces = false) {h : Hp} {a0 : Nat} {i1 : Int32} {t : Rs Int32} (e : f_X6_isFree h a0 i1 = some t) : Ctr l K 8 yX6_isFree w_X6_isFree [.ref a0, .int i1] h (tgI t) :=
  Ctr.of hl mf_X6_isFree false (fun q => nomatch q) rfl (leb rfl) (p_X6_isFree hl e)
/-! ## Arrays.fill -/
abbrev mM_J7_fill_53178 : Mi := (8, yJ7_fill_53178.cls, cJ7_fill_53178, 4, (Option.none : Option Jvm.ClassFile.FieldType), [], false)
noncomputable def f_J7_fill_53178_B5 (k5 : Hp → Nat → Int32 → Int32 → Int32 → Option (Rs Unit)) (h : Hp) (a0 : Nat) (i1 : Int32) (i2 : Int32) (i3 : Int32) : Option (Rs Unit) :=
  if i3 ≤ i2 then (
    some (h, .inr ())
  ) else (
    chk (okr h a0 20) <|
    chk (vp_in i2 (qW h a0)) <|
    lt (putI h a0 (Int32.toNatClampNeg i2) i1) fun h4 =>
    k5 h4 a0 i1 (i2 + iN 1) i3
  )
theorem p_J7_fill_53178_B5 {l : Launch} {K : Ctx} (hl : l.stackTraces = false) {k5 : Hp → Nat → Int32 → Int32 → Int32 → Option (Rs Unit)} (hk5 : ∀ (h : Hp) (a0 : Nat) (i1 : Int32) (i2 : Int32) (i3 : Int32) (t : Rs Unit), k5 h a0 i1 i2 i3 = some t → X l K mM_J7_fill_53178 (tgV t) 5 [(0, .ref a0), (1, .int i1), (2, .int i2), (3, .int i3)] [] h) {h : Hp} {a0 : Nat} {i1 : Int32} {i2 : Int32} {i3 : Int32} {t : Rs Unit} (e : f_J7_fill_53178_B5 k5 h a0 i1 i2 i3 = some t) : X l K mM_J7_fill_53178 (tgV t) 5 [(0, .ref a0), (1, .int i1), (2, .int i2), (3, .int i3)] [] h := by
  unfold f_J7_fill_53178_B5 at e
  refine x_iload_n (pc := 5) 2 dJ7_fill_53178_5 rfl ?_
  refine x_iload_n (pc := 6) 3 dJ7_fill_53178_6 rfl ?_
  rcases ite_some e with ⟨q1, e⟩ | ⟨q1, e⟩
  · refine x_icmp_ge_t (pc := 7) (t := 20) dJ7_fill_53178_7 (by decide) q1 ?_
    cases Option.some.inj e
    exact x_vret (pc := 20) rfl dJ7_fill_53178_20
  · refine x_icmp_ge_f (pc := 7) (t := 20) dJ7_fill_53178_7 (by decide) q1 ?_
    refine x_aload_n (pc := 10) 0 dJ7_fill_53178_10 rfl ?_
    refine x_iload_n (pc := 11) 2 dJ7_fill_53178_11 rfl ?_
    refine x_iload_n (pc := 12) 1 dJ7_fill_53178_12 rfl ?_
    obtain ⟨q2, e⟩ := chk_some e
    obtain ⟨q3, e⟩ := chk_some e
    replace e := lt_go e
    refine x_iast (pc := 13) dJ7_fill_53178_13 q2 q3 ?_
    refine x_iinc (pc := 14) 2 dJ7_fill_53178_14 rfl (by decide) rfl ?_
    refine x_goto (pc := 17) (t := 5) dJ7_fill_53178_17 (by decide) ?_
    exact x_sub1 (hk5 _ _ _ _ _ _ e) [1, 2, 0, 3] rfl
noncomputable def f_J7_fill_53178_L5 (n : Nat) : Hp → Nat → Int32 → Int32 → Int32 → Option (Rs Unit) := Nat.rec (motive := fun _ => Hp → Nat → Int32 → Int32 → Int32 → Option (Rs Unit)) (fun _ _ _ _ _ => none) (fun _ r => f_J7_fill_53178_B5 r) n
theorem p_J7_fill_53178_L5 {l : Launch} {K : Ctx} (hl : l.stackTraces = false) : ∀ (n : Nat) (h : Hp) (a0 : Nat) (i1 : Int32) (i2 : Int32) (i3 : Int32) (t : Rs Unit) (e : f_J7_fill_53178_L5 n h a0 i1 i2 i3 = some t), X l K mM_J7_fill_53178 (tgV t) 5 [(0, .ref a0), (1, .int i1), (2, .int i2), (3, .int i3)] [] h := by
  intro n
  induction n with
  | zero => exact fun _ _ _ _ _ _ e => nomatch (show (none : Option (Rs Unit)) = some _ from e)
  | succ n ih => exact fun h a0 i1 i2 i3 t e => p_J7_fill_53178_B5 hl (fun h a0 i1 i2 i3 t e => ih h a0 i1 i2 i3 t e) e
noncomputable def f_J7_fill_53178 (h : Hp) (a0 : Nat) (i1 : Int32) : Option (Rs Unit) :=
  chk (okr h a0 20) <|
  f_J7_fill_53178_L5 2000 h a0 i1 (iN 0) (Int32.ofNat (qW h a0))
theorem p_J7_fill_53178 {l : Launch} {K : Ctx} (hl : l.stackTraces = false) {h : Hp} {a0 : Nat} {i1 : Int32} {t : Rs Unit} (e : f_J7_fill_53178 h a0 i1 = some t) : X l K mM_J7_fill_53178 (tgV t) 0 [(0, .ref a0), (1, .int i1)] [] h := by
  unfold f_J7_fill_53178 at e
  refine x_iconst (pc := 0) dJ7_fill_53178_0 ?_
  refine x_istore_n (pc := 1) dJ7_fill_53178_1 (by decide) rfl ?_
  refine x_aload_n (pc := 2) 1 dJ7_fill_53178_2 rfl ?_
  obtain ⟨q1, e⟩ := chk_some e
  refine x_alen (pc := 3) dJ7_fill_53178_3 q1 ?_
  refine x_istore_n (pc := 4) dJ7_fill_53178_4 (by decide) rfl ?_
  exact x_sub1 (p_J7_fill_53178_L5 hl 2000 _ _ _ _ _ _ e) [2, 3, 1, 0] rfl
abbrev w_J7_fill_53178 : Cond := (Cond.code yJ7_fill_53178 cJ7_fill_53178 4 (Option.none : Option Jvm.ClassFile.FieldType))
theorem mf_J7_fill_53178 : MF yJ7_fill_53178 w_J7_fill_53178 cJ7_fill_53178 4 (Option.none : Option Jvm.ClassFile.FieldType) 2 := ⟨⟨rfl, tw_2_196, by decide⟩, tw_1_10, ⟨by decide, by decide⟩, by decide +kernel⟩
theorem c_J7_fill_53178 {l : Launch} {K : Ctx} (hl : l.stackTraces = false) {h : Hp} {a0 : Nat} {i1 : Int32} {t : Rs Unit} (e : f_J7_fill_53178 h a0 i1 = some t) : Ctr l K 8 yJ7_fill_53178 w_J7_fill_53178 [.ref a0, .int i1] h (tgV t) :=
  Ctr.of hl mf_J7_fill_53178 false (fun q => nomatch q) rfl (leb rfl) (p_J7_fill_53178 hl e)
/-! ## TableColumnBalancer$Search.restart -/
abbrev mM_X6_restart : Mi := (9, yX6_restart.cls, cX6_restart, 3, (Option.none : Option Jvm.ClassFile.FieldType), [], false)
noncomputable def f_X6_restart_L97 (k17 : Hp → Nat → Int32 → Option (Rs Unit)) (h : Hp) (a0 : Nat) (i2 : Int32) (s0 : Int32) (s1 : Nat) : Option (Rs Unit) :=
  chk (okr h s1 6) <|
  lt (putI h s1 6 s0) fun h2 =>
  k17 h2 a0 (i2 + iN 1)
theorem p_X6_restart_L97 {l : Launch} {K : Ctx} (hl : l.stackTraces = false) {k17 : Hp → Nat → Int32 → Option (Rs Unit)} (hk17 : ∀ (h : Hp) (a0 : Nat) (i2 : Int32) (t : Rs Unit), k17 h a0 i2 = some t → X l K mM_X6_restart (tgV t) 17 [(0, .ref a0), (2, .int i2)] [] h) {h : Hp} {a0 : Nat} {i2 : Int32} {s0 : Int32} {s1 : Nat} {t : Rs Unit} (e : f_X6_restart_L97 k17 h a0 i2 s0 s1 = some t) : X l K mM_X6_restart (tgV t) 97 [(0, .ref a0), (2, .int i2)] [.int s0, .ref s1] h := by
  unfold f_X6_restart_L97 at e
  obtain ⟨q1, e⟩ := chk_some e
  replace e := lt_go e
  refine x_putI (pc := 97) pf_X6_44 rfl rfl rfl dX6_restart_97 q1 ?_
  refine x_iinc (pc := 100) 1 dX6_restart_100 rfl (by decide) rfl ?_
  refine x_goto (pc := 103) (t := 17) dX6_restart_103 (by decide) ?_
  exact x_sub1 (hk17 _ _ _ _ e) [1, 0] rfl
noncomputable def f_X6_restart_L64 (k17 : Hp → Nat → Int32 → Option (Rs Unit)) (h : Hp) (a0 : Nat) (i2 : Int32) (s0 : Int32) (s1 : Int32) (s2 : Nat) : Option (Rs Unit) :=
  chk (okr h s2 20) <|
  chk (vp_in s1 (qW h s2)) <|
  lt (putI h s2 (Int32.toNatClampNeg s1) s0) fun h3 =>
  chk (okr h3 a0 6) <|
  chk (okr h3 (qR h3 a0 4) 20) <|
  chk (vp_in i2 (qW h3 (qR h3 a0 4))) <|
  lt (putI h3 a0 5 ((qI h3 a0 5) + (qI h3 (qR h3 a0 4) (Int32.toNatClampNeg i2)))) fun h7 =>
  bnd (f_X6_isFree h7 a0 i2) fun h8 r9 =>
  if r9 = 0 then (
    chk (okr h8 a0 6) <|
    f_X6_restart_L97 k17 h8 a0 i2 (qI h8 a0 6) a0
  ) else (
    f_X6_restart_L97 k17 h8 a0 i2 i2 a0
  )
theorem p_X6_restart_L64 {l : Launch} {K : Ctx} (hl : l.stackTraces = false) {k17 : Hp → Nat → Int32 → Option (Rs Unit)} (hk17 : ∀ (h : Hp) (a0 : Nat) (i2 : Int32) (t : Rs Unit), k17 h a0 i2 = some t → X l K mM_X6_restart (tgV t) 17 [(0, .ref a0), (2, .int i2)] [] h) {h : Hp} {a0 : Nat} {i2 : Int32} {s0 : Int32} {s1 : Int32} {s2 : Nat} {t : Rs Unit} (e : f_X6_restart_L64 k17 h a0 i2 s0 s1 s2 = some t) : X l K mM_X6_restart (tgV t) 64 [(0, .ref a0), (2, .int i2)] [.int s0, .int s1, .ref s2] h := by
  unfold f_X6_restart_L64 at e
  obtain ⟨q1, e⟩ := chk_some e
  obtain ⟨q2, e⟩ := chk_some e
  replace e := lt_go e
  refine x_iast (pc := 64) dX6_restart_64 q1 q2 ?_
  refine x_aload_n (pc := 65) 0 dX6_restart_65 rfl ?_
  refine x_dup (pc := 66) dX6_restart_66 rfl ?_
  obtain ⟨q4, e⟩ := chk_some e
  refine x_getI (pc := 67) gf_X6_41 rfl dX6_restart_67 q4 ?_
  refine x_aload_n (pc := 70) 0 dX6_restart_70 rfl ?_
  obtain ⟨q5, e⟩ := chk_some e
  refine x_getR (pc := 71) gf_X6_28 rfl dX6_restart_71 q4 q5.1 ?_
  refine x_iload_n (pc := 74) 1 dX6_restart_74 rfl ?_
  obtain ⟨q6, e⟩ := chk_some e
  refine x_iald (pc := 75) dX6_restart_75 q5 q6 ?_
  refine x_iadd (pc := 76) dX6_restart_76 ?_
  replace e := lt_go e
  refine x_putI (pc := 77) pf_X6_41 rfl rfl rfl dX6_restart_77 q4 ?_
  refine x_aload_n (pc := 80) 0 dX6_restart_80 rfl ?_
  refine x_aload_n (pc := 81) 0 dX6_restart_81 rfl ?_
  refine x_iload_n (pc := 82) 1 dX6_restart_82 rfl ?_
  rcases bnd_some e with ⟨h8, r9, ec, rfl⟩ | ⟨h8, r9, ec, e⟩
  · exact y_callV_x (pc := 83) (c_X6_isFree hl ec) (okr_pI q4) mf_X6_isFree tw_2_192 ts_2_4 lf_X6_52 rfl rfl dX6_restart_83 (by decide) rfl rfl (leb rfl) (xx_out0 rfl)
  refine y_callV_i (pc := 83) (c_X6_isFree hl ec) (okr_pI q4) mf_X6_isFree tw_2_192 ts_2_4 lf_X6_52 rfl rfl dX6_restart_83 (by decide) rfl rfl (leb rfl) ?_
  rcases ite_some e with ⟨q10, e⟩ | ⟨q10, e⟩
  · refine x_if_eq_t (pc := 86) (t := 93) dX6_restart_86 (by decide) q10 ?_
    refine x_aload_n (pc := 93) 0 dX6_restart_93 rfl ?_
    obtain ⟨q11, e⟩ := chk_some e
    refine x_getI (pc := 94) gf_X6_44 rfl dX6_restart_94 q11 ?_
    exact p_X6_restart_L97 hl hk17 e
  · refine x_if_eq_f (pc := 86) (t := 93) dX6_restart_86 (by decide) q10 ?_
    refine x_iload_n (pc := 89) 1 dX6_restart_89 rfl ?_
    refine x_goto (pc := 90) (t := 97) dX6_restart_90 (by decide) ?_
    exact p_X6_restart_L97 hl hk17 e
noncomputable def f_X6_restart_B17 (k17 : Hp → Nat → Int32 → Option (Rs Unit)) (h : Hp) (a0 : Nat) (i2 : Int32) : Option (Rs Unit) :=
  chk (okr h a0 6) <|
  chk (okr h (qR h a0 0) 7) <|
  if (qI h (qR h a0 0) 3) ≤ i2 then (
    chk (okr h (qR h a0 2) 20) <|
    bnd (f_J7_fill_53178 h (qR h a0 2) (iN (-2))) fun h5 _ =>
    some (h5, .inr ())
  ) else (
    chk (okr h (qR h a0 4) 20) <|
    bnd (f_X6_isFree h a0 i2) fun h8 r9 =>
    if r9 = 0 then (
      chk (okr h8 a0 6) <|
      chk (okr h8 (qR h8 a0 1) 3) <|
      chk (okr h8 (qR h8 (qR h8 a0 1) 4) 24) <|
      chk (vp_in (iN 2) (qW h8 (qR h8 (qR h8 a0 1) 4))) <|
      chk (okr h8 (qR h8 (qR h8 (qR h8 a0 1) 4) (Int32.toNatClampNeg (iN 2))) 20) <|
      chk (vp_in i2 (qW h8 (qR h8 (qR h8 (qR h8 a0 1) 4) (Int32.toNatClampNeg (iN 2))))) <|
      f_X6_restart_L64 k17 h8 a0 i2 (qI h8 (qR h8 (qR h8 (qR h8 a0 1) 4) (Int32.toNatClampNeg (iN 2))) (Int32.toNatClampNeg i2)) i2 (qR h a0 4)
    ) else (
      chk (okr h8 a0 6) <|
      chk (okr h8 (qR h8 a0 1) 3) <|
      chk (okr h8 (qR h8 (qR h8 a0 1) 1) 20) <|
      chk (vp_in i2 (qW h8 (qR h8 (qR h8 a0 1) 1))) <|
      f_X6_restart_L64 k17 h8 a0 i2 (qI h8 (qR h8 (qR h8 a0 1) 1) (Int32.toNatClampNeg i2)) i2 (qR h a0 4)
    )
  )
theorem p_X6_restart_B17 {l : Launch} {K : Ctx} (hl : l.stackTraces = false) {k17 : Hp → Nat → Int32 → Option (Rs Unit)} (hk17 : ∀ (h : Hp) (a0 : Nat) (i2 : Int32) (t : Rs Unit), k17 h a0 i2 = some t → X l K mM_X6_restart (tgV t) 17 [(0, .ref a0), (2, .int i2)] [] h) {h : Hp} {a0 : Nat} {i2 : Int32} {t : Rs Unit} (e : f_X6_restart_B17 k17 h a0 i2 = some t) : X l K mM_X6_restart (tgV t) 17 [(0, .ref a0), (2, .int i2)] [] h := by
  unfold f_X6_restart_B17 at e
  refine x_iload_n (pc := 17) 1 dX6_restart_17 rfl ?_
  refine x_aload_n (pc := 18) 0 dX6_restart_18 rfl ?_
  obtain ⟨q1, e⟩ := chk_some e
  obtain ⟨q2, e⟩ := chk_some e
  refine x_getR (pc := 19) gf_X6_9 rfl dX6_restart_19 q1 q2.1 ?_
  refine x_getI (pc := 22) gf_X6_47 rfl dX6_restart_22 q2 ?_
  rcases ite_some e with ⟨q3, e⟩ | ⟨q3, e⟩
  · refine x_icmp_ge_t (pc := 25) (t := 106) dX6_restart_25 (by decide) q3 ?_
    refine x_aload_n (pc := 106) 0 dX6_restart_106 rfl ?_
    obtain ⟨q4, e⟩ := chk_some e
    refine x_getR (pc := 107) gf_X6_19 rfl dX6_restart_107 q1 q4.1 ?_
    refine x_bipush (pc := 110) (v := iN (-2)) dX6_restart_110 rfl ?_
    rcases bnd_some e with ⟨h5, r6, ec, rfl⟩ | ⟨h5, r6, ec, e⟩
    · exact y_callS_x (pc := 112) (c_J7_fill_53178 hl ec) mf_J7_fill_53178 tw_2_195 lf_X6_64 dX6_restart_112 (by decide) rfl rfl (leb rfl) (xx_out0 rfl)
    refine y_callS_v (pc := 112) (c_J7_fill_53178 hl ec) mf_J7_fill_53178 tw_2_195 lf_X6_64 dX6_restart_112 (by decide) rfl rfl (leb rfl) ?_
    cases Option.some.inj e
    exact x_vret (pc := 115) rfl dX6_restart_115
  · refine x_icmp_ge_f (pc := 25) (t := 106) dX6_restart_25 (by decide) q3 ?_
    refine x_aload_n (pc := 28) 0 dX6_restart_28 rfl ?_
    obtain ⟨q7, e⟩ := chk_some e
    refine x_getR (pc := 29) gf_X6_28 rfl dX6_restart_29 q1 q7.1 ?_
    refine x_iload_n (pc := 32) 1 dX6_restart_32 rfl ?_
    refine x_aload_n (pc := 33) 0 dX6_restart_33 rfl ?_
    refine x_iload_n (pc := 34) 1 dX6_restart_34 rfl ?_
    rcases bnd_some e with ⟨h8, r9, ec, rfl⟩ | ⟨h8, r9, ec, e⟩
    · exact y_callV_x (pc := 35) (c_X6_isFree hl ec) q1 mf_X6_isFree tw_2_192 ts_2_4 lf_X6_52 rfl rfl dX6_restart_35 (by decide) rfl rfl (leb rfl) (xx_out0 rfl)
    refine y_callV_i (pc := 35) (c_X6_isFree hl ec) q1 mf_X6_isFree tw_2_192 ts_2_4 lf_X6_52 rfl rfl dX6_restart_35 (by decide) rfl rfl (leb rfl) ?_
    rcases ite_some e with ⟨q10, e⟩ | ⟨q10, e⟩
    · refine x_if_eq_t (pc := 38) (t := 53) dX6_restart_38 (by decide) q10 ?_
      refine x_aload_n (pc := 53) 0 dX6_restart_53 rfl ?_
      obtain ⟨q11, e⟩ := chk_some e
      obtain ⟨q12, e⟩ := chk_some e
      refine x_getR (pc := 54) gf_X6_15 rfl dX6_restart_54 q11 q12.1 ?_
      obtain ⟨q13, e⟩ := chk_some e
      refine x_getR (pc := 57) gf_X6_61 rfl dX6_restart_57 q12 q13.1 ?_
      refine x_iconst (pc := 60) dX6_restart_60 ?_
      obtain ⟨q14, e⟩ := chk_some e
      obtain ⟨q15, e⟩ := chk_some e
      refine x_aald (pc := 61) (t := 0) (by decide) dX6_restart_61 q13 q14 q15.1 ?_
      refine x_iload_n (pc := 62) 1 dX6_restart_62 rfl ?_
      obtain ⟨q16, e⟩ := chk_some e
      refine x_iald (pc := 63) dX6_restart_63 q15 q16 ?_
      exact p_X6_restart_L64 hl hk17 e
    · refine x_if_eq_f (pc := 38) (t := 53) dX6_restart_38 (by decide) q10 ?_
      refine x_aload_n (pc := 41) 0 dX6_restart_41 rfl ?_
      obtain ⟨q17, e⟩ := chk_some e
      obtain ⟨q18, e⟩ := chk_some e
      refine x_getR (pc := 42) gf_X6_15 rfl dX6_restart_42 q17 q18.1 ?_
      obtain ⟨q19, e⟩ := chk_some e
      refine x_getR (pc := 45) gf_X6_56 rfl dX6_restart_45 q18 q19.1 ?_
      refine x_iload_n (pc := 48) 1 dX6_restart_48 rfl ?_
      obtain ⟨q20, e⟩ := chk_some e
      refine x_iald (pc := 49) dX6_restart_49 q19 q20 ?_
      refine x_goto (pc := 50) (t := 64) dX6_restart_50 (by decide) ?_
      exact p_X6_restart_L64 hl hk17 e
noncomputable def f_X6_restart_L17 (n : Nat) : Hp → Nat → Int32 → Option (Rs Unit) := Nat.rec (motive := fun _ => Hp → Nat → Int32 → Option (Rs Unit)) (fun _ _ _ => none) (fun _ r => f_X6_restart_B17 r) n
theorem p_X6_restart_L17 {l : Launch} {K : Ctx} (hl : l.stackTraces = false) : ∀ (n : Nat) (h : Hp) (a0 : Nat) (i2 : Int32) (t : Rs Unit) (e : f_X6_restart_L17 n h a0 i2 = some t), X l K mM_X6_restart (tgV t) 17 [(0, .ref a0), (2, .int i2)] [] h := by
  intro n
  induction n with
  | zero => exact fun _ _ _ _ e => nomatch (show (none : Option (Rs Unit)) = some _ from e)
  | succ n ih => exact fun h a0 i2 t e => p_X6_restart_B17 hl (fun h a0 i2 t e => ih h a0 i2 t e) e
noncomputable def f_X6_restart (h : Hp) (a0 : Nat) (i1 : Int32) : Option (Rs Unit) :=
  chk (okr h a0 6) <|
  lt (putI h a0 9 i1) fun h2 =>
  lt (putI h2 a0 5 (iN 0)) fun h3 =>
  lt (putI h3 a0 6 (iN (-1))) fun h4 =>
  f_X6_restart_L17 2000 h4 a0 (iN 0)
theorem p_X6_restart {l : Launch} {K : Ctx} (hl : l.stackTraces = false) {h : Hp} {a0 : Nat} {i1 : Int32} {t : Rs Unit} (e : f_X6_restart h a0 i1 = some t) : X l K mM_X6_restart (tgV t) 0 [(0, .ref a0), (1, .int i1)] [] h := by
  unfold f_X6_restart at e
  refine x_aload_n (pc := 0) 0 dX6_restart_0 rfl ?_
  refine x_iload_n (pc := 1) 1 dX6_restart_1 rfl ?_
  obtain ⟨q1, e⟩ := chk_some e
  replace e := lt_go e
  refine x_putI (pc := 2) pf_X6_37 rfl rfl rfl dX6_restart_2 q1 ?_
  refine x_aload_n (pc := 5) 0 dX6_restart_5 rfl ?_
  refine x_iconst (pc := 6) dX6_restart_6 ?_
  replace e := lt_go e
  refine x_putI (pc := 7) pf_X6_41 rfl rfl rfl dX6_restart_7 (okr_pI q1) ?_
  refine x_aload_n (pc := 10) 0 dX6_restart_10 rfl ?_
  refine x_iconst (pc := 11) dX6_restart_11 ?_
  replace e := lt_go e
  refine x_putI (pc := 12) pf_X6_44 rfl rfl rfl dX6_restart_12 (okr_pI (okr_pI q1)) ?_
  refine x_iconst (pc := 15) dX6_restart_15 ?_
  refine x_istore_n (pc := 16) dX6_restart_16 (by decide) rfl ?_
  exact x_sub1 (p_X6_restart_L17 hl 2000 _ _ _ _ e) [1, 0] rfl
abbrev w_X6_restart : Cond := (Cond.code yX6_restart cX6_restart 3 (Option.none : Option Jvm.ClassFile.FieldType))
theorem mf_X6_restart : MF yX6_restart w_X6_restart cX6_restart 3 (Option.none : Option Jvm.ClassFile.FieldType) 1 := ⟨⟨rfl, tw_2_189, by decide⟩, tw_1_6, ⟨by decide, by decide⟩, by decide +kernel⟩
theorem c_X6_restart {l : Launch} {K : Ctx} (hl : l.stackTraces = false) {h : Hp} {a0 : Nat} {i1 : Int32} {t : Rs Unit} (e : f_X6_restart h a0 i1 = some t) : Ctr l K 9 yX6_restart w_X6_restart [.ref a0, .int i1] h (tgV t) :=
  Ctr.of hl mf_X6_restart false (fun q => nomatch q) rfl (leb rfl) (p_X6_restart hl e)
/-! ## TableColumnBalancer.<init> -/
abbrev mM_X8_init : Mi := (13, yX8_init.cls, cX8_init, 2, (Option.none : Option Jvm.ClassFile.FieldType), [], true)
noncomputable def f_X8_init_B126 (k126 : Hp → Nat → Int32 → Option (Rs Unit)) (h : Hp) (a0 : Nat) (i1 : Int32) : Option (Rs Unit) :=
  if (iN 2) ≤ i1 then (
    chk (qN h + 1 < 1000000) <|
    lt (newO h 20 4 4) fun h3 =>
    chk (okr h3 a0 8) <|
    lt (putR h3 a0 10 (qN h + 1)) fun h5 =>
    chk (okr h5 (qR h5 a0 1) 3) <|
    bnd (f_X3_measure h5 (qR h5 a0 1)) fun h7 _ =>
    chk (okr h7 a0 8) <|
    chk (okr h7 (qR h7 a0 2) 6) <|
    bnd (f_X6_restart h7 (qR h7 a0 2) (1000000 : Int32)) fun h11 _ =>
    some (h11, .inr ())
  ) else (
    chk (okr h a0 8) <|
    chk (okr h (qR h a0 9) 26) <|
    chk (qN h + 1 < 1000000) <|
    lt (newO h 2 0 5) fun h16 =>
    bnd (f_X2_init h16 (qN h + 1)) fun h17 _ =>
    chk (okr h17 (qR h a0 9) 26) <|
    chk (vp_in i1 (qW h17 (qR h a0 9))) <|
    chk (okr h17 (qN h + 1) 2) <|
    lt (putR h17 (qR h a0 9) (Int32.toNatClampNeg i1) (qN h + 1)) fun h22 =>
    k126 h22 a0 (i1 + iN 1)
  )
theorem p_X8_init_B126 {l : Launch} {K : Ctx} (hl : l.stackTraces = false) {k126 : Hp → Nat → Int32 → Option (Rs Unit)} (hk126 : ∀ (h : Hp) (a0 : Nat) (i1 : Int32) (t : Rs Unit), k126 h a0 i1 = some t → X l K mM_X8_init (tgV t) 126 [(0, .ref a0), (1, .int i1)] [] h) {h : Hp} {a0 : Nat} {i1 : Int32} {t : Rs Unit} (e : f_X8_init_B126 k126 h a0 i1 = some t) : X l K mM_X8_init (tgV t) 126 [(0, .ref a0), (1, .int i1)] [] h := by
  unfold f_X8_init_B126 at e
  refine x_iload_n (pc := 126) 1 dX8_init_126 rfl ?_
  refine x_iconst (pc := 127) dX8_init_127 ?_
  rcases ite_some e with ⟨q1, e⟩ | ⟨q1, e⟩
  · refine x_icmp_ge_t (pc := 128) (t := 150) dX8_init_128 (by decide) q1 ?_
    refine x_aload_n (pc := 150) 0 dX8_init_150 rfl ?_
    refine x_iconst (pc := 151) dX8_init_151 ?_
    obtain ⟨q2, e⟩ := chk_some e
    replace e := lt_go e
    refine x_newa (pc := 152) (atype := .int) (t := 0) (w := 4) rfl (by decide) tw_1_103 dX8_init_152 (by decide) (by decide) (by decide) q2 ?_
    obtain ⟨q4, e⟩ := chk_some e
    replace e := lt_go e
    refine x_putR (pc := 154) pf_X8_60 rfl okr_new.1 (fun _ => rfl) (fun _ => rfl) dX8_init_154 q4 ?_
    refine x_aload_n (pc := 157) 0 dX8_init_157 rfl ?_
    obtain ⟨q6, e⟩ := chk_some e
    refine x_getR (pc := 158) gf_X8_21 rfl dX8_init_158 (okr_pR q4) q6.1 ?_
    rcases bnd_some e with ⟨h7, r8, ec, rfl⟩ | ⟨h7, r8, ec, e⟩
    · exact y_callV_x (pc := 161) (c_X3_measure hl ec) q6 mf_X3_measure tw_2_104 ts_1_0 lf_X8_64 rfl rfl dX8_init_161 (by decide) rfl rfl (leb rfl) (xx_out0 rfl)
    refine y_callV_v (pc := 161) (c_X3_measure hl ec) q6 mf_X3_measure tw_2_104 ts_1_0 lf_X8_64 rfl rfl dX8_init_161 (by decide) rfl rfl (leb rfl) ?_
    refine x_aload_n (pc := 164) 0 dX8_init_164 rfl ?_
    obtain ⟨q9, e⟩ := chk_some e
    obtain ⟨q10, e⟩ := chk_some e
    refine x_getR (pc := 165) gf_X8_30 rfl dX8_init_165 q9 q10.1 ?_
    refine x_ldc (pc := 168) tw_2_185 dX8_init_168 ?_
    rcases bnd_some e with ⟨h11, r12, ec, rfl⟩ | ⟨h11, r12, ec, e⟩
    · exact y_callV_x (pc := 170) (c_X6_restart hl ec) q10 mf_X6_restart tw_2_188 ts_2_3 lf_X8_68 rfl rfl dX8_init_170 (by decide) rfl rfl (leb rfl) (xx_out0 rfl)
    refine y_callV_v (pc := 170) (c_X6_restart hl ec) q10 mf_X6_restart tw_2_188 ts_2_3 lf_X8_68 rfl rfl dX8_init_170 (by decide) rfl rfl (leb rfl) ?_
    cases Option.some.inj e
    exact x_vret (pc := 173) rfl dX8_init_173
  · refine x_icmp_ge_f (pc := 128) (t := 150) dX8_init_128 (by decide) q1 ?_
    refine x_aload_n (pc := 131) 0 dX8_init_131 rfl ?_
    obtain ⟨q13, e⟩ := chk_some e
    obtain ⟨q14, e⟩ := chk_some e
    refine x_getR (pc := 132) gf_X8_55 rfl dX8_init_132 q13 q14.1 ?_
    refine x_iload_n (pc := 135) 1 dX8_init_135 rfl ?_
    obtain ⟨q15, e⟩ := chk_some e
    replace e := lt_go e
    refine x_new (pc := 136) (ci := 1) rfl tw_2_72 tw_2_74 tw_1_8 dX8_init_136 q15 ?_
    refine x_dup (pc := 139) dX8_init_139 rfl ?_
    rcases bnd_some e with ⟨h17, r18, ec, rfl⟩ | ⟨h17, r18, ec, e⟩
    · exact y_callI_x (pc := 140) (c_X2_init hl ec) mf_X2_init tw_2_76 rfl lf_X8_59 dX8_init_140 (by decide) rfl rfl (leb rfl) (xx_out0 rfl)
    refine y_callI_v (pc := 140) (c_X2_init hl ec) mf_X2_init tw_2_76 rfl lf_X8_59 dX8_init_140 (by decide) rfl rfl (leb rfl) ?_
    obtain ⟨q19, e⟩ := chk_some e
    obtain ⟨q20, e⟩ := chk_some e
    obtain ⟨q21, e⟩ := chk_some e
    replace e := lt_go e
    refine x_aast (pc := 143) (t := 2) (by decide) dX8_init_143 q19 q20 q21 ?_
    refine x_iinc (pc := 144) 1 dX8_init_144 rfl (by decide) rfl ?_
    refine x_goto (pc := 147) (t := 126) dX8_init_147 (by decide) ?_
    exact x_sub1 (hk126 _ _ _ _ e) [1, 0] rfl
noncomputable def f_X8_init_L126 (n : Nat) : Hp → Nat → Int32 → Option (Rs Unit) := Nat.rec (motive := fun _ => Hp → Nat → Int32 → Option (Rs Unit)) (fun _ _ _ => none) (fun _ r => f_X8_init_B126 r) n
theorem p_X8_init_L126 {l : Launch} {K : Ctx} (hl : l.stackTraces = false) : ∀ (n : Nat) (h : Hp) (a0 : Nat) (i1 : Int32) (t : Rs Unit) (e : f_X8_init_L126 n h a0 i1 = some t), X l K mM_X8_init (tgV t) 126 [(0, .ref a0), (1, .int i1)] [] h := by
  intro n
  induction n with
  | zero => exact fun _ _ _ _ e => nomatch (show (none : Option (Rs Unit)) = some _ from e)
  | succ n ih => exact fun h a0 i1 t e => p_X8_init_B126 hl (fun h a0 i1 t e => ih h a0 i1 t e) e
noncomputable def f_X8_init (h : Hp) (a0 : Nat) : Option (Rs Unit) :=
  chk (qN h + 1 < 1000000) <|
  lt (newO h 7 0 9) fun h2 =>
  bnd (f_X7_init h2 (qN h + 1)) fun h3 _ =>
  chk (okr h3 a0 8) <|
  chk (okr h3 (qN h + 1) 7) <|
  lt (putR h3 a0 0 (qN h + 1)) fun h7 =>
  chk (qN h7 + 1 < 1000000) <|
  lt (newO h7 3 0 9) fun h9 =>
  chk (okr h9 (qR h9 a0 0) 7) <|
  bnd (f_X3_init h9 (qN h7 + 1) (qR h9 a0 0)) fun h11 _ =>
  chk (okr h11 a0 8) <|
  chk (okr h11 (qN h7 + 1) 3) <|
  lt (putR h11 a0 1 (qN h7 + 1)) fun h15 =>
  chk (qN h15 + 1 < 1000000) <|
  lt (newO h15 6 0 12) fun h17 =>
  chk (okr h17 (qR h17 a0 0) 7) <|
  chk (okr h17 (qR h17 a0 1) 3) <|
  bnd (f_X6_init h17 (qN h15 + 1) (qR h17 a0 0) (qR h17 a0 1)) fun h20 _ =>
  chk (okr h20 a0 8) <|
  chk (okr h20 (qN h15 + 1) 6) <|
  lt (putR h20 a0 2 (qN h15 + 1)) fun h24 =>
  chk (qN h24 + 1 < 1000000) <|
  lt (newO h24 7 0 9) fun h26 =>
  bnd (f_X7_init h26 (qN h24 + 1)) fun h27 _ =>
  chk (okr h27 a0 8) <|
  chk (okr h27 (qN h24 + 1) 7) <|
  lt (putR h27 a0 3 (qN h24 + 1)) fun h31 =>
  chk (qN h31 + 1 < 1000000) <|
  lt (newO h31 3 0 9) fun h33 =>
  chk (okr h33 (qR h33 a0 3) 7) <|
  bnd (f_X3_init h33 (qN h31 + 1) (qR h33 a0 3)) fun h35 _ =>
  chk (okr h35 a0 8) <|
  chk (okr h35 (qN h31 + 1) 3) <|
  lt (putR h35 a0 4 (qN h31 + 1)) fun h39 =>
  chk (qN h39 + 1 < 1000000) <|
  lt (newO h39 6 0 12) fun h41 =>
  chk (okr h41 (qR h41 a0 3) 7) <|
  chk (okr h41 (qR h41 a0 4) 3) <|
  bnd (f_X6_init h41 (qN h39 + 1) (qR h41 a0 3) (qR h41 a0 4)) fun h44 _ =>
  chk (okr h44 a0 8) <|
  chk (okr h44 (qN h39 + 1) 6) <|
  lt (putR h44 a0 5 (qN h39 + 1)) fun h48 =>
  chk (qN h48 + 1 < 1000000) <|
  lt (newO h48 7 0 9) fun h50 =>
  bnd (f_X7_init h50 (qN h48 + 1)) fun h51 _ =>
  chk (okr h51 a0 8) <|
  chk (okr h51 (qN h48 + 1) 7) <|
  lt (putR h51 a0 6 (qN h48 + 1)) fun h55 =>
  chk (qN h55 + 1 < 1000000) <|
  lt (newO h55 5 0 8) fun h57 =>
  bnd (f_X5_init h57 (qN h55 + 1)) fun h58 _ =>
  chk (okr h58 a0 8) <|
  chk (okr h58 (qN h55 + 1) 5) <|
  lt (putR h58 a0 8 (qN h55 + 1)) fun h62 =>
  chk (qN h62 + 1 < 1000000) <|
  lt (newO h62 26 2 2) fun h64 =>
  lt (putR h64 a0 9 (qN h62 + 1)) fun h65 =>
  f_X8_init_L126 2000 h65 a0 (iN 0)
theorem p_X8_init {l : Launch} {K : Ctx} (hl : l.stackTraces = false) {h : Hp} {a0 : Nat} {t : Rs Unit} (e : f_X8_init h a0 = some t) : X l K mM_X8_init (tgV t) 0 [(0, .ref a0)] [] h := by
  unfold f_X8_init at e
  refine x_aload_n (pc := 0) 0 dX8_init_0 rfl ?_
  refine x_objI (pc := 1) tw_1_36 tw_1_37 tw_1_38 dX8_init_1 (by decide) (leb rfl) ?_
  refine x_aload_n (pc := 4) 0 dX8_init_4 rfl ?_
  obtain ⟨q1, e⟩ := chk_some e
  replace e := lt_go e
  refine x_new (pc := 5) (ci := 6) rfl tw_1_39 tw_1_40 tw_1_2 dX8_init_5 q1 ?_
  refine x_dup (pc := 8) dX8_init_8 rfl ?_
  rcases bnd_some e with ⟨h3, r4, ec, rfl⟩ | ⟨h3, r4, ec, e⟩
  · exact y_callI_x (pc := 9) (c_X7_init hl ec) mf_X7_init tw_1_42 rfl lf_X8_9 dX8_init_9 (by decide) rfl rfl (leb rfl) (xx_out0 rfl)
  refine y_callI_v (pc := 9) (c_X7_init hl ec) mf_X7_init tw_1_42 rfl lf_X8_9 dX8_init_9 (by decide) rfl rfl (leb rfl) ?_
  obtain ⟨q5, e⟩ := chk_some e
  obtain ⟨q6, e⟩ := chk_some e
  replace e := lt_go e
  refine x_putR (pc := 12) pf_X8_10 rfl q6.1 (fun _ => rfl) (fun _ => rfl) dX8_init_12 q5 ?_
  refine x_aload_n (pc := 15) 0 dX8_init_15 rfl ?_
  obtain ⟨q8, e⟩ := chk_some e
  replace e := lt_go e
  refine x_new (pc := 16) (ci := 2) rfl tw_1_187 tw_1_188 tw_1_5 dX8_init_16 q8 ?_
  refine x_dup (pc := 19) dX8_init_19 rfl ?_
  refine x_aload_n (pc := 20) 0 dX8_init_20 rfl ?_
  obtain ⟨q10, e⟩ := chk_some e
  refine x_getR (pc := 21) gf_X8_10 rfl dX8_init_21 (okr_nw (okr_pR q5)) q10.1 ?_
  rcases bnd_some e with ⟨h11, r12, ec, rfl⟩ | ⟨h11, r12, ec, e⟩
  · exact y_callI_x (pc := 24) (c_X3_init hl ec) mf_X3_init tw_1_190 rfl lf_X8_18 dX8_init_24 (by decide) rfl rfl (leb rfl) (xx_out0 rfl)
  refine y_callI_v (pc := 24) (c_X3_init hl ec) mf_X3_init tw_1_190 rfl lf_X8_18 dX8_init_24 (by decide) rfl rfl (leb rfl) ?_
  obtain ⟨q13, e⟩ := chk_some e
  obtain ⟨q14, e⟩ := chk_some e
  replace e := lt_go e
  refine x_putR (pc := 27) pf_X8_21 rfl q14.1 (fun _ => rfl) (fun _ => rfl) dX8_init_27 q13 ?_
  refine x_aload_n (pc := 30) 0 dX8_init_30 rfl ?_
  obtain ⟨q16, e⟩ := chk_some e
  replace e := lt_go e
  refine x_new (pc := 31) (ci := 5) rfl tw_1_232 tw_1_233 tw_1_6 dX8_init_31 q16 ?_
  refine x_dup (pc := 34) dX8_init_34 rfl ?_
  refine x_aload_n (pc := 35) 0 dX8_init_35 rfl ?_
  obtain ⟨q18, e⟩ := chk_some e
  refine x_getR (pc := 36) gf_X8_10 rfl dX8_init_36 (okr_nw (okr_pR q13)) q18.1 ?_
  refine x_aload_n (pc := 39) 0 dX8_init_39 rfl ?_
  obtain ⟨q19, e⟩ := chk_some e
  refine x_getR (pc := 40) gf_X8_21 rfl dX8_init_40 (okr_nw (okr_pR q13)) q19.1 ?_
  rcases bnd_some e with ⟨h20, r21, ec, rfl⟩ | ⟨h20, r21, ec, e⟩
  · exact y_callI_x (pc := 43) (c_X6_init hl ec) mf_X6_init tw_1_235 rfl lf_X8_27 dX8_init_43 (by decide) rfl rfl (leb rfl) (xx_out0 rfl)
  refine y_callI_v (pc := 43) (c_X6_init hl ec) mf_X6_init tw_1_235 rfl lf_X8_27 dX8_init_43 (by decide) rfl rfl (leb rfl) ?_
  obtain ⟨q22, e⟩ := chk_some e
  obtain ⟨q23, e⟩ := chk_some e
  replace e := lt_go e
  refine x_putR (pc := 46) pf_X8_30 rfl q23.1 (fun _ => rfl) (fun _ => rfl) dX8_init_46 q22 ?_
  refine x_aload_n (pc := 49) 0 dX8_init_49 rfl ?_
  obtain ⟨q25, e⟩ := chk_some e
  replace e := lt_go e
  refine x_new (pc := 50) (ci := 6) rfl tw_1_39 tw_1_40 tw_1_2 dX8_init_50 q25 ?_
  refine x_dup (pc := 53) dX8_init_53 rfl ?_
  rcases bnd_some e with ⟨h27, r28, ec, rfl⟩ | ⟨h27, r28, ec, e⟩
  · exact y_callI_x (pc := 54) (c_X7_init hl ec) mf_X7_init tw_1_42 rfl lf_X8_9 dX8_init_54 (by decide) rfl rfl (leb rfl) (xx_out0 rfl)
  refine y_callI_v (pc := 54) (c_X7_init hl ec) mf_X7_init tw_1_42 rfl lf_X8_9 dX8_init_54 (by decide) rfl rfl (leb rfl) ?_
  obtain ⟨q29, e⟩ := chk_some e
  obtain ⟨q30, e⟩ := chk_some e
  replace e := lt_go e
  refine x_putR (pc := 57) pf_X8_34 rfl q30.1 (fun _ => rfl) (fun _ => rfl) dX8_init_57 q29 ?_
  refine x_aload_n (pc := 60) 0 dX8_init_60 rfl ?_
  obtain ⟨q32, e⟩ := chk_some e
  replace e := lt_go e
  refine x_new (pc := 61) (ci := 2) rfl tw_1_187 tw_1_188 tw_1_5 dX8_init_61 q32 ?_
  refine x_dup (pc := 64) dX8_init_64 rfl ?_
  refine x_aload_n (pc := 65) 0 dX8_init_65 rfl ?_
  obtain ⟨q34, e⟩ := chk_some e
  refine x_getR (pc := 66) gf_X8_34 rfl dX8_init_66 (okr_nw (okr_pR q29)) q34.1 ?_
  rcases bnd_some e with ⟨h35, r36, ec, rfl⟩ | ⟨h35, r36, ec, e⟩
  · exact y_callI_x (pc := 69) (c_X3_init hl ec) mf_X3_init tw_1_190 rfl lf_X8_18 dX8_init_69 (by decide) rfl rfl (leb rfl) (xx_out0 rfl)
  refine y_callI_v (pc := 69) (c_X3_init hl ec) mf_X3_init tw_1_190 rfl lf_X8_18 dX8_init_69 (by decide) rfl rfl (leb rfl) ?_
  obtain ⟨q37, e⟩ := chk_some e
  obtain ⟨q38, e⟩ := chk_some e
  replace e := lt_go e
  refine x_putR (pc := 72) pf_X8_37 rfl q38.1 (fun _ => rfl) (fun _ => rfl) dX8_init_72 q37 ?_
  refine x_aload_n (pc := 75) 0 dX8_init_75 rfl ?_
  obtain ⟨q40, e⟩ := chk_some e
  replace e := lt_go e
  refine x_new (pc := 76) (ci := 5) rfl tw_1_232 tw_1_233 tw_1_6 dX8_init_76 q40 ?_
  refine x_dup (pc := 79) dX8_init_79 rfl ?_
  refine x_aload_n (pc := 80) 0 dX8_init_80 rfl ?_
  obtain ⟨q42, e⟩ := chk_some e
  refine x_getR (pc := 81) gf_X8_34 rfl dX8_init_81 (okr_nw (okr_pR q37)) q42.1 ?_
  refine x_aload_n (pc := 84) 0 dX8_init_84 rfl ?_
  obtain ⟨q43, e⟩ := chk_some e
  refine x_getR (pc := 85) gf_X8_37 rfl dX8_init_85 (okr_nw (okr_pR q37)) q43.1 ?_
  rcases bnd_some e with ⟨h44, r45, ec, rfl⟩ | ⟨h44, r45, ec, e⟩
  · exact y_callI_x (pc := 88) (c_X6_init hl ec) mf_X6_init tw_1_235 rfl lf_X8_27 dX8_init_88 (by decide) rfl rfl (leb rfl) (xx_out0 rfl)
  refine y_callI_v (pc := 88) (c_X6_init hl ec) mf_X6_init tw_1_235 rfl lf_X8_27 dX8_init_88 (by decide) rfl rfl (leb rfl) ?_
  obtain ⟨q46, e⟩ := chk_some e
  obtain ⟨q47, e⟩ := chk_some e
  replace e := lt_go e
  refine x_putR (pc := 91) pf_X8_40 rfl q47.1 (fun _ => rfl) (fun _ => rfl) dX8_init_91 q46 ?_
  refine x_aload_n (pc := 94) 0 dX8_init_94 rfl ?_
  obtain ⟨q49, e⟩ := chk_some e
  replace e := lt_go e
  refine x_new (pc := 95) (ci := 6) rfl tw_1_39 tw_1_40 tw_1_2 dX8_init_95 q49 ?_
  refine x_dup (pc := 98) dX8_init_98 rfl ?_
  rcases bnd_some e with ⟨h51, r52, ec, rfl⟩ | ⟨h51, r52, ec, e⟩
  · exact y_callI_x (pc := 99) (c_X7_init hl ec) mf_X7_init tw_1_42 rfl lf_X8_9 dX8_init_99 (by decide) rfl rfl (leb rfl) (xx_out0 rfl)
  refine y_callI_v (pc := 99) (c_X7_init hl ec) mf_X7_init tw_1_42 rfl lf_X8_9 dX8_init_99 (by decide) rfl rfl (leb rfl) ?_
  obtain ⟨q53, e⟩ := chk_some e
  obtain ⟨q54, e⟩ := chk_some e
  replace e := lt_go e
  refine x_putR (pc := 102) pf_X8_43 rfl q54.1 (fun _ => rfl) (fun _ => rfl) dX8_init_102 q53 ?_
  refine x_aload_n (pc := 105) 0 dX8_init_105 rfl ?_
  obtain ⟨q56, e⟩ := chk_some e
  replace e := lt_go e
  refine x_new (pc := 106) (ci := 4) rfl tw_2_36 tw_2_37 tw_1_7 dX8_init_106 q56 ?_
  refine x_dup (pc := 109) dX8_init_109 rfl ?_
  rcases bnd_some e with ⟨h58, r59, ec, rfl⟩ | ⟨h58, r59, ec, e⟩
  · exact y_callI_x (pc := 110) (c_X5_init hl ec) mf_X5_init tw_2_39 rfl lf_X8_48 dX8_init_110 (by decide) rfl rfl (leb rfl) (xx_out0 rfl)
  refine y_callI_v (pc := 110) (c_X5_init hl ec) mf_X5_init tw_2_39 rfl lf_X8_48 dX8_init_110 (by decide) rfl rfl (leb rfl) ?_
  obtain ⟨q60, e⟩ := chk_some e
  obtain ⟨q61, e⟩ := chk_some e
  replace e := lt_go e
  refine x_putR (pc := 113) pf_X8_49 rfl q61.1 (fun _ => rfl) (fun _ => rfl) dX8_init_113 q60 ?_
  refine x_aload_n (pc := 116) 0 dX8_init_116 rfl ?_
  refine x_iconst (pc := 117) dX8_init_117 ?_
  obtain ⟨q63, e⟩ := chk_some e
  replace e := lt_go e
  refine x_anew (pc := 118) (t := 2) (w := 2) (by decide) tw_2_72 dX8_init_118 (by decide) (by decide) (by decide) q63 ?_
  replace e := lt_go e
  refine x_putR (pc := 121) pf_X8_55 rfl okr_new.1 (fun _ => rfl) (fun _ => rfl) dX8_init_121 (okr_nw (okr_pR q60)) ?_
  refine x_iconst (pc := 124) dX8_init_124 ?_
  refine x_istore_n (pc := 125) dX8_init_125 (by decide) rfl ?_
  exact x_sub1 (p_X8_init_L126 hl 2000 _ _ _ _ e) [1, 0] rfl
abbrev w_X8_init : Cond := (Cond.code yX8_init cX8_init 2 (Option.none : Option Jvm.ClassFile.FieldType))
theorem mf_X8_init : MF yX8_init w_X8_init cX8_init 2 (Option.none : Option Jvm.ClassFile.FieldType) 0 := ⟨⟨rfl, tw_1_35, by decide⟩, tw_1_1, ⟨by decide, by decide⟩, by decide +kernel⟩
theorem c_X8_init {l : Launch} {K : Ctx} (hl : l.stackTraces = false) {h : Hp} {a0 : Nat} {t : Rs Unit} (e : f_X8_init h a0 = some t) : Ctr l K 13 yX8_init w_X8_init [.ref a0] h (tgV t) :=
  Ctr.of hl mf_X8_init true (fun _ => rfl) rfl (leb rfl) (p_X8_init hl e)
