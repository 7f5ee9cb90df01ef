/-! ===== the methods as functions, each with its proof: made by program (gen_fun.py) ===== -/
/-! ## TableColumnBalancerModel.sharing -/
abbrev mM_X9_sharing : Mi := (10, yX9_sharing.cls, cX9_sharing, 5, (Option.some Jvm.ClassFile.FieldType.int), [], false)
noncomputable def f_X9_sharing_L55 (k12 : Hp → Nat → Int32 → Int32 → Int32 → Int32 → Option (Rs Int32)) (h : Hp) (a0 : Nat) (i1 : Int32) (i2 : Int32) (i4 : Int32) (s0 : Int32) (s1 : Int32) : Option (Rs Int32) :=
  k12 h a0 i1 i2 (s1 ||| s0) (i4 + iN 1)
theorem p_X9_sharing_L55 {l : Launch} {K : Ctx} (hl : l.stackTraces = false) {k12 : Hp → Nat → Int32 → Int32 → Int32 → Int32 → Option (Rs Int32)} (hk12 : ∀ (h : Hp) (a0 : Nat) (i1 : Int32) (i2 : Int32) (i3 : Int32) (i4 : Int32) (t : Rs Int32), k12 h a0 i1 i2 i3 i4 = some t → X l K mM_X9_sharing (tgI t) 12 [(0, .ref a0), (1, .int i1), (2, .int i2), (3, .int i3), (4, .int i4)] [] h) {h : Hp} {a0 : Nat} {i1 : Int32} {i2 : Int32} {i4 : Int32} {s0 : Int32} {s1 : Int32} {t : Rs Int32} (e : f_X9_sharing_L55 k12 h a0 i1 i2 i4 s0 s1 = some t) : X l K mM_X9_sharing (tgI t) 55 [(0, .ref a0), (1, .int i1), (2, .int i2), (4, .int i4)] [.int s0, .int s1] h := by
  unfold f_X9_sharing_L55 at e
  refine x_ior (pc := 55) dX9_sharing_55 ?_
  refine x_istore_n (pc := 56) dX9_sharing_56 (by decide) rfl ?_
  refine x_iinc (pc := 57) 4 dX9_sharing_57 rfl (by decide) rfl ?_
  refine x_goto (pc := 60) (t := 12) dX9_sharing_60 (by decide) ?_
  exact x_sub1 (hk12 _ _ _ _ _ _ _ e) [2, 3, 4, 1, 0] rfl
noncomputable def f_X9_sharing_B12 (k12 : Hp → Nat → Int32 → Int32 → Int32 → Int32 → Option (Rs Int32)) (h : Hp) (a0 : Nat) (i1 : Int32) (i2 : Int32) (i3 : Int32) (i4 : Int32) : Option (Rs Int32) :=
  chk (okr h a0 9) <|
  bnd (f_X9_of h a0 i1 (iN 1)) fun h2 r3 =>
  chk (okr h2 a0 9) <|
  bnd (f_X9_of h2 a0 i1 (iN 2)) fun h5 r6 =>
  if (r3 + r6) ≤ i4 then (
    if i3 = 0 then (
      some (h5, .inr i2)
    ) else (
      some (h5, .inr i3)
    )
  ) else (
    chk (okr h5 a0 9) <|
    bnd (f_X9_isFixed h5 a0 i4) fun h10 r11 =>
    if r11 = 0 then (
      f_X9_sharing_L55 k12 h10 a0 i1 (i2 ||| ((iN 1) <<< (i4 &&& 31))) i4 ((iN 1) <<< (i4 &&& 31)) i3
    ) else (
      f_X9_sharing_L55 k12 h10 a0 i1 (i2 ||| ((iN 1) <<< (i4 &&& 31))) i4 (iN 0) i3
    )
  )
theorem p_X9_sharing_B12 {l : Launch} {K : Ctx} (hl : l.stackTraces = false) {k12 : Hp → Nat → Int32 → Int32 → Int32 → Int32 → Option (Rs Int32)} (hk12 : ∀ (h : Hp) (a0 : Nat) (i1 : Int32) (i2 : Int32) (i3 : Int32) (i4 : Int32) (t : Rs Int32), k12 h a0 i1 i2 i3 i4 = some t → X l K mM_X9_sharing (tgI t) 12 [(0, .ref a0), (1, .int i1), (2, .int i2), (3, .int i3), (4, .int i4)] [] h) {h : Hp} {a0 : Nat} {i1 : Int32} {i2 : Int32} {i3 : Int32} {i4 : Int32} {t : Rs Int32} (e : f_X9_sharing_B12 k12 h a0 i1 i2 i3 i4 = some t) : X l K mM_X9_sharing (tgI t) 12 [(0, .ref a0), (1, .int i1), (2, .int i2), (3, .int i3), (4, .int i4)] [] h := by
  unfold f_X9_sharing_B12 at e
  refine x_iload (pc := 12) 4 dX9_sharing_12 rfl ?_
  refine x_aload_n (pc := 14) 0 dX9_sharing_14 rfl ?_
  refine x_iload_n (pc := 15) 1 dX9_sharing_15 rfl ?_
  refine x_iconst (pc := 16) dX9_sharing_16 ?_
  obtain ⟨q1, e⟩ := chk_some e
  rcases bnd_some e with ⟨h2, r3, ec, rfl⟩ | ⟨h2, r3, ec, e⟩
  · exact y_callV_x (pc := 17) (c_X9_of hl ec) q1 mf_X9_of tw_7_63 ts_6_12 lf_X9_91 rfl rfl dX9_sharing_17 (by decide) rfl rfl (leb rfl) (xx_out0 rfl)
  refine y_callV_i (pc := 17) (c_X9_of hl ec) q1 mf_X9_of tw_7_63 ts_6_12 lf_X9_91 rfl rfl dX9_sharing_17 (by decide) rfl rfl (leb rfl) ?_
  refine x_aload_n (pc := 20) 0 dX9_sharing_20 rfl ?_
  refine x_iload_n (pc := 21) 1 dX9_sharing_21 rfl ?_
  refine x_iconst (pc := 22) dX9_sharing_22 ?_
  obtain ⟨q4, e⟩ := chk_some e
  rcases bnd_some e with ⟨h5, r6, ec, rfl⟩ | ⟨h5, r6, ec, e⟩
  · exact y_callV_x (pc := 23) (c_X9_of hl ec) q4 mf_X9_of tw_7_63 ts_6_12 lf_X9_91 rfl rfl dX9_sharing_23 (by decide) rfl rfl (leb rfl) (xx_out0 rfl)
  refine y_callV_i (pc := 23) (c_X9_of hl ec) q4 mf_X9_of tw_7_63 ts_6_12 lf_X9_91 rfl rfl dX9_sharing_23 (by decide) rfl rfl (leb rfl) ?_
  refine x_iadd (pc := 26) dX9_sharing_26 ?_
  rcases ite_some e with ⟨q7, e⟩ | ⟨q7, e⟩
  · refine x_icmp_ge_t (pc := 27) (t := 63) dX9_sharing_27 (by decide) q7 ?_
    refine x_iload_n (pc := 63) 3 dX9_sharing_63 rfl ?_
    rcases ite_some e with ⟨q8, e⟩ | ⟨q8, e⟩
    · refine x_if_ne_f (pc := 64) (t := 71) dX9_sharing_64 (by decide) q8 ?_
      refine x_iload_n (pc := 67) 2 dX9_sharing_67 rfl ?_
      refine x_goto (pc := 68) (t := 72) dX9_sharing_68 (by decide) ?_
      cases Option.some.inj e
      exact x_iret (pc := 72) rfl dX9_sharing_72
    · refine x_if_ne_t (pc := 64) (t := 71) dX9_sharing_64 (by decide) q8 ?_
      refine x_iload_n (pc := 71) 3 dX9_sharing_71 rfl ?_
      cases Option.some.inj e
      exact x_iret (pc := 72) rfl dX9_sharing_72
  · refine x_icmp_ge_f (pc := 27) (t := 63) dX9_sharing_27 (by decide) q7 ?_
    refine x_iload_n (pc := 30) 2 dX9_sharing_30 rfl ?_
    refine x_iconst (pc := 31) dX9_sharing_31 ?_
    refine x_iload (pc := 32) 4 dX9_sharing_32 rfl ?_
    refine x_ishl (pc := 34) dX9_sharing_34 ?_
    refine x_ior (pc := 35) dX9_sharing_35 ?_
    refine x_istore_n (pc := 36) dX9_sharing_36 (by decide) rfl ?_
    refine x_iload_n (pc := 37) 3 dX9_sharing_37 rfl ?_
    refine x_aload_n (pc := 38) 1 dX9_sharing_38 rfl ?_
    refine x_iload (pc := 39) 4 dX9_sharing_39 rfl ?_
    obtain ⟨q9, e⟩ := chk_some e
    rcases bnd_some e with ⟨h10, r11, ec, rfl⟩ | ⟨h10, r11, ec, e⟩
    · exact y_callV_x (pc := 41) (c_X9_isFixed hl ec) q9 mf_X9_isFixed tw_8_66 ts_9_3 lf_X9_302 rfl rfl dX9_sharing_41 (by decide) rfl rfl (leb rfl) (xx_out0 rfl)
    refine y_callV_i (pc := 41) (c_X9_isFixed hl ec) q9 mf_X9_isFixed tw_8_66 ts_9_3 lf_X9_302 rfl rfl dX9_sharing_41 (by decide) rfl rfl (leb rfl) ?_
    rcases ite_some e with ⟨q12, e⟩ | ⟨q12, e⟩
    · refine x_if_eq_t (pc := 44) (t := 51) dX9_sharing_44 (by decide) q12 ?_
      refine x_iconst (pc := 51) dX9_sharing_51 ?_
      refine x_iload (pc := 52) 4 dX9_sharing_52 rfl ?_
      refine x_ishl (pc := 54) dX9_sharing_54 ?_
      exact x_sub1 (p_X9_sharing_L55 hl hk12 e) [1, 2, 0, 4] rfl
    · refine x_if_eq_f (pc := 44) (t := 51) dX9_sharing_44 (by decide) q12 ?_
      refine x_iconst (pc := 47) dX9_sharing_47 ?_
      refine x_goto (pc := 48) (t := 55) dX9_sharing_48 (by decide) ?_
      exact x_sub1 (p_X9_sharing_L55 hl hk12 e) [1, 2, 0, 4] rfl
noncomputable def f_X9_sharing_L12 (n : Nat) : Hp → Nat → Int32 → Int32 → Int32 → Int32 → Option (Rs Int32) := Nat.rec (motive := fun _ => Hp → Nat → Int32 → Int32 → Int32 → Int32 → Option (Rs Int32)) (fun _ _ _ _ _ _ => none) (fun _ r => f_X9_sharing_B12 r) n
theorem p_X9_sharing_L12 {l : Launch} {K : Ctx} (hl : l.stackTraces = false) : ∀ (n : Nat) (h : Hp) (a0 : Nat) (i1 : Int32) (i2 : Int32) (i3 : Int32) (i4 : Int32) (t : Rs Int32) (e : f_X9_sharing_L12 n h a0 i1 i2 i3 i4 = some t), X l K mM_X9_sharing (tgI t) 12 [(0, .ref a0), (1, .int i1), (2, .int i2), (3, .int i3), (4, .int i4)] [] h := by
  intro n
  induction n with
  | zero => exact fun _ _ _ _ _ _ _ e => nomatch (show (none : Option (Rs Int32)) = some _ from e)
  | succ n ih => exact fun h a0 i1 i2 i3 i4 t e => p_X9_sharing_B12 hl (fun h a0 i1 i2 i3 i4 t e => ih h a0 i1 i2 i3 i4 t e) e
noncomputable def f_X9_sharing (h : Hp) (a0 : Nat) (i1 : Int32) : Option (Rs Int32) :=
  chk (okr h a0 9) <|
  bnd (f_X9_of h a0 i1 (iN 1)) fun h2 r3 =>
  f_X9_sharing_L12 2000 h2 a0 i1 (iN 0) (iN 0) r3
theorem p_X9_sharing {l : Launch} {K : Ctx} (hl : l.stackTraces = false) {h : Hp} {a0 : Nat} {i1 : Int32} {t : Rs Int32} (e : f_X9_sharing h a0 i1 = some t) : X l K mM_X9_sharing (tgI t) 0 [(0, .ref a0), (1, .int i1)] [] h := by
  unfold f_X9_sharing at e
  refine x_iconst (pc := 0) dX9_sharing_0 ?_
  refine x_istore_n (pc := 1) dX9_sharing_1 (by decide) rfl ?_
  refine x_iconst (pc := 2) dX9_sharing_2 ?_
  refine x_istore_n (pc := 3) dX9_sharing_3 (by decide) rfl ?_
  refine x_aload_n (pc := 4) 2 dX9_sharing_4 rfl ?_
  refine x_iload_n (pc := 5) 3 dX9_sharing_5 rfl ?_
  refine x_iconst (pc := 6) dX9_sharing_6 ?_
  obtain ⟨q1, e⟩ := chk_some e
  rcases bnd_some e with ⟨h2, r3, ec, rfl⟩ | ⟨h2, r3, ec, e⟩
  · exact y_callV_x (pc := 7) (c_X9_of hl ec) q1 mf_X9_of tw_7_63 ts_6_12 lf_X9_91 rfl rfl dX9_sharing_7 (by decide) rfl rfl (leb rfl) (xx_out0 rfl)
  refine y_callV_i (pc := 7) (c_X9_of hl ec) q1 mf_X9_of tw_7_63 ts_6_12 lf_X9_91 rfl rfl dX9_sharing_7 (by decide) rfl rfl (leb rfl) ?_
  refine x_istore (pc := 10) dX9_sharing_10 (by decide) rfl ?_
  exact x_sub1 (p_X9_sharing_L12 hl 2000 _ _ _ _ _ _ _ e) [3, 4, 2, 1, 0] rfl
abbrev w_X9_sharing : Cond := (Cond.code yX9_sharing cX9_sharing 5 (Option.some Jvm.ClassFile.FieldType.int))
theorem mf_X9_sharing : MF yX9_sharing w_X9_sharing cX9_sharing 5 (Option.some Jvm.ClassFile.FieldType.int) 1 := ⟨⟨rfl, tw_8_75, by decide⟩, tw_1_11, ⟨by decide, by decide⟩, by decide +kernel⟩
theorem c_X9_sharing {l : Launch} {K : Ctx} (hl : l.stackTraces = false) {h : Hp} {a0 : Nat} {i1 : Int32} {t : Rs Int32} (e : f_X9_sharing h a0 i1 = some t) : Ctr l K 10 yX9_sharing w_X9_sharing [.ref a0, .int i1] h (tgI t) :=
  Ctr.of hl mf_X9_sharing false (fun q => nomatch q) rfl (leb rfl) (p_X9_sharing hl e)
/-! ## TableColumnBalancerModel.weighsByMost -/
abbrev mM_X9_weighsByMost : Mi := (8, yX9_weighsByMost.cls, cX9_weighsByMost, 2, (Option.none : Option Jvm.ClassFile.FieldType), [], false)
noncomputable def f_X9_weighsByMost_B2 (k2 : Hp → Nat → Int32 → Option (Rs Unit)) (h : Hp) (a0 : Nat) (i1 : Int32) : Option (Rs Unit) :=
  if (iN 4) ≤ i1 then (
    some (h, .inr ())
  ) else (
    chk (okr h a0 9) <|
    chk (okr h (qR h a0 24) 20) <|
    chk (okr h (qR h a0 22) 20) <|
    chk (vp_in i1 (qW h (qR h a0 22))) <|
    chk (vp_in i1 (qW h (qR h a0 24))) <|
    lt (putI h (qR h a0 24) (Int32.toNatClampNeg i1) (qI h (qR h a0 22) (Int32.toNatClampNeg i1))) fun h7 =>
    k2 h7 a0 (i1 + iN 1)
  )
theorem p_X9_weighsByMost_B2 {l : Launch} {K : Ctx} (hl : l.stackTraces = false) {k2 : Hp → Nat → Int32 → Option (Rs Unit)} (hk2 : ∀ (h : Hp) (a0 : Nat) (i1 : Int32) (t : Rs Unit), k2 h a0 i1 = some t → X l K mM_X9_weighsByMost (tgV t) 2 [(0, .ref a0), (1, .int i1)] [] h) {h : Hp} {a0 : Nat} {i1 : Int32} {t : Rs Unit} (e : f_X9_weighsByMost_B2 k2 h a0 i1 = some t) : X l K mM_X9_weighsByMost (tgV t) 2 [(0, .ref a0), (1, .int i1)] [] h := by
  unfold f_X9_weighsByMost_B2 at e
  refine x_iload_n (pc := 2) 1 dX9_weighsByMost_2 rfl ?_
  refine x_iconst (pc := 3) dX9_weighsByMost_3 ?_
  rcases ite_some e with ⟨q1, e⟩ | ⟨q1, e⟩
  · refine x_icmp_ge_t (pc := 4) (t := 25) dX9_weighsByMost_4 (by decide) q1 ?_
    cases Option.some.inj e
    exact x_vret (pc := 25) rfl dX9_weighsByMost_25
  · refine x_icmp_ge_f (pc := 4) (t := 25) dX9_weighsByMost_4 (by decide) q1 ?_
    refine x_aload_n (pc := 7) 0 dX9_weighsByMost_7 rfl ?_
    obtain ⟨q2, e⟩ := chk_some e
    obtain ⟨q3, e⟩ := chk_some e
    refine x_getR (pc := 8) gf_X9_57 rfl dX9_weighsByMost_8 q2 q3.1 ?_
    refine x_iload_n (pc := 11) 1 dX9_weighsByMost_11 rfl ?_
    refine x_aload_n (pc := 12) 0 dX9_weighsByMost_12 rfl ?_
    obtain ⟨q4, e⟩ := chk_some e
    refine x_getR (pc := 13) gf_X9_51 rfl dX9_weighsByMost_13 q2 q4.1 ?_
    refine x_iload_n (pc := 16) 1 dX9_weighsByMost_16 rfl ?_
    obtain ⟨q5, e⟩ := chk_some e
    refine x_iald (pc := 17) dX9_weighsByMost_17 q4 q5 ?_
    obtain ⟨q6, e⟩ := chk_some e
    replace e := lt_go e
    refine x_iast (pc := 18) dX9_weighsByMost_18 q3 q6 ?_
    refine x_iinc (pc := 19) 1 dX9_weighsByMost_19 rfl (by decide) rfl ?_
    refine x_goto (pc := 22) (t := 2) dX9_weighsByMost_22 (by decide) ?_
    exact x_sub1 (hk2 _ _ _ _ e) [1, 0] rfl
noncomputable def f_X9_weighsByMost_L2 (n : Nat) : Hp → Nat → Int32 → Option (Rs Unit) := Nat.rec (motive := fun _ => Hp → Nat → Int32 → Option (Rs Unit)) (fun _ _ _ => none) (fun _ r => f_X9_weighsByMost_B2 r) n
theorem p_X9_weighsByMost_L2 {l : Launch} {K : Ctx} (hl : l.stackTraces = false) : ∀ (n : Nat) (h : Hp) (a0 : Nat) (i1 : Int32) (t : Rs Unit) (e : f_X9_weighsByMost_L2 n h a0 i1 = some t), X l K mM_X9_weighsByMost (tgV t) 2 [(0, .ref a0), (1, .int i1)] [] h := by
  intro n
  induction n with
  | zero => exact fun _ _ _ _ e => nomatch (show (none : Option (Rs Unit)) = some _ from e)
  | succ n ih => exact fun h a0 i1 t e => p_X9_weighsByMost_B2 hl (fun h a0 i1 t e => ih h a0 i1 t e) e
noncomputable def f_X9_weighsByMost (h : Hp) (a0 : Nat) : Option (Rs Unit) :=
  f_X9_weighsByMost_L2 2000 h a0 (iN 0)
theorem p_X9_weighsByMost {l : Launch} {K : Ctx} (hl : l.stackTraces = false) {h : Hp} {a0 : Nat} {t : Rs Unit} (e : f_X9_weighsByMost h a0 = some t) : X l K mM_X9_weighsByMost (tgV t) 0 [(0, .ref a0)] [] h := by
  unfold f_X9_weighsByMost at e
  refine x_iconst (pc := 0) dX9_weighsByMost_0 ?_
  refine x_istore_n (pc := 1) dX9_weighsByMost_1 (by decide) rfl ?_
  exact x_sub1 (p_X9_weighsByMost_L2 hl 2000 _ _ _ _ e) [1, 0] rfl
abbrev w_X9_weighsByMost : Cond := (Cond.code yX9_weighsByMost cX9_weighsByMost 2 (Option.none : Option Jvm.ClassFile.FieldType))
theorem mf_X9_weighsByMost : MF yX9_weighsByMost w_X9_weighsByMost cX9_weighsByMost 2 (Option.none : Option Jvm.ClassFile.FieldType) 0 := ⟨⟨rfl, tw_8_79, by decide⟩, tw_1_11, ⟨by decide, by decide⟩, by decide +kernel⟩
theorem c_X9_weighsByMost {l : Launch} {K : Ctx} (hl : l.stackTraces = false) {h : Hp} {a0 : Nat} {t : Rs Unit} (e : f_X9_weighsByMost h a0 = some t) : Ctr l K 8 yX9_weighsByMost w_X9_weighsByMost [.ref a0] h (tgV t) :=
  Ctr.of hl mf_X9_weighsByMost false (fun q => nomatch q) rfl (leb rfl) (p_X9_weighsByMost hl e)
/-! ## TableColumnBalancerModel.shares -/
abbrev mM_X9_shares : Mi := (8, yX9_shares.cls, cX9_shares, 7, (Option.none : Option Jvm.ClassFile.FieldType), [], false)
noncomputable def f_X9_shares_L201 (k126 : Hp → Nat → Int32 → Int32 → Int32 → Option (Rs Unit)) (h : Hp) (a0 : Nat) (i2 : Int32) (i5 : Int32) (s0 : Int32) (s1 : Int32) : Option (Rs Unit) :=
  k126 h a0 i2 (s1 - s0) (i5 + iN 1)
theorem p_X9_shares_L201 {l : Launch} {K : Ctx} (hl : l.stackTraces = false) {k126 : Hp → Nat → Int32 → Int32 → Int32 → Option (Rs Unit)} (hk126 : ∀ (h : Hp) (a0 : Nat) (i2 : Int32) (i4 : Int32) (i5 : Int32) (t : Rs Unit), k126 h a0 i2 i4 i5 = some t → X l K mM_X9_shares (tgV t) 126 [(0, .ref a0), (2, .int i2), (4, .int i4), (5, .int i5)] [] h) {h : Hp} {a0 : Nat} {i2 : Int32} {i5 : Int32} {s0 : Int32} {s1 : Int32} {t : Rs Unit} (e : f_X9_shares_L201 k126 h a0 i2 i5 s0 s1 = some t) : X l K mM_X9_shares (tgV t) 201 [(0, .ref a0), (2, .int i2), (5, .int i5)] [.int s0, .int s1] h := by
  unfold f_X9_shares_L201 at e
  refine x_isub (pc := 201) dX9_shares_201 ?_
  refine x_istore (pc := 202) dX9_shares_202 (by decide) rfl ?_
  refine x_iinc (pc := 204) 3 dX9_shares_204 rfl (by decide) rfl ?_
  refine x_goto (pc := 207) (t := 126) dX9_shares_207 (by decide) ?_
  exact x_sub1 (hk126 _ _ _ _ _ _ e) [2, 3, 1, 0] rfl
noncomputable def f_X9_shares_L187 (k126 : Hp → Nat → Int32 → Int32 → Int32 → Option (Rs Unit)) (h : Hp) (a0 : Nat) (i2 : Int32) (i4 : Int32) (i5 : Int32) (i6 : Int32) (s0 : Int32) (s1 : Int32) (s2 : Int32) (s3 : Nat) : Option (Rs Unit) :=
  chk (okr h s3 20) <|
  chk (vp_in s2 (qW h s3)) <|
  lt (putI h s3 (Int32.toNatClampNeg s2) (s1 + s0)) fun h3 =>
  if i6 = 0 then (
    f_X9_shares_L201 k126 h3 a0 i2 i5 (iN 0) i4
  ) else (
    f_X9_shares_L201 k126 h3 a0 i2 i5 (iN 1) i4
  )
theorem p_X9_shares_L187 {l : Launch} {K : Ctx} (hl : l.stackTraces = false) {k126 : Hp → Nat → Int32 → Int32 → Int32 → Option (Rs Unit)} (hk126 : ∀ (h : Hp) (a0 : Nat) (i2 : Int32) (i4 : Int32) (i5 : Int32) (t : Rs Unit), k126 h a0 i2 i4 i5 = some t → X l K mM_X9_shares (tgV t) 126 [(0, .ref a0), (2, .int i2), (4, .int i4), (5, .int i5)] [] h) {h : Hp} {a0 : Nat} {i2 : Int32} {i4 : Int32} {i5 : Int32} {i6 : Int32} {s0 : Int32} {s1 : Int32} {s2 : Int32} {s3 : Nat} {t : Rs Unit} (e : f_X9_shares_L187 k126 h a0 i2 i4 i5 i6 s0 s1 s2 s3 = some t) : X l K mM_X9_shares (tgV t) 187 [(0, .ref a0), (2, .int i2), (4, .int i4), (5, .int i5), (6, .int i6)] [.int s0, .int s1, .int s2, .ref s3] h := by
  unfold f_X9_shares_L187 at e
  refine x_iadd (pc := 187) dX9_shares_187 ?_
  obtain ⟨q1, e⟩ := chk_some e
  obtain ⟨q2, e⟩ := chk_some e
  replace e := lt_go e
  refine x_iast (pc := 188) dX9_shares_188 q1 q2 ?_
  refine x_iload (pc := 189) 2 dX9_shares_189 rfl ?_
  refine x_iload (pc := 191) 4 dX9_shares_191 rfl ?_
  rcases ite_some e with ⟨q4, e⟩ | ⟨q4, e⟩
  · refine x_if_eq_t (pc := 193) (t := 200) dX9_shares_193 (by decide) q4 ?_
    refine x_iconst (pc := 200) dX9_shares_200 ?_
    exact x_sub1 (p_X9_shares_L201 hl hk126 e) [0, 1, 3] rfl
  · refine x_if_eq_f (pc := 193) (t := 200) dX9_shares_193 (by decide) q4 ?_
    refine x_iconst (pc := 196) dX9_shares_196 ?_
    refine x_goto (pc := 197) (t := 201) dX9_shares_197 (by decide) ?_
    exact x_sub1 (p_X9_shares_L201 hl hk126 e) [0, 1, 3] rfl
noncomputable def f_X9_shares_L167 (k126 : Hp → Nat → Int32 → Int32 → Int32 → Option (Rs Unit)) (h : Hp) (a0 : Nat) (i2 : Int32) (i4 : Int32) (i5 : Int32) (s0 : Int32) : Option (Rs Unit) :=
  chk (okr h a0 9) <|
  chk (okr h (qR h a0 25) 20) <|
  chk (vp_in i5 (qW h (qR h a0 25))) <|
  if s0 = 0 then (
    f_X9_shares_L187 k126 h a0 i2 i4 i5 s0 (iN 0) (qI h (qR h a0 25) (Int32.toNatClampNeg i5)) i5 (qR h a0 25)
  ) else (
    f_X9_shares_L187 k126 h a0 i2 i4 i5 s0 (iN 1) (qI h (qR h a0 25) (Int32.toNatClampNeg i5)) i5 (qR h a0 25)
  )
theorem p_X9_shares_L167 {l : Launch} {K : Ctx} (hl : l.stackTraces = false) {k126 : Hp → Nat → Int32 → Int32 → Int32 → Option (Rs Unit)} (hk126 : ∀ (h : Hp) (a0 : Nat) (i2 : Int32) (i4 : Int32) (i5 : Int32) (t : Rs Unit), k126 h a0 i2 i4 i5 = some t → X l K mM_X9_shares (tgV t) 126 [(0, .ref a0), (2, .int i2), (4, .int i4), (5, .int i5)] [] h) {h : Hp} {a0 : Nat} {i2 : Int32} {i4 : Int32} {i5 : Int32} {s0 : Int32} {t : Rs Unit} (e : f_X9_shares_L167 k126 h a0 i2 i4 i5 s0 = some t) : X l K mM_X9_shares (tgV t) 167 [(0, .ref a0), (2, .int i2), (4, .int i4), (5, .int i5)] [.int s0] h := by
  unfold f_X9_shares_L167 at e
  refine x_istore (pc := 167) dX9_shares_167 (by decide) rfl ?_
  refine x_aload_n (pc := 169) 1 dX9_shares_169 rfl ?_
  obtain ⟨q1, e⟩ := chk_some e
  obtain ⟨q2, e⟩ := chk_some e
  refine x_getR (pc := 170) gf_X9_60 rfl dX9_shares_170 q1 q2.1 ?_
  refine x_iload (pc := 173) 4 dX9_shares_173 rfl ?_
  refine x_dup2 (pc := 175) dX9_shares_175 rfl rfl ?_
  obtain ⟨q3, e⟩ := chk_some e
  refine x_iald (pc := 176) dX9_shares_176 q2 q3 ?_
  refine x_iload (pc := 177) 0 dX9_shares_177 rfl ?_
  rcases ite_some e with ⟨q4, e⟩ | ⟨q4, e⟩
  · refine x_if_eq_t (pc := 179) (t := 186) dX9_shares_179 (by decide) q4 ?_
    refine x_iconst (pc := 186) dX9_shares_186 ?_
    exact x_sub1 (p_X9_shares_L187 hl hk126 e) [1, 2, 3, 4, 0] rfl
  · refine x_if_eq_f (pc := 179) (t := 186) dX9_shares_179 (by decide) q4 ?_
    refine x_iconst (pc := 182) dX9_shares_182 ?_
    refine x_goto (pc := 183) (t := 187) dX9_shares_183 (by decide) ?_
    exact x_sub1 (p_X9_shares_L187 hl hk126 e) [1, 2, 3, 4, 0] rfl
noncomputable def f_X9_shares_L166 (k126 : Hp → Nat → Int32 → Int32 → Int32 → Option (Rs Unit)) (h : Hp) (a0 : Nat) (i2 : Int32) (i4 : Int32) (i5 : Int32) : Option (Rs Unit) :=
  f_X9_shares_L167 k126 h a0 i2 i4 i5 (iN 0)
theorem p_X9_shares_L166 {l : Launch} {K : Ctx} (hl : l.stackTraces = false) {k126 : Hp → Nat → Int32 → Int32 → Int32 → Option (Rs Unit)} (hk126 : ∀ (h : Hp) (a0 : Nat) (i2 : Int32) (i4 : Int32) (i5 : Int32) (t : Rs Unit), k126 h a0 i2 i4 i5 = some t → X l K mM_X9_shares (tgV t) 126 [(0, .ref a0), (2, .int i2), (4, .int i4), (5, .int i5)] [] h) {h : Hp} {a0 : Nat} {i2 : Int32} {i4 : Int32} {i5 : Int32} {t : Rs Unit} (e : f_X9_shares_L166 k126 h a0 i2 i4 i5 = some t) : X l K mM_X9_shares (tgV t) 166 [(0, .ref a0), (2, .int i2), (4, .int i4), (5, .int i5)] [] h := by
  unfold f_X9_shares_L166 at e
  refine x_iconst (pc := 166) dX9_shares_166 ?_
  exact p_X9_shares_L167 hl hk126 e
noncomputable def f_X9_shares_B126 (k126 : Hp → Nat → Int32 → Int32 → Int32 → Option (Rs Unit)) (h : Hp) (a0 : Nat) (i2 : Int32) (i4 : Int32) (i5 : Int32) : Option (Rs Unit) :=
  chk (okr h a0 9) <|
  chk (okr h (qR h a0 1) 20) <|
  chk (vp_in (iN 0) (qW h (qR h a0 1))) <|
  if (qI h (qR h a0 1) (Int32.toNatClampNeg (iN 0))) ≤ i5 then (
    some (h, .inr ())
  ) else (
    if i4 ≤ 0 then (
      some (h, .inr ())
    ) else (
      if ((i2 >>> (i5 &&& 31)) &&& (iN 1)) = (iN 1) then (
        chk (okr h (qR h a0 24) 20) <|
        chk (vp_in i5 (qW h (qR h a0 24))) <|
        if (qI h (qR h a0 24) (Int32.toNatClampNeg i5)) ≤ 0 then (
          f_X9_shares_L166 k126 h a0 i2 i4 i5
        ) else (
          f_X9_shares_L167 k126 h a0 i2 i4 i5 (iN 1)
        )
      ) else (
        f_X9_shares_L166 k126 h a0 i2 i4 i5
      )
    )
  )
theorem p_X9_shares_B126 {l : Launch} {K : Ctx} (hl : l.stackTraces = false) {k126 : Hp → Nat → Int32 → Int32 → Int32 → Option (Rs Unit)} (hk126 : ∀ (h : Hp) (a0 : Nat) (i2 : Int32) (i4 : Int32) (i5 : Int32) (t : Rs Unit), k126 h a0 i2 i4 i5 = some t → X l K mM_X9_shares (tgV t) 126 [(0, .ref a0), (2, .int i2), (4, .int i4), (5, .int i5)] [] h) {h : Hp} {a0 : Nat} {i2 : Int32} {i4 : Int32} {i5 : Int32} {t : Rs Unit} (e : f_X9_shares_B126 k126 h a0 i2 i4 i5 = some t) : X l K mM_X9_shares (tgV t) 126 [(0, .ref a0), (2, .int i2), (4, .int i4), (5, .int i5)] [] h := by
  unfold f_X9_shares_B126 at e
  refine x_iload (pc := 126) 3 dX9_shares_126 rfl ?_
  refine x_aload_n (pc := 128) 0 dX9_shares_128 rfl ?_
  obtain ⟨q1, e⟩ := chk_some e
  obtain ⟨q2, e⟩ := chk_some e
  refine x_getR (pc := 129) gf_X9_9 rfl dX9_shares_129 q1 q2.1 ?_
  refine x_iconst (pc := 132) dX9_shares_132 ?_
  obtain ⟨q3, e⟩ := chk_some e
  refine x_iald (pc := 133) dX9_shares_133 q2 q3 ?_
  rcases ite_some e with ⟨q4, e⟩ | ⟨q4, e⟩
  · refine x_icmp_ge_t (pc := 134) (t := 210) dX9_shares_134 (by decide) q4 ?_
    cases Option.some.inj e
    exact x_vret (pc := 210) rfl dX9_shares_210
  · refine x_icmp_ge_f (pc := 134) (t := 210) dX9_shares_134 (by decide) q4 ?_
    refine x_iload (pc := 137) 2 dX9_shares_137 rfl ?_
    rcases ite_some e with ⟨q5, e⟩ | ⟨q5, e⟩
    · refine x_if_le_t (pc := 139) (t := 210) dX9_shares_139 (by decide) q5 ?_
      cases Option.some.inj e
      exact x_vret (pc := 210) rfl dX9_shares_210
    · refine x_if_le_f (pc := 139) (t := 210) dX9_shares_139 (by decide) q5 ?_
      refine x_iload_n (pc := 142) 1 dX9_shares_142 rfl ?_
      refine x_iload (pc := 143) 3 dX9_shares_143 rfl ?_
      refine x_ishr (pc := 145) dX9_shares_145 ?_
      refine x_iconst (pc := 146) dX9_shares_146 ?_
      refine x_iand (pc := 147) dX9_shares_147 ?_
      refine x_iconst (pc := 148) dX9_shares_148 ?_
      rcases ite_some e with ⟨q6, e⟩ | ⟨q6, e⟩
      · refine x_icmp_ne_f (pc := 149) (t := 166) dX9_shares_149 (by decide) q6 ?_
        refine x_aload_n (pc := 152) 0 dX9_shares_152 rfl ?_
        obtain ⟨q7, e⟩ := chk_some e
        refine x_getR (pc := 153) gf_X9_57 rfl dX9_shares_153 q1 q7.1 ?_
        refine x_iload (pc := 156) 3 dX9_shares_156 rfl ?_
        obtain ⟨q8, e⟩ := chk_some e
        refine x_iald (pc := 158) dX9_shares_158 q7 q8 ?_
        rcases ite_some e with ⟨q9, e⟩ | ⟨q9, e⟩
        · refine x_if_le_t (pc := 159) (t := 166) dX9_shares_159 (by decide) q9 ?_
          exact p_X9_shares_L166 hl hk126 e
        · refine x_if_le_f (pc := 159) (t := 166) dX9_shares_159 (by decide) q9 ?_
          refine x_iconst (pc := 162) dX9_shares_162 ?_
          refine x_goto (pc := 163) (t := 167) dX9_shares_163 (by decide) ?_
          exact p_X9_shares_L167 hl hk126 e
      · refine x_icmp_ne_t (pc := 149) (t := 166) dX9_shares_149 (by decide) q6 ?_
        exact p_X9_shares_L166 hl hk126 e
noncomputable def f_X9_shares_L126 (n : Nat) : Hp → Nat → Int32 → Int32 → Int32 → Option (Rs Unit) := Nat.rec (motive := fun _ => Hp → Nat → Int32 → Int32 → Int32 → Option (Rs Unit)) (fun _ _ _ _ _ => none) (fun _ r => f_X9_shares_B126 r) n
theorem p_X9_shares_L126 {l : Launch} {K : Ctx} (hl : l.stackTraces = false) : ∀ (n : Nat) (h : Hp) (a0 : Nat) (i2 : Int32) (i4 : Int32) (i5 : Int32) (t : Rs Unit) (e : f_X9_shares_L126 n h a0 i2 i4 i5 = some t), X l K mM_X9_shares (tgV t) 126 [(0, .ref a0), (2, .int i2), (4, .int i4), (5, .int i5)] [] h := by
  intro n
  induction n with
  | zero => exact fun _ _ _ _ _ _ e => nomatch (show (none : Option (Rs Unit)) = some _ from e)
  | succ n ih => exact fun h a0 i2 i4 i5 t e => p_X9_shares_B126 hl (fun h a0 i2 i4 i5 t e => ih h a0 i2 i4 i5 t e) e
noncomputable def f_X9_shares_L104 (k52 : Hp → Nat → Int32 → Int32 → Int32 → Int32 → Int32 → Option (Rs Unit)) (h : Hp) (a0 : Nat) (i1 : Int32) (i2 : Int32) (i3 : Int32) (i4 : Int32) (i5 : Int32) (s0 : Int32) (s1 : Int32) (s2 : Nat) : Option (Rs Unit) :=
  chk (okr h s2 20) <|
  chk (vp_in s1 (qW h s2)) <|
  lt (putI h s2 (Int32.toNatClampNeg s1) s0) fun h3 =>
  chk (okr h3 a0 9) <|
  chk (okr h3 (qR h3 a0 25) 20) <|
  chk (vp_in i5 (qW h3 (qR h3 a0 25))) <|
  k52 h3 a0 i1 i2 i3 (i4 - (qI h3 (qR h3 a0 25) (Int32.toNatClampNeg i5))) (i5 + iN 1)
theorem p_X9_shares_L104 {l : Launch} {K : Ctx} (hl : l.stackTraces = false) {k52 : Hp → Nat → Int32 → Int32 → Int32 → Int32 → Int32 → Option (Rs Unit)} (hk52 : ∀ (h : Hp) (a0 : Nat) (i1 : Int32) (i2 : Int32) (i3 : Int32) (i4 : Int32) (i5 : Int32) (t : Rs Unit), k52 h a0 i1 i2 i3 i4 i5 = some t → X l K mM_X9_shares (tgV t) 52 [(0, .ref a0), (1, .int i1), (2, .int i2), (3, .int i3), (4, .int i4), (5, .int i5)] [] h) {h : Hp} {a0 : Nat} {i1 : Int32} {i2 : Int32} {i3 : Int32} {i4 : Int32} {i5 : Int32} {s0 : Int32} {s1 : Int32} {s2 : Nat} {t : Rs Unit} (e : f_X9_shares_L104 k52 h a0 i1 i2 i3 i4 i5 s0 s1 s2 = some t) : X l K mM_X9_shares (tgV t) 104 [(0, .ref a0), (1, .int i1), (2, .int i2), (3, .int i3), (4, .int i4), (5, .int i5)] [.int s0, .int s1, .ref s2] h := by
  unfold f_X9_shares_L104 at e
  obtain ⟨q1, e⟩ := chk_some e
  obtain ⟨q2, e⟩ := chk_some e
  replace e := lt_go e
  refine x_iast (pc := 104) dX9_shares_104 q1 q2 ?_
  refine x_iload (pc := 105) 4 dX9_shares_105 rfl ?_
  refine x_aload_n (pc := 107) 0 dX9_shares_107 rfl ?_
  obtain ⟨q4, e⟩ := chk_some e
  obtain ⟨q5, e⟩ := chk_some e
  refine x_getR (pc := 108) gf_X9_60 rfl dX9_shares_108 q4 q5.1 ?_
  refine x_iload (pc := 111) 5 dX9_shares_111 rfl ?_
  obtain ⟨q6, e⟩ := chk_some e
  refine x_iald (pc := 113) dX9_shares_113 q5 q6 ?_
  refine x_isub (pc := 114) dX9_shares_114 ?_
  refine x_istore (pc := 115) dX9_shares_115 (by decide) rfl ?_
  refine x_iinc (pc := 117) 5 dX9_shares_117 rfl (by decide) rfl ?_
  refine x_goto (pc := 120) (t := 52) dX9_shares_120 (by decide) ?_
  exact x_sub1 (hk52 _ _ _ _ _ _ _ _ e) [2, 3, 4, 5, 1, 0] rfl
noncomputable def f_X9_shares_L103 (k52 : Hp → Nat → Int32 → Int32 → Int32 → Int32 → Int32 → Option (Rs Unit)) (h : Hp) (a0 : Nat) (i1 : Int32) (i2 : Int32) (i3 : Int32) (i4 : Int32) (i5 : Int32) (s0 : Int32) (s1 : Nat) : Option (Rs Unit) :=
  f_X9_shares_L104 k52 h a0 i1 i2 i3 i4 i5 (iN 0) s0 s1
theorem p_X9_shares_L103 {l : Launch} {K : Ctx} (hl : l.stackTraces = false) {k52 : Hp → Nat → Int32 → Int32 → Int32 → Int32 → Int32 → Option (Rs Unit)} (hk52 : ∀ (h : Hp) (a0 : Nat) (i1 : Int32) (i2 : Int32) (i3 : Int32) (i4 : Int32) (i5 : Int32) (t : Rs Unit), k52 h a0 i1 i2 i3 i4 i5 = some t → X l K mM_X9_shares (tgV t) 52 [(0, .ref a0), (1, .int i1), (2, .int i2), (3, .int i3), (4, .int i4), (5, .int i5)] [] h) {h : Hp} {a0 : Nat} {i1 : Int32} {i2 : Int32} {i3 : Int32} {i4 : Int32} {i5 : Int32} {s0 : Int32} {s1 : Nat} {t : Rs Unit} (e : f_X9_shares_L103 k52 h a0 i1 i2 i3 i4 i5 s0 s1 = some t) : X l K mM_X9_shares (tgV t) 103 [(0, .ref a0), (1, .int i1), (2, .int i2), (3, .int i3), (4, .int i4), (5, .int i5)] [.int s0, .ref s1] h := by
  unfold f_X9_shares_L103 at e
  refine x_iconst (pc := 103) dX9_shares_103 ?_
  exact p_X9_shares_L104 hl hk52 e
noncomputable def f_X9_shares_B52 (k52 : Hp → Nat → Int32 → Int32 → Int32 → Int32 → Int32 → Option (Rs Unit)) (h : Hp) (a0 : Nat) (i1 : Int32) (i2 : Int32) (i3 : Int32) (i4 : Int32) (i5 : Int32) : Option (Rs Unit) :=
  if (iN 4) ≤ i5 then (
    f_X9_shares_L126 2000 h a0 i2 i4 (iN 0)
  ) else (
    chk (okr h a0 9) <|
    chk (okr h (qR h a0 25) 20) <|
    chk (okr h (qR h a0 1) 20) <|
    chk (vp_in (iN 0) (qW h (qR h a0 1))) <|
    if (qI h (qR h a0 1) (Int32.toNatClampNeg (iN 0))) ≤ i5 then (
      f_X9_shares_L103 k52 h a0 i1 i2 i3 i4 i5 i5 (qR h a0 25)
    ) else (
      if ((i2 >>> (i5 &&& 31)) &&& (iN 1)) = (iN 1) then (
        if i3 ≤ 0 then (
          f_X9_shares_L103 k52 h a0 i1 i2 i3 i4 i5 i5 (qR h a0 25)
        ) else (
          chk (okr h (qR h a0 24) 20) <|
          chk (vp_in i5 (qW h (qR h a0 24))) <|
          chk (¬ i3 = 0) <|
          f_X9_shares_L104 k52 h a0 i1 i2 i3 i4 i5 ((i1 * (qI h (qR h a0 24) (Int32.toNatClampNeg i5))) / i3) i5 (qR h a0 25)
        )
      ) else (
        f_X9_shares_L103 k52 h a0 i1 i2 i3 i4 i5 i5 (qR h a0 25)
      )
    )
  )
theorem p_X9_shares_B52 {l : Launch} {K : Ctx} (hl : l.stackTraces = false) {k52 : Hp → Nat → Int32 → Int32 → Int32 → Int32 → Int32 → Option (Rs Unit)} (hk52 : ∀ (h : Hp) (a0 : Nat) (i1 : Int32) (i2 : Int32) (i3 : Int32) (i4 : Int32) (i5 : Int32) (t : Rs Unit), k52 h a0 i1 i2 i3 i4 i5 = some t → X l K mM_X9_shares (tgV t) 52 [(0, .ref a0), (1, .int i1), (2, .int i2), (3, .int i3), (4, .int i4), (5, .int i5)] [] h) {h : Hp} {a0 : Nat} {i1 : Int32} {i2 : Int32} {i3 : Int32} {i4 : Int32} {i5 : Int32} {t : Rs Unit} (e : f_X9_shares_B52 k52 h a0 i1 i2 i3 i4 i5 = some t) : X l K mM_X9_shares (tgV t) 52 [(0, .ref a0), (1, .int i1), (2, .int i2), (3, .int i3), (4, .int i4), (5, .int i5)] [] h := by
  unfold f_X9_shares_B52 at e
  refine x_iload (pc := 52) 5 dX9_shares_52 rfl ?_
  refine x_iconst (pc := 54) dX9_shares_54 ?_
  rcases ite_some e with ⟨q1, e⟩ | ⟨q1, e⟩
  · refine x_icmp_ge_t (pc := 55) (t := 123) dX9_shares_55 (by decide) q1 ?_
    refine x_iconst (pc := 123) dX9_shares_123 ?_
    refine x_istore (pc := 124) dX9_shares_124 (by decide) rfl ?_
    exact x_sub1 (p_X9_shares_L126 hl 2000 _ _ _ _ _ _ e) [1, 3, 5, 0] rfl
  · refine x_icmp_ge_f (pc := 55) (t := 123) dX9_shares_55 (by decide) q1 ?_
    refine x_aload_n (pc := 58) 0 dX9_shares_58 rfl ?_
    obtain ⟨q2, e⟩ := chk_some e
    obtain ⟨q3, e⟩ := chk_some e
    refine x_getR (pc := 59) gf_X9_60 rfl dX9_shares_59 q2 q3.1 ?_
    refine x_iload (pc := 62) 5 dX9_shares_62 rfl ?_
    refine x_iload (pc := 64) 5 dX9_shares_64 rfl ?_
    refine x_aload_n (pc := 66) 0 dX9_shares_66 rfl ?_
    obtain ⟨q4, e⟩ := chk_some e
    refine x_getR (pc := 67) gf_X9_9 rfl dX9_shares_67 q2 q4.1 ?_
    refine x_iconst (pc := 70) dX9_shares_70 ?_
    obtain ⟨q5, e⟩ := chk_some e
    refine x_iald (pc := 71) dX9_shares_71 q4 q5 ?_
    rcases ite_some e with ⟨q6, e⟩ | ⟨q6, e⟩
    · refine x_icmp_ge_t (pc := 72) (t := 103) dX9_shares_72 (by decide) q6 ?_
      exact p_X9_shares_L103 hl hk52 e
    · refine x_icmp_ge_f (pc := 72) (t := 103) dX9_shares_72 (by decide) q6 ?_
      refine x_iload_n (pc := 75) 2 dX9_shares_75 rfl ?_
      refine x_iload (pc := 76) 5 dX9_shares_76 rfl ?_
      refine x_ishr (pc := 78) dX9_shares_78 ?_
      refine x_iconst (pc := 79) dX9_shares_79 ?_
      refine x_iand (pc := 80) dX9_shares_80 ?_
      refine x_iconst (pc := 81) dX9_shares_81 ?_
      rcases ite_some e with ⟨q7, e⟩ | ⟨q7, e⟩
      · refine x_icmp_ne_f (pc := 82) (t := 103) dX9_shares_82 (by decide) q7 ?_
        refine x_iload_n (pc := 85) 3 dX9_shares_85 rfl ?_
        rcases ite_some e with ⟨q8, e⟩ | ⟨q8, e⟩
        · refine x_if_le_t (pc := 86) (t := 103) dX9_shares_86 (by decide) q8 ?_
          exact p_X9_shares_L103 hl hk52 e
        · refine x_if_le_f (pc := 86) (t := 103) dX9_shares_86 (by decide) q8 ?_
          refine x_iload_n (pc := 89) 1 dX9_shares_89 rfl ?_
          refine x_aload_n (pc := 90) 0 dX9_shares_90 rfl ?_
          obtain ⟨q9, e⟩ := chk_some e
          refine x_getR (pc := 91) gf_X9_57 rfl dX9_shares_91 q2 q9.1 ?_
          refine x_iload (pc := 94) 5 dX9_shares_94 rfl ?_
          obtain ⟨q10, e⟩ := chk_some e
          refine x_iald (pc := 96) dX9_shares_96 q9 q10 ?_
          refine x_imul (pc := 97) dX9_shares_97 ?_
          refine x_iload_n (pc := 98) 3 dX9_shares_98 rfl ?_
          obtain ⟨q11, e⟩ := chk_some e
          refine x_idiv (pc := 99) dX9_shares_99 q11 ?_
          refine x_goto (pc := 100) (t := 104) dX9_shares_100 (by decide) ?_
          exact p_X9_shares_L104 hl hk52 e
      · refine x_icmp_ne_t (pc := 82) (t := 103) dX9_shares_82 (by decide) q7 ?_
        exact p_X9_shares_L103 hl hk52 e
noncomputable def f_X9_shares_L52 (n : Nat) : Hp → Nat → Int32 → Int32 → Int32 → Int32 → Int32 → Option (Rs Unit) := Nat.rec (motive := fun _ => Hp → Nat → Int32 → Int32 → Int32 → Int32 → Int32 → Option (Rs Unit)) (fun _ _ _ _ _ _ _ => none) (fun _ r => f_X9_shares_B52 r) n
theorem p_X9_shares_L52 {l : Launch} {K : Ctx} (hl : l.stackTraces = false) : ∀ (n : Nat) (h : Hp) (a0 : Nat) (i1 : Int32) (i2 : Int32) (i3 : Int32) (i4 : Int32) (i5 : Int32) (t : Rs Unit) (e : f_X9_shares_L52 n h a0 i1 i2 i3 i4 i5 = some t), X l K mM_X9_shares (tgV t) 52 [(0, .ref a0), (1, .int i1), (2, .int i2), (3, .int i3), (4, .int i4), (5, .int i5)] [] h := by
  intro n
  induction n with
  | zero => exact fun _ _ _ _ _ _ _ _ e => nomatch (show (none : Option (Rs Unit)) = some _ from e)
  | succ n ih => exact fun h a0 i1 i2 i3 i4 i5 t e => p_X9_shares_B52 hl (fun h a0 i1 i2 i3 i4 i5 t e => ih h a0 i1 i2 i3 i4 i5 t e) e
noncomputable def f_X9_shares_L38 (k5 : Hp → Nat → Int32 → Int32 → Int32 → Int32 → Option (Rs Unit)) (h : Hp) (a0 : Nat) (i1 : Int32) (i2 : Int32) (i4 : Int32) (s0 : Int32) (s1 : Int32) : Option (Rs Unit) :=
  k5 h a0 i1 i2 (s1 + s0) (i4 + iN 1)
theorem p_X9_shares_L38 {l : Launch} {K : Ctx} (hl : l.stackTraces = false) {k5 : Hp → Nat → Int32 → Int32 → Int32 → Int32 → Option (Rs Unit)} (hk5 : ∀ (h : Hp) (a0 : Nat) (i1 : Int32) (i2 : Int32) (i3 : Int32) (i4 : Int32) (t : Rs Unit), k5 h a0 i1 i2 i3 i4 = some t → X l K mM_X9_shares (tgV t) 5 [(0, .ref a0), (1, .int i1), (2, .int i2), (3, .int i3), (4, .int i4)] [] h) {h : Hp} {a0 : Nat} {i1 : Int32} {i2 : Int32} {i4 : Int32} {s0 : Int32} {s1 : Int32} {t : Rs Unit} (e : f_X9_shares_L38 k5 h a0 i1 i2 i4 s0 s1 = some t) : X l K mM_X9_shares (tgV t) 38 [(0, .ref a0), (1, .int i1), (2, .int i2), (4, .int i4)] [.int s0, .int s1] h := by
  unfold f_X9_shares_L38 at e
  refine x_iadd (pc := 38) dX9_shares_38 ?_
  refine x_istore_n (pc := 39) dX9_shares_39 (by decide) rfl ?_
  refine x_iinc (pc := 40) 4 dX9_shares_40 rfl (by decide) rfl ?_
  refine x_goto (pc := 43) (t := 5) dX9_shares_43 (by decide) ?_
  exact x_sub1 (hk5 _ _ _ _ _ _ _ e) [2, 3, 4, 1, 0] rfl
noncomputable def f_X9_shares_B5 (k5 : Hp → Nat → Int32 → Int32 → Int32 → Int32 → Option (Rs Unit)) (h : Hp) (a0 : Nat) (i1 : Int32) (i2 : Int32) (i3 : Int32) (i4 : Int32) : Option (Rs Unit) :=
  chk (okr h a0 9) <|
  chk (okr h (qR h a0 1) 20) <|
  chk (vp_in (iN 0) (qW h (qR h a0 1))) <|
  if (qI h (qR h a0 1) (Int32.toNatClampNeg (iN 0))) ≤ i4 then (
    f_X9_shares_L52 2000 h a0 i1 i2 i3 i1 (iN 0)
  ) else (
    if ((i2 >>> (i4 &&& 31)) &&& (iN 1)) = (iN 1) then (
      chk (okr h (qR h a0 24) 20) <|
      chk (vp_in i4 (qW h (qR h a0 24))) <|
      f_X9_shares_L38 k5 h a0 i1 i2 i4 (qI h (qR h a0 24) (Int32.toNatClampNeg i4)) i3
    ) else (
      f_X9_shares_L38 k5 h a0 i1 i2 i4 (iN 0) i3
    )
  )
theorem p_X9_shares_B5 {l : Launch} {K : Ctx} (hl : l.stackTraces = false) {k5 : Hp → Nat → Int32 → Int32 → Int32 → Int32 → Option (Rs Unit)} (hk5 : ∀ (h : Hp) (a0 : Nat) (i1 : Int32) (i2 : Int32) (i3 : Int32) (i4 : Int32) (t : Rs Unit), k5 h a0 i1 i2 i3 i4 = some t → X l K mM_X9_shares (tgV t) 5 [(0, .ref a0), (1, .int i1), (2, .int i2), (3, .int i3), (4, .int i4)] [] h) {h : Hp} {a0 : Nat} {i1 : Int32} {i2 : Int32} {i3 : Int32} {i4 : Int32} {t : Rs Unit} (e : f_X9_shares_B5 k5 h a0 i1 i2 i3 i4 = some t) : X l K mM_X9_shares (tgV t) 5 [(0, .ref a0), (1, .int i1), (2, .int i2), (3, .int i3), (4, .int i4)] [] h := by
  unfold f_X9_shares_B5 at e
  refine x_iload (pc := 5) 4 dX9_shares_5 rfl ?_
  refine x_aload_n (pc := 7) 0 dX9_shares_7 rfl ?_
  obtain ⟨q1, e⟩ := chk_some e
  obtain ⟨q2, e⟩ := chk_some e
  refine x_getR (pc := 8) gf_X9_9 rfl dX9_shares_8 q1 q2.1 ?_
  refine x_iconst (pc := 11) dX9_shares_11 ?_
  obtain ⟨q3, e⟩ := chk_some e
  refine x_iald (pc := 12) dX9_shares_12 q2 q3 ?_
  rcases ite_some e with ⟨q4, e⟩ | ⟨q4, e⟩
  · refine x_icmp_ge_t (pc := 13) (t := 46) dX9_shares_13 (by decide) q4 ?_
    refine x_iload_n (pc := 46) 1 dX9_shares_46 rfl ?_
    refine x_istore (pc := 47) dX9_shares_47 (by decide) rfl ?_
    refine x_iconst (pc := 49) dX9_shares_49 ?_
    refine x_istore (pc := 50) dX9_shares_50 (by decide) rfl ?_
    exact x_sub1 (p_X9_shares_L52 hl 2000 _ _ _ _ _ _ _ _ e) [2, 3, 4, 5, 1, 0] rfl
  · refine x_icmp_ge_f (pc := 13) (t := 46) dX9_shares_13 (by decide) q4 ?_
    refine x_iload_n (pc := 16) 3 dX9_shares_16 rfl ?_
    refine x_iload_n (pc := 17) 2 dX9_shares_17 rfl ?_
    refine x_iload (pc := 18) 4 dX9_shares_18 rfl ?_
    refine x_ishr (pc := 20) dX9_shares_20 ?_
    refine x_iconst (pc := 21) dX9_shares_21 ?_
    refine x_iand (pc := 22) dX9_shares_22 ?_
    refine x_iconst (pc := 23) dX9_shares_23 ?_
    rcases ite_some e with ⟨q5, e⟩ | ⟨q5, e⟩
    · refine x_icmp_ne_f (pc := 24) (t := 37) dX9_shares_24 (by decide) q5 ?_
      refine x_aload_n (pc := 27) 0 dX9_shares_27 rfl ?_
      obtain ⟨q6, e⟩ := chk_some e
      refine x_getR (pc := 28) gf_X9_57 rfl dX9_shares_28 q1 q6.1 ?_
      refine x_iload (pc := 31) 4 dX9_shares_31 rfl ?_
      obtain ⟨q7, e⟩ := chk_some e
      refine x_iald (pc := 33) dX9_shares_33 q6 q7 ?_
      refine x_goto (pc := 34) (t := 38) dX9_shares_34 (by decide) ?_
      exact x_sub1 (p_X9_shares_L38 hl hk5 e) [0, 1, 2, 4] rfl
    · refine x_icmp_ne_t (pc := 24) (t := 37) dX9_shares_24 (by decide) q5 ?_
      refine x_iconst (pc := 37) dX9_shares_37 ?_
      exact x_sub1 (p_X9_shares_L38 hl hk5 e) [0, 1, 2, 4] rfl
noncomputable def f_X9_shares_L5 (n : Nat) : Hp → Nat → Int32 → Int32 → Int32 → Int32 → Option (Rs Unit) := Nat.rec (motive := fun _ => Hp → Nat → Int32 → Int32 → Int32 → Int32 → Option (Rs Unit)) (fun _ _ _ _ _ _ => none) (fun _ r => f_X9_shares_B5 r) n
theorem p_X9_shares_L5 {l : Launch} {K : Ctx} (hl : l.stackTraces = false) : ∀ (n : Nat) (h : Hp) (a0 : Nat) (i1 : Int32) (i2 : Int32) (i3 : Int32) (i4 : Int32) (t : Rs Unit) (e : f_X9_shares_L5 n h a0 i1 i2 i3 i4 = some t), X l K mM_X9_shares (tgV t) 5 [(0, .ref a0), (1, .int i1), (2, .int i2), (3, .int i3), (4, .int i4)] [] h := by
  intro n
  induction n with
  | zero => exact fun _ _ _ _ _ _ _ e => nomatch (show (none : Option (Rs Unit)) = some _ from e)
  | succ n ih => exact fun h a0 i1 i2 i3 i4 t e => p_X9_shares_B5 hl (fun h a0 i1 i2 i3 i4 t e => ih h a0 i1 i2 i3 i4 t e) e
noncomputable def f_X9_shares (h : Hp) (a0 : Nat) (i1 : Int32) (i2 : Int32) : Option (Rs Unit) :=
  f_X9_shares_L5 2000 h a0 i1 i2 (iN 0) (iN 0)
theorem p_X9_shares {l : Launch} {K : Ctx} (hl : l.stackTraces = false) {h : Hp} {a0 : Nat} {i1 : Int32} {i2 : Int32} {t : Rs Unit} (e : f_X9_shares h a0 i1 i2 = some t) : X l K mM_X9_shares (tgV t) 0 [(0, .ref a0), (1, .int i1), (2, .int i2)] [] h := by
  unfold f_X9_shares at e
  refine x_iconst (pc := 0) dX9_shares_0 ?_
  refine x_istore_n (pc := 1) dX9_shares_1 (by decide) rfl ?_
  refine x_iconst (pc := 2) dX9_shares_2 ?_
  refine x_istore (pc := 3) dX9_shares_3 (by decide) rfl ?_
  exact x_sub1 (p_X9_shares_L5 hl 2000 _ _ _ _ _ _ _ e) [2, 3, 4, 1, 0] rfl
abbrev w_X9_shares : Cond := (Cond.code yX9_shares cX9_shares 7 (Option.none : Option Jvm.ClassFile.FieldType))
theorem mf_X9_shares : MF yX9_shares w_X9_shares cX9_shares 7 (Option.none : Option Jvm.ClassFile.FieldType) 2 := ⟨⟨rfl, tw_8_83, by decide⟩, tw_1_11, ⟨by decide, by decide⟩, by decide +kernel⟩
theorem c_X9_shares {l : Launch} {K : Ctx} (hl : l.stackTraces = false) {h : Hp} {a0 : Nat} {i1 : Int32} {i2 : Int32} {t : Rs Unit} (e : f_X9_shares h a0 i1 i2 = some t) : Ctr l K 8 yX9_shares w_X9_shares [.ref a0, .int i1, .int i2] h (tgV t) :=
  Ctr.of hl mf_X9_shares false (fun q => nomatch q) rfl (leb rfl) (p_X9_shares hl e)
/-! ## TableColumnBalancerModel.spreads -/
abbrev mM_X9_spreads : Mi := (12, yX9_spreads.cls, cX9_spreads, 6, (Option.none : Option Jvm.ClassFile.FieldType), [], false)
noncomputable def f_X9_spreads_B231 (k231 : Hp → Nat → Int32 → Option (Rs Unit)) (h : Hp) (a0 : Nat) (i5 : Int32) : Option (Rs Unit) :=
  chk (okr h a0 9) <|
  chk (okr h (qR h a0 1) 20) <|
  chk (vp_in (iN 0) (qW h (qR h a0 1))) <|
  if (qI h (qR h a0 1) (Int32.toNatClampNeg (iN 0))) ≤ i5 then (
    some (h, .inr ())
  ) else (
    chk (okr h (qR h a0 22) 20) <|
    chk (vp_in i5 (qW h (qR h a0 22))) <|
    chk (okr h (qR h a0 25) 20) <|
    chk (vp_in i5 (qW h (qR h a0 25))) <|
    lt (putI h (qR h a0 22) (Int32.toNatClampNeg i5) ((qI h (qR h a0 22) (Int32.toNatClampNeg i5)) + (qI h (qR h a0 25) (Int32.toNatClampNeg i5)))) fun h9 =>
    k231 h9 a0 (i5 + iN 1)
  )
theorem p_X9_spreads_B231 {l : Launch} {K : Ctx} (hl : l.stackTraces = false) {k231 : Hp → Nat → Int32 → Option (Rs Unit)} (hk231 : ∀ (h : Hp) (a0 : Nat) (i5 : Int32) (t : Rs Unit), k231 h a0 i5 = some t → X l K mM_X9_spreads (tgV t) 231 [(0, .ref a0), (5, .int i5)] [] h) {h : Hp} {a0 : Nat} {i5 : Int32} {t : Rs Unit} (e : f_X9_spreads_B231 k231 h a0 i5 = some t) : X l K mM_X9_spreads (tgV t) 231 [(0, .ref a0), (5, .int i5)] [] h := by
  unfold f_X9_spreads_B231 at e
  refine x_iload (pc := 231) 1 dX9_spreads_231 rfl ?_
  refine x_aload_n (pc := 233) 0 dX9_spreads_233 rfl ?_
  obtain ⟨q1, e⟩ := chk_some e
  obtain ⟨q2, e⟩ := chk_some e
  refine x_getR (pc := 234) gf_X9_9 rfl dX9_spreads_234 q1 q2.1 ?_
  refine x_iconst (pc := 237) dX9_spreads_237 ?_
  obtain ⟨q3, e⟩ := chk_some e
  refine x_iald (pc := 238) dX9_spreads_238 q2 q3 ?_
  rcases ite_some e with ⟨q4, e⟩ | ⟨q4, e⟩
  · refine x_icmp_ge_t (pc := 239) (t := 265) dX9_spreads_239 (by decide) q4 ?_
    cases Option.some.inj e
    exact x_vret (pc := 265) rfl dX9_spreads_265
  · refine x_icmp_ge_f (pc := 239) (t := 265) dX9_spreads_239 (by decide) q4 ?_
    refine x_aload_n (pc := 242) 0 dX9_spreads_242 rfl ?_
    obtain ⟨q5, e⟩ := chk_some e
    refine x_getR (pc := 243) gf_X9_51 rfl dX9_spreads_243 q1 q5.1 ?_
    refine x_iload (pc := 246) 1 dX9_spreads_246 rfl ?_
    refine x_dup2 (pc := 248) dX9_spreads_248 rfl rfl ?_
    obtain ⟨q6, e⟩ := chk_some e
    refine x_iald (pc := 249) dX9_spreads_249 q5 q6 ?_
    refine x_aload_n (pc := 250) 0 dX9_spreads_250 rfl ?_
    obtain ⟨q7, e⟩ := chk_some e
    refine x_getR (pc := 251) gf_X9_60 rfl dX9_spreads_251 q1 q7.1 ?_
    refine x_iload (pc := 254) 1 dX9_spreads_254 rfl ?_
    obtain ⟨q8, e⟩ := chk_some e
    refine x_iald (pc := 256) dX9_spreads_256 q7 q8 ?_
    refine x_iadd (pc := 257) dX9_spreads_257 ?_
    replace e := lt_go e
    refine x_iast (pc := 258) dX9_spreads_258 q5 q6 ?_
    refine x_iinc (pc := 259) 1 dX9_spreads_259 rfl (by decide) rfl ?_
    refine x_goto (pc := 262) (t := 231) dX9_spreads_262 (by decide) ?_
    exact x_sub1 (hk231 _ _ _ _ e) [1, 0] rfl
noncomputable def f_X9_spreads_L231 (n : Nat) : Hp → Nat → Int32 → Option (Rs Unit) := Nat.rec (motive := fun _ => Hp → Nat → Int32 → Option (Rs Unit)) (fun _ _ _ => none) (fun _ r => f_X9_spreads_B231 r) n
theorem p_X9_spreads_L231 {l : Launch} {K : Ctx} (hl : l.stackTraces = false) : ∀ (n : Nat) (h : Hp) (a0 : Nat) (i5 : Int32) (t : Rs Unit) (e : f_X9_spreads_L231 n h a0 i5 = some t), X l K mM_X9_spreads (tgV t) 231 [(0, .ref a0), (5, .int i5)] [] h := by
  intro n
  induction n with
  | zero => exact fun _ _ _ _ e => nomatch (show (none : Option (Rs Unit)) = some _ from e)
  | succ n ih => exact fun h a0 i5 t e => p_X9_spreads_B231 hl (fun h a0 i5 t e => ih h a0 i5 t e) e
noncomputable def f_X9_spreads_B176 (k176 : Hp → Nat → Int32 → Int32 → Int32 → Int32 → Option (Rs Unit)) (h : Hp) (a0 : Nat) (i1 : Int32) (i2 : Int32) (i4 : Int32) (i5 : Int32) : Option (Rs Unit) :=
  chk (okr h a0 9) <|
  bnd (f_X9_of h a0 i1 (iN 1)) fun h2 r3 =>
  chk (okr h2 a0 9) <|
  bnd (f_X9_of h2 a0 i1 (iN 2)) fun h5 r6 =>
  if (r3 + r6) ≤ i5 then (
    if i4 ≤ 0 then (
      some (h5, .inr ())
    ) else (
      chk (okr h5 a0 9) <|
      bnd (f_X9_weighsByMost h5 a0) fun h10 _ =>
      chk (okr h10 a0 9) <|
      bnd (f_X9_shares h10 a0 i4 i2) fun h13 _ =>
      f_X9_spreads_L231 2000 h13 a0 (iN 0)
    )
  ) else (
    chk (okr h5 a0 9) <|
    chk (okr h5 (qR h5 a0 22) 20) <|
    chk (vp_in i5 (qW h5 (qR h5 a0 22))) <|
    k176 h5 a0 i1 i2 (i4 - (qI h5 (qR h5 a0 22) (Int32.toNatClampNeg i5))) (i5 + iN 1)
  )
theorem p_X9_spreads_B176 {l : Launch} {K : Ctx} (hl : l.stackTraces = false) {k176 : Hp → Nat → Int32 → Int32 → Int32 → Int32 → Option (Rs Unit)} (hk176 : ∀ (h : Hp) (a0 : Nat) (i1 : Int32) (i2 : Int32) (i4 : Int32) (i5 : Int32) (t : Rs Unit), k176 h a0 i1 i2 i4 i5 = some t → X l K mM_X9_spreads (tgV t) 176 [(0, .ref a0), (1, .int i1), (2, .int i2), (4, .int i4), (5, .int i5)] [] h) {h : Hp} {a0 : Nat} {i1 : Int32} {i2 : Int32} {i4 : Int32} {i5 : Int32} {t : Rs Unit} (e : f_X9_spreads_B176 k176 h a0 i1 i2 i4 i5 = some t) : X l K mM_X9_spreads (tgV t) 176 [(0, .ref a0), (1, .int i1), (2, .int i2), (4, .int i4), (5, .int i5)] [] h := by
  unfold f_X9_spreads_B176 at e
  refine x_iload (pc := 176) 4 dX9_spreads_176 rfl ?_
  refine x_aload_n (pc := 178) 0 dX9_spreads_178 rfl ?_
  refine x_iload_n (pc := 179) 1 dX9_spreads_179 rfl ?_
  refine x_iconst (pc := 180) dX9_spreads_180 ?_
  obtain ⟨q1, e⟩ := chk_some e
  rcases bnd_some e with ⟨h2, r3, ec, rfl⟩ | ⟨h2, r3, ec, e⟩
  · exact y_callV_x (pc := 181) (c_X9_of hl ec) q1 mf_X9_of tw_7_63 ts_6_12 lf_X9_91 rfl rfl dX9_spreads_181 (by decide) rfl rfl (leb rfl) (xx_out0 rfl)
  refine y_callV_i (pc := 181) (c_X9_of hl ec) q1 mf_X9_of tw_7_63 ts_6_12 lf_X9_91 rfl rfl dX9_spreads_181 (by decide) rfl rfl (leb rfl) ?_
  refine x_aload_n (pc := 184) 0 dX9_spreads_184 rfl ?_
  refine x_iload_n (pc := 185) 1 dX9_spreads_185 rfl ?_
  refine x_iconst (pc := 186) dX9_spreads_186 ?_
  obtain ⟨q4, e⟩ := chk_some e
  rcases bnd_some e with ⟨h5, r6, ec, rfl⟩ | ⟨h5, r6, ec, e⟩
  · exact y_callV_x (pc := 187) (c_X9_of hl ec) q4 mf_X9_of tw_7_63 ts_6_12 lf_X9_91 rfl rfl dX9_spreads_187 (by decide) rfl rfl (leb rfl) (xx_out0 rfl)
  refine y_callV_i (pc := 187) (c_X9_of hl ec) q4 mf_X9_of tw_7_63 ts_6_12 lf_X9_91 rfl rfl dX9_spreads_187 (by decide) rfl rfl (leb rfl) ?_
  refine x_iadd (pc := 190) dX9_spreads_190 ?_
  rcases ite_some e with ⟨q7, e⟩ | ⟨q7, e⟩
  · refine x_icmp_ge_t (pc := 191) (t := 212) dX9_spreads_191 (by decide) q7 ?_
    refine x_iload (pc := 212) 3 dX9_spreads_212 rfl ?_
    rcases ite_some e with ⟨q8, e⟩ | ⟨q8, e⟩
    · refine x_if_le_t (pc := 214) (t := 265) dX9_spreads_214 (by decide) q8 ?_
      cases Option.some.inj e
      exact x_vret (pc := 265) rfl dX9_spreads_265
    · refine x_if_le_f (pc := 214) (t := 265) dX9_spreads_214 (by decide) q8 ?_
      refine x_aload_n (pc := 217) 0 dX9_spreads_217 rfl ?_
      obtain ⟨q9, e⟩ := chk_some e
      rcases bnd_some e with ⟨h10, r11, ec, rfl⟩ | ⟨h10, r11, ec, e⟩
      · exact y_callV_x (pc := 218) (c_X9_weighsByMost hl ec) q9 mf_X9_weighsByMost tw_8_78 ts_9_6 lf_X9_308 rfl rfl dX9_spreads_218 (by decide) rfl rfl (leb rfl) (xx_out0 rfl)
      refine y_callV_v (pc := 218) (c_X9_weighsByMost hl ec) q9 mf_X9_weighsByMost tw_8_78 ts_9_6 lf_X9_308 rfl rfl dX9_spreads_218 (by decide) rfl rfl (leb rfl) ?_
      refine x_aload_n (pc := 221) 0 dX9_spreads_221 rfl ?_
      refine x_iload (pc := 222) 3 dX9_spreads_222 rfl ?_
      refine x_iload_n (pc := 224) 2 dX9_spreads_224 rfl ?_
      obtain ⟨q12, e⟩ := chk_some e
      rcases bnd_some e with ⟨h13, r14, ec, rfl⟩ | ⟨h13, r14, ec, e⟩
      · exact y_callV_x (pc := 225) (c_X9_shares hl ec) q12 mf_X9_shares tw_8_82 ts_9_7 lf_X9_311 rfl rfl dX9_spreads_225 (by decide) rfl rfl (leb rfl) (xx_out0 rfl)
      refine y_callV_v (pc := 225) (c_X9_shares hl ec) q12 mf_X9_shares tw_8_82 ts_9_7 lf_X9_311 rfl rfl dX9_spreads_225 (by decide) rfl rfl (leb rfl) ?_
      refine x_iconst (pc := 228) dX9_spreads_228 ?_
      refine x_istore (pc := 229) dX9_spreads_229 (by decide) rfl ?_
      exact x_sub1 (p_X9_spreads_L231 hl 2000 _ _ _ _ e) [1, 0] rfl
  · refine x_icmp_ge_f (pc := 191) (t := 212) dX9_spreads_191 (by decide) q7 ?_
    refine x_iload (pc := 194) 3 dX9_spreads_194 rfl ?_
    refine x_aload_n (pc := 196) 0 dX9_spreads_196 rfl ?_
    obtain ⟨q15, e⟩ := chk_some e
    obtain ⟨q16, e⟩ := chk_some e
    refine x_getR (pc := 197) gf_X9_51 rfl dX9_spreads_197 q15 q16.1 ?_
    refine x_iload (pc := 200) 4 dX9_spreads_200 rfl ?_
    obtain ⟨q17, e⟩ := chk_some e
    refine x_iald (pc := 202) dX9_spreads_202 q16 q17 ?_
    refine x_isub (pc := 203) dX9_spreads_203 ?_
    refine x_istore (pc := 204) dX9_spreads_204 (by decide) rfl ?_
    refine x_iinc (pc := 206) 4 dX9_spreads_206 rfl (by decide) rfl ?_
    refine x_goto (pc := 209) (t := 176) dX9_spreads_209 (by decide) ?_
    exact x_sub1 (hk176 _ _ _ _ _ _ _ e) [2, 3, 4, 1, 0] rfl
noncomputable def f_X9_spreads_L176 (n : Nat) : Hp → Nat → Int32 → Int32 → Int32 → Int32 → Option (Rs Unit) := Nat.rec (motive := fun _ => Hp → Nat → Int32 → Int32 → Int32 → Int32 → Option (Rs Unit)) (fun _ _ _ _ _ _ => none) (fun _ r => f_X9_spreads_B176 r) n
theorem p_X9_spreads_L176 {l : Launch} {K : Ctx} (hl : l.stackTraces = false) : ∀ (n : Nat) (h : Hp) (a0 : Nat) (i1 : Int32) (i2 : Int32) (i4 : Int32) (i5 : Int32) (t : Rs Unit) (e : f_X9_spreads_L176 n h a0 i1 i2 i4 i5 = some t), X l K mM_X9_spreads (tgV t) 176 [(0, .ref a0), (1, .int i1), (2, .int i2), (4, .int i4), (5, .int i5)] [] h := by
  intro n
  induction n with
  | zero => exact fun _ _ _ _ _ _ _ e => nomatch (show (none : Option (Rs Unit)) = some _ from e)
  | succ n ih => exact fun h a0 i1 i2 i4 i5 t e => p_X9_spreads_B176 hl (fun h a0 i1 i2 i4 i5 t e => ih h a0 i1 i2 i4 i5 t e) e
noncomputable def f_X9_spreads_L168 (h : Hp) (a0 : Nat) (i1 : Int32) (i2 : Int32) (i4 : Int32) : Option (Rs Unit) :=
  chk (okr h a0 9) <|
  bnd (f_X9_of h a0 i1 (iN 1)) fun h2 r3 =>
  f_X9_spreads_L176 2000 h2 a0 i1 i2 i4 r3
theorem p_X9_spreads_L168 {l : Launch} {K : Ctx} (hl : l.stackTraces = false) {h : Hp} {a0 : Nat} {i1 : Int32} {i2 : Int32} {i4 : Int32} {t : Rs Unit} (e : f_X9_spreads_L168 h a0 i1 i2 i4 = some t) : X l K mM_X9_spreads (tgV t) 168 [(0, .ref a0), (1, .int i1), (2, .int i2), (4, .int i4)] [] h := by
  unfold f_X9_spreads_L168 at e
  refine x_aload_n (pc := 168) 0 dX9_spreads_168 rfl ?_
  refine x_iload_n (pc := 169) 1 dX9_spreads_169 rfl ?_
  refine x_iconst (pc := 170) dX9_spreads_170 ?_
  obtain ⟨q1, e⟩ := chk_some e
  rcases bnd_some e with ⟨h2, r3, ec, rfl⟩ | ⟨h2, r3, ec, e⟩
  · exact y_callV_x (pc := 171) (c_X9_of hl ec) q1 mf_X9_of tw_7_63 ts_6_12 lf_X9_91 rfl rfl dX9_spreads_171 (by decide) rfl rfl (leb rfl) (xx_out0 rfl)
  refine y_callV_i (pc := 171) (c_X9_of hl ec) q1 mf_X9_of tw_7_63 ts_6_12 lf_X9_91 rfl rfl dX9_spreads_171 (by decide) rfl rfl (leb rfl) ?_
  refine x_istore (pc := 174) dX9_spreads_174 (by decide) rfl ?_
  exact x_sub1 (p_X9_spreads_L176 hl 2000 _ _ _ _ _ _ _ e) [1, 2, 3, 4, 0] rfl
noncomputable def f_X9_spreads_B110 (k110 : Hp → Nat → Int32 → Int32 → Int32 → Int32 → Option (Rs Unit)) (h : Hp) (a0 : Nat) (i1 : Int32) (i2 : Int32) (i4 : Int32) (i5 : Int32) : Option (Rs Unit) :=
  chk (okr h a0 9) <|
  chk (okr h (qR h a0 1) 20) <|
  chk (vp_in (iN 0) (qW h (qR h a0 1))) <|
  if (qI h (qR h a0 1) (Int32.toNatClampNeg (iN 0))) ≤ i5 then (
    f_X9_spreads_L168 h a0 i1 i2 i4
  ) else (
    chk (okr h (qR h a0 21) 20) <|
    chk (vp_in i5 (qW h (qR h a0 21))) <|
    chk (okr h (qR h a0 25) 20) <|
    chk (vp_in i5 (qW h (qR h a0 25))) <|
    lt (putI h (qR h a0 21) (Int32.toNatClampNeg i5) ((qI h (qR h a0 21) (Int32.toNatClampNeg i5)) + (qI h (qR h a0 25) (Int32.toNatClampNeg i5)))) fun h9 =>
    chk (okr h9 (qR h9 a0 22) 20) <|
    chk (vp_in i5 (qW h9 (qR h9 a0 22))) <|
    chk (okr h9 (qR h9 a0 21) 20) <|
    chk (vp_in i5 (qW h9 (qR h9 a0 21))) <|
    bnd (f_X9_greater h9 (qI h9 (qR h9 a0 22) (Int32.toNatClampNeg i5)) (qI h9 (qR h9 a0 21) (Int32.toNatClampNeg i5))) fun h14 r15 =>
    chk (okr h14 (qR h9 a0 22) 20) <|
    chk (vp_in i5 (qW h14 (qR h9 a0 22))) <|
    lt (putI h14 (qR h9 a0 22) (Int32.toNatClampNeg i5) r15) fun h18 =>
    k110 h18 a0 i1 i2 i4 (i5 + iN 1)
  )
theorem p_X9_spreads_B110 {l : Launch} {K : Ctx} (hl : l.stackTraces = false) {k110 : Hp → Nat → Int32 → Int32 → Int32 → Int32 → Option (Rs Unit)} (hk110 : ∀ (h : Hp) (a0 : Nat) (i1 : Int32) (i2 : Int32) (i4 : Int32) (i5 : Int32) (t : Rs Unit), k110 h a0 i1 i2 i4 i5 = some t → X l K mM_X9_spreads (tgV t) 110 [(0, .ref a0), (1, .int i1), (2, .int i2), (4, .int i4), (5, .int i5)] [] h) {h : Hp} {a0 : Nat} {i1 : Int32} {i2 : Int32} {i4 : Int32} {i5 : Int32} {t : Rs Unit} (e : f_X9_spreads_B110 k110 h a0 i1 i2 i4 i5 = some t) : X l K mM_X9_spreads (tgV t) 110 [(0, .ref a0), (1, .int i1), (2, .int i2), (4, .int i4), (5, .int i5)] [] h := by
  unfold f_X9_spreads_B110 at e
  refine x_iload (pc := 110) 4 dX9_spreads_110 rfl ?_
  refine x_aload_n (pc := 112) 0 dX9_spreads_112 rfl ?_
  obtain ⟨q1, e⟩ := chk_some e
  obtain ⟨q2, e⟩ := chk_some e
  refine x_getR (pc := 113) gf_X9_9 rfl dX9_spreads_113 q1 q2.1 ?_
  refine x_iconst (pc := 116) dX9_spreads_116 ?_
  obtain ⟨q3, e⟩ := chk_some e
  refine x_iald (pc := 117) dX9_spreads_117 q2 q3 ?_
  rcases ite_some e with ⟨q4, e⟩ | ⟨q4, e⟩
  · refine x_icmp_ge_t (pc := 118) (t := 168) dX9_spreads_118 (by decide) q4 ?_
    exact x_sub1 (p_X9_spreads_L168 hl e) [0, 1, 2, 3] rfl
  · refine x_icmp_ge_f (pc := 118) (t := 168) dX9_spreads_118 (by decide) q4 ?_
    refine x_aload_n (pc := 121) 0 dX9_spreads_121 rfl ?_
    obtain ⟨q5, e⟩ := chk_some e
    refine x_getR (pc := 122) gf_X9_48 rfl dX9_spreads_122 q1 q5.1 ?_
    refine x_iload (pc := 125) 4 dX9_spreads_125 rfl ?_
    refine x_dup2 (pc := 127) dX9_spreads_127 rfl rfl ?_
    obtain ⟨q6, e⟩ := chk_some e
    refine x_iald (pc := 128) dX9_spreads_128 q5 q6 ?_
    refine x_aload_n (pc := 129) 0 dX9_spreads_129 rfl ?_
    obtain ⟨q7, e⟩ := chk_some e
    refine x_getR (pc := 130) gf_X9_60 rfl dX9_spreads_130 q1 q7.1 ?_
    refine x_iload (pc := 133) 4 dX9_spreads_133 rfl ?_
    obtain ⟨q8, e⟩ := chk_some e
    refine x_iald (pc := 135) dX9_spreads_135 q7 q8 ?_
    refine x_iadd (pc := 136) dX9_spreads_136 ?_
    replace e := lt_go e
    refine x_iast (pc := 137) dX9_spreads_137 q5 q6 ?_
    refine x_aload_n (pc := 138) 0 dX9_spreads_138 rfl ?_
    obtain ⟨q10, e⟩ := chk_some e
    refine x_getR (pc := 139) gf_X9_51 rfl dX9_spreads_139 (okr_pI q1) q10.1 ?_
    refine x_iload (pc := 142) 4 dX9_spreads_142 rfl ?_
    refine x_aload_n (pc := 144) 0 dX9_spreads_144 rfl ?_
    refine x_getR (pc := 145) gf_X9_51 rfl dX9_spreads_145 (okr_pI q1) q10.1 ?_
    refine x_iload (pc := 148) 4 dX9_spreads_148 rfl ?_
    obtain ⟨q11, e⟩ := chk_some e
    refine x_iald (pc := 150) dX9_spreads_150 q10 q11 ?_
    refine x_aload_n (pc := 151) 0 dX9_spreads_151 rfl ?_
    obtain ⟨q12, e⟩ := chk_some e
    refine x_getR (pc := 152) gf_X9_48 rfl dX9_spreads_152 (okr_pI q1) q12.1 ?_
    refine x_iload (pc := 155) 4 dX9_spreads_155 rfl ?_
    obtain ⟨q13, e⟩ := chk_some e
    refine x_iald (pc := 157) dX9_spreads_157 q12 q13 ?_
    rcases bnd_some e with ⟨h14, r15, ec, rfl⟩ | ⟨h14, r15, ec, e⟩
    · exact y_callS_x (pc := 158) (c_X9_greater hl ec) mf_X9_greater tw_8_10 lf_X9_277 dX9_spreads_158 (by decide) rfl rfl (leb rfl) (xx_out0 rfl)
    refine y_callS_i (pc := 158) (c_X9_greater hl ec) mf_X9_greater tw_8_10 lf_X9_277 dX9_spreads_158 (by decide) rfl rfl (leb rfl) ?_
    obtain ⟨q16, e⟩ := chk_some e
    obtain ⟨q17, e⟩ := chk_some e
    replace e := lt_go e
    refine x_iast (pc := 161) dX9_spreads_161 q16 q17 ?_
    refine x_iinc (pc := 162) 4 dX9_spreads_162 rfl (by decide) rfl ?_
    refine x_goto (pc := 165) (t := 110) dX9_spreads_165 (by decide) ?_
    exact x_sub1 (hk110 _ _ _ _ _ _ _ e) [1, 2, 3, 4, 0] rfl
noncomputable def f_X9_spreads_L110 (n : Nat) : Hp → Nat → Int32 → Int32 → Int32 → Int32 → Option (Rs Unit) := Nat.rec (motive := fun _ => Hp → Nat → Int32 → Int32 → Int32 → Int32 → Option (Rs Unit)) (fun _ _ _ _ _ _ => none) (fun _ r => f_X9_spreads_B110 r) n
theorem p_X9_spreads_L110 {l : Launch} {K : Ctx} (hl : l.stackTraces = false) : ∀ (n : Nat) (h : Hp) (a0 : Nat) (i1 : Int32) (i2 : Int32) (i4 : Int32) (i5 : Int32) (t : Rs Unit) (e : f_X9_spreads_L110 n h a0 i1 i2 i4 i5 = some t), X l K mM_X9_spreads (tgV t) 110 [(0, .ref a0), (1, .int i1), (2, .int i2), (4, .int i4), (5, .int i5)] [] h := by
  intro n
  induction n with
  | zero => exact fun _ _ _ _ _ _ _ e => nomatch (show (none : Option (Rs Unit)) = some _ from e)
  | succ n ih => exact fun h a0 i1 i2 i4 i5 t e => p_X9_spreads_B110 hl (fun h a0 i1 i2 i4 i5 t e => ih h a0 i1 i2 i4 i5 t e) e
noncomputable def f_X9_spreads_B59 (k59 : Hp → Nat → Int32 → Int32 → Int32 → Int32 → Int32 → Option (Rs Unit)) (h : Hp) (a0 : Nat) (i1 : Int32) (i2 : Int32) (i3 : Int32) (i4 : Int32) (i5 : Int32) : Option (Rs Unit) :=
  chk (okr h a0 9) <|
  bnd (f_X9_of h a0 i1 (iN 1)) fun h2 r3 =>
  chk (okr h2 a0 9) <|
  bnd (f_X9_of h2 a0 i1 (iN 2)) fun h5 r6 =>
  if (r3 + r6) ≤ i5 then (
    if i3 ≤ 0 then (
      f_X9_spreads_L168 h5 a0 i1 i2 i4
    ) else (
      chk (okr h5 a0 9) <|
      bnd (f_X9_weighsByMost h5 a0) fun h10 _ =>
      chk (okr h10 a0 9) <|
      bnd (f_X9_shares h10 a0 i3 i2) fun h13 _ =>
      f_X9_spreads_L110 2000 h13 a0 i1 i2 i4 (iN 0)
    )
  ) else (
    chk (okr h5 a0 9) <|
    chk (okr h5 (qR h5 a0 21) 20) <|
    chk (vp_in i5 (qW h5 (qR h5 a0 21))) <|
    k59 h5 a0 i1 i2 (i3 - (qI h5 (qR h5 a0 21) (Int32.toNatClampNeg i5))) i4 (i5 + iN 1)
  )
theorem p_X9_spreads_B59 {l : Launch} {K : Ctx} (hl : l.stackTraces = false) {k59 : Hp → Nat → Int32 → Int32 → Int32 → Int32 → Int32 → Option (Rs Unit)} (hk59 : ∀ (h : Hp) (a0 : Nat) (i1 : Int32) (i2 : Int32) (i3 : Int32) (i4 : Int32) (i5 : Int32) (t : Rs Unit), k59 h a0 i1 i2 i3 i4 i5 = some t → X l K mM_X9_spreads (tgV t) 59 [(0, .ref a0), (1, .int i1), (2, .int i2), (3, .int i3), (4, .int i4), (5, .int i5)] [] h) {h : Hp} {a0 : Nat} {i1 : Int32} {i2 : Int32} {i3 : Int32} {i4 : Int32} {i5 : Int32} {t : Rs Unit} (e : f_X9_spreads_B59 k59 h a0 i1 i2 i3 i4 i5 = some t) : X l K mM_X9_spreads (tgV t) 59 [(0, .ref a0), (1, .int i1), (2, .int i2), (3, .int i3), (4, .int i4), (5, .int i5)] [] h := by
  unfold f_X9_spreads_B59 at e
  refine x_iload (pc := 59) 5 dX9_spreads_59 rfl ?_
  refine x_aload_n (pc := 61) 0 dX9_spreads_61 rfl ?_
  refine x_iload_n (pc := 62) 1 dX9_spreads_62 rfl ?_
  refine x_iconst (pc := 63) dX9_spreads_63 ?_
  obtain ⟨q1, e⟩ := chk_some e
  rcases bnd_some e with ⟨h2, r3, ec, rfl⟩ | ⟨h2, r3, ec, e⟩
  · exact y_callV_x (pc := 64) (c_X9_of hl ec) q1 mf_X9_of tw_7_63 ts_6_12 lf_X9_91 rfl rfl dX9_spreads_64 (by decide) rfl rfl (leb rfl) (xx_out0 rfl)
  refine y_callV_i (pc := 64) (c_X9_of hl ec) q1 mf_X9_of tw_7_63 ts_6_12 lf_X9_91 rfl rfl dX9_spreads_64 (by decide) rfl rfl (leb rfl) ?_
  refine x_aload_n (pc := 67) 0 dX9_spreads_67 rfl ?_
  refine x_iload_n (pc := 68) 1 dX9_spreads_68 rfl ?_
  refine x_iconst (pc := 69) dX9_spreads_69 ?_
  obtain ⟨q4, e⟩ := chk_some e
  rcases bnd_some e with ⟨h5, r6, ec, rfl⟩ | ⟨h5, r6, ec, e⟩
  · exact y_callV_x (pc := 70) (c_X9_of hl ec) q4 mf_X9_of tw_7_63 ts_6_12 lf_X9_91 rfl rfl dX9_spreads_70 (by decide) rfl rfl (leb rfl) (xx_out0 rfl)
  refine y_callV_i (pc := 70) (c_X9_of hl ec) q4 mf_X9_of tw_7_63 ts_6_12 lf_X9_91 rfl rfl dX9_spreads_70 (by decide) rfl rfl (leb rfl) ?_
  refine x_iadd (pc := 73) dX9_spreads_73 ?_
  rcases ite_some e with ⟨q7, e⟩ | ⟨q7, e⟩
  · refine x_icmp_ge_t (pc := 74) (t := 93) dX9_spreads_74 (by decide) q7 ?_
    refine x_iload_n (pc := 93) 3 dX9_spreads_93 rfl ?_
    rcases ite_some e with ⟨q8, e⟩ | ⟨q8, e⟩
    · refine x_if_le_t (pc := 94) (t := 168) dX9_spreads_94 (by decide) q8 ?_
      exact x_sub1 (p_X9_spreads_L168 hl e) [0, 1, 2, 4] rfl
    · refine x_if_le_f (pc := 94) (t := 168) dX9_spreads_94 (by decide) q8 ?_
      refine x_aload_n (pc := 97) 0 dX9_spreads_97 rfl ?_
      obtain ⟨q9, e⟩ := chk_some e
      rcases bnd_some e with ⟨h10, r11, ec, rfl⟩ | ⟨h10, r11, ec, e⟩
      · exact y_callV_x (pc := 98) (c_X9_weighsByMost hl ec) q9 mf_X9_weighsByMost tw_8_78 ts_9_6 lf_X9_308 rfl rfl dX9_spreads_98 (by decide) rfl rfl (leb rfl) (xx_out0 rfl)
      refine y_callV_v (pc := 98) (c_X9_weighsByMost hl ec) q9 mf_X9_weighsByMost tw_8_78 ts_9_6 lf_X9_308 rfl rfl dX9_spreads_98 (by decide) rfl rfl (leb rfl) ?_
      refine x_aload_n (pc := 101) 0 dX9_spreads_101 rfl ?_
      refine x_iload_n (pc := 102) 3 dX9_spreads_102 rfl ?_
      refine x_iload_n (pc := 103) 2 dX9_spreads_103 rfl ?_
      obtain ⟨q12, e⟩ := chk_some e
      rcases bnd_some e with ⟨h13, r14, ec, rfl⟩ | ⟨h13, r14, ec, e⟩
      · exact y_callV_x (pc := 104) (c_X9_shares hl ec) q12 mf_X9_shares tw_8_82 ts_9_7 lf_X9_311 rfl rfl dX9_spreads_104 (by decide) rfl rfl (leb rfl) (xx_out0 rfl)
      refine y_callV_v (pc := 104) (c_X9_shares hl ec) q12 mf_X9_shares tw_8_82 ts_9_7 lf_X9_311 rfl rfl dX9_spreads_104 (by decide) rfl rfl (leb rfl) ?_
      refine x_iconst (pc := 107) dX9_spreads_107 ?_
      refine x_istore (pc := 108) dX9_spreads_108 (by decide) rfl ?_
      exact x_sub1 (p_X9_spreads_L110 hl 2000 _ _ _ _ _ _ _ e) [1, 2, 3, 5, 0] rfl
  · refine x_icmp_ge_f (pc := 74) (t := 93) dX9_spreads_74 (by decide) q7 ?_
    refine x_iload_n (pc := 77) 3 dX9_spreads_77 rfl ?_
    refine x_aload_n (pc := 78) 0 dX9_spreads_78 rfl ?_
    obtain ⟨q15, e⟩ := chk_some e
    obtain ⟨q16, e⟩ := chk_some e
    refine x_getR (pc := 79) gf_X9_48 rfl dX9_spreads_79 q15 q16.1 ?_
    refine x_iload (pc := 82) 5 dX9_spreads_82 rfl ?_
    obtain ⟨q17, e⟩ := chk_some e
    refine x_iald (pc := 84) dX9_spreads_84 q16 q17 ?_
    refine x_isub (pc := 85) dX9_spreads_85 ?_
    refine x_istore_n (pc := 86) dX9_spreads_86 (by decide) rfl ?_
    refine x_iinc (pc := 87) 5 dX9_spreads_87 rfl (by decide) rfl ?_
    refine x_goto (pc := 90) (t := 59) dX9_spreads_90 (by decide) ?_
    exact x_sub1 (hk59 _ _ _ _ _ _ _ _ e) [2, 3, 4, 1, 5, 0] rfl
noncomputable def f_X9_spreads_L59 (n : Nat) : Hp → Nat → Int32 → Int32 → Int32 → Int32 → Int32 → Option (Rs Unit) := Nat.rec (motive := fun _ => Hp → Nat → Int32 → Int32 → Int32 → Int32 → Int32 → Option (Rs Unit)) (fun _ _ _ _ _ _ _ => none) (fun _ r => f_X9_spreads_B59 r) n
theorem p_X9_spreads_L59 {l : Launch} {K : Ctx} (hl : l.stackTraces = false) : ∀ (n : Nat) (h : Hp) (a0 : Nat) (i1 : Int32) (i2 : Int32) (i3 : Int32) (i4 : Int32) (i5 : Int32) (t : Rs Unit) (e : f_X9_spreads_L59 n h a0 i1 i2 i3 i4 i5 = some t), X l K mM_X9_spreads (tgV t) 59 [(0, .ref a0), (1, .int i1), (2, .int i2), (3, .int i3), (4, .int i4), (5, .int i5)] [] h := by
  intro n
  induction n with
  | zero => exact fun _ _ _ _ _ _ _ _ e => nomatch (show (none : Option (Rs Unit)) = some _ from e)
  | succ n ih => exact fun h a0 i1 i2 i3 i4 i5 t e => p_X9_spreads_B59 hl (fun h a0 i1 i2 i3 i4 i5 t e => ih h a0 i1 i2 i3 i4 i5 t e) e
noncomputable def f_X9_spreads (h : Hp) (a0 : Nat) (i1 : Int32) : Option (Rs Unit) :=
  chk (okr h a0 9) <|
  bnd (f_X9_sharing h a0 i1) fun h2 r3 =>
  chk (okr h2 a0 9) <|
  bnd (f_X9_leastOf h2 a0 i1) fun h5 r6 =>
  chk (okr h5 a0 9) <|
  chk (okr h5 (qR h5 a0 1) 20) <|
  chk (vp_in (iN 2) (qW h5 (qR h5 a0 1))) <|
  bnd (f_X9_of h5 a0 i1 (iN 2)) fun h10 r11 =>
  chk (okr h10 a0 9) <|
  bnd (f_X9_mostOf h10 a0 i1) fun h13 r14 =>
  chk (okr h13 a0 9) <|
  chk (okr h13 (qR h13 a0 1) 20) <|
  chk (vp_in (iN 2) (qW h13 (qR h13 a0 1))) <|
  bnd (f_X9_of h13 a0 i1 (iN 2)) fun h18 r19 =>
  chk (okr h18 a0 9) <|
  bnd (f_X9_of h18 a0 i1 (iN 1)) fun h21 r22 =>
  f_X9_spreads_L59 2000 h21 a0 i1 r3 (r6 - ((qI h5 (qR h5 a0 1) (Int32.toNatClampNeg (iN 2))) * (r11 - (iN 1)))) (r14 - ((qI h13 (qR h13 a0 1) (Int32.toNatClampNeg (iN 2))) * (r19 - (iN 1)))) r22
theorem p_X9_spreads {l : Launch} {K : Ctx} (hl : l.stackTraces = false) {h : Hp} {a0 : Nat} {i1 : Int32} {t : Rs Unit} (e : f_X9_spreads h a0 i1 = some t) : X l K mM_X9_spreads (tgV t) 0 [(0, .ref a0), (1, .int i1)] [] h := by
  unfold f_X9_spreads at e
  refine x_aload_n (pc := 0) 0 dX9_spreads_0 rfl ?_
  refine x_iload_n (pc := 1) 1 dX9_spreads_1 rfl ?_
  obtain ⟨q1, e⟩ := chk_some e
  rcases bnd_some e with ⟨h2, r3, ec, rfl⟩ | ⟨h2, r3, ec, e⟩
  · exact y_callV_x (pc := 2) (c_X9_sharing hl ec) q1 mf_X9_sharing tw_8_74 ts_9_5 lf_X9_305 rfl rfl dX9_spreads_2 (by decide) rfl rfl (leb rfl) (xx_out0 rfl)
  refine y_callV_i (pc := 2) (c_X9_sharing hl ec) q1 mf_X9_sharing tw_8_74 ts_9_5 lf_X9_305 rfl rfl dX9_spreads_2 (by decide) rfl rfl (leb rfl) ?_
  refine x_istore_n (pc := 5) dX9_spreads_5 (by decide) rfl ?_
  refine x_aload_n (pc := 6) 1 dX9_spreads_6 rfl ?_
  refine x_iload_n (pc := 7) 2 dX9_spreads_7 rfl ?_
  obtain ⟨q4, e⟩ := chk_some e
  rcases bnd_some e with ⟨h5, r6, ec, rfl⟩ | ⟨h5, r6, ec, e⟩
  · exact y_callV_x (pc := 8) (c_X9_leastOf hl ec) q4 mf_X9_leastOf tw_7_235 ts_8_8 lf_X9_293 rfl rfl dX9_spreads_8 (by decide) rfl rfl (leb rfl) (xx_out0 rfl)
  refine y_callV_i (pc := 8) (c_X9_leastOf hl ec) q4 mf_X9_leastOf tw_7_235 ts_8_8 lf_X9_293 rfl rfl dX9_spreads_8 (by decide) rfl rfl (leb rfl) ?_
  refine x_aload_n (pc := 11) 1 dX9_spreads_11 rfl ?_
  obtain ⟨q7, e⟩ := chk_some e
  obtain ⟨q8, e⟩ := chk_some e
  refine x_getR (pc := 12) gf_X9_9 rfl dX9_spreads_12 q7 q8.1 ?_
  refine x_iconst (pc := 15) dX9_spreads_15 ?_
  obtain ⟨q9, e⟩ := chk_some e
  refine x_iald (pc := 16) dX9_spreads_16 q8 q9 ?_
  refine x_aload_n (pc := 17) 1 dX9_spreads_17 rfl ?_
  refine x_iload_n (pc := 18) 2 dX9_spreads_18 rfl ?_
  refine x_iconst (pc := 19) dX9_spreads_19 ?_
  rcases bnd_some e with ⟨h10, r11, ec, rfl⟩ | ⟨h10, r11, ec, e⟩
  · exact y_callV_x (pc := 20) (c_X9_of hl ec) q7 mf_X9_of tw_7_63 ts_6_12 lf_X9_91 rfl rfl dX9_spreads_20 (by decide) rfl rfl (leb rfl) (xx_out0 rfl)
  refine y_callV_i (pc := 20) (c_X9_of hl ec) q7 mf_X9_of tw_7_63 ts_6_12 lf_X9_91 rfl rfl dX9_spreads_20 (by decide) rfl rfl (leb rfl) ?_
  refine x_iconst (pc := 23) dX9_spreads_23 ?_
  refine x_isub (pc := 24) dX9_spreads_24 ?_
  refine x_imul (pc := 25) dX9_spreads_25 ?_
  refine x_isub (pc := 26) dX9_spreads_26 ?_
  refine x_istore_n (pc := 27) dX9_spreads_27 (by decide) rfl ?_
  refine x_aload_n (pc := 28) 2 dX9_spreads_28 rfl ?_
  refine x_iload_n (pc := 29) 3 dX9_spreads_29 rfl ?_
  obtain ⟨q12, e⟩ := chk_some e
  rcases bnd_some e with ⟨h13, r14, ec, rfl⟩ | ⟨h13, r14, ec, e⟩
  · exact y_callV_x (pc := 30) (c_X9_mostOf hl ec) q12 mf_X9_mostOf tw_8_18 ts_8_13 lf_X9_296 rfl rfl dX9_spreads_30 (by decide) rfl rfl (leb rfl) (xx_out0 rfl)
  refine y_callV_i (pc := 30) (c_X9_mostOf hl ec) q12 mf_X9_mostOf tw_8_18 ts_8_13 lf_X9_296 rfl rfl dX9_spreads_30 (by decide) rfl rfl (leb rfl) ?_
  refine x_aload_n (pc := 33) 2 dX9_spreads_33 rfl ?_
  obtain ⟨q15, e⟩ := chk_some e
  obtain ⟨q16, e⟩ := chk_some e
  refine x_getR (pc := 34) gf_X9_9 rfl dX9_spreads_34 q15 q16.1 ?_
  refine x_iconst (pc := 37) dX9_spreads_37 ?_
  obtain ⟨q17, e⟩ := chk_some e
  refine x_iald (pc := 38) dX9_spreads_38 q16 q17 ?_
  refine x_aload_n (pc := 39) 2 dX9_spreads_39 rfl ?_
  refine x_iload_n (pc := 40) 3 dX9_spreads_40 rfl ?_
  refine x_iconst (pc := 41) dX9_spreads_41 ?_
  rcases bnd_some e with ⟨h18, r19, ec, rfl⟩ | ⟨h18, r19, ec, e⟩
  · exact y_callV_x (pc := 42) (c_X9_of hl ec) q15 mf_X9_of tw_7_63 ts_6_12 lf_X9_91 rfl rfl dX9_spreads_42 (by decide) rfl rfl (leb rfl) (xx_out0 rfl)
  refine y_callV_i (pc := 42) (c_X9_of hl ec) q15 mf_X9_of tw_7_63 ts_6_12 lf_X9_91 rfl rfl dX9_spreads_42 (by decide) rfl rfl (leb rfl) ?_
  refine x_iconst (pc := 45) dX9_spreads_45 ?_
  refine x_isub (pc := 46) dX9_spreads_46 ?_
  refine x_imul (pc := 47) dX9_spreads_47 ?_
  refine x_isub (pc := 48) dX9_spreads_48 ?_
  refine x_istore (pc := 49) dX9_spreads_49 (by decide) rfl ?_
  refine x_aload_n (pc := 51) 3 dX9_spreads_51 rfl ?_
  refine x_iload_n (pc := 52) 4 dX9_spreads_52 rfl ?_
  refine x_iconst (pc := 53) dX9_spreads_53 ?_
  obtain ⟨q20, e⟩ := chk_some e
  rcases bnd_some e with ⟨h21, r22, ec, rfl⟩ | ⟨h21, r22, ec, e⟩
  · exact y_callV_x (pc := 54) (c_X9_of hl ec) q20 mf_X9_of tw_7_63 ts_6_12 lf_X9_91 rfl rfl dX9_spreads_54 (by decide) rfl rfl (leb rfl) (xx_out0 rfl)
  refine y_callV_i (pc := 54) (c_X9_of hl ec) q20 mf_X9_of tw_7_63 ts_6_12 lf_X9_91 rfl rfl dX9_spreads_54 (by decide) rfl rfl (leb rfl) ?_
  refine x_istore (pc := 57) dX9_spreads_57 (by decide) rfl ?_
  exact x_sub1 (p_X9_spreads_L59 hl 2000 _ _ _ _ _ _ _ _ e) [4, 5, 3, 2, 1, 0] rfl
abbrev w_X9_spreads : Cond := (Cond.code yX9_spreads cX9_spreads 6 (Option.none : Option Jvm.ClassFile.FieldType))
theorem mf_X9_spreads : MF yX9_spreads w_X9_spreads cX9_spreads 6 (Option.none : Option Jvm.ClassFile.FieldType) 1 := ⟨⟨rfl, tw_8_71, by decide⟩, tw_1_11, ⟨by decide, by decide⟩, by decide +kernel⟩
theorem c_X9_spreads {l : Launch} {K : Ctx} (hl : l.stackTraces = false) {h : Hp} {a0 : Nat} {i1 : Int32} {t : Rs Unit} (e : f_X9_spreads h a0 i1 = some t) : Ctr l K 12 yX9_spreads w_X9_spreads [.ref a0, .int i1] h (tgV t) :=
  Ctr.of hl mf_X9_spreads false (fun q => nomatch q) rfl (leb rfl) (p_X9_spreads hl e)
/-! ## TableColumnBalancerModel.isShared -/
abbrev mM_X9_isShared : Mi := (8, yX9_isShared.cls, cX9_isShared, 2, (Option.some Jvm.ClassFile.FieldType.boolean), [], false)
noncomputable def f_X9_isShared (h : Hp) (a0 : Nat) (i1 : Int32) : Option (Rs Int32) :=
  chk (okr h a0 9) <|
  chk (okr h (qR h a0 1) 20) <|
  chk (vp_in ((iN 6) + i1) (qW h (qR h a0 1))) <|
  if (qI h (qR h a0 1) (Int32.toNatClampNeg ((iN 6) + i1))) < (iN 200) then (
    some (h, .inr (iN 0))
  ) else (
    some (h, .inr (iN 1))
  )
theorem p_X9_isShared {l : Launch} {K : Ctx} (hl : l.stackTraces = false) {h : Hp} {a0 : Nat} {i1 : Int32} {t : Rs Int32} (e : f_X9_isShared h a0 i1 = some t) : X l K mM_X9_isShared (tgI t) 0 [(0, .ref a0), (1, .int i1)] [] h := by
  unfold f_X9_isShared at e
  refine x_aload_n (pc := 0) 0 dX9_isShared_0 rfl ?_
  obtain ⟨q1, e⟩ := chk_some e
  obtain ⟨q2, e⟩ := chk_some e
  refine x_getR (pc := 1) gf_X9_9 rfl dX9_isShared_1 q1 q2.1 ?_
  refine x_bipush (pc := 4) (v := iN 6) dX9_isShared_4 rfl ?_
  refine x_iload_n (pc := 6) 1 dX9_isShared_6 rfl ?_
  refine x_iadd (pc := 7) dX9_isShared_7 ?_
  obtain ⟨q3, e⟩ := chk_some e
  refine x_iald (pc := 8) dX9_isShared_8 q2 q3 ?_
  refine x_sipush (pc := 9) (v := iN 200) dX9_isShared_9 rfl ?_
  rcases ite_some e with ⟨q4, e⟩ | ⟨q4, e⟩
  · refine x_icmp_lt_t (pc := 12) (t := 19) dX9_isShared_12 (by decide) q4 ?_
    refine x_iconst (pc := 19) dX9_isShared_19 ?_
    cases Option.some.inj e
    exact x_zret (pc := 20) rfl (Or.inl rfl) dX9_isShared_20
  · refine x_icmp_lt_f (pc := 12) (t := 19) dX9_isShared_12 (by decide) q4 ?_
    refine x_iconst (pc := 15) dX9_isShared_15 ?_
    refine x_goto (pc := 16) (t := 20) dX9_isShared_16 (by decide) ?_
    cases Option.some.inj e
    exact x_zret (pc := 20) rfl (Or.inr rfl) dX9_isShared_20
abbrev w_X9_isShared : Cond := (Cond.code yX9_isShared cX9_isShared 2 (Option.some Jvm.ClassFile.FieldType.boolean))
theorem mf_X9_isShared : MF yX9_isShared w_X9_isShared cX9_isShared 2 (Option.some Jvm.ClassFile.FieldType.boolean) 1 := ⟨⟨rfl, tw_8_87, by decide⟩, tw_1_11, ⟨by decide, by decide⟩, by decide +kernel⟩
theorem c_X9_isShared {l : Launch} {K : Ctx} (hl : l.stackTraces = false) {h : Hp} {a0 : Nat} {i1 : Int32} {t : Rs Int32} (e : f_X9_isShared h a0 i1 = some t) : Ctr l K 8 yX9_isShared w_X9_isShared [.ref a0, .int i1] h (tgI t) :=
  Ctr.of hl mf_X9_isShared false (fun q => nomatch q) rfl (leb rfl) (p_X9_isShared hl e)
/-! ## TableColumnBalancerModel.measuresColumns -/
abbrev mM_X9_measuresColumns : Mi := (13, yX9_measuresColumns.cls, cX9_measuresColumns, 4, (Option.none : Option Jvm.ClassFile.FieldType), [], false)
noncomputable def f_X9_measuresColumns_L312 (k251 : Hp → Nat → Int32 → Int32 → Option (Rs Unit)) (h : Hp) (a0 : Nat) (i1 : Int32) (i2 : Int32) (s0 : Int32) (s1 : Int32) (s2 : Nat) : Option (Rs Unit) :=
  chk (okr h s2 20) <|
  chk (vp_in s1 (qW h s2)) <|
  lt (putI h s2 (Int32.toNatClampNeg s1) s0) fun h3 =>
  chk (okr h3 a0 9) <|
  chk (okr h3 (qR h3 a0 23) 20) <|
  chk (vp_in i2 (qW h3 (qR h3 a0 23))) <|
  k251 h3 a0 (i1 - (qI h3 (qR h3 a0 23) (Int32.toNatClampNeg i2))) (i2 + iN 1)
theorem p_X9_measuresColumns_L312 {l : Launch} {K : Ctx} (hl : l.stackTraces = false) {k251 : Hp → Nat → Int32 → Int32 → Option (Rs Unit)} (hk251 : ∀ (h : Hp) (a0 : Nat) (i1 : Int32) (i2 : Int32) (t : Rs Unit), k251 h a0 i1 i2 = some t → X l K mM_X9_measuresColumns (tgV t) 251 [(0, .ref a0), (1, .int i1), (2, .int i2)] [] h) {h : Hp} {a0 : Nat} {i1 : Int32} {i2 : Int32} {s0 : Int32} {s1 : Int32} {s2 : Nat} {t : Rs Unit} (e : f_X9_measuresColumns_L312 k251 h a0 i1 i2 s0 s1 s2 = some t) : X l K mM_X9_measuresColumns (tgV t) 312 [(0, .ref a0), (1, .int i1), (2, .int i2)] [.int s0, .int s1, .ref s2] h := by
  unfold f_X9_measuresColumns_L312 at e
  obtain ⟨q1, e⟩ := chk_some e
  obtain ⟨q2, e⟩ := chk_some e
  replace e := lt_go e
  refine x_iast (pc := 312) dX9_measuresColumns_312 q1 q2 ?_
  refine x_iload_n (pc := 313) 1 dX9_measuresColumns_313 rfl ?_
  refine x_aload_n (pc := 314) 0 dX9_measuresColumns_314 rfl ?_
  obtain ⟨q4, e⟩ := chk_some e
  obtain ⟨q5, e⟩ := chk_some e
  refine x_getR (pc := 315) gf_X9_54 rfl dX9_measuresColumns_315 q4 q5.1 ?_
  refine x_iload_n (pc := 318) 2 dX9_measuresColumns_318 rfl ?_
  obtain ⟨q6, e⟩ := chk_some e
  refine x_iald (pc := 319) dX9_measuresColumns_319 q5 q6 ?_
  refine x_isub (pc := 320) dX9_measuresColumns_320 ?_
  refine x_istore_n (pc := 321) dX9_measuresColumns_321 (by decide) rfl ?_
  refine x_iinc (pc := 322) 2 dX9_measuresColumns_322 rfl (by decide) rfl ?_
  refine x_goto (pc := 325) (t := 251) dX9_measuresColumns_325 (by decide) ?_
  exact x_sub1 (hk251 _ _ _ _ _ e) [2, 1, 0] rfl
noncomputable def f_X9_measuresColumns_B251 (k251 : Hp → Nat → Int32 → Int32 → Option (Rs Unit)) (h : Hp) (a0 : Nat) (i1 : Int32) (i2 : Int32) : Option (Rs Unit) :=
  chk (okr h a0 9) <|
  chk (okr h (qR h a0 1) 20) <|
  chk (vp_in (iN 0) (qW h (qR h a0 1))) <|
  if (qI h (qR h a0 1) (Int32.toNatClampNeg (iN 0))) ≤ i2 then (
    some (h, .inr ())
  ) else (
    chk (okr h (qR h a0 23) 20) <|
    bnd (f_X9_isShared h a0 i2) fun h6 r7 =>
    if r7 = 0 then (
      f_X9_measuresColumns_L312 k251 h6 a0 i1 i2 (iN 0) i2 (qR h a0 23)
    ) else (
      chk (okr h6 a0 9) <|
      chk (okr h6 (qR h6 a0 1) 20) <|
      chk (vp_in ((iN 6) + i2) (qW h6 (qR h6 a0 1))) <|
      if i1 ≤ ((qI h6 (qR h6 a0 1) (Int32.toNatClampNeg ((iN 6) + i2))) - (iN 200)) then (
        f_X9_measuresColumns_L312 k251 h6 a0 i1 i2 i1 i2 (qR h a0 23)
      ) else (
        f_X9_measuresColumns_L312 k251 h6 a0 i1 i2 ((qI h6 (qR h6 a0 1) (Int32.toNatClampNeg ((iN 6) + i2))) - (iN 200)) i2 (qR h a0 23)
      )
    )
  )
theorem p_X9_measuresColumns_B251 {l : Launch} {K : Ctx} (hl : l.stackTraces = false) {k251 : Hp → Nat → Int32 → Int32 → Option (Rs Unit)} (hk251 : ∀ (h : Hp) (a0 : Nat) (i1 : Int32) (i2 : Int32) (t : Rs Unit), k251 h a0 i1 i2 = some t → X l K mM_X9_measuresColumns (tgV t) 251 [(0, .ref a0), (1, .int i1), (2, .int i2)] [] h) {h : Hp} {a0 : Nat} {i1 : Int32} {i2 : Int32} {t : Rs Unit} (e : f_X9_measuresColumns_B251 k251 h a0 i1 i2 = some t) : X l K mM_X9_measuresColumns (tgV t) 251 [(0, .ref a0), (1, .int i1), (2, .int i2)] [] h := by
  unfold f_X9_measuresColumns_B251 at e
  refine x_iload_n (pc := 251) 2 dX9_measuresColumns_251 rfl ?_
  refine x_aload_n (pc := 252) 0 dX9_measuresColumns_252 rfl ?_
  obtain ⟨q1, e⟩ := chk_some e
  obtain ⟨q2, e⟩ := chk_some e
  refine x_getR (pc := 253) gf_X9_9 rfl dX9_measuresColumns_253 q1 q2.1 ?_
  refine x_iconst (pc := 256) dX9_measuresColumns_256 ?_
  obtain ⟨q3, e⟩ := chk_some e
  refine x_iald (pc := 257) dX9_measuresColumns_257 q2 q3 ?_
  rcases ite_some e with ⟨q4, e⟩ | ⟨q4, e⟩
  · refine x_icmp_ge_t (pc := 258) (t := 328) dX9_measuresColumns_258 (by decide) q4 ?_
    cases Option.some.inj e
    exact x_vret (pc := 328) rfl dX9_measuresColumns_328
  · refine x_icmp_ge_f (pc := 258) (t := 328) dX9_measuresColumns_258 (by decide) q4 ?_
    refine x_aload_n (pc := 261) 0 dX9_measuresColumns_261 rfl ?_
    obtain ⟨q5, e⟩ := chk_some e
    refine x_getR (pc := 262) gf_X9_54 rfl dX9_measuresColumns_262 q1 q5.1 ?_
    refine x_iload_n (pc := 265) 2 dX9_measuresColumns_265 rfl ?_
    refine x_aload_n (pc := 266) 0 dX9_measuresColumns_266 rfl ?_
    refine x_iload_n (pc := 267) 2 dX9_measuresColumns_267 rfl ?_
    rcases bnd_some e with ⟨h6, r7, ec, rfl⟩ | ⟨h6, r7, ec, e⟩
    · exact y_callV_x (pc := 268) (c_X9_isShared hl ec) q1 mf_X9_isShared tw_8_86 ts_9_8 lf_X9_317 rfl rfl dX9_measuresColumns_268 (by decide) rfl rfl (leb rfl) (xx_out0 rfl)
    refine y_callV_i (pc := 268) (c_X9_isShared hl ec) q1 mf_X9_isShared tw_8_86 ts_9_8 lf_X9_317 rfl rfl dX9_measuresColumns_268 (by decide) rfl rfl (leb rfl) ?_
    rcases ite_some e with ⟨q8, e⟩ | ⟨q8, e⟩
    · refine x_if_ne_f (pc := 271) (t := 278) dX9_measuresColumns_271 (by decide) q8 ?_
      refine x_iconst (pc := 274) dX9_measuresColumns_274 ?_
      refine x_goto (pc := 275) (t := 312) dX9_measuresColumns_275 (by decide) ?_
      exact p_X9_measuresColumns_L312 hl hk251 e
    · refine x_if_ne_t (pc := 271) (t := 278) dX9_measuresColumns_271 (by decide) q8 ?_
      refine x_aload_n (pc := 278) 0 dX9_measuresColumns_278 rfl ?_
      obtain ⟨q9, e⟩ := chk_some e
      obtain ⟨q10, e⟩ := chk_some e
      refine x_getR (pc := 279) gf_X9_9 rfl dX9_measuresColumns_279 q9 q10.1 ?_
      refine x_bipush (pc := 282) (v := iN 6) dX9_measuresColumns_282 rfl ?_
      refine x_iload_n (pc := 284) 2 dX9_measuresColumns_284 rfl ?_
      refine x_iadd (pc := 285) dX9_measuresColumns_285 ?_
      obtain ⟨q11, e⟩ := chk_some e
      refine x_iald (pc := 286) dX9_measuresColumns_286 q10 q11 ?_
      refine x_sipush (pc := 287) (v := iN 200) dX9_measuresColumns_287 rfl ?_
      refine x_isub (pc := 290) dX9_measuresColumns_290 ?_
      refine x_iload_n (pc := 291) 1 dX9_measuresColumns_291 rfl ?_
      rcases ite_some e with ⟨q12, e⟩ | ⟨q12, e⟩
      · refine x_icmp_ge_t (pc := 292) (t := 311) dX9_measuresColumns_292 (by decide) q12 ?_
        refine x_iload_n (pc := 311) 1 dX9_measuresColumns_311 rfl ?_
        exact p_X9_measuresColumns_L312 hl hk251 e
      · refine x_icmp_ge_f (pc := 292) (t := 311) dX9_measuresColumns_292 (by decide) q12 ?_
        refine x_aload_n (pc := 295) 0 dX9_measuresColumns_295 rfl ?_
        refine x_getR (pc := 296) gf_X9_9 rfl dX9_measuresColumns_296 q9 q10.1 ?_
        refine x_bipush (pc := 299) (v := iN 6) dX9_measuresColumns_299 rfl ?_
        refine x_iload_n (pc := 301) 2 dX9_measuresColumns_301 rfl ?_
        refine x_iadd (pc := 302) dX9_measuresColumns_302 ?_
        refine x_iald (pc := 303) dX9_measuresColumns_303 q10 q11 ?_
        refine x_sipush (pc := 304) (v := iN 200) dX9_measuresColumns_304 rfl ?_
        refine x_isub (pc := 307) dX9_measuresColumns_307 ?_
        refine x_goto (pc := 308) (t := 312) dX9_measuresColumns_308 (by decide) ?_
        exact p_X9_measuresColumns_L312 hl hk251 e
noncomputable def f_X9_measuresColumns_L251 (n : Nat) : Hp → Nat → Int32 → Int32 → Option (Rs Unit) := Nat.rec (motive := fun _ => Hp → Nat → Int32 → Int32 → Option (Rs Unit)) (fun _ _ _ _ => none) (fun _ r => f_X9_measuresColumns_B251 r) n
theorem p_X9_measuresColumns_L251 {l : Launch} {K : Ctx} (hl : l.stackTraces = false) : ∀ (n : Nat) (h : Hp) (a0 : Nat) (i1 : Int32) (i2 : Int32) (t : Rs Unit) (e : f_X9_measuresColumns_L251 n h a0 i1 i2 = some t), X l K mM_X9_measuresColumns (tgV t) 251 [(0, .ref a0), (1, .int i1), (2, .int i2)] [] h := by
  intro n
  induction n with
  | zero => exact fun _ _ _ _ _ e => nomatch (show (none : Option (Rs Unit)) = some _ from e)
  | succ n ih => exact fun h a0 i1 i2 t e => p_X9_measuresColumns_B251 hl (fun h a0 i1 i2 t e => ih h a0 i1 i2 t e) e
noncomputable def f_X9_measuresColumns_L234 (k197 : Hp → Nat → Int32 → Option (Rs Unit)) (k209 : Hp → Nat → Int32 → Int32 → Option (Rs Unit)) (h : Hp) (a0 : Nat) (i1 : Int32) (i2 : Int32) : Option (Rs Unit) :=
  k209 h a0 i1 (i2 + iN 1)
theorem p_X9_measuresColumns_L234 {l : Launch} {K : Ctx} (hl : l.stackTraces = false) {k197 : Hp → Nat → Int32 → Option (Rs Unit)} {k209 : Hp → Nat → Int32 → Int32 → Option (Rs Unit)} (hk197 : ∀ (h : Hp) (a0 : Nat) (i1 : Int32) (t : Rs Unit), k197 h a0 i1 = some t → X l K mM_X9_measuresColumns (tgV t) 197 [(0, .ref a0), (1, .int i1)] [] h) (hk209 : ∀ (h : Hp) (a0 : Nat) (i1 : Int32) (i2 : Int32) (t : Rs Unit), k209 h a0 i1 i2 = some t → X l K mM_X9_measuresColumns (tgV t) 209 [(0, .ref a0), (1, .int i1), (2, .int i2)] [] h) {h : Hp} {a0 : Nat} {i1 : Int32} {i2 : Int32} {t : Rs Unit} (e : f_X9_measuresColumns_L234 k197 k209 h a0 i1 i2 = some t) : X l K mM_X9_measuresColumns (tgV t) 234 [(0, .ref a0), (1, .int i1), (2, .int i2)] [] h := by
  unfold f_X9_measuresColumns_L234 at e
  refine x_iinc (pc := 234) 2 dX9_measuresColumns_234 rfl (by decide) rfl ?_
  refine x_goto (pc := 237) (t := 209) dX9_measuresColumns_237 (by decide) ?_
  exact x_sub1 (hk209 _ _ _ _ _ e) [1, 2, 0] rfl
noncomputable def f_X9_measuresColumns_B209 (k197 : Hp → Nat → Int32 → Option (Rs Unit)) (k209 : Hp → Nat → Int32 → Int32 → Option (Rs Unit)) (h : Hp) (a0 : Nat) (i1 : Int32) (i2 : Int32) : Option (Rs Unit) :=
  chk (okr h a0 9) <|
  chk (okr h (qR h a0 1) 20) <|
  chk (vp_in (iN 5) (qW h (qR h a0 1))) <|
  if (qI h (qR h a0 1) (Int32.toNatClampNeg (iN 5))) ≤ i2 then (
    k197 h a0 (i1 + iN 1)
  ) else (
    bnd (f_X9_of h a0 i2 (iN 2)) fun h5 r6 =>
    if r6 = i1 then (
      chk (okr h5 a0 9) <|
      bnd (f_X9_spreads h5 a0 i2) fun h9 _ =>
      f_X9_measuresColumns_L234 k197 k209 h9 a0 i1 i2
    ) else (
      f_X9_measuresColumns_L234 k197 k209 h5 a0 i1 i2
    )
  )
theorem p_X9_measuresColumns_B209 {l : Launch} {K : Ctx} (hl : l.stackTraces = false) {k197 : Hp → Nat → Int32 → Option (Rs Unit)} {k209 : Hp → Nat → Int32 → Int32 → Option (Rs Unit)} (hk197 : ∀ (h : Hp) (a0 : Nat) (i1 : Int32) (t : Rs Unit), k197 h a0 i1 = some t → X l K mM_X9_measuresColumns (tgV t) 197 [(0, .ref a0), (1, .int i1)] [] h) (hk209 : ∀ (h : Hp) (a0 : Nat) (i1 : Int32) (i2 : Int32) (t : Rs Unit), k209 h a0 i1 i2 = some t → X l K mM_X9_measuresColumns (tgV t) 209 [(0, .ref a0), (1, .int i1), (2, .int i2)] [] h) {h : Hp} {a0 : Nat} {i1 : Int32} {i2 : Int32} {t : Rs Unit} (e : f_X9_measuresColumns_B209 k197 k209 h a0 i1 i2 = some t) : X l K mM_X9_measuresColumns (tgV t) 209 [(0, .ref a0), (1, .int i1), (2, .int i2)] [] h := by
  unfold f_X9_measuresColumns_B209 at e
  refine x_iload_n (pc := 209) 2 dX9_measuresColumns_209 rfl ?_
  refine x_aload_n (pc := 210) 0 dX9_measuresColumns_210 rfl ?_
  obtain ⟨q1, e⟩ := chk_some e
  obtain ⟨q2, e⟩ := chk_some e
  refine x_getR (pc := 211) gf_X9_9 rfl dX9_measuresColumns_211 q1 q2.1 ?_
  refine x_iconst (pc := 214) dX9_measuresColumns_214 ?_
  obtain ⟨q3, e⟩ := chk_some e
  refine x_iald (pc := 215) dX9_measuresColumns_215 q2 q3 ?_
  rcases ite_some e with ⟨q4, e⟩ | ⟨q4, e⟩
  · refine x_icmp_ge_t (pc := 216) (t := 240) dX9_measuresColumns_216 (by decide) q4 ?_
    refine x_iinc (pc := 240) 1 dX9_measuresColumns_240 rfl (by decide) rfl ?_
    refine x_goto (pc := 243) (t := 197) dX9_measuresColumns_243 (by decide) ?_
    exact x_sub1 (hk197 _ _ _ _ e) [1, 0] rfl
  · refine x_icmp_ge_f (pc := 216) (t := 240) dX9_measuresColumns_216 (by decide) q4 ?_
    refine x_aload_n (pc := 219) 0 dX9_measuresColumns_219 rfl ?_
    refine x_iload_n (pc := 220) 2 dX9_measuresColumns_220 rfl ?_
    refine x_iconst (pc := 221) dX9_measuresColumns_221 ?_
    rcases bnd_some e with ⟨h5, r6, ec, rfl⟩ | ⟨h5, r6, ec, e⟩
    · exact y_callV_x (pc := 222) (c_X9_of hl ec) q1 mf_X9_of tw_7_63 ts_6_12 lf_X9_91 rfl rfl dX9_measuresColumns_222 (by decide) rfl rfl (leb rfl) (xx_out0 rfl)
    refine y_callV_i (pc := 222) (c_X9_of hl ec) q1 mf_X9_of tw_7_63 ts_6_12 lf_X9_91 rfl rfl dX9_measuresColumns_222 (by decide) rfl rfl (leb rfl) ?_
    refine x_iload_n (pc := 225) 1 dX9_measuresColumns_225 rfl ?_
    rcases ite_some e with ⟨q7, e⟩ | ⟨q7, e⟩
    · refine x_icmp_ne_f (pc := 226) (t := 234) dX9_measuresColumns_226 (by decide) q7 ?_
      refine x_aload_n (pc := 229) 0 dX9_measuresColumns_229 rfl ?_
      refine x_iload_n (pc := 230) 2 dX9_measuresColumns_230 rfl ?_
      obtain ⟨q8, e⟩ := chk_some e
      rcases bnd_some e with ⟨h9, r10, ec, rfl⟩ | ⟨h9, r10, ec, e⟩
      · exact y_callV_x (pc := 231) (c_X9_spreads hl ec) q8 mf_X9_spreads tw_8_70 ts_9_4 lf_X9_314 rfl rfl dX9_measuresColumns_231 (by decide) rfl rfl (leb rfl) (xx_out0 rfl)
      refine y_callV_v (pc := 231) (c_X9_spreads hl ec) q8 mf_X9_spreads tw_8_70 ts_9_4 lf_X9_314 rfl rfl dX9_measuresColumns_231 (by decide) rfl rfl (leb rfl) ?_
      exact p_X9_measuresColumns_L234 hl hk197 hk209 e
    · refine x_icmp_ne_t (pc := 226) (t := 234) dX9_measuresColumns_226 (by decide) q7 ?_
      exact p_X9_measuresColumns_L234 hl hk197 hk209 e
noncomputable def f_X9_measuresColumns_L209 (k197 : Hp → Nat → Int32 → Option (Rs Unit)) (n : Nat) : Hp → Nat → Int32 → Int32 → Option (Rs Unit) := Nat.rec (motive := fun _ => Hp → Nat → Int32 → Int32 → Option (Rs Unit)) (fun _ _ _ _ => none) (fun _ r => f_X9_measuresColumns_B209 k197 r) n
theorem p_X9_measuresColumns_L209 {l : Launch} {K : Ctx} (hl : l.stackTraces = false) {k197 : Hp → Nat → Int32 → Option (Rs Unit)} (hk197 : ∀ (h : Hp) (a0 : Nat) (i1 : Int32) (t : Rs Unit), k197 h a0 i1 = some t → X l K mM_X9_measuresColumns (tgV t) 197 [(0, .ref a0), (1, .int i1)] [] h) : ∀ (n : Nat) (h : Hp) (a0 : Nat) (i1 : Int32) (i2 : Int32) (t : Rs Unit) (e : f_X9_measuresColumns_L209 k197 n h a0 i1 i2 = some t), X l K mM_X9_measuresColumns (tgV t) 209 [(0, .ref a0), (1, .int i1), (2, .int i2)] [] h := by
  intro n
  induction n with
  | zero => exact fun _ _ _ _ _ e => nomatch (show (none : Option (Rs Unit)) = some _ from e)
  | succ n ih => exact fun h a0 i1 i2 t e => p_X9_measuresColumns_B209 hl hk197 (fun h a0 i1 i2 t e => ih h a0 i1 i2 t e) e
noncomputable def f_X9_measuresColumns_B197 (k197 : Hp → Nat → Int32 → Option (Rs Unit)) (h : Hp) (a0 : Nat) (i1 : Int32) : Option (Rs Unit) :=
  chk (okr h a0 9) <|
  chk (okr h (qR h a0 1) 20) <|
  chk (vp_in (iN 0) (qW h (qR h a0 1))) <|
  if (qI h (qR h a0 1) (Int32.toNatClampNeg (iN 0))) < i1 then (
    f_X9_measuresColumns_L251 2000 h a0 (iN 100) (iN 0)
  ) else (
    f_X9_measuresColumns_L209 k197 2000 h a0 i1 (iN 0)
  )
theorem p_X9_measuresColumns_B197 {l : Launch} {K : Ctx} (hl : l.stackTraces = false) {k197 : Hp → Nat → Int32 → Option (Rs Unit)} (hk197 : ∀ (h : Hp) (a0 : Nat) (i1 : Int32) (t : Rs Unit), k197 h a0 i1 = some t → X l K mM_X9_measuresColumns (tgV t) 197 [(0, .ref a0), (1, .int i1)] [] h) {h : Hp} {a0 : Nat} {i1 : Int32} {t : Rs Unit} (e : f_X9_measuresColumns_B197 k197 h a0 i1 = some t) : X l K mM_X9_measuresColumns (tgV t) 197 [(0, .ref a0), (1, .int i1)] [] h := by
  unfold f_X9_measuresColumns_B197 at e
  refine x_iload_n (pc := 197) 1 dX9_measuresColumns_197 rfl ?_
  refine x_aload_n (pc := 198) 0 dX9_measuresColumns_198 rfl ?_
  obtain ⟨q1, e⟩ := chk_some e
  obtain ⟨q2, e⟩ := chk_some e
  refine x_getR (pc := 199) gf_X9_9 rfl dX9_measuresColumns_199 q1 q2.1 ?_
  refine x_iconst (pc := 202) dX9_measuresColumns_202 ?_
  obtain ⟨q3, e⟩ := chk_some e
  refine x_iald (pc := 203) dX9_measuresColumns_203 q2 q3 ?_
  rcases ite_some e with ⟨q4, e⟩ | ⟨q4, e⟩
  · refine x_icmp_gt_t (pc := 204) (t := 246) dX9_measuresColumns_204 (by decide) q4 ?_
    refine x_bipush (pc := 246) (v := iN 100) dX9_measuresColumns_246 rfl ?_
    refine x_istore_n (pc := 248) dX9_measuresColumns_248 (by decide) rfl ?_
    refine x_iconst (pc := 249) dX9_measuresColumns_249 ?_
    refine x_istore_n (pc := 250) dX9_measuresColumns_250 (by decide) rfl ?_
    exact x_sub1 (p_X9_measuresColumns_L251 hl 2000 _ _ _ _ _ e) [2, 1, 0] rfl
  · refine x_icmp_gt_f (pc := 204) (t := 246) dX9_measuresColumns_204 (by decide) q4 ?_
    refine x_iconst (pc := 207) dX9_measuresColumns_207 ?_
    refine x_istore_n (pc := 208) dX9_measuresColumns_208 (by decide) rfl ?_
    exact x_sub1 (p_X9_measuresColumns_L209 hl hk197 2000 _ _ _ _ _ e) [1, 2, 0] rfl
noncomputable def f_X9_measuresColumns_L197 (n : Nat) : Hp → Nat → Int32 → Option (Rs Unit) := Nat.rec (motive := fun _ => Hp → Nat → Int32 → Option (Rs Unit)) (fun _ _ _ => none) (fun _ r => f_X9_measuresColumns_B197 r) n
theorem p_X9_measuresColumns_L197 {l : Launch} {K : Ctx} (hl : l.stackTraces = false) : ∀ (n : Nat) (h : Hp) (a0 : Nat) (i1 : Int32) (t : Rs Unit) (e : f_X9_measuresColumns_L197 n h a0 i1 = some t), X l K mM_X9_measuresColumns (tgV t) 197 [(0, .ref a0), (1, .int i1)] [] h := by
  intro n
  induction n with
  | zero => exact fun _ _ _ _ e => nomatch (show (none : Option (Rs Unit)) = some _ from e)
  | succ n ih => exact fun h a0 i1 t e => p_X9_measuresColumns_B197 hl (fun h a0 i1 t e => ih h a0 i1 t e) e
noncomputable def f_X9_measuresColumns_L188 (k2 : Hp → Nat → Int32 → Option (Rs Unit)) (h : Hp) (a0 : Nat) (i1 : Int32) (s0 : Int32) (s1 : Int32) (s2 : Nat) : Option (Rs Unit) :=
  chk (okr h s2 20) <|
  chk (vp_in s1 (qW h s2)) <|
  lt (putI h s2 (Int32.toNatClampNeg s1) s0) fun h3 =>
  k2 h3 a0 (i1 + iN 1)
theorem p_X9_measuresColumns_L188 {l : Launch} {K : Ctx} (hl : l.stackTraces = false) {k2 : Hp → Nat → Int32 → Option (Rs Unit)} (hk2 : ∀ (h : Hp) (a0 : Nat) (i1 : Int32) (t : Rs Unit), k2 h a0 i1 = some t → X l K mM_X9_measuresColumns (tgV t) 2 [(0, .ref a0), (1, .int i1)] [] h) {h : Hp} {a0 : Nat} {i1 : Int32} {s0 : Int32} {s1 : Int32} {s2 : Nat} {t : Rs Unit} (e : f_X9_measuresColumns_L188 k2 h a0 i1 s0 s1 s2 = some t) : X l K mM_X9_measuresColumns (tgV t) 188 [(0, .ref a0), (1, .int i1)] [.int s0, .int s1, .ref s2] h := by
  unfold f_X9_measuresColumns_L188 at e
  obtain ⟨q1, e⟩ := chk_some e
  obtain ⟨q2, e⟩ := chk_some e
  replace e := lt_go e
  refine x_iast (pc := 188) dX9_measuresColumns_188 q1 q2 ?_
  refine x_iinc (pc := 189) 1 dX9_measuresColumns_189 rfl (by decide) rfl ?_
  refine x_goto (pc := 192) (t := 2) dX9_measuresColumns_192 (by decide) ?_
  exact x_sub1 (hk2 _ _ _ _ e) [1, 0] rfl
noncomputable def f_X9_measuresColumns_L129 (k2 : Hp → Nat → Int32 → Option (Rs Unit)) (k28 : Hp → Nat → Int32 → Int32 → Option (Rs Unit)) (h : Hp) (a0 : Nat) (i1 : Int32) (i2 : Int32) (s0 : Int32) (s1 : Int32) (s2 : Nat) : Option (Rs Unit) :=
  chk (okr h s2 20) <|
  chk (vp_in s1 (qW h s2)) <|
  lt (putI h s2 (Int32.toNatClampNeg s1) s0) fun h3 =>
  k28 h3 a0 i1 (i2 + iN 1)
theorem p_X9_measuresColumns_L129 {l : Launch} {K : Ctx} (hl : l.stackTraces = false) {k2 : Hp → Nat → Int32 → Option (Rs Unit)} {k28 : Hp → Nat → Int32 → Int32 → Option (Rs Unit)} (hk2 : ∀ (h : Hp) (a0 : Nat) (i1 : Int32) (t : Rs Unit), k2 h a0 i1 = some t → X l K mM_X9_measuresColumns (tgV t) 2 [(0, .ref a0), (1, .int i1)] [] h) (hk28 : ∀ (h : Hp) (a0 : Nat) (i1 : Int32) (i2 : Int32) (t : Rs Unit), k28 h a0 i1 i2 = some t → X l K mM_X9_measuresColumns (tgV t) 28 [(0, .ref a0), (1, .int i1), (2, .int i2)] [] h) {h : Hp} {a0 : Nat} {i1 : Int32} {i2 : Int32} {s0 : Int32} {s1 : Int32} {s2 : Nat} {t : Rs Unit} (e : f_X9_measuresColumns_L129 k2 k28 h a0 i1 i2 s0 s1 s2 = some t) : X l K mM_X9_measuresColumns (tgV t) 129 [(0, .ref a0), (1, .int i1), (2, .int i2)] [.int s0, .int s1, .ref s2] h := by
  unfold f_X9_measuresColumns_L129 at e
  obtain ⟨q1, e⟩ := chk_some e
  obtain ⟨q2, e⟩ := chk_some e
  replace e := lt_go e
  refine x_iast (pc := 129) dX9_measuresColumns_129 q1 q2 ?_
  refine x_iinc (pc := 130) 2 dX9_measuresColumns_130 rfl (by decide) rfl ?_
  refine x_goto (pc := 133) (t := 28) dX9_measuresColumns_133 (by decide) ?_
  exact x_sub1 (hk28 _ _ _ _ _ e) [1, 2, 0] rfl
noncomputable def f_X9_measuresColumns_L96 (k2 : Hp → Nat → Int32 → Option (Rs Unit)) (k28 : Hp → Nat → Int32 → Int32 → Option (Rs Unit)) (h : Hp) (a0 : Nat) (i1 : Int32) (i2 : Int32) (i3 : Int32) (s0 : Int32) (s1 : Int32) (s2 : Nat) : Option (Rs Unit) :=
  chk (okr h s2 20) <|
  chk (vp_in s1 (qW h s2)) <|
  lt (putI h s2 (Int32.toNatClampNeg s1) s0) fun h3 =>
  chk (okr h3 a0 9) <|
  chk (okr h3 (qR h3 a0 22) 20) <|
  if i3 = 0 then (
    chk (vp_in i1 (qW h3 (qR h3 a0 22))) <|
    f_X9_measuresColumns_L129 k2 k28 h3 a0 i1 i2 (qI h3 (qR h3 a0 22) (Int32.toNatClampNeg i1)) i1 (qR h3 a0 22)
  ) else (
    chk (vp_in i1 (qW h3 (qR h3 a0 22))) <|
    bnd (f_X9_mostOf h3 a0 i2) fun h9 r10 =>
    bnd (f_X9_greater h9 (qI h3 (qR h3 a0 22) (Int32.toNatClampNeg i1)) r10) fun h11 r12 =>
    f_X9_measuresColumns_L129 k2 k28 h11 a0 i1 i2 r12 i1 (qR h3 a0 22)
  )
theorem p_X9_measuresColumns_L96 {l : Launch} {K : Ctx} (hl : l.stackTraces = false) {k2 : Hp → Nat → Int32 → Option (Rs Unit)} {k28 : Hp → Nat → Int32 → Int32 → Option (Rs Unit)} (hk2 : ∀ (h : Hp) (a0 : Nat) (i1 : Int32) (t : Rs Unit), k2 h a0 i1 = some t → X l K mM_X9_measuresColumns (tgV t) 2 [(0, .ref a0), (1, .int i1)] [] h) (hk28 : ∀ (h : Hp) (a0 : Nat) (i1 : Int32) (i2 : Int32) (t : Rs Unit), k28 h a0 i1 i2 = some t → X l K mM_X9_measuresColumns (tgV t) 28 [(0, .ref a0), (1, .int i1), (2, .int i2)] [] h) {h : Hp} {a0 : Nat} {i1 : Int32} {i2 : Int32} {i3 : Int32} {s0 : Int32} {s1 : Int32} {s2 : Nat} {t : Rs Unit} (e : f_X9_measuresColumns_L96 k2 k28 h a0 i1 i2 i3 s0 s1 s2 = some t) : X l K mM_X9_measuresColumns (tgV t) 96 [(0, .ref a0), (1, .int i1), (2, .int i2), (3, .int i3)] [.int s0, .int s1, .ref s2] h := by
  unfold f_X9_measuresColumns_L96 at e
  obtain ⟨q1, e⟩ := chk_some e
  obtain ⟨q2, e⟩ := chk_some e
  replace e := lt_go e
  refine x_iast (pc := 96) dX9_measuresColumns_96 q1 q2 ?_
  refine x_aload_n (pc := 97) 0 dX9_measuresColumns_97 rfl ?_
  obtain ⟨q4, e⟩ := chk_some e
  obtain ⟨q5, e⟩ := chk_some e
  refine x_getR (pc := 98) gf_X9_51 rfl dX9_measuresColumns_98 q4 q5.1 ?_
  refine x_iload_n (pc := 101) 1 dX9_measuresColumns_101 rfl ?_
  refine x_iload_n (pc := 102) 3 dX9_measuresColumns_102 rfl ?_
  rcases ite_some e with ⟨q6, e⟩ | ⟨q6, e⟩
  · refine x_if_eq_t (pc := 103) (t := 123) dX9_measuresColumns_103 (by decide) q6 ?_
    refine x_aload_n (pc := 123) 0 dX9_measuresColumns_123 rfl ?_
    refine x_getR (pc := 124) gf_X9_51 rfl dX9_measuresColumns_124 q4 q5.1 ?_
    refine x_iload_n (pc := 127) 1 dX9_measuresColumns_127 rfl ?_
    obtain ⟨q7, e⟩ := chk_some e
    refine x_iald (pc := 128) dX9_measuresColumns_128 q5 q7 ?_
    exact x_sub1 (p_X9_measuresColumns_L129 hl hk2 hk28 e) [0, 1, 2] rfl
  · refine x_if_eq_f (pc := 103) (t := 123) dX9_measuresColumns_103 (by decide) q6 ?_
    refine x_aload_n (pc := 106) 0 dX9_measuresColumns_106 rfl ?_
    refine x_getR (pc := 107) gf_X9_51 rfl dX9_measuresColumns_107 q4 q5.1 ?_
    refine x_iload_n (pc := 110) 1 dX9_measuresColumns_110 rfl ?_
    obtain ⟨q8, e⟩ := chk_some e
    refine x_iald (pc := 111) dX9_measuresColumns_111 q5 q8 ?_
    refine x_aload_n (pc := 112) 0 dX9_measuresColumns_112 rfl ?_
    refine x_iload_n (pc := 113) 2 dX9_measuresColumns_113 rfl ?_
    rcases bnd_some e with ⟨h9, r10, ec, rfl⟩ | ⟨h9, r10, ec, e⟩
    · exact y_callV_x (pc := 114) (c_X9_mostOf hl ec) q4 mf_X9_mostOf tw_8_18 ts_8_13 lf_X9_296 rfl rfl dX9_measuresColumns_114 (by decide) rfl rfl (leb rfl) (xx_out0 rfl)
    refine y_callV_i (pc := 114) (c_X9_mostOf hl ec) q4 mf_X9_mostOf tw_8_18 ts_8_13 lf_X9_296 rfl rfl dX9_measuresColumns_114 (by decide) rfl rfl (leb rfl) ?_
    rcases bnd_some e with ⟨h11, r12, ec, rfl⟩ | ⟨h11, r12, ec, e⟩
    · exact y_callS_x (pc := 117) (c_X9_greater hl ec) mf_X9_greater tw_8_10 lf_X9_277 dX9_measuresColumns_117 (by decide) rfl rfl (leb rfl) (xx_out0 rfl)
    refine y_callS_i (pc := 117) (c_X9_greater hl ec) mf_X9_greater tw_8_10 lf_X9_277 dX9_measuresColumns_117 (by decide) rfl rfl (leb rfl) ?_
    refine x_goto (pc := 120) (t := 129) dX9_measuresColumns_120 (by decide) ?_
    exact x_sub1 (p_X9_measuresColumns_L129 hl hk2 hk28 e) [0, 1, 2] rfl
noncomputable def f_X9_measuresColumns_L63 (k2 : Hp → Nat → Int32 → Option (Rs Unit)) (k28 : Hp → Nat → Int32 → Int32 → Option (Rs Unit)) (h : Hp) (a0 : Nat) (i1 : Int32) (i2 : Int32) (s0 : Int32) : Option (Rs Unit) :=
  chk (okr h a0 9) <|
  chk (okr h (qR h a0 21) 20) <|
  if s0 = 0 then (
    chk (vp_in i1 (qW h (qR h a0 21))) <|
    f_X9_measuresColumns_L96 k2 k28 h a0 i1 i2 s0 (qI h (qR h a0 21) (Int32.toNatClampNeg i1)) i1 (qR h a0 21)
  ) else (
    chk (vp_in i1 (qW h (qR h a0 21))) <|
    bnd (f_X9_leastOf h a0 i2) fun h6 r7 =>
    bnd (f_X9_greater h6 (qI h (qR h a0 21) (Int32.toNatClampNeg i1)) r7) fun h8 r9 =>
    f_X9_measuresColumns_L96 k2 k28 h8 a0 i1 i2 s0 r9 i1 (qR h a0 21)
  )
theorem p_X9_measuresColumns_L63 {l : Launch} {K : Ctx} (hl : l.stackTraces = false) {k2 : Hp → Nat → Int32 → Option (Rs Unit)} {k28 : Hp → Nat → Int32 → Int32 → Option (Rs Unit)} (hk2 : ∀ (h : Hp) (a0 : Nat) (i1 : Int32) (t : Rs Unit), k2 h a0 i1 = some t → X l K mM_X9_measuresColumns (tgV t) 2 [(0, .ref a0), (1, .int i1)] [] h) (hk28 : ∀ (h : Hp) (a0 : Nat) (i1 : Int32) (i2 : Int32) (t : Rs Unit), k28 h a0 i1 i2 = some t → X l K mM_X9_measuresColumns (tgV t) 28 [(0, .ref a0), (1, .int i1), (2, .int i2)] [] h) {h : Hp} {a0 : Nat} {i1 : Int32} {i2 : Int32} {s0 : Int32} {t : Rs Unit} (e : f_X9_measuresColumns_L63 k2 k28 h a0 i1 i2 s0 = some t) : X l K mM_X9_measuresColumns (tgV t) 63 [(0, .ref a0), (1, .int i1), (2, .int i2)] [.int s0] h := by
  unfold f_X9_measuresColumns_L63 at e
  refine x_istore_n (pc := 63) dX9_measuresColumns_63 (by decide) rfl ?_
  refine x_aload_n (pc := 64) 1 dX9_measuresColumns_64 rfl ?_
  obtain ⟨q1, e⟩ := chk_some e
  obtain ⟨q2, e⟩ := chk_some e
  refine x_getR (pc := 65) gf_X9_48 rfl dX9_measuresColumns_65 q1 q2.1 ?_
  refine x_iload_n (pc := 68) 2 dX9_measuresColumns_68 rfl ?_
  refine x_iload_n (pc := 69) 0 dX9_measuresColumns_69 rfl ?_
  rcases ite_some e with ⟨q3, e⟩ | ⟨q3, e⟩
  · refine x_if_eq_t (pc := 70) (t := 90) dX9_measuresColumns_70 (by decide) q3 ?_
    refine x_aload_n (pc := 90) 1 dX9_measuresColumns_90 rfl ?_
    refine x_getR (pc := 91) gf_X9_48 rfl dX9_measuresColumns_91 q1 q2.1 ?_
    refine x_iload_n (pc := 94) 2 dX9_measuresColumns_94 rfl ?_
    obtain ⟨q4, e⟩ := chk_some e
    refine x_iald (pc := 95) dX9_measuresColumns_95 q2 q4 ?_
    exact x_sub1 (p_X9_measuresColumns_L96 hl hk2 hk28 e) [1, 2, 3, 0] rfl
  · refine x_if_eq_f (pc := 70) (t := 90) dX9_measuresColumns_70 (by decide) q3 ?_
    refine x_aload_n (pc := 73) 1 dX9_measuresColumns_73 rfl ?_
    refine x_getR (pc := 74) gf_X9_48 rfl dX9_measuresColumns_74 q1 q2.1 ?_
    refine x_iload_n (pc := 77) 2 dX9_measuresColumns_77 rfl ?_
    obtain ⟨q5, e⟩ := chk_some e
    refine x_iald (pc := 78) dX9_measuresColumns_78 q2 q5 ?_
    refine x_aload_n (pc := 79) 1 dX9_measuresColumns_79 rfl ?_
    refine x_iload_n (pc := 80) 3 dX9_measuresColumns_80 rfl ?_
    rcases bnd_some e with ⟨h6, r7, ec, rfl⟩ | ⟨h6, r7, ec, e⟩
    · exact y_callV_x (pc := 81) (c_X9_leastOf hl ec) q1 mf_X9_leastOf tw_7_235 ts_8_8 lf_X9_293 rfl rfl dX9_measuresColumns_81 (by decide) rfl rfl (leb rfl) (xx_out0 rfl)
    refine y_callV_i (pc := 81) (c_X9_leastOf hl ec) q1 mf_X9_leastOf tw_7_235 ts_8_8 lf_X9_293 rfl rfl dX9_measuresColumns_81 (by decide) rfl rfl (leb rfl) ?_
    rcases bnd_some e with ⟨h8, r9, ec, rfl⟩ | ⟨h8, r9, ec, e⟩
    · exact y_callS_x (pc := 84) (c_X9_greater hl ec) mf_X9_greater tw_8_10 lf_X9_277 dX9_measuresColumns_84 (by decide) rfl rfl (leb rfl) (xx_out0 rfl)
    refine y_callS_i (pc := 84) (c_X9_greater hl ec) mf_X9_greater tw_8_10 lf_X9_277 dX9_measuresColumns_84 (by decide) rfl rfl (leb rfl) ?_
    refine x_goto (pc := 87) (t := 96) dX9_measuresColumns_87 (by decide) ?_
    exact x_sub1 (p_X9_measuresColumns_L96 hl hk2 hk28 e) [1, 2, 3, 0] rfl
noncomputable def f_X9_measuresColumns_L62 (k2 : Hp → Nat → Int32 → Option (Rs Unit)) (k28 : Hp → Nat → Int32 → Int32 → Option (Rs Unit)) (h : Hp) (a0 : Nat) (i1 : Int32) (i2 : Int32) : Option (Rs Unit) :=
  f_X9_measuresColumns_L63 k2 k28 h a0 i1 i2 (iN 0)
theorem p_X9_measuresColumns_L62 {l : Launch} {K : Ctx} (hl : l.stackTraces = false) {k2 : Hp → Nat → Int32 → Option (Rs Unit)} {k28 : Hp → Nat → Int32 → Int32 → Option (Rs Unit)} (hk2 : ∀ (h : Hp) (a0 : Nat) (i1 : Int32) (t : Rs Unit), k2 h a0 i1 = some t → X l K mM_X9_measuresColumns (tgV t) 2 [(0, .ref a0), (1, .int i1)] [] h) (hk28 : ∀ (h : Hp) (a0 : Nat) (i1 : Int32) (i2 : Int32) (t : Rs Unit), k28 h a0 i1 i2 = some t → X l K mM_X9_measuresColumns (tgV t) 28 [(0, .ref a0), (1, .int i1), (2, .int i2)] [] h) {h : Hp} {a0 : Nat} {i1 : Int32} {i2 : Int32} {t : Rs Unit} (e : f_X9_measuresColumns_L62 k2 k28 h a0 i1 i2 = some t) : X l K mM_X9_measuresColumns (tgV t) 62 [(0, .ref a0), (1, .int i1), (2, .int i2)] [] h := by
  unfold f_X9_measuresColumns_L62 at e
  refine x_iconst (pc := 62) dX9_measuresColumns_62 ?_
  exact p_X9_measuresColumns_L63 hl hk2 hk28 e
noncomputable def f_X9_measuresColumns_B28 (k2 : Hp → Nat → Int32 → Option (Rs Unit)) (k28 : Hp → Nat → Int32 → Int32 → Option (Rs Unit)) (h : Hp) (a0 : Nat) (i1 : Int32) (i2 : Int32) : Option (Rs Unit) :=
  chk (okr h a0 9) <|
  chk (okr h (qR h a0 1) 20) <|
  chk (vp_in (iN 5) (qW h (qR h a0 1))) <|
  if (qI h (qR h a0 1) (Int32.toNatClampNeg (iN 5))) ≤ i2 then (
    chk (okr h (qR h a0 22) 20) <|
    bnd (f_X9_isFixed h a0 i1) fun h6 r7 =>
    if r7 = 0 then (
      chk (okr h6 a0 9) <|
      chk (okr h6 (qR h6 a0 22) 20) <|
      chk (vp_in i1 (qW h6 (qR h6 a0 22))) <|
      chk (okr h6 (qR h6 a0 21) 20) <|
      chk (vp_in i1 (qW h6 (qR h6 a0 21))) <|
      bnd (f_X9_greater h6 (qI h6 (qR h6 a0 22) (Int32.toNatClampNeg i1)) (qI h6 (qR h6 a0 21) (Int32.toNatClampNeg i1))) fun h14 r15 =>
      f_X9_measuresColumns_L188 k2 h14 a0 i1 r15 i1 (qR h a0 22)
    ) else (
      chk (okr h6 a0 9) <|
      chk (okr h6 (qR h6 a0 21) 20) <|
      chk (vp_in i1 (qW h6 (qR h6 a0 21))) <|
      chk (okr h6 (qR h6 a0 1) 20) <|
      chk (vp_in ((iN 6) + i1) (qW h6 (qR h6 a0 1))) <|
      bnd (f_X9_greater h6 (qI h6 (qR h6 a0 21) (Int32.toNatClampNeg i1)) ((qI h6 (qR h6 a0 1) (Int32.toNatClampNeg ((iN 6) + i1))) - (iN 100))) fun h21 r22 =>
      f_X9_measuresColumns_L188 k2 h21 a0 i1 r22 i1 (qR h a0 22)
    )
  ) else (
    bnd (f_X9_of h a0 i2 (iN 2)) fun h23 r24 =>
    if r24 = (iN 1) then (
      chk (okr h23 a0 9) <|
      bnd (f_X9_of h23 a0 i2 (iN 1)) fun h27 r28 =>
      if r28 = i1 then (
        f_X9_measuresColumns_L63 k2 k28 h27 a0 i1 i2 (iN 1)
      ) else (
        f_X9_measuresColumns_L62 k2 k28 h27 a0 i1 i2
      )
    ) else (
      f_X9_measuresColumns_L62 k2 k28 h23 a0 i1 i2
    )
  )
theorem p_X9_measuresColumns_B28 {l : Launch} {K : Ctx} (hl : l.stackTraces = false) {k2 : Hp → Nat → Int32 → Option (Rs Unit)} {k28 : Hp → Nat → Int32 → Int32 → Option (Rs Unit)} (hk2 : ∀ (h : Hp) (a0 : Nat) (i1 : Int32) (t : Rs Unit), k2 h a0 i1 = some t → X l K mM_X9_measuresColumns (tgV t) 2 [(0, .ref a0), (1, .int i1)] [] h) (hk28 : ∀ (h : Hp) (a0 : Nat) (i1 : Int32) (i2 : Int32) (t : Rs Unit), k28 h a0 i1 i2 = some t → X l K mM_X9_measuresColumns (tgV t) 28 [(0, .ref a0), (1, .int i1), (2, .int i2)] [] h) {h : Hp} {a0 : Nat} {i1 : Int32} {i2 : Int32} {t : Rs Unit} (e : f_X9_measuresColumns_B28 k2 k28 h a0 i1 i2 = some t) : X l K mM_X9_measuresColumns (tgV t) 28 [(0, .ref a0), (1, .int i1), (2, .int i2)] [] h := by
  unfold f_X9_measuresColumns_B28 at e
  refine x_iload_n (pc := 28) 2 dX9_measuresColumns_28 rfl ?_
  refine x_aload_n (pc := 29) 0 dX9_measuresColumns_29 rfl ?_
  obtain ⟨q1, e⟩ := chk_some e
  obtain ⟨q2, e⟩ := chk_some e
  refine x_getR (pc := 30) gf_X9_9 rfl dX9_measuresColumns_30 q1 q2.1 ?_
  refine x_iconst (pc := 33) dX9_measuresColumns_33 ?_
  obtain ⟨q3, e⟩ := chk_some e
  refine x_iald (pc := 34) dX9_measuresColumns_34 q2 q3 ?_
  rcases ite_some e with ⟨q4, e⟩ | ⟨q4, e⟩
  · refine x_icmp_ge_t (pc := 35) (t := 136) dX9_measuresColumns_35 (by decide) q4 ?_
    refine x_aload_n (pc := 136) 0 dX9_measuresColumns_136 rfl ?_
    obtain ⟨q5, e⟩ := chk_some e
    refine x_getR (pc := 137) gf_X9_51 rfl dX9_measuresColumns_137 q1 q5.1 ?_
    refine x_iload_n (pc := 140) 1 dX9_measuresColumns_140 rfl ?_
    refine x_aload_n (pc := 141) 0 dX9_measuresColumns_141 rfl ?_
    refine x_iload_n (pc := 142) 1 dX9_measuresColumns_142 rfl ?_
    rcases bnd_some e with ⟨h6, r7, ec, rfl⟩ | ⟨h6, r7, ec, e⟩
    · exact y_callV_x (pc := 143) (c_X9_isFixed hl ec) q1 mf_X9_isFixed tw_8_66 ts_9_3 lf_X9_302 rfl rfl dX9_measuresColumns_143 (by decide) rfl rfl (leb rfl) (xx_out0 rfl)
    refine y_callV_i (pc := 143) (c_X9_isFixed hl ec) q1 mf_X9_isFixed tw_8_66 ts_9_3 lf_X9_302 rfl rfl dX9_measuresColumns_143 (by decide) rfl rfl (leb rfl) ?_
    rcases ite_some e with ⟨q8, e⟩ | ⟨q8, e⟩
    · refine x_if_eq_t (pc := 146) (t := 173) dX9_measuresColumns_146 (by decide) q8 ?_
      refine x_aload_n (pc := 173) 0 dX9_measuresColumns_173 rfl ?_
      obtain ⟨q9, e⟩ := chk_some e
      obtain ⟨q10, e⟩ := chk_some e
      refine x_getR (pc := 174) gf_X9_51 rfl dX9_measuresColumns_174 q9 q10.1 ?_
      refine x_iload_n (pc := 177) 1 dX9_measuresColumns_177 rfl ?_
      obtain ⟨q11, e⟩ := chk_some e
      refine x_iald (pc := 178) dX9_measuresColumns_178 q10 q11 ?_
      refine x_aload_n (pc := 179) 0 dX9_measuresColumns_179 rfl ?_
      obtain ⟨q12, e⟩ := chk_some e
      refine x_getR (pc := 180) gf_X9_48 rfl dX9_measuresColumns_180 q9 q12.1 ?_
      refine x_iload_n (pc := 183) 1 dX9_measuresColumns_183 rfl ?_
      obtain ⟨q13, e⟩ := chk_some e
      refine x_iald (pc := 184) dX9_measuresColumns_184 q12 q13 ?_
      rcases bnd_some e with ⟨h14, r15, ec, rfl⟩ | ⟨h14, r15, ec, e⟩
      · exact y_callS_x (pc := 185) (c_X9_greater hl ec) mf_X9_greater tw_8_10 lf_X9_277 dX9_measuresColumns_185 (by decide) rfl rfl (leb rfl) (xx_out0 rfl)
      refine y_callS_i (pc := 185) (c_X9_greater hl ec) mf_X9_greater tw_8_10 lf_X9_277 dX9_measuresColumns_185 (by decide) rfl rfl (leb rfl) ?_
      exact x_sub1 (p_X9_measuresColumns_L188 hl hk2 e) [0, 1] rfl
    · refine x_if_eq_f (pc := 146) (t := 173) dX9_measuresColumns_146 (by decide) q8 ?_
      refine x_aload_n (pc := 149) 0 dX9_measuresColumns_149 rfl ?_
      obtain ⟨q16, e⟩ := chk_some e
      obtain ⟨q17, e⟩ := chk_some e
      refine x_getR (pc := 150) gf_X9_48 rfl dX9_measuresColumns_150 q16 q17.1 ?_
      refine x_iload_n (pc := 153) 1 dX9_measuresColumns_153 rfl ?_
      obtain ⟨q18, e⟩ := chk_some e
      refine x_iald (pc := 154) dX9_measuresColumns_154 q17 q18 ?_
      refine x_aload_n (pc := 155) 0 dX9_measuresColumns_155 rfl ?_
      obtain ⟨q19, e⟩ := chk_some e
      refine x_getR (pc := 156) gf_X9_9 rfl dX9_measuresColumns_156 q16 q19.1 ?_
      refine x_bipush (pc := 159) (v := iN 6) dX9_measuresColumns_159 rfl ?_
      refine x_iload_n (pc := 161) 1 dX9_measuresColumns_161 rfl ?_
      refine x_iadd (pc := 162) dX9_measuresColumns_162 ?_
      obtain ⟨q20, e⟩ := chk_some e
      refine x_iald (pc := 163) dX9_measuresColumns_163 q19 q20 ?_
      refine x_bipush (pc := 164) (v := iN 100) dX9_measuresColumns_164 rfl ?_
      refine x_isub (pc := 166) dX9_measuresColumns_166 ?_
      rcases bnd_some e with ⟨h21, r22, ec, rfl⟩ | ⟨h21, r22, ec, e⟩
      · exact y_callS_x (pc := 167) (c_X9_greater hl ec) mf_X9_greater tw_8_10 lf_X9_277 dX9_measuresColumns_167 (by decide) rfl rfl (leb rfl) (xx_out0 rfl)
      refine y_callS_i (pc := 167) (c_X9_greater hl ec) mf_X9_greater tw_8_10 lf_X9_277 dX9_measuresColumns_167 (by decide) rfl rfl (leb rfl) ?_
      refine x_goto (pc := 170) (t := 188) dX9_measuresColumns_170 (by decide) ?_
      exact x_sub1 (p_X9_measuresColumns_L188 hl hk2 e) [0, 1] rfl
  · refine x_icmp_ge_f (pc := 35) (t := 136) dX9_measuresColumns_35 (by decide) q4 ?_
    refine x_aload_n (pc := 38) 0 dX9_measuresColumns_38 rfl ?_
    refine x_iload_n (pc := 39) 2 dX9_measuresColumns_39 rfl ?_
    refine x_iconst (pc := 40) dX9_measuresColumns_40 ?_
    rcases bnd_some e with ⟨h23, r24, ec, rfl⟩ | ⟨h23, r24, ec, e⟩
    · exact y_callV_x (pc := 41) (c_X9_of hl ec) q1 mf_X9_of tw_7_63 ts_6_12 lf_X9_91 rfl rfl dX9_measuresColumns_41 (by decide) rfl rfl (leb rfl) (xx_out0 rfl)
    refine y_callV_i (pc := 41) (c_X9_of hl ec) q1 mf_X9_of tw_7_63 ts_6_12 lf_X9_91 rfl rfl dX9_measuresColumns_41 (by decide) rfl rfl (leb rfl) ?_
    refine x_iconst (pc := 44) dX9_measuresColumns_44 ?_
    rcases ite_some e with ⟨q25, e⟩ | ⟨q25, e⟩
    · refine x_icmp_ne_f (pc := 45) (t := 62) dX9_measuresColumns_45 (by decide) q25 ?_
      refine x_aload_n (pc := 48) 0 dX9_measuresColumns_48 rfl ?_
      refine x_iload_n (pc := 49) 2 dX9_measuresColumns_49 rfl ?_
      refine x_iconst (pc := 50) dX9_measuresColumns_50 ?_
      obtain ⟨q26, e⟩ := chk_some e
      rcases bnd_some e with ⟨h27, r28, ec, rfl⟩ | ⟨h27, r28, ec, e⟩
      · exact y_callV_x (pc := 51) (c_X9_of hl ec) q26 mf_X9_of tw_7_63 ts_6_12 lf_X9_91 rfl rfl dX9_measuresColumns_51 (by decide) rfl rfl (leb rfl) (xx_out0 rfl)
      refine y_callV_i (pc := 51) (c_X9_of hl ec) q26 mf_X9_of tw_7_63 ts_6_12 lf_X9_91 rfl rfl dX9_measuresColumns_51 (by decide) rfl rfl (leb rfl) ?_
      refine x_iload_n (pc := 54) 1 dX9_measuresColumns_54 rfl ?_
      rcases ite_some e with ⟨q29, e⟩ | ⟨q29, e⟩
      · refine x_icmp_ne_f (pc := 55) (t := 62) dX9_measuresColumns_55 (by decide) q29 ?_
        refine x_iconst (pc := 58) dX9_measuresColumns_58 ?_
        refine x_goto (pc := 59) (t := 63) dX9_measuresColumns_59 (by decide) ?_
        exact p_X9_measuresColumns_L63 hl hk2 hk28 e
      · refine x_icmp_ne_t (pc := 55) (t := 62) dX9_measuresColumns_55 (by decide) q29 ?_
        exact p_X9_measuresColumns_L62 hl hk2 hk28 e
    · refine x_icmp_ne_t (pc := 45) (t := 62) dX9_measuresColumns_45 (by decide) q25 ?_
      exact p_X9_measuresColumns_L62 hl hk2 hk28 e
noncomputable def f_X9_measuresColumns_L28 (k2 : Hp → Nat → Int32 → Option (Rs Unit)) (n : Nat) : Hp → Nat → Int32 → Int32 → Option (Rs Unit) := Nat.rec (motive := fun _ => Hp → Nat → Int32 → Int32 → Option (Rs Unit)) (fun _ _ _ _ => none) (fun _ r => f_X9_measuresColumns_B28 k2 r) n
theorem p_X9_measuresColumns_L28 {l : Launch} {K : Ctx} (hl : l.stackTraces = false) {k2 : Hp → Nat → Int32 → Option (Rs Unit)} (hk2 : ∀ (h : Hp) (a0 : Nat) (i1 : Int32) (t : Rs Unit), k2 h a0 i1 = some t → X l K mM_X9_measuresColumns (tgV t) 2 [(0, .ref a0), (1, .int i1)] [] h) : ∀ (n : Nat) (h : Hp) (a0 : Nat) (i1 : Int32) (i2 : Int32) (t : Rs Unit) (e : f_X9_measuresColumns_L28 k2 n h a0 i1 i2 = some t), X l K mM_X9_measuresColumns (tgV t) 28 [(0, .ref a0), (1, .int i1), (2, .int i2)] [] h := by
  intro n
  induction n with
  | zero => exact fun _ _ _ _ _ e => nomatch (show (none : Option (Rs Unit)) = some _ from e)
  | succ n ih => exact fun h a0 i1 i2 t e => p_X9_measuresColumns_B28 hl hk2 (fun h a0 i1 i2 t e => ih h a0 i1 i2 t e) e
noncomputable def f_X9_measuresColumns_B2 (k2 : Hp → Nat → Int32 → Option (Rs Unit)) (h : Hp) (a0 : Nat) (i1 : Int32) : Option (Rs Unit) :=
  chk (okr h a0 9) <|
  chk (okr h (qR h a0 1) 20) <|
  chk (vp_in (iN 0) (qW h (qR h a0 1))) <|
  if (qI h (qR h a0 1) (Int32.toNatClampNeg (iN 0))) ≤ i1 then (
    f_X9_measuresColumns_L197 2000 h a0 (iN 2)
  ) else (
    chk (okr h (qR h a0 21) 20) <|
    chk (vp_in i1 (qW h (qR h a0 21))) <|
    lt (putI h (qR h a0 21) (Int32.toNatClampNeg i1) (iN 1)) fun h7 =>
    chk (okr h7 (qR h7 a0 22) 20) <|
    chk (vp_in i1 (qW h7 (qR h7 a0 22))) <|
    lt (putI h7 (qR h7 a0 22) (Int32.toNatClampNeg i1) (iN 0)) fun h10 =>
    f_X9_measuresColumns_L28 k2 2000 h10 a0 i1 (iN 0)
  )
theorem p_X9_measuresColumns_B2 {l : Launch} {K : Ctx} (hl : l.stackTraces = false) {k2 : Hp → Nat → Int32 → Option (Rs Unit)} (hk2 : ∀ (h : Hp) (a0 : Nat) (i1 : Int32) (t : Rs Unit), k2 h a0 i1 = some t → X l K mM_X9_measuresColumns (tgV t) 2 [(0, .ref a0), (1, .int i1)] [] h) {h : Hp} {a0 : Nat} {i1 : Int32} {t : Rs Unit} (e : f_X9_measuresColumns_B2 k2 h a0 i1 = some t) : X l K mM_X9_measuresColumns (tgV t) 2 [(0, .ref a0), (1, .int i1)] [] h := by
  unfold f_X9_measuresColumns_B2 at e
  refine x_iload_n (pc := 2) 1 dX9_measuresColumns_2 rfl ?_
  refine x_aload_n (pc := 3) 0 dX9_measuresColumns_3 rfl ?_
  obtain ⟨q1, e⟩ := chk_some e
  obtain ⟨q2, e⟩ := chk_some e
  refine x_getR (pc := 4) gf_X9_9 rfl dX9_measuresColumns_4 q1 q2.1 ?_
  refine x_iconst (pc := 7) dX9_measuresColumns_7 ?_
  obtain ⟨q3, e⟩ := chk_some e
  refine x_iald (pc := 8) dX9_measuresColumns_8 q2 q3 ?_
  rcases ite_some e with ⟨q4, e⟩ | ⟨q4, e⟩
  · refine x_icmp_ge_t (pc := 9) (t := 195) dX9_measuresColumns_9 (by decide) q4 ?_
    refine x_iconst (pc := 195) dX9_measuresColumns_195 ?_
    refine x_istore_n (pc := 196) dX9_measuresColumns_196 (by decide) rfl ?_
    exact x_sub1 (p_X9_measuresColumns_L197 hl 2000 _ _ _ _ e) [1, 0] rfl
  · refine x_icmp_ge_f (pc := 9) (t := 195) dX9_measuresColumns_9 (by decide) q4 ?_
    refine x_aload_n (pc := 12) 0 dX9_measuresColumns_12 rfl ?_
    obtain ⟨q5, e⟩ := chk_some e
    refine x_getR (pc := 13) gf_X9_48 rfl dX9_measuresColumns_13 q1 q5.1 ?_
    refine x_iload_n (pc := 16) 1 dX9_measuresColumns_16 rfl ?_
    refine x_iconst (pc := 17) dX9_measuresColumns_17 ?_
    obtain ⟨q6, e⟩ := chk_some e
    replace e := lt_go e
    refine x_iast (pc := 18) dX9_measuresColumns_18 q5 q6 ?_
    refine x_aload_n (pc := 19) 0 dX9_measuresColumns_19 rfl ?_
    obtain ⟨q8, e⟩ := chk_some e
    refine x_getR (pc := 20) gf_X9_51 rfl dX9_measuresColumns_20 (okr_pI q1) q8.1 ?_
    refine x_iload_n (pc := 23) 1 dX9_measuresColumns_23 rfl ?_
    refine x_iconst (pc := 24) dX9_measuresColumns_24 ?_
    obtain ⟨q9, e⟩ := chk_some e
    replace e := lt_go e
    refine x_iast (pc := 25) dX9_measuresColumns_25 q8 q9 ?_
    refine x_iconst (pc := 26) dX9_measuresColumns_26 ?_
    refine x_istore_n (pc := 27) dX9_measuresColumns_27 (by decide) rfl ?_
    exact x_sub1 (p_X9_measuresColumns_L28 hl hk2 2000 _ _ _ _ _ e) [1, 2, 0] rfl
noncomputable def f_X9_measuresColumns_L2 (n : Nat) : Hp → Nat → Int32 → Option (Rs Unit) := Nat.rec (motive := fun _ => Hp → Nat → Int32 → Option (Rs Unit)) (fun _ _ _ => none) (fun _ r => f_X9_measuresColumns_B2 r) n
theorem p_X9_measuresColumns_L2 {l : Launch} {K : Ctx} (hl : l.stackTraces = false) : ∀ (n : Nat) (h : Hp) (a0 : Nat) (i1 : Int32) (t : Rs Unit) (e : f_X9_measuresColumns_L2 n h a0 i1 = some t), X l K mM_X9_measuresColumns (tgV t) 2 [(0, .ref a0), (1, .int i1)] [] h := by
  intro n
  induction n with
  | zero => exact fun _ _ _ _ e => nomatch (show (none : Option (Rs Unit)) = some _ from e)
  | succ n ih => exact fun h a0 i1 t e => p_X9_measuresColumns_B2 hl (fun h a0 i1 t e => ih h a0 i1 t e) e
noncomputable def f_X9_measuresColumns (h : Hp) (a0 : Nat) : Option (Rs Unit) :=
  f_X9_measuresColumns_L2 2000 h a0 (iN 0)
theorem p_X9_measuresColumns {l : Launch} {K : Ctx} (hl : l.stackTraces = false) {h : Hp} {a0 : Nat} {t : Rs Unit} (e : f_X9_measuresColumns h a0 = some t) : X l K mM_X9_measuresColumns (tgV t) 0 [(0, .ref a0)] [] h := by
  unfold f_X9_measuresColumns at e
  refine x_iconst (pc := 0) dX9_measuresColumns_0 ?_
  refine x_istore_n (pc := 1) dX9_measuresColumns_1 (by decide) rfl ?_
  exact x_sub1 (p_X9_measuresColumns_L2 hl 2000 _ _ _ _ e) [1, 0] rfl
abbrev w_X9_measuresColumns : Cond := (Cond.code yX9_measuresColumns cX9_measuresColumns 4 (Option.none : Option Jvm.ClassFile.FieldType))
theorem mf_X9_measuresColumns : MF yX9_measuresColumns w_X9_measuresColumns cX9_measuresColumns 4 (Option.none : Option Jvm.ClassFile.FieldType) 0 := ⟨⟨rfl, tw_8_63, by decide⟩, tw_1_11, ⟨by decide, by decide⟩, by decide +kernel⟩
theorem c_X9_measuresColumns {l : Launch} {K : Ctx} (hl : l.stackTraces = false) {h : Hp} {a0 : Nat} {t : Rs Unit} (e : f_X9_measuresColumns h a0 = some t) : Ctr l K 13 yX9_measuresColumns w_X9_measuresColumns [.ref a0] h (tgV t) :=
  Ctr.of hl mf_X9_measuresColumns false (fun q => nomatch q) rfl (leb rfl) (p_X9_measuresColumns hl e)
/-! ## TableColumnBalancerModel.columnWidth -/
abbrev mM_X9_columnWidth : Mi := (14, yX9_columnWidth.cls, cX9_columnWidth, 3, (Option.some Jvm.ClassFile.FieldType.int), [], false)
noncomputable def f_X9_columnWidth (h : Hp) (a0 : Nat) (i1 : Int32) (i2 : Int32) : Option (Rs Int32) :=
  chk (okr h a0 9) <|
  lt (putI h a0 0 (iN 0)) fun h2 =>
  bnd (f_X9_isColumn h2 a0 i1) fun h3 r4 =>
  if r4 = 0 then (
    chk (okr h3 a0 9) <|
    bnd (f_X9_fails h3 a0 (iN 1)) fun h7 r8 =>
    some (h7, .inr r8)
  ) else (
    bnd (f_X9_in h3 i2 (iN 0) (iN 2)) fun h9 r10 =>
    if r10 = 0 then (
      chk (okr h9 a0 9) <|
      bnd (f_X9_fails h9 a0 (iN 2)) fun h13 r14 =>
      some (h13, .inr r14)
    ) else (
      chk (okr h9 a0 9) <|
      bnd (f_X9_measuresColumns h9 a0) fun h16 _ =>
      if i2 = 0 then (
        chk (okr h16 a0 9) <|
        chk (okr h16 (qR h16 a0 21) 20) <|
        chk (vp_in i1 (qW h16 (qR h16 a0 21))) <|
        some (h16, .inr (qI h16 (qR h16 a0 21) (Int32.toNatClampNeg i1)))
      ) else (
        if i2 = (iN 1) then (
          chk (okr h16 a0 9) <|
          chk (okr h16 (qR h16 a0 22) 20) <|
          chk (vp_in i1 (qW h16 (qR h16 a0 22))) <|
          some (h16, .inr (qI h16 (qR h16 a0 22) (Int32.toNatClampNeg i1)))
        ) else (
          chk (okr h16 a0 9) <|
          chk (okr h16 (qR h16 a0 23) 20) <|
          chk (vp_in i1 (qW h16 (qR h16 a0 23))) <|
          some (h16, .inr (qI h16 (qR h16 a0 23) (Int32.toNatClampNeg i1)))
        )
      )
    )
  )
theorem p_X9_columnWidth {l : Launch} {K : Ctx} (hl : l.stackTraces = false) {h : Hp} {a0 : Nat} {i1 : Int32} {i2 : Int32} {t : Rs Int32} (e : f_X9_columnWidth h a0 i1 i2 = some t) : X l K mM_X9_columnWidth (tgI t) 0 [(0, .ref a0), (1, .int i1), (2, .int i2)] [] h := by
  unfold f_X9_columnWidth at e
  refine x_aload_n (pc := 0) 0 dX9_columnWidth_0 rfl ?_
  refine x_iconst (pc := 1) dX9_columnWidth_1 ?_
  obtain ⟨q1, e⟩ := chk_some e
  replace e := lt_go e
  refine x_putI (pc := 2) pf_X9_84 rfl rfl rfl dX9_columnWidth_2 q1 ?_
  refine x_aload_n (pc := 5) 0 dX9_columnWidth_5 rfl ?_
  refine x_iload_n (pc := 6) 1 dX9_columnWidth_6 rfl ?_
  rcases bnd_some e with ⟨h3, r4, ec, rfl⟩ | ⟨h3, r4, ec, e⟩
  · exact y_callV_x (pc := 7) (c_X9_isColumn hl ec) (okr_pI q1) mf_X9_isColumn tw_7_39 ts_6_8 lf_X9_103 rfl rfl dX9_columnWidth_7 (by decide) rfl rfl (leb rfl) (xx_out0 rfl)
  refine y_callV_i (pc := 7) (c_X9_isColumn hl ec) (okr_pI q1) mf_X9_isColumn tw_7_39 ts_6_8 lf_X9_103 rfl rfl dX9_columnWidth_7 (by decide) rfl rfl (leb rfl) ?_
  rcases ite_some e with ⟨q5, e⟩ | ⟨q5, e⟩
  · refine x_if_ne_f (pc := 10) (t := 19) dX9_columnWidth_10 (by decide) q5 ?_
    refine x_aload_n (pc := 13) 0 dX9_columnWidth_13 rfl ?_
    refine x_iconst (pc := 14) dX9_columnWidth_14 ?_
    obtain ⟨q6, e⟩ := chk_some e
    rcases bnd_some e with ⟨h7, r8, ec, rfl⟩ | ⟨h7, r8, ec, e⟩
    · exact y_callV_x (pc := 15) (c_X9_fails hl ec) q6 mf_X9_fails tw_7_24 ts_6_7 lf_X9_95 rfl rfl dX9_columnWidth_15 (by decide) rfl rfl (leb rfl) (xx_out0 rfl)
    refine y_callV_i (pc := 15) (c_X9_fails hl ec) q6 mf_X9_fails tw_7_24 ts_6_7 lf_X9_95 rfl rfl dX9_columnWidth_15 (by decide) rfl rfl (leb rfl) ?_
    cases Option.some.inj e
    exact x_iret (pc := 18) rfl dX9_columnWidth_18
  · refine x_if_ne_t (pc := 10) (t := 19) dX9_columnWidth_10 (by decide) q5 ?_
    refine x_iload_n (pc := 19) 2 dX9_columnWidth_19 rfl ?_
    refine x_iconst (pc := 20) dX9_columnWidth_20 ?_
    refine x_iconst (pc := 21) dX9_columnWidth_21 ?_
    rcases bnd_some e with ⟨h9, r10, ec, rfl⟩ | ⟨h9, r10, ec, e⟩
    · exact y_callS_x (pc := 22) (c_X9_in hl ec) mf_X9_in tw_7_20 lf_X9_87 dX9_columnWidth_22 (by decide) rfl rfl (leb rfl) (xx_out0 rfl)
    refine y_callS_i (pc := 22) (c_X9_in hl ec) mf_X9_in tw_7_20 lf_X9_87 dX9_columnWidth_22 (by decide) rfl rfl (leb rfl) ?_
    rcases ite_some e with ⟨q11, e⟩ | ⟨q11, e⟩
    · refine x_if_ne_f (pc := 25) (t := 34) dX9_columnWidth_25 (by decide) q11 ?_
      refine x_aload_n (pc := 28) 0 dX9_columnWidth_28 rfl ?_
      refine x_iconst (pc := 29) dX9_columnWidth_29 ?_
      obtain ⟨q12, e⟩ := chk_some e
      rcases bnd_some e with ⟨h13, r14, ec, rfl⟩ | ⟨h13, r14, ec, e⟩
      · exact y_callV_x (pc := 30) (c_X9_fails hl ec) q12 mf_X9_fails tw_7_24 ts_6_7 lf_X9_95 rfl rfl dX9_columnWidth_30 (by decide) rfl rfl (leb rfl) (xx_out0 rfl)
      refine y_callV_i (pc := 30) (c_X9_fails hl ec) q12 mf_X9_fails tw_7_24 ts_6_7 lf_X9_95 rfl rfl dX9_columnWidth_30 (by decide) rfl rfl (leb rfl) ?_
      cases Option.some.inj e
      exact x_iret (pc := 33) rfl dX9_columnWidth_33
    · refine x_if_ne_t (pc := 25) (t := 34) dX9_columnWidth_25 (by decide) q11 ?_
      refine x_aload_n (pc := 34) 0 dX9_columnWidth_34 rfl ?_
      obtain ⟨q15, e⟩ := chk_some e
      rcases bnd_some e with ⟨h16, r17, ec, rfl⟩ | ⟨h16, r17, ec, e⟩
      · exact y_callV_x (pc := 35) (c_X9_measuresColumns hl ec) q15 mf_X9_measuresColumns tw_8_62 ts_9_2 lf_X9_320 rfl rfl dX9_columnWidth_35 (by decide) rfl rfl (leb rfl) (xx_out0 rfl)
      refine y_callV_v (pc := 35) (c_X9_measuresColumns hl ec) q15 mf_X9_measuresColumns tw_8_62 ts_9_2 lf_X9_320 rfl rfl dX9_columnWidth_35 (by decide) rfl rfl (leb rfl) ?_
      refine x_iload_n (pc := 38) 2 dX9_columnWidth_38 rfl ?_
      rcases ite_some e with ⟨q18, e⟩ | ⟨q18, e⟩
      · refine x_if_ne_f (pc := 39) (t := 51) dX9_columnWidth_39 (by decide) q18 ?_
        refine x_aload_n (pc := 42) 0 dX9_columnWidth_42 rfl ?_
        obtain ⟨q19, e⟩ := chk_some e
        obtain ⟨q20, e⟩ := chk_some e
        refine x_getR (pc := 43) gf_X9_48 rfl dX9_columnWidth_43 q19 q20.1 ?_
        refine x_iload_n (pc := 46) 1 dX9_columnWidth_46 rfl ?_
        obtain ⟨q21, e⟩ := chk_some e
        refine x_iald (pc := 47) dX9_columnWidth_47 q20 q21 ?_
        refine x_goto (pc := 48) (t := 71) dX9_columnWidth_48 (by decide) ?_
        cases Option.some.inj e
        exact x_iret (pc := 71) rfl dX9_columnWidth_71
      · refine x_if_ne_t (pc := 39) (t := 51) dX9_columnWidth_39 (by decide) q18 ?_
        refine x_iload_n (pc := 51) 2 dX9_columnWidth_51 rfl ?_
        refine x_iconst (pc := 52) dX9_columnWidth_52 ?_
        rcases ite_some e with ⟨q22, e⟩ | ⟨q22, e⟩
        · refine x_icmp_ne_f (pc := 53) (t := 65) dX9_columnWidth_53 (by decide) q22 ?_
          refine x_aload_n (pc := 56) 0 dX9_columnWidth_56 rfl ?_
          obtain ⟨q23, e⟩ := chk_some e
          obtain ⟨q24, e⟩ := chk_some e
          refine x_getR (pc := 57) gf_X9_51 rfl dX9_columnWidth_57 q23 q24.1 ?_
          refine x_iload_n (pc := 60) 1 dX9_columnWidth_60 rfl ?_
          obtain ⟨q25, e⟩ := chk_some e
          refine x_iald (pc := 61) dX9_columnWidth_61 q24 q25 ?_
          refine x_goto (pc := 62) (t := 71) dX9_columnWidth_62 (by decide) ?_
          cases Option.some.inj e
          exact x_iret (pc := 71) rfl dX9_columnWidth_71
        · refine x_icmp_ne_t (pc := 53) (t := 65) dX9_columnWidth_53 (by decide) q22 ?_
          refine x_aload_n (pc := 65) 0 dX9_columnWidth_65 rfl ?_
          obtain ⟨q26, e⟩ := chk_some e
          obtain ⟨q27, e⟩ := chk_some e
          refine x_getR (pc := 66) gf_X9_54 rfl dX9_columnWidth_66 q26 q27.1 ?_
          refine x_iload_n (pc := 69) 1 dX9_columnWidth_69 rfl ?_
          obtain ⟨q28, e⟩ := chk_some e
          refine x_iald (pc := 70) dX9_columnWidth_70 q27 q28 ?_
          cases Option.some.inj e
          exact x_iret (pc := 71) rfl dX9_columnWidth_71
abbrev w_X9_columnWidth : Cond := (Cond.code yX9_columnWidth cX9_columnWidth 3 (Option.some Jvm.ClassFile.FieldType.int))
theorem mf_X9_columnWidth : MF yX9_columnWidth w_X9_columnWidth cX9_columnWidth 3 (Option.some Jvm.ClassFile.FieldType.int) 2 := ⟨⟨rfl, tw_8_59, by decide⟩, tw_1_11, ⟨by decide, by decide⟩, by decide +kernel⟩
theorem c_X9_columnWidth {l : Launch} {K : Ctx} (hl : l.stackTraces = false) {h : Hp} {a0 : Nat} {i1 : Int32} {i2 : Int32} {t : Rs Int32} (e : f_X9_columnWidth h a0 i1 i2 = some t) : Ctr l K 14 yX9_columnWidth w_X9_columnWidth [.ref a0, .int i1, .int i2] h (tgI t) :=
  Ctr.of hl mf_X9_columnWidth false (fun q => nomatch q) rfl (leb rfl) (p_X9_columnWidth hl e)
/-! ## TableColumnBalancer.conflicts -/
abbrev mM_X8_conflicts : Mi := (8, yX8_conflicts.cls, cX8_conflicts, 3, (Option.some Jvm.ClassFile.FieldType.int), [], false)
noncomputable def f_X8_conflicts_L55 (k4 : Hp → Nat → Int32 → Int32 → Option (Rs Int32)) (h : Hp) (a0 : Nat) (i1 : Int32) (i2 : Int32) : Option (Rs Int32) :=
  k4 h a0 i1 (i2 + iN 1)
theorem p_X8_conflicts_L55 {l : Launch} {K : Ctx} (hl : l.stackTraces = false) {k4 : Hp → Nat → Int32 → Int32 → Option (Rs Int32)} (hk4 : ∀ (h : Hp) (a0 : Nat) (i1 : Int32) (i2 : Int32) (t : Rs Int32), k4 h a0 i1 i2 = some t → X l K mM_X8_conflicts (tgI t) 4 [(0, .ref a0), (1, .int i1), (2, .int i2)] [] h) {h : Hp} {a0 : Nat} {i1 : Int32} {i2 : Int32} {t : Rs Int32} (e : f_X8_conflicts_L55 k4 h a0 i1 i2 = some t) : X l K mM_X8_conflicts (tgI t) 55 [(0, .ref a0), (1, .int i1), (2, .int i2)] [] h := by
  unfold f_X8_conflicts_L55 at e
  refine x_iinc (pc := 55) 2 dX8_conflicts_55 rfl (by decide) rfl ?_
  refine x_goto (pc := 58) (t := 4) dX8_conflicts_58 (by decide) ?_
  exact x_sub1 (hk4 _ _ _ _ _ e) [1, 2, 0] rfl
noncomputable def f_X8_conflicts_B4 (k4 : Hp → Nat → Int32 → Int32 → Option (Rs Int32)) (h : Hp) (a0 : Nat) (i1 : Int32) (i2 : Int32) : Option (Rs Int32) :=
  chk (okr h a0 8) <|
  chk (okr h (qR h a0 0) 7) <|
  if (qI h (qR h a0 0) 3) ≤ i2 then (
    some (h, .inr i1)
  ) else (
    chk (okr h (qR h (qR h a0 0) 6) 20) <|
    chk (vp_in i2 (qW h (qR h (qR h a0 0) 6))) <|
    if (qI h (qR h (qR h a0 0) 6) (Int32.toNatClampNeg i2)) = (iN 2) then (
      chk (okr h (qR h a0 1) 3) <|
      chk (okr h (qR h (qR h a0 1) 3) 20) <|
      chk (vp_in i2 (qW h (qR h (qR h a0 1) 3))) <|
      chk (okr h (qR h (qR h a0 0) 7) 20) <|
      chk (vp_in i2 (qW h (qR h (qR h a0 0) 7))) <|
      if (qI h (qR h (qR h a0 0) 7) (Int32.toNatClampNeg i2)) ≤ (qI h (qR h (qR h a0 1) 3) (Int32.toNatClampNeg i2)) then (
        f_X8_conflicts_L55 k4 h a0 i1 i2
      ) else (
        f_X8_conflicts_L55 k4 h a0 (i1 ||| ((iN 1) <<< (i2 &&& 31))) i2
      )
    ) else (
      f_X8_conflicts_L55 k4 h a0 i1 i2
    )
  )
theorem p_X8_conflicts_B4 {l : Launch} {K : Ctx} (hl : l.stackTraces = false) {k4 : Hp → Nat → Int32 → Int32 → Option (Rs Int32)} (hk4 : ∀ (h : Hp) (a0 : Nat) (i1 : Int32) (i2 : Int32) (t : Rs Int32), k4 h a0 i1 i2 = some t → X l K mM_X8_conflicts (tgI t) 4 [(0, .ref a0), (1, .int i1), (2, .int i2)] [] h) {h : Hp} {a0 : Nat} {i1 : Int32} {i2 : Int32} {t : Rs Int32} (e : f_X8_conflicts_B4 k4 h a0 i1 i2 = some t) : X l K mM_X8_conflicts (tgI t) 4 [(0, .ref a0), (1, .int i1), (2, .int i2)] [] h := by
  unfold f_X8_conflicts_B4 at e
  refine x_iload_n (pc := 4) 2 dX8_conflicts_4 rfl ?_
  refine x_aload_n (pc := 5) 0 dX8_conflicts_5 rfl ?_
  obtain ⟨q1, e⟩ := chk_some e
  obtain ⟨q2, e⟩ := chk_some e
  refine x_getR (pc := 6) gf_X8_10 rfl dX8_conflicts_6 q1 q2.1 ?_
  refine x_getI (pc := 9) gf_X8_87 rfl dX8_conflicts_9 q2 ?_
  rcases ite_some e with ⟨q3, e⟩ | ⟨q3, e⟩
  · refine x_icmp_ge_t (pc := 12) (t := 61) dX8_conflicts_12 (by decide) q3 ?_
    refine x_iload_n (pc := 61) 1 dX8_conflicts_61 rfl ?_
    cases Option.some.inj e
    exact x_iret (pc := 62) rfl dX8_conflicts_62
  · refine x_icmp_ge_f (pc := 12) (t := 61) dX8_conflicts_12 (by decide) q3 ?_
    refine x_aload_n (pc := 15) 0 dX8_conflicts_15 rfl ?_
    refine x_getR (pc := 16) gf_X8_10 rfl dX8_conflicts_16 q1 q2.1 ?_
    obtain ⟨q4, e⟩ := chk_some e
    refine x_getR (pc := 19) gf_X8_111 rfl dX8_conflicts_19 q2 q4.1 ?_
    refine x_iload_n (pc := 22) 2 dX8_conflicts_22 rfl ?_
    obtain ⟨q5, e⟩ := chk_some e
    refine x_iald (pc := 23) dX8_conflicts_23 q4 q5 ?_
    refine x_iconst (pc := 24) dX8_conflicts_24 ?_
    rcases ite_some e with ⟨q6, e⟩ | ⟨q6, e⟩
    · refine x_icmp_ne_f (pc := 25) (t := 55) dX8_conflicts_25 (by decide) q6 ?_
      refine x_aload_n (pc := 28) 0 dX8_conflicts_28 rfl ?_
      obtain ⟨q7, e⟩ := chk_some e
      refine x_getR (pc := 29) gf_X8_21 rfl dX8_conflicts_29 q1 q7.1 ?_
      obtain ⟨q8, e⟩ := chk_some e
      refine x_getR (pc := 32) gf_X8_249 rfl dX8_conflicts_32 q7 q8.1 ?_
      refine x_iload_n (pc := 35) 2 dX8_conflicts_35 rfl ?_
      obtain ⟨q9, e⟩ := chk_some e
      refine x_iald (pc := 36) dX8_conflicts_36 q8 q9 ?_
      refine x_aload_n (pc := 37) 0 dX8_conflicts_37 rfl ?_
      refine x_getR (pc := 38) gf_X8_10 rfl dX8_conflicts_38 q1 q2.1 ?_
      obtain ⟨q10, e⟩ := chk_some e
      refine x_getR (pc := 41) gf_X8_114 rfl dX8_conflicts_41 q2 q10.1 ?_
      refine x_iload_n (pc := 44) 2 dX8_conflicts_44 rfl ?_
      obtain ⟨q11, e⟩ := chk_some e
      refine x_iald (pc := 45) dX8_conflicts_45 q10 q11 ?_
      rcases ite_some e with ⟨q12, e⟩ | ⟨q12, e⟩
      · refine x_icmp_ge_t (pc := 46) (t := 55) dX8_conflicts_46 (by decide) q12 ?_
        exact p_X8_conflicts_L55 hl hk4 e
      · refine x_icmp_ge_f (pc := 46) (t := 55) dX8_conflicts_46 (by decide) q12 ?_
        refine x_iload_n (pc := 49) 1 dX8_conflicts_49 rfl ?_
        refine x_iconst (pc := 50) dX8_conflicts_50 ?_
        refine x_iload_n (pc := 51) 2 dX8_conflicts_51 rfl ?_
        refine x_ishl (pc := 52) dX8_conflicts_52 ?_
        refine x_ior (pc := 53) dX8_conflicts_53 ?_
        refine x_istore_n (pc := 54) dX8_conflicts_54 (by decide) rfl ?_
        exact x_sub1 (p_X8_conflicts_L55 hl hk4 e) [1, 0, 2] rfl
    · refine x_icmp_ne_t (pc := 25) (t := 55) dX8_conflicts_25 (by decide) q6 ?_
      exact p_X8_conflicts_L55 hl hk4 e
noncomputable def f_X8_conflicts_L4 (n : Nat) : Hp → Nat → Int32 → Int32 → Option (Rs Int32) := Nat.rec (motive := fun _ => Hp → Nat → Int32 → Int32 → Option (Rs Int32)) (fun _ _ _ _ => none) (fun _ r => f_X8_conflicts_B4 r) n
theorem p_X8_conflicts_L4 {l : Launch} {K : Ctx} (hl : l.stackTraces = false) : ∀ (n : Nat) (h : Hp) (a0 : Nat) (i1 : Int32) (i2 : Int32) (t : Rs Int32) (e : f_X8_conflicts_L4 n h a0 i1 i2 = some t), X l K mM_X8_conflicts (tgI t) 4 [(0, .ref a0), (1, .int i1), (2, .int i2)] [] h := by
  intro n
  induction n with
  | zero => exact fun _ _ _ _ _ e => nomatch (show (none : Option (Rs Int32)) = some _ from e)
  | succ n ih => exact fun h a0 i1 i2 t e => p_X8_conflicts_B4 hl (fun h a0 i1 i2 t e => ih h a0 i1 i2 t e) e
noncomputable def f_X8_conflicts (h : Hp) (a0 : Nat) : Option (Rs Int32) :=
  f_X8_conflicts_L4 2000 h a0 (iN 0) (iN 0)
theorem p_X8_conflicts {l : Launch} {K : Ctx} (hl : l.stackTraces = false) {h : Hp} {a0 : Nat} {t : Rs Int32} (e : f_X8_conflicts h a0 = some t) : X l K mM_X8_conflicts (tgI t) 0 [(0, .ref a0)] [] h := by
  unfold f_X8_conflicts at e
  refine x_iconst (pc := 0) dX8_conflicts_0 ?_
  refine x_istore_n (pc := 1) dX8_conflicts_1 (by decide) rfl ?_
  refine x_iconst (pc := 2) dX8_conflicts_2 ?_
  refine x_istore_n (pc := 3) dX8_conflicts_3 (by decide) rfl ?_
  exact x_sub1 (p_X8_conflicts_L4 hl 2000 _ _ _ _ _ e) [2, 1, 0] rfl
abbrev w_X8_conflicts : Cond := (Cond.code yX8_conflicts cX8_conflicts 3 (Option.some Jvm.ClassFile.FieldType.int))
theorem mf_X8_conflicts : MF yX8_conflicts w_X8_conflicts cX8_conflicts 3 (Option.some Jvm.ClassFile.FieldType.int) 0 := ⟨⟨rfl, tw_2_238, by decide⟩, tw_1_1, ⟨by decide, by decide⟩, by decide +kernel⟩
theorem c_X8_conflicts {l : Launch} {K : Ctx} (hl : l.stackTraces = false) {h : Hp} {a0 : Nat} {t : Rs Int32} (e : f_X8_conflicts h a0 = some t) : Ctr l K 8 yX8_conflicts w_X8_conflicts [.ref a0] h (tgI t) :=
  Ctr.of hl mf_X8_conflicts false (fun q => nomatch q) rfl (leb rfl) (p_X8_conflicts hl e)
/-! ## TableColumnBalancerModel.conflicts -/
abbrev mM_X9_conflicts : Mi := (14, yX9_conflicts.cls, cX9_conflicts, 3, (Option.some Jvm.ClassFile.FieldType.int), [], false)
noncomputable def f_X9_conflicts_L61 (k13 : Hp → Nat → Int32 → Int32 → Option (Rs Int32)) (h : Hp) (a0 : Nat) (i2 : Int32) (s0 : Int32) (s1 : Int32) : Option (Rs Int32) :=
  k13 h a0 (s1 ||| s0) (i2 + iN 1)
theorem p_X9_conflicts_L61 {l : Launch} {K : Ctx} (hl : l.stackTraces = false) {k13 : Hp → Nat → Int32 → Int32 → Option (Rs Int32)} (hk13 : ∀ (h : Hp) (a0 : Nat) (i1 : Int32) (i2 : Int32) (t : Rs Int32), k13 h a0 i1 i2 = some t → X l K mM_X9_conflicts (tgI t) 13 [(0, .ref a0), (1, .int i1), (2, .int i2)] [] h) {h : Hp} {a0 : Nat} {i2 : Int32} {s0 : Int32} {s1 : Int32} {t : Rs Int32} (e : f_X9_conflicts_L61 k13 h a0 i2 s0 s1 = some t) : X l K mM_X9_conflicts (tgI t) 61 [(0, .ref a0), (2, .int i2)] [.int s0, .int s1] h := by
  unfold f_X9_conflicts_L61 at e
  refine x_ior (pc := 61) dX9_conflicts_61 ?_
  refine x_istore_n (pc := 62) dX9_conflicts_62 (by decide) rfl ?_
  refine x_iinc (pc := 63) 2 dX9_conflicts_63 rfl (by decide) rfl ?_
  refine x_goto (pc := 66) (t := 13) dX9_conflicts_66 (by decide) ?_
  exact x_sub1 (hk13 _ _ _ _ _ e) [2, 1, 0] rfl
noncomputable def f_X9_conflicts_L60 (k13 : Hp → Nat → Int32 → Int32 → Option (Rs Int32)) (h : Hp) (a0 : Nat) (i2 : Int32) (s0 : Int32) : Option (Rs Int32) :=
  f_X9_conflicts_L61 k13 h a0 i2 (iN 0) s0
theorem p_X9_conflicts_L60 {l : Launch} {K : Ctx} (hl : l.stackTraces = false) {k13 : Hp → Nat → Int32 → Int32 → Option (Rs Int32)} (hk13 : ∀ (h : Hp) (a0 : Nat) (i1 : Int32) (i2 : Int32) (t : Rs Int32), k13 h a0 i1 i2 = some t → X l K mM_X9_conflicts (tgI t) 13 [(0, .ref a0), (1, .int i1), (2, .int i2)] [] h) {h : Hp} {a0 : Nat} {i2 : Int32} {s0 : Int32} {t : Rs Int32} (e : f_X9_conflicts_L60 k13 h a0 i2 s0 = some t) : X l K mM_X9_conflicts (tgI t) 60 [(0, .ref a0), (2, .int i2)] [.int s0] h := by
  unfold f_X9_conflicts_L60 at e
  refine x_iconst (pc := 60) dX9_conflicts_60 ?_
  exact p_X9_conflicts_L61 hl hk13 e
noncomputable def f_X9_conflicts_B13 (k13 : Hp → Nat → Int32 → Int32 → Option (Rs Int32)) (h : Hp) (a0 : Nat) (i1 : Int32) (i2 : Int32) : Option (Rs Int32) :=
  chk (okr h a0 9) <|
  chk (okr h (qR h a0 1) 20) <|
  chk (vp_in (iN 0) (qW h (qR h a0 1))) <|
  if (qI h (qR h a0 1) (Int32.toNatClampNeg (iN 0))) ≤ i2 then (
    some (h, .inr i1)
  ) else (
    bnd (f_X9_isShared h a0 i2) fun h5 r6 =>
    if r6 = 0 then (
      f_X9_conflicts_L60 k13 h5 a0 i2 i1
    ) else (
      chk (okr h5 a0 9) <|
      chk (okr h5 (qR h5 a0 23) 20) <|
      chk (vp_in i2 (qW h5 (qR h5 a0 23))) <|
      chk (okr h5 (qR h5 a0 1) 20) <|
      chk (vp_in ((iN 6) + i2) (qW h5 (qR h5 a0 1))) <|
      if ((qI h5 (qR h5 a0 1) (Int32.toNatClampNeg ((iN 6) + i2))) - (iN 200)) ≤ (qI h5 (qR h5 a0 23) (Int32.toNatClampNeg i2)) then (
        f_X9_conflicts_L60 k13 h5 a0 i2 i1
      ) else (
        f_X9_conflicts_L61 k13 h5 a0 i2 ((iN 1) <<< (i2 &&& 31)) i1
      )
    )
  )
theorem p_X9_conflicts_B13 {l : Launch} {K : Ctx} (hl : l.stackTraces = false) {k13 : Hp → Nat → Int32 → Int32 → Option (Rs Int32)} (hk13 : ∀ (h : Hp) (a0 : Nat) (i1 : Int32) (i2 : Int32) (t : Rs Int32), k13 h a0 i1 i2 = some t → X l K mM_X9_conflicts (tgI t) 13 [(0, .ref a0), (1, .int i1), (2, .int i2)] [] h) {h : Hp} {a0 : Nat} {i1 : Int32} {i2 : Int32} {t : Rs Int32} (e : f_X9_conflicts_B13 k13 h a0 i1 i2 = some t) : X l K mM_X9_conflicts (tgI t) 13 [(0, .ref a0), (1, .int i1), (2, .int i2)] [] h := by
  unfold f_X9_conflicts_B13 at e
  refine x_iload_n (pc := 13) 2 dX9_conflicts_13 rfl ?_
  refine x_aload_n (pc := 14) 0 dX9_conflicts_14 rfl ?_
  obtain ⟨q1, e⟩ := chk_some e
  obtain ⟨q2, e⟩ := chk_some e
  refine x_getR (pc := 15) gf_X9_9 rfl dX9_conflicts_15 q1 q2.1 ?_
  refine x_iconst (pc := 18) dX9_conflicts_18 ?_
  obtain ⟨q3, e⟩ := chk_some e
  refine x_iald (pc := 19) dX9_conflicts_19 q2 q3 ?_
  rcases ite_some e with ⟨q4, e⟩ | ⟨q4, e⟩
  · refine x_icmp_ge_t (pc := 20) (t := 69) dX9_conflicts_20 (by decide) q4 ?_
    refine x_iload_n (pc := 69) 1 dX9_conflicts_69 rfl ?_
    cases Option.some.inj e
    exact x_iret (pc := 70) rfl dX9_conflicts_70
  · refine x_icmp_ge_f (pc := 20) (t := 69) dX9_conflicts_20 (by decide) q4 ?_
    refine x_iload_n (pc := 23) 1 dX9_conflicts_23 rfl ?_
    refine x_aload_n (pc := 24) 0 dX9_conflicts_24 rfl ?_
    refine x_iload_n (pc := 25) 2 dX9_conflicts_25 rfl ?_
    rcases bnd_some e with ⟨h5, r6, ec, rfl⟩ | ⟨h5, r6, ec, e⟩
    · exact y_callV_x (pc := 26) (c_X9_isShared hl ec) q1 mf_X9_isShared tw_8_86 ts_9_8 lf_X9_317 rfl rfl dX9_conflicts_26 (by decide) rfl rfl (leb rfl) (xx_out0 rfl)
    refine y_callV_i (pc := 26) (c_X9_isShared hl ec) q1 mf_X9_isShared tw_8_86 ts_9_8 lf_X9_317 rfl rfl dX9_conflicts_26 (by decide) rfl rfl (leb rfl) ?_
    rcases ite_some e with ⟨q7, e⟩ | ⟨q7, e⟩
    · refine x_if_eq_t (pc := 29) (t := 60) dX9_conflicts_29 (by decide) q7 ?_
      exact x_sub1 (p_X9_conflicts_L60 hl hk13 e) [0, 2] rfl
    · refine x_if_eq_f (pc := 29) (t := 60) dX9_conflicts_29 (by decide) q7 ?_
      refine x_aload_n (pc := 32) 0 dX9_conflicts_32 rfl ?_
      obtain ⟨q8, e⟩ := chk_some e
      obtain ⟨q9, e⟩ := chk_some e
      refine x_getR (pc := 33) gf_X9_54 rfl dX9_conflicts_33 q8 q9.1 ?_
      refine x_iload_n (pc := 36) 2 dX9_conflicts_36 rfl ?_
      obtain ⟨q10, e⟩ := chk_some e
      refine x_iald (pc := 37) dX9_conflicts_37 q9 q10 ?_
      refine x_aload_n (pc := 38) 0 dX9_conflicts_38 rfl ?_
      obtain ⟨q11, e⟩ := chk_some e
      refine x_getR (pc := 39) gf_X9_9 rfl dX9_conflicts_39 q8 q11.1 ?_
      refine x_bipush (pc := 42) (v := iN 6) dX9_conflicts_42 rfl ?_
      refine x_iload_n (pc := 44) 2 dX9_conflicts_44 rfl ?_
      refine x_iadd (pc := 45) dX9_conflicts_45 ?_
      obtain ⟨q12, e⟩ := chk_some e
      refine x_iald (pc := 46) dX9_conflicts_46 q11 q12 ?_
      refine x_sipush (pc := 47) (v := iN 200) dX9_conflicts_47 rfl ?_
      refine x_isub (pc := 50) dX9_conflicts_50 ?_
      rcases ite_some e with ⟨q13, e⟩ | ⟨q13, e⟩
      · refine x_icmp_ge_t (pc := 51) (t := 60) dX9_conflicts_51 (by decide) q13 ?_
        exact x_sub1 (p_X9_conflicts_L60 hl hk13 e) [0, 2] rfl
      · refine x_icmp_ge_f (pc := 51) (t := 60) dX9_conflicts_51 (by decide) q13 ?_
        refine x_iconst (pc := 54) dX9_conflicts_54 ?_
        refine x_iload_n (pc := 55) 2 dX9_conflicts_55 rfl ?_
        refine x_ishl (pc := 56) dX9_conflicts_56 ?_
        refine x_goto (pc := 57) (t := 61) dX9_conflicts_57 (by decide) ?_
        exact x_sub1 (p_X9_conflicts_L61 hl hk13 e) [0, 2] rfl
noncomputable def f_X9_conflicts_L13 (n : Nat) : Hp → Nat → Int32 → Int32 → Option (Rs Int32) := Nat.rec (motive := fun _ => Hp → Nat → Int32 → Int32 → Option (Rs Int32)) (fun _ _ _ _ => none) (fun _ r => f_X9_conflicts_B13 r) n
theorem p_X9_conflicts_L13 {l : Launch} {K : Ctx} (hl : l.stackTraces = false) : ∀ (n : Nat) (h : Hp) (a0 : Nat) (i1 : Int32) (i2 : Int32) (t : Rs Int32) (e : f_X9_conflicts_L13 n h a0 i1 i2 = some t), X l K mM_X9_conflicts (tgI t) 13 [(0, .ref a0), (1, .int i1), (2, .int i2)] [] h := by
  intro n
  induction n with
  | zero => exact fun _ _ _ _ _ e => nomatch (show (none : Option (Rs Int32)) = some _ from e)
  | succ n ih => exact fun h a0 i1 i2 t e => p_X9_conflicts_B13 hl (fun h a0 i1 i2 t e => ih h a0 i1 i2 t e) e
noncomputable def f_X9_conflicts (h : Hp) (a0 : Nat) : Option (Rs Int32) :=
  chk (okr h a0 9) <|
  lt (putI h a0 0 (iN 0)) fun h2 =>
  bnd (f_X9_measuresColumns h2 a0) fun h3 _ =>
  f_X9_conflicts_L13 2000 h3 a0 (iN 0) (iN 0)
theorem p_X9_conflicts {l : Launch} {K : Ctx} (hl : l.stackTraces = false) {h : Hp} {a0 : Nat} {t : Rs Int32} (e : f_X9_conflicts h a0 = some t) : X l K mM_X9_conflicts (tgI t) 0 [(0, .ref a0)] [] h := by
  unfold f_X9_conflicts at e
  refine x_aload_n (pc := 0) 0 dX9_conflicts_0 rfl ?_
  refine x_iconst (pc := 1) dX9_conflicts_1 ?_
  obtain ⟨q1, e⟩ := chk_some e
  replace e := lt_go e
  refine x_putI (pc := 2) pf_X9_84 rfl rfl rfl dX9_conflicts_2 q1 ?_
  refine x_aload_n (pc := 5) 0 dX9_conflicts_5 rfl ?_
  rcases bnd_some e with ⟨h3, r4, ec, rfl⟩ | ⟨h3, r4, ec, e⟩
  · exact y_callV_x (pc := 6) (c_X9_measuresColumns hl ec) (okr_pI q1) mf_X9_measuresColumns tw_8_62 ts_9_2 lf_X9_320 rfl rfl dX9_conflicts_6 (by decide) rfl rfl (leb rfl) (xx_out0 rfl)
  refine y_callV_v (pc := 6) (c_X9_measuresColumns hl ec) (okr_pI q1) mf_X9_measuresColumns tw_8_62 ts_9_2 lf_X9_320 rfl rfl dX9_conflicts_6 (by decide) rfl rfl (leb rfl) ?_
  refine x_iconst (pc := 9) dX9_conflicts_9 ?_
  refine x_istore_n (pc := 10) dX9_conflicts_10 (by decide) rfl ?_
  refine x_iconst (pc := 11) dX9_conflicts_11 ?_
  refine x_istore_n (pc := 12) dX9_conflicts_12 (by decide) rfl ?_
  exact x_sub1 (p_X9_conflicts_L13 hl 2000 _ _ _ _ _ e) [2, 1, 0] rfl
abbrev w_X9_conflicts : Cond := (Cond.code yX9_conflicts cX9_conflicts 3 (Option.some Jvm.ClassFile.FieldType.int))
theorem mf_X9_conflicts : MF yX9_conflicts w_X9_conflicts cX9_conflicts 3 (Option.some Jvm.ClassFile.FieldType.int) 0 := ⟨⟨rfl, tw_8_91, by decide⟩, tw_1_11, ⟨by decide, by decide⟩, by decide +kernel⟩
theorem c_X9_conflicts {l : Launch} {K : Ctx} (hl : l.stackTraces = false) {h : Hp} {a0 : Nat} {t : Rs Int32} (e : f_X9_conflicts h a0 = some t) : Ctr l K 14 yX9_conflicts w_X9_conflicts [.ref a0] h (tgI t) :=
  Ctr.of hl mf_X9_conflicts false (fun q => nomatch q) rfl (leb rfl) (p_X9_conflicts hl e)
/-! ## TableColumnBalancer.guess -/
abbrev mM_X8_guess : Mi := (9, yX8_guess.cls, cX8_guess, 3, (Option.some Jvm.ClassFile.FieldType.int), [], false)
noncomputable def f_X8_guess (h : Hp) (a0 : Nat) (i1 : Int32) (i2 : Int32) : Option (Rs Int32) :=
  bnd (f_X8_isWithin h i1 (iN 0) (iN 3)) fun h1 r2 =>
  bnd (f_X8_requireArgument h1 r2) fun h3 _ =>
  chk (okr h3 a0 8) <|
  chk (okr h3 (qR h3 a0 0) 7) <|
  bnd (f_X8_isWithin h3 i2 (iN (-1)) ((qI h3 (qR h3 a0 0) 3) - (iN 1))) fun h7 r8 =>
  bnd (f_X8_requireIndex h7 r8) fun h9 _ =>
  if 0 ≤ i2 then (
    chk (okr h9 a0 8) <|
    chk (okr h9 (qR h9 a0 1) 3) <|
    chk (okr h9 (qR h9 (qR h9 a0 1) 4) 24) <|
    chk (vp_in i1 (qW h9 (qR h9 (qR h9 a0 1) 4))) <|
    chk (okr h9 (qR h9 (qR h9 (qR h9 a0 1) 4) (Int32.toNatClampNeg i1)) 20) <|
    chk (vp_in i2 (qW h9 (qR h9 (qR h9 (qR h9 a0 1) 4) (Int32.toNatClampNeg i1)))) <|
    some (h9, .inr (qI h9 (qR h9 (qR h9 (qR h9 a0 1) 4) (Int32.toNatClampNeg i1)) (Int32.toNatClampNeg i2)))
  ) else (
    chk (okr h9 a0 8) <|
    chk (okr h9 (qR h9 a0 1) 3) <|
    chk (okr h9 (qR h9 (qR h9 a0 1) 5) 20) <|
    chk (vp_in i1 (qW h9 (qR h9 (qR h9 a0 1) 5))) <|
    some (h9, .inr (qI h9 (qR h9 (qR h9 a0 1) 5) (Int32.toNatClampNeg i1)))
  )
theorem p_X8_guess {l : Launch} {K : Ctx} (hl : l.stackTraces = false) {h : Hp} {a0 : Nat} {i1 : Int32} {i2 : Int32} {t : Rs Int32} (e : f_X8_guess h a0 i1 i2 = some t) : X l K mM_X8_guess (tgI t) 0 [(0, .ref a0), (1, .int i1), (2, .int i2)] [] h := by
  unfold f_X8_guess at e
  refine x_iload_n (pc := 0) 1 dX8_guess_0 rfl ?_
  refine x_iconst (pc := 1) dX8_guess_1 ?_
  refine x_iconst (pc := 2) dX8_guess_2 ?_
  rcases bnd_some e with ⟨h1, r2, ec, rfl⟩ | ⟨h1, r2, ec, e⟩
  · exact y_callS_x (pc := 3) (c_X8_isWithin hl ec) mf_X8_isWithin tw_3_26 lf_X8_72 dX8_guess_3 (by decide) rfl rfl (leb rfl) (xx_out0 rfl)
  refine y_callS_i (pc := 3) (c_X8_isWithin hl ec) mf_X8_isWithin tw_3_26 lf_X8_72 dX8_guess_3 (by decide) rfl rfl (leb rfl) ?_
  rcases bnd_some e with ⟨h3, r4, ec, rfl⟩ | ⟨h3, r4, ec, e⟩
  · exact y_callS_x (pc := 6) (c_X8_requireArgument hl ec) mf_X8_requireArgument tw_3_84 lf_X8_76 dX8_guess_6 (by decide) rfl rfl (leb rfl) (xx_out0 rfl)
  refine y_callS_v (pc := 6) (c_X8_requireArgument hl ec) mf_X8_requireArgument tw_3_84 lf_X8_76 dX8_guess_6 (by decide) rfl rfl (leb rfl) ?_
  refine x_iload_n (pc := 9) 2 dX8_guess_9 rfl ?_
  refine x_iconst (pc := 10) dX8_guess_10 ?_
  refine x_aload_n (pc := 11) 0 dX8_guess_11 rfl ?_
  obtain ⟨q5, e⟩ := chk_some e
  obtain ⟨q6, e⟩ := chk_some e
  refine x_getR (pc := 12) gf_X8_10 rfl dX8_guess_12 q5 q6.1 ?_
  refine x_getI (pc := 15) gf_X8_87 rfl dX8_guess_15 q6 ?_
  refine x_iconst (pc := 18) dX8_guess_18 ?_
  refine x_isub (pc := 19) dX8_guess_19 ?_
  rcases bnd_some e with ⟨h7, r8, ec, rfl⟩ | ⟨h7, r8, ec, e⟩
  · exact y_callS_x (pc := 20) (c_X8_isWithin hl ec) mf_X8_isWithin tw_3_26 lf_X8_72 dX8_guess_20 (by decide) rfl rfl (leb rfl) (xx_out0 rfl)
  refine y_callS_i (pc := 20) (c_X8_isWithin hl ec) mf_X8_isWithin tw_3_26 lf_X8_72 dX8_guess_20 (by decide) rfl rfl (leb rfl) ?_
  rcases bnd_some e with ⟨h9, r10, ec, rfl⟩ | ⟨h9, r10, ec, e⟩
  · exact y_callS_x (pc := 23) (c_X8_requireIndex hl ec) mf_X8_requireIndex tw_3_225 lf_X8_96 dX8_guess_23 (by decide) rfl rfl (leb rfl) (xx_out0 rfl)
  refine y_callS_v (pc := 23) (c_X8_requireIndex hl ec) mf_X8_requireIndex tw_3_225 lf_X8_96 dX8_guess_23 (by decide) rfl rfl (leb rfl) ?_
  refine x_iload_n (pc := 26) 2 dX8_guess_26 rfl ?_
  rcases ite_some e with ⟨q11, e⟩ | ⟨q11, e⟩
  · refine x_if_ge_t (pc := 27) (t := 42) dX8_guess_27 (by decide) q11 ?_
    refine x_aload_n (pc := 42) 0 dX8_guess_42 rfl ?_
    obtain ⟨q12, e⟩ := chk_some e
    obtain ⟨q13, e⟩ := chk_some e
    refine x_getR (pc := 43) gf_X8_21 rfl dX8_guess_43 q12 q13.1 ?_
    obtain ⟨q14, e⟩ := chk_some e
    refine x_getR (pc := 46) gf_X8_255 rfl dX8_guess_46 q13 q14.1 ?_
    refine x_iload_n (pc := 49) 1 dX8_guess_49 rfl ?_
    obtain ⟨q15, e⟩ := chk_some e
    obtain ⟨q16, e⟩ := chk_some e
    refine x_aald (pc := 50) (t := 0) (by decide) dX8_guess_50 q14 q15 q16.1 ?_
    refine x_iload_n (pc := 51) 2 dX8_guess_51 rfl ?_
    obtain ⟨q17, e⟩ := chk_some e
    refine x_iald (pc := 52) dX8_guess_52 q16 q17 ?_
    cases Option.some.inj e
    exact x_iret (pc := 53) rfl dX8_guess_53
  · refine x_if_ge_f (pc := 27) (t := 42) dX8_guess_27 (by decide) q11 ?_
    refine x_aload_n (pc := 30) 0 dX8_guess_30 rfl ?_
    obtain ⟨q18, e⟩ := chk_some e
    obtain ⟨q19, e⟩ := chk_some e
    refine x_getR (pc := 31) gf_X8_21 rfl dX8_guess_31 q18 q19.1 ?_
    obtain ⟨q20, e⟩ := chk_some e
    refine x_getR (pc := 34) gf_X8_252 rfl dX8_guess_34 q19 q20.1 ?_
    refine x_iload_n (pc := 37) 1 dX8_guess_37 rfl ?_
    obtain ⟨q21, e⟩ := chk_some e
    refine x_iald (pc := 38) dX8_guess_38 q20 q21 ?_
    refine x_goto (pc := 39) (t := 53) dX8_guess_39 (by decide) ?_
    cases Option.some.inj e
    exact x_iret (pc := 53) rfl dX8_guess_53
abbrev w_X8_guess : Cond := (Cond.code yX8_guess cX8_guess 3 (Option.some Jvm.ClassFile.FieldType.int))
theorem mf_X8_guess : MF yX8_guess w_X8_guess cX8_guess 3 (Option.some Jvm.ClassFile.FieldType.int) 2 := ⟨⟨rfl, tw_5_167, by decide⟩, tw_1_1, ⟨by decide, by decide⟩, by decide +kernel⟩
theorem c_X8_guess {l : Launch} {K : Ctx} (hl : l.stackTraces = false) {h : Hp} {a0 : Nat} {i1 : Int32} {i2 : Int32} {t : Rs Int32} (e : f_X8_guess h a0 i1 i2 = some t) : Ctr l K 9 yX8_guess w_X8_guess [.ref a0, .int i1, .int i2] h (tgI t) :=
  Ctr.of hl mf_X8_guess false (fun q => nomatch q) rfl (leb rfl) (p_X8_guess hl e)
/-! ## TableColumnBalancerLaw.guess -/
abbrev mM_L_guess : Mi := (10, yL_guess.cls, cL_guess, 5, (Option.some Jvm.ClassFile.FieldType.int), [((0 : Nat), (10 : Nat), (13 : Nat), (13 : Nat)), ((0 : Nat), (10 : Nat), (17 : Nat), (21 : Nat))], false)
noncomputable def f_L_guess (h : Hp) (a0 : Nat) (i1 : Int32) (i2 : Int32) (a3 : Nat) : Option (Rs Int32) :=
  chk (okr h a0 8) <|
  bndX (f_X8_guess h a0 i1 i2) (fun h2 r3 => (
    chk (okr h2 a3 21) <|
    chk (vp_in (iN 0) (qW h2 a3)) <|
    lt (putL h2 a3 (Int32.toNatClampNeg (iN 0)) (Int32.toInt64 r3)) fun h6 =>
    some (h6, .inr (iN 0))
  )) fun h2 k =>
  if k = 1 then (
    some (h2, .inr (iN 1))
  ) else
  if k = 2 then (
    some (h2, .inr (iN 2))
  ) else
  none
theorem p_L_guess {l : Launch} {K : Ctx} (hl : l.stackTraces = false) {h : Hp} {a0 : Nat} {i1 : Int32} {i2 : Int32} {a3 : Nat} {t : Rs Int32} (e : f_L_guess h a0 i1 i2 a3 = some t) : X l K mM_L_guess (tgI t) 0 [(0, .ref a0), (1, .int i1), (2, .int i2), (3, .ref a3)] [] h := by
  unfold f_L_guess at e
  refine x_aload_n (pc := 0) 3 dL_guess_0 rfl ?_
  refine x_iconst (pc := 1) dL_guess_1 ?_
  refine x_aload_n (pc := 2) 0 dL_guess_2 rfl ?_
  refine x_iload_n (pc := 3) 1 dL_guess_3 rfl ?_
  refine x_iload_n (pc := 4) 2 dL_guess_4 rfl ?_
  obtain ⟨q1, e⟩ := chk_some e
  rcases bndX_some e with ⟨h2, k, ec, e⟩ | ⟨h2, r3, ec, e⟩
  · rcases ite_some e with ⟨q7, e⟩ | ⟨q7, e⟩
    · subst q7
      refine y_callV_x (pc := 5) (c_X8_guess hl ec) q1 mf_X8_guess tw_5_165 tw_5_166 lf_L_84 rfl rfl dL_guess_5 (by decide) rfl rfl (leb rfl) (xx_catchA (pc := 5) [] [(0, 10, 17, 21)] (0, 10, 13, 13) rfl (by decide) (fun _ hz => absurd hz List.not_mem_nil) (by decide) (by decide) tw_3_76 tw_3_88 dL_guess_13 (by decide) rfl ?_)
      refine x_iconst (pc := 15) dL_guess_15 ?_
      cases Option.some.inj e
      exact x_iret (pc := 16) rfl dL_guess_16
    rcases ite_some e with ⟨q8, e⟩ | ⟨q8, e⟩
    · subst q8
      refine y_callV_x (pc := 5) (c_X8_guess hl ec) q1 mf_X8_guess tw_5_165 tw_5_166 lf_L_84 rfl rfl dL_guess_5 (by decide) rfl rfl (leb rfl) (xx_catchA (pc := 5) [(0, 10, 13, 13)] [] (0, 10, 17, 21) rfl (by decide) (List.forall_mem_cons.mpr ⟨⟨by decide, 1, by decide, by decide, tw_3_76⟩, fun _ hz => absurd hz List.not_mem_nil⟩) (by decide) (by decide) tw_3_187 tw_3_229 dL_guess_17 (by decide) rfl ?_)
      refine x_iconst (pc := 19) dL_guess_19 ?_
      cases Option.some.inj e
      exact x_iret (pc := 20) rfl dL_guess_20
    cases e
  refine y_callV_i (pc := 5) (c_X8_guess hl ec) q1 mf_X8_guess tw_5_165 tw_5_166 lf_L_84 rfl rfl dL_guess_5 (by decide) rfl rfl (leb rfl) ?_
  refine x_i2l (pc := 8) dL_guess_8 ?_
  obtain ⟨q4, e⟩ := chk_some e
  obtain ⟨q5, e⟩ := chk_some e
  replace e := lt_go e
  refine x_last (pc := 9) dL_guess_9 q4 q5 ?_
  refine x_goto (pc := 10) (t := 21) dL_guess_10 (by decide) ?_
  refine x_iconst (pc := 21) dL_guess_21 ?_
  cases Option.some.inj e
  exact x_iret (pc := 22) rfl dL_guess_22
abbrev w_L_guess : Cond := (Cond.codeWith yL_guess cL_guess 5 (Option.some Jvm.ClassFile.FieldType.int) [((0 : Nat), (10 : Nat), (13 : Nat), (13 : Nat)), ((0 : Nat), (10 : Nat), (17 : Nat), (21 : Nat))])
theorem mf_L_guess : MFX yL_guess w_L_guess cL_guess 5 (Option.some Jvm.ClassFile.FieldType.int) 4 [((0 : Nat), (10 : Nat), (13 : Nat), (13 : Nat)), ((0 : Nat), (10 : Nat), (17 : Nat), (21 : Nat))] := ⟨⟨rfl, tw_5_163, by decide⟩, tw_1_0, ⟨by decide, by decide⟩, by decide +kernel⟩
theorem c_L_guess {l : Launch} {K : Ctx} (hl : l.stackTraces = false) {h : Hp} {a0 : Nat} {i1 : Int32} {i2 : Int32} {a3 : Nat} {t : Rs Int32} (e : f_L_guess h a0 i1 i2 a3 = some t) : Ctr l K 10 yL_guess w_L_guess [.ref a0, .int i1, .int i2, .ref a3] h (tgI t) :=
  Ctr.ofX hl mf_L_guess rfl (leb rfl) (p_L_guess hl e)
/-! ## TableColumnBalancerModel.usable -/
abbrev mM_X9_usable : Mi := (8, yX9_usable.cls, cX9_usable, 1, (Option.some Jvm.ClassFile.FieldType.int), [], false)
noncomputable def f_X9_usable (h : Hp) (a0 : Nat) : Option (Rs Int32) :=
  chk (okr h a0 9) <|
  chk (okr h (qR h a0 1) 20) <|
  chk (vp_in (iN 1) (qW h (qR h a0 1))) <|
  chk (vp_in (iN 2) (qW h (qR h a0 1))) <|
  chk (vp_in (iN 0) (qW h (qR h a0 1))) <|
  some (h, .inr ((qI h (qR h a0 1) (Int32.toNatClampNeg (iN 1))) - ((qI h (qR h a0 1) (Int32.toNatClampNeg (iN 2))) * ((qI h (qR h a0 1) (Int32.toNatClampNeg (iN 0))) + (iN 1)))))
theorem p_X9_usable {l : Launch} {K : Ctx} (hl : l.stackTraces = false) {h : Hp} {a0 : Nat} {t : Rs Int32} (e : f_X9_usable h a0 = some t) : X l K mM_X9_usable (tgI t) 0 [(0, .ref a0)] [] h := by
  unfold f_X9_usable at e
  refine x_aload_n (pc := 0) 0 dX9_usable_0 rfl ?_
  obtain ⟨q1, e⟩ := chk_some e
  obtain ⟨q2, e⟩ := chk_some e
  refine x_getR (pc := 1) gf_X9_9 rfl dX9_usable_1 q1 q2.1 ?_
  refine x_iconst (pc := 4) dX9_usable_4 ?_
  obtain ⟨q3, e⟩ := chk_some e
  refine x_iald (pc := 5) dX9_usable_5 q2 q3 ?_
  refine x_aload_n (pc := 6) 0 dX9_usable_6 rfl ?_
  refine x_getR (pc := 7) gf_X9_9 rfl dX9_usable_7 q1 q2.1 ?_
  refine x_iconst (pc := 10) dX9_usable_10 ?_
  obtain ⟨q4, e⟩ := chk_some e
  refine x_iald (pc := 11) dX9_usable_11 q2 q4 ?_
  refine x_aload_n (pc := 12) 0 dX9_usable_12 rfl ?_
  refine x_getR (pc := 13) gf_X9_9 rfl dX9_usable_13 q1 q2.1 ?_
  refine x_iconst (pc := 16) dX9_usable_16 ?_
  obtain ⟨q5, e⟩ := chk_some e
  refine x_iald (pc := 17) dX9_usable_17 q2 q5 ?_
  refine x_iconst (pc := 18) dX9_usable_18 ?_
  refine x_iadd (pc := 19) dX9_usable_19 ?_
  refine x_imul (pc := 20) dX9_usable_20 ?_
  refine x_isub (pc := 21) dX9_usable_21 ?_
  cases Option.some.inj e
  exact x_iret (pc := 22) rfl dX9_usable_22
abbrev w_X9_usable : Cond := (Cond.code yX9_usable cX9_usable 1 (Option.some Jvm.ClassFile.FieldType.int))
theorem mf_X9_usable : MF yX9_usable w_X9_usable cX9_usable 1 (Option.some Jvm.ClassFile.FieldType.int) 0 := ⟨⟨rfl, tw_8_103, by decide⟩, tw_1_11, ⟨by decide, by decide⟩, by decide +kernel⟩
theorem c_X9_usable {l : Launch} {K : Ctx} (hl : l.stackTraces = false) {h : Hp} {a0 : Nat} {t : Rs Int32} (e : f_X9_usable h a0 = some t) : Ctr l K 8 yX9_usable w_X9_usable [.ref a0] h (tgI t) :=
  Ctr.of hl mf_X9_usable false (fun q => nomatch q) rfl (leb rfl) (p_X9_usable hl e)
/-! ## TableColumnBalancerModel.isAuto -/
abbrev mM_X9_isAuto : Mi := (8, yX9_isAuto.cls, cX9_isAuto, 2, (Option.some Jvm.ClassFile.FieldType.boolean), [], false)
noncomputable def f_X9_isAuto (h : Hp) (a0 : Nat) (i1 : Int32) : Option (Rs Int32) :=
  chk (okr h a0 9) <|
  chk (okr h (qR h a0 1) 20) <|
  chk (vp_in ((iN 6) + i1) (qW h (qR h a0 1))) <|
  if (qI h (qR h a0 1) (Int32.toNatClampNeg ((iN 6) + i1))) = 0 then (
    some (h, .inr (iN 1))
  ) else (
    some (h, .inr (iN 0))
  )
theorem p_X9_isAuto {l : Launch} {K : Ctx} (hl : l.stackTraces = false) {h : Hp} {a0 : Nat} {i1 : Int32} {t : Rs Int32} (e : f_X9_isAuto h a0 i1 = some t) : X l K mM_X9_isAuto (tgI t) 0 [(0, .ref a0), (1, .int i1)] [] h := by
  unfold f_X9_isAuto at e
  refine x_aload_n (pc := 0) 0 dX9_isAuto_0 rfl ?_
  obtain ⟨q1, e⟩ := chk_some e
  obtain ⟨q2, e⟩ := chk_some e
  refine x_getR (pc := 1) gf_X9_9 rfl dX9_isAuto_1 q1 q2.1 ?_
  refine x_bipush (pc := 4) (v := iN 6) dX9_isAuto_4 rfl ?_
  refine x_iload_n (pc := 6) 1 dX9_isAuto_6 rfl ?_
  refine x_iadd (pc := 7) dX9_isAuto_7 ?_
  obtain ⟨q3, e⟩ := chk_some e
  refine x_iald (pc := 8) dX9_isAuto_8 q2 q3 ?_
  rcases ite_some e with ⟨q4, e⟩ | ⟨q4, e⟩
  · refine x_if_ne_f (pc := 9) (t := 16) dX9_isAuto_9 (by decide) q4 ?_
    refine x_iconst (pc := 12) dX9_isAuto_12 ?_
    refine x_goto (pc := 13) (t := 17) dX9_isAuto_13 (by decide) ?_
    cases Option.some.inj e
    exact x_zret (pc := 17) rfl (Or.inr rfl) dX9_isAuto_17
  · refine x_if_ne_t (pc := 9) (t := 16) dX9_isAuto_9 (by decide) q4 ?_
    refine x_iconst (pc := 16) dX9_isAuto_16 ?_
    cases Option.some.inj e
    exact x_zret (pc := 17) rfl (Or.inl rfl) dX9_isAuto_17
abbrev w_X9_isAuto : Cond := (Cond.code yX9_isAuto cX9_isAuto 2 (Option.some Jvm.ClassFile.FieldType.boolean))
theorem mf_X9_isAuto : MF yX9_isAuto w_X9_isAuto cX9_isAuto 2 (Option.some Jvm.ClassFile.FieldType.boolean) 1 := ⟨⟨rfl, tw_8_107, by decide⟩, tw_1_11, ⟨by decide, by decide⟩, by decide +kernel⟩
theorem c_X9_isAuto {l : Launch} {K : Ctx} (hl : l.stackTraces = false) {h : Hp} {a0 : Nat} {i1 : Int32} {t : Rs Int32} (e : f_X9_isAuto h a0 i1 = some t) : Ctr l K 8 yX9_isAuto w_X9_isAuto [.ref a0, .int i1] h (tgI t) :=
  Ctr.of hl mf_X9_isAuto false (fun q => nomatch q) rfl (leb rfl) (p_X9_isAuto hl e)
/-! ## TableColumnBalancerModel.guessesAll -/
abbrev mM_X9_guessesAll : Mi := (14, yX9_guessesAll.cls, cX9_guessesAll, 2, (Option.none : Option Jvm.ClassFile.FieldType), [], false)
noncomputable def f_X9_guessesAll_L159 (k6 : Hp → Nat → Int32 → Option (Rs Unit)) (h : Hp) (a0 : Nat) (i1 : Int32) (s0 : Int32) (s1 : Int32) (s2 : Nat) : Option (Rs Unit) :=
  chk (okr h s2 20) <|
  chk (vp_in s1 (qW h s2)) <|
  lt (putI h s2 (Int32.toNatClampNeg s1) s0) fun h3 =>
  k6 h3 a0 (i1 + iN 1)
theorem p_X9_guessesAll_L159 {l : Launch} {K : Ctx} (hl : l.stackTraces = false) {k6 : Hp → Nat → Int32 → Option (Rs Unit)} (hk6 : ∀ (h : Hp) (a0 : Nat) (i1 : Int32) (t : Rs Unit), k6 h a0 i1 = some t → X l K mM_X9_guessesAll (tgV t) 6 [(0, .ref a0), (1, .int i1)] [] h) {h : Hp} {a0 : Nat} {i1 : Int32} {s0 : Int32} {s1 : Int32} {s2 : Nat} {t : Rs Unit} (e : f_X9_guessesAll_L159 k6 h a0 i1 s0 s1 s2 = some t) : X l K mM_X9_guessesAll (tgV t) 159 [(0, .ref a0), (1, .int i1)] [.int s0, .int s1, .ref s2] h := by
  unfold f_X9_guessesAll_L159 at e
  obtain ⟨q1, e⟩ := chk_some e
  obtain ⟨q2, e⟩ := chk_some e
  replace e := lt_go e
  refine x_iast (pc := 159) dX9_guessesAll_159 q1 q2 ?_
  refine x_iinc (pc := 160) 1 dX9_guessesAll_160 rfl (by decide) rfl ?_
  refine x_goto (pc := 163) (t := 6) dX9_guessesAll_163 (by decide) ?_
  exact x_sub1 (hk6 _ _ _ _ e) [1, 0] rfl
noncomputable def f_X9_guessesAll_L124 (k6 : Hp → Nat → Int32 → Option (Rs Unit)) (h : Hp) (a0 : Nat) (i1 : Int32) (s0 : Int32) (s1 : Int32) (s2 : Nat) : Option (Rs Unit) :=
  chk (okr h s2 20) <|
  chk (vp_in s1 (qW h s2)) <|
  lt (putI h s2 (Int32.toNatClampNeg s1) s0) fun h3 =>
  chk (okr h3 a0 9) <|
  chk (okr h3 (qR h3 a0 26) 20) <|
  bnd (f_X9_isAuto h3 a0 i1) fun h6 r7 =>
  if r7 = 0 then (
    chk (okr h6 a0 9) <|
    chk (okr h6 (qR h6 a0 26) 20) <|
    chk (vp_in ((iN 8) + i1) (qW h6 (qR h6 a0 26))) <|
    f_X9_guessesAll_L159 k6 h6 a0 i1 (qI h6 (qR h6 a0 26) (Int32.toNatClampNeg ((iN 8) + i1))) ((iN 12) + i1) (qR h3 a0 26)
  ) else (
    chk (okr h6 a0 9) <|
    chk (okr h6 (qR h6 a0 22) 20) <|
    chk (vp_in i1 (qW h6 (qR h6 a0 22))) <|
    f_X9_guessesAll_L159 k6 h6 a0 i1 (qI h6 (qR h6 a0 22) (Int32.toNatClampNeg i1)) ((iN 12) + i1) (qR h3 a0 26)
  )
theorem p_X9_guessesAll_L124 {l : Launch} {K : Ctx} (hl : l.stackTraces = false) {k6 : Hp → Nat → Int32 → Option (Rs Unit)} (hk6 : ∀ (h : Hp) (a0 : Nat) (i1 : Int32) (t : Rs Unit), k6 h a0 i1 = some t → X l K mM_X9_guessesAll (tgV t) 6 [(0, .ref a0), (1, .int i1)] [] h) {h : Hp} {a0 : Nat} {i1 : Int32} {s0 : Int32} {s1 : Int32} {s2 : Nat} {t : Rs Unit} (e : f_X9_guessesAll_L124 k6 h a0 i1 s0 s1 s2 = some t) : X l K mM_X9_guessesAll (tgV t) 124 [(0, .ref a0), (1, .int i1)] [.int s0, .int s1, .ref s2] h := by
  unfold f_X9_guessesAll_L124 at e
  obtain ⟨q1, e⟩ := chk_some e
  obtain ⟨q2, e⟩ := chk_some e
  replace e := lt_go e
  refine x_iast (pc := 124) dX9_guessesAll_124 q1 q2 ?_
  refine x_aload_n (pc := 125) 0 dX9_guessesAll_125 rfl ?_
  obtain ⟨q4, e⟩ := chk_some e
  obtain ⟨q5, e⟩ := chk_some e
  refine x_getR (pc := 126) gf_X9_63 rfl dX9_guessesAll_126 q4 q5.1 ?_
  refine x_bipush (pc := 129) (v := iN 12) dX9_guessesAll_129 rfl ?_
  refine x_iload_n (pc := 131) 1 dX9_guessesAll_131 rfl ?_
  refine x_iadd (pc := 132) dX9_guessesAll_132 ?_
  refine x_aload_n (pc := 133) 0 dX9_guessesAll_133 rfl ?_
  refine x_iload_n (pc := 134) 1 dX9_guessesAll_134 rfl ?_
  rcases bnd_some e with ⟨h6, r7, ec, rfl⟩ | ⟨h6, r7, ec, e⟩
  · exact y_callV_x (pc := 135) (c_X9_isAuto hl ec) q4 mf_X9_isAuto tw_8_106 ts_9_11 lf_X9_326 rfl rfl dX9_guessesAll_135 (by decide) rfl rfl (leb rfl) (xx_out0 rfl)
  refine y_callV_i (pc := 135) (c_X9_isAuto hl ec) q4 mf_X9_isAuto tw_8_106 ts_9_11 lf_X9_326 rfl rfl dX9_guessesAll_135 (by decide) rfl rfl (leb rfl) ?_
  rcases ite_some e with ⟨q8, e⟩ | ⟨q8, e⟩
  · refine x_if_eq_t (pc := 138) (t := 150) dX9_guessesAll_138 (by decide) q8 ?_
    refine x_aload_n (pc := 150) 0 dX9_guessesAll_150 rfl ?_
    obtain ⟨q9, e⟩ := chk_some e
    obtain ⟨q10, e⟩ := chk_some e
    refine x_getR (pc := 151) gf_X9_63 rfl dX9_guessesAll_151 q9 q10.1 ?_
    refine x_bipush (pc := 154) (v := iN 8) dX9_guessesAll_154 rfl ?_
    refine x_iload_n (pc := 156) 1 dX9_guessesAll_156 rfl ?_
    refine x_iadd (pc := 157) dX9_guessesAll_157 ?_
    obtain ⟨q11, e⟩ := chk_some e
    refine x_iald (pc := 158) dX9_guessesAll_158 q10 q11 ?_
    exact p_X9_guessesAll_L159 hl hk6 e
  · refine x_if_eq_f (pc := 138) (t := 150) dX9_guessesAll_138 (by decide) q8 ?_
    refine x_aload_n (pc := 141) 0 dX9_guessesAll_141 rfl ?_
    obtain ⟨q12, e⟩ := chk_some e
    obtain ⟨q13, e⟩ := chk_some e
    refine x_getR (pc := 142) gf_X9_51 rfl dX9_guessesAll_142 q12 q13.1 ?_
    refine x_iload_n (pc := 145) 1 dX9_guessesAll_145 rfl ?_
    obtain ⟨q14, e⟩ := chk_some e
    refine x_iald (pc := 146) dX9_guessesAll_146 q13 q14 ?_
    refine x_goto (pc := 147) (t := 159) dX9_guessesAll_147 (by decide) ?_
    exact p_X9_guessesAll_L159 hl hk6 e
noncomputable def f_X9_guessesAll_L75 (k6 : Hp → Nat → Int32 → Option (Rs Unit)) (h : Hp) (a0 : Nat) (i1 : Int32) (s0 : Int32) (s1 : Int32) (s2 : Nat) : Option (Rs Unit) :=
  chk (okr h s2 20) <|
  chk (vp_in s1 (qW h s2)) <|
  lt (putI h s2 (Int32.toNatClampNeg s1) s0) fun h3 =>
  chk (okr h3 a0 9) <|
  chk (okr h3 (qR h3 a0 26) 20) <|
  bnd (f_X9_isFixed h3 a0 i1) fun h6 r7 =>
  if r7 = 0 then (
    chk (okr h6 a0 9) <|
    chk (okr h6 (qR h6 a0 26) 20) <|
    chk (vp_in ((iN 4) + i1) (qW h6 (qR h6 a0 26))) <|
    f_X9_guessesAll_L124 k6 h6 a0 i1 (qI h6 (qR h6 a0 26) (Int32.toNatClampNeg ((iN 4) + i1))) ((iN 8) + i1) (qR h3 a0 26)
  ) else (
    chk (okr h6 a0 9) <|
    chk (okr h6 (qR h6 a0 21) 20) <|
    chk (vp_in i1 (qW h6 (qR h6 a0 21))) <|
    chk (okr h6 (qR h6 a0 1) 20) <|
    chk (vp_in ((iN 6) + i1) (qW h6 (qR h6 a0 1))) <|
    bnd (f_X9_greater h6 (qI h6 (qR h6 a0 21) (Int32.toNatClampNeg i1)) ((qI h6 (qR h6 a0 1) (Int32.toNatClampNeg ((iN 6) + i1))) - (iN 100))) fun h17 r18 =>
    f_X9_guessesAll_L124 k6 h17 a0 i1 r18 ((iN 8) + i1) (qR h3 a0 26)
  )
theorem p_X9_guessesAll_L75 {l : Launch} {K : Ctx} (hl : l.stackTraces = false) {k6 : Hp → Nat → Int32 → Option (Rs Unit)} (hk6 : ∀ (h : Hp) (a0 : Nat) (i1 : Int32) (t : Rs Unit), k6 h a0 i1 = some t → X l K mM_X9_guessesAll (tgV t) 6 [(0, .ref a0), (1, .int i1)] [] h) {h : Hp} {a0 : Nat} {i1 : Int32} {s0 : Int32} {s1 : Int32} {s2 : Nat} {t : Rs Unit} (e : f_X9_guessesAll_L75 k6 h a0 i1 s0 s1 s2 = some t) : X l K mM_X9_guessesAll (tgV t) 75 [(0, .ref a0), (1, .int i1)] [.int s0, .int s1, .ref s2] h := by
  unfold f_X9_guessesAll_L75 at e
  obtain ⟨q1, e⟩ := chk_some e
  obtain ⟨q2, e⟩ := chk_some e
  replace e := lt_go e
  refine x_iast (pc := 75) dX9_guessesAll_75 q1 q2 ?_
  refine x_aload_n (pc := 76) 0 dX9_guessesAll_76 rfl ?_
  obtain ⟨q4, e⟩ := chk_some e
  obtain ⟨q5, e⟩ := chk_some e
  refine x_getR (pc := 77) gf_X9_63 rfl dX9_guessesAll_77 q4 q5.1 ?_
  refine x_bipush (pc := 80) (v := iN 8) dX9_guessesAll_80 rfl ?_
  refine x_iload_n (pc := 82) 1 dX9_guessesAll_82 rfl ?_
  refine x_iadd (pc := 83) dX9_guessesAll_83 ?_
  refine x_aload_n (pc := 84) 0 dX9_guessesAll_84 rfl ?_
  refine x_iload_n (pc := 85) 1 dX9_guessesAll_85 rfl ?_
  rcases bnd_some e with ⟨h6, r7, ec, rfl⟩ | ⟨h6, r7, ec, e⟩
  · exact y_callV_x (pc := 86) (c_X9_isFixed hl ec) q4 mf_X9_isFixed tw_8_66 ts_9_3 lf_X9_302 rfl rfl dX9_guessesAll_86 (by decide) rfl rfl (leb rfl) (xx_out0 rfl)
  refine y_callV_i (pc := 86) (c_X9_isFixed hl ec) q4 mf_X9_isFixed tw_8_66 ts_9_3 lf_X9_302 rfl rfl dX9_guessesAll_86 (by decide) rfl rfl (leb rfl) ?_
  rcases ite_some e with ⟨q8, e⟩ | ⟨q8, e⟩
  · refine x_if_eq_t (pc := 89) (t := 116) dX9_guessesAll_89 (by decide) q8 ?_
    refine x_aload_n (pc := 116) 0 dX9_guessesAll_116 rfl ?_
    obtain ⟨q9, e⟩ := chk_some e
    obtain ⟨q10, e⟩ := chk_some e
    refine x_getR (pc := 117) gf_X9_63 rfl dX9_guessesAll_117 q9 q10.1 ?_
    refine x_iconst (pc := 120) dX9_guessesAll_120 ?_
    refine x_iload_n (pc := 121) 1 dX9_guessesAll_121 rfl ?_
    refine x_iadd (pc := 122) dX9_guessesAll_122 ?_
    obtain ⟨q11, e⟩ := chk_some e
    refine x_iald (pc := 123) dX9_guessesAll_123 q10 q11 ?_
    exact p_X9_guessesAll_L124 hl hk6 e
  · refine x_if_eq_f (pc := 89) (t := 116) dX9_guessesAll_89 (by decide) q8 ?_
    refine x_aload_n (pc := 92) 0 dX9_guessesAll_92 rfl ?_
    obtain ⟨q12, e⟩ := chk_some e
    obtain ⟨q13, e⟩ := chk_some e
    refine x_getR (pc := 93) gf_X9_48 rfl dX9_guessesAll_93 q12 q13.1 ?_
    refine x_iload_n (pc := 96) 1 dX9_guessesAll_96 rfl ?_
    obtain ⟨q14, e⟩ := chk_some e
    refine x_iald (pc := 97) dX9_guessesAll_97 q13 q14 ?_
    refine x_aload_n (pc := 98) 0 dX9_guessesAll_98 rfl ?_
    obtain ⟨q15, e⟩ := chk_some e
    refine x_getR (pc := 99) gf_X9_9 rfl dX9_guessesAll_99 q12 q15.1 ?_
    refine x_bipush (pc := 102) (v := iN 6) dX9_guessesAll_102 rfl ?_
    refine x_iload_n (pc := 104) 1 dX9_guessesAll_104 rfl ?_
    refine x_iadd (pc := 105) dX9_guessesAll_105 ?_
    obtain ⟨q16, e⟩ := chk_some e
    refine x_iald (pc := 106) dX9_guessesAll_106 q15 q16 ?_
    refine x_bipush (pc := 107) (v := iN 100) dX9_guessesAll_107 rfl ?_
    refine x_isub (pc := 109) dX9_guessesAll_109 ?_
    rcases bnd_some e with ⟨h17, r18, ec, rfl⟩ | ⟨h17, r18, ec, e⟩
    · exact y_callS_x (pc := 110) (c_X9_greater hl ec) mf_X9_greater tw_8_10 lf_X9_277 dX9_guessesAll_110 (by decide) rfl rfl (leb rfl) (xx_out0 rfl)
    refine y_callS_i (pc := 110) (c_X9_greater hl ec) mf_X9_greater tw_8_10 lf_X9_277 dX9_guessesAll_110 (by decide) rfl rfl (leb rfl) ?_
    refine x_goto (pc := 113) (t := 124) dX9_guessesAll_113 (by decide) ?_
    exact p_X9_guessesAll_L124 hl hk6 e
noncomputable def f_X9_guessesAll_B6 (k6 : Hp → Nat → Int32 → Option (Rs Unit)) (h : Hp) (a0 : Nat) (i1 : Int32) : Option (Rs Unit) :=
  chk (okr h a0 9) <|
  chk (okr h (qR h a0 1) 20) <|
  chk (vp_in (iN 0) (qW h (qR h a0 1))) <|
  if (qI h (qR h a0 1) (Int32.toNatClampNeg (iN 0))) ≤ i1 then (
    some (h, .inr ())
  ) else (
    chk (okr h (qR h a0 26) 20) <|
    chk (okr h (qR h a0 21) 20) <|
    chk (vp_in i1 (qW h (qR h a0 21))) <|
    chk (vp_in i1 (qW h (qR h a0 26))) <|
    lt (putI h (qR h a0 26) (Int32.toNatClampNeg i1) (qI h (qR h a0 21) (Int32.toNatClampNeg i1))) fun h9 =>
    chk (okr h9 (qR h9 a0 26) 20) <|
    bnd (f_X9_isShared h9 a0 i1) fun h11 r12 =>
    if r12 = 0 then (
      chk (okr h11 a0 9) <|
      chk (okr h11 (qR h11 a0 21) 20) <|
      chk (vp_in i1 (qW h11 (qR h11 a0 21))) <|
      f_X9_guessesAll_L75 k6 h11 a0 i1 (qI h11 (qR h11 a0 21) (Int32.toNatClampNeg i1)) ((iN 4) + i1) (qR h9 a0 26)
    ) else (
      chk (okr h11 a0 9) <|
      chk (okr h11 (qR h11 a0 21) 20) <|
      chk (vp_in i1 (qW h11 (qR h11 a0 21))) <|
      bnd (f_X9_usable h11 a0) fun h20 r21 =>
      chk (okr h20 a0 9) <|
      chk (okr h20 (qR h20 a0 23) 20) <|
      chk (vp_in i1 (qW h20 (qR h20 a0 23))) <|
      chk (¬ (iN 100) = 0) <|
      bnd (f_X9_greater h20 (qI h11 (qR h11 a0 21) (Int32.toNatClampNeg i1)) ((r21 * (qI h20 (qR h20 a0 23) (Int32.toNatClampNeg i1))) / (iN 100))) fun h26 r27 =>
      f_X9_guessesAll_L75 k6 h26 a0 i1 r27 ((iN 4) + i1) (qR h9 a0 26)
    )
  )
theorem p_X9_guessesAll_B6 {l : Launch} {K : Ctx} (hl : l.stackTraces = false) {k6 : Hp → Nat → Int32 → Option (Rs Unit)} (hk6 : ∀ (h : Hp) (a0 : Nat) (i1 : Int32) (t : Rs Unit), k6 h a0 i1 = some t → X l K mM_X9_guessesAll (tgV t) 6 [(0, .ref a0), (1, .int i1)] [] h) {h : Hp} {a0 : Nat} {i1 : Int32} {t : Rs Unit} (e : f_X9_guessesAll_B6 k6 h a0 i1 = some t) : X l K mM_X9_guessesAll (tgV t) 6 [(0, .ref a0), (1, .int i1)] [] h := by
  unfold f_X9_guessesAll_B6 at e
  refine x_iload_n (pc := 6) 1 dX9_guessesAll_6 rfl ?_
  refine x_aload_n (pc := 7) 0 dX9_guessesAll_7 rfl ?_
  obtain ⟨q1, e⟩ := chk_some e
  obtain ⟨q2, e⟩ := chk_some e
  refine x_getR (pc := 8) gf_X9_9 rfl dX9_guessesAll_8 q1 q2.1 ?_
  refine x_iconst (pc := 11) dX9_guessesAll_11 ?_
  obtain ⟨q3, e⟩ := chk_some e
  refine x_iald (pc := 12) dX9_guessesAll_12 q2 q3 ?_
  rcases ite_some e with ⟨q4, e⟩ | ⟨q4, e⟩
  · refine x_icmp_ge_t (pc := 13) (t := 166) dX9_guessesAll_13 (by decide) q4 ?_
    cases Option.some.inj e
    exact x_vret (pc := 166) rfl dX9_guessesAll_166
  · refine x_icmp_ge_f (pc := 13) (t := 166) dX9_guessesAll_13 (by decide) q4 ?_
    refine x_aload_n (pc := 16) 0 dX9_guessesAll_16 rfl ?_
    obtain ⟨q5, e⟩ := chk_some e
    refine x_getR (pc := 17) gf_X9_63 rfl dX9_guessesAll_17 q1 q5.1 ?_
    refine x_iload_n (pc := 20) 1 dX9_guessesAll_20 rfl ?_
    refine x_aload_n (pc := 21) 0 dX9_guessesAll_21 rfl ?_
    obtain ⟨q6, e⟩ := chk_some e
    refine x_getR (pc := 22) gf_X9_48 rfl dX9_guessesAll_22 q1 q6.1 ?_
    refine x_iload_n (pc := 25) 1 dX9_guessesAll_25 rfl ?_
    obtain ⟨q7, e⟩ := chk_some e
    refine x_iald (pc := 26) dX9_guessesAll_26 q6 q7 ?_
    obtain ⟨q8, e⟩ := chk_some e
    replace e := lt_go e
    refine x_iast (pc := 27) dX9_guessesAll_27 q5 q8 ?_
    refine x_aload_n (pc := 28) 0 dX9_guessesAll_28 rfl ?_
    obtain ⟨q10, e⟩ := chk_some e
    refine x_getR (pc := 29) gf_X9_63 rfl dX9_guessesAll_29 (okr_pI q1) q10.1 ?_
    refine x_iconst (pc := 32) dX9_guessesAll_32 ?_
    refine x_iload_n (pc := 33) 1 dX9_guessesAll_33 rfl ?_
    refine x_iadd (pc := 34) dX9_guessesAll_34 ?_
    refine x_aload_n (pc := 35) 0 dX9_guessesAll_35 rfl ?_
    refine x_iload_n (pc := 36) 1 dX9_guessesAll_36 rfl ?_
    rcases bnd_some e with ⟨h11, r12, ec, rfl⟩ | ⟨h11, r12, ec, e⟩
    · exact y_callV_x (pc := 37) (c_X9_isShared hl ec) (okr_pI q1) mf_X9_isShared tw_8_86 ts_9_8 lf_X9_317 rfl rfl dX9_guessesAll_37 (by decide) rfl rfl (leb rfl) (xx_out0 rfl)
    refine y_callV_i (pc := 37) (c_X9_isShared hl ec) (okr_pI q1) mf_X9_isShared tw_8_86 ts_9_8 lf_X9_317 rfl rfl dX9_guessesAll_37 (by decide) rfl rfl (leb rfl) ?_
    rcases ite_some e with ⟨q13, e⟩ | ⟨q13, e⟩
    · refine x_if_eq_t (pc := 40) (t := 69) dX9_guessesAll_40 (by decide) q13 ?_
      refine x_aload_n (pc := 69) 0 dX9_guessesAll_69 rfl ?_
      obtain ⟨q14, e⟩ := chk_some e
      obtain ⟨q15, e⟩ := chk_some e
      refine x_getR (pc := 70) gf_X9_48 rfl dX9_guessesAll_70 q14 q15.1 ?_
      refine x_iload_n (pc := 73) 1 dX9_guessesAll_73 rfl ?_
      obtain ⟨q16, e⟩ := chk_some e
      refine x_iald (pc := 74) dX9_guessesAll_74 q15 q16 ?_
      exact p_X9_guessesAll_L75 hl hk6 e
    · refine x_if_eq_f (pc := 40) (t := 69) dX9_guessesAll_40 (by decide) q13 ?_
      refine x_aload_n (pc := 43) 0 dX9_guessesAll_43 rfl ?_
      obtain ⟨q17, e⟩ := chk_some e
      obtain ⟨q18, e⟩ := chk_some e
      refine x_getR (pc := 44) gf_X9_48 rfl dX9_guessesAll_44 q17 q18.1 ?_
      refine x_iload_n (pc := 47) 1 dX9_guessesAll_47 rfl ?_
      obtain ⟨q19, e⟩ := chk_some e
      refine x_iald (pc := 48) dX9_guessesAll_48 q18 q19 ?_
      refine x_aload_n (pc := 49) 0 dX9_guessesAll_49 rfl ?_
      rcases bnd_some e with ⟨h20, r21, ec, rfl⟩ | ⟨h20, r21, ec, e⟩
      · exact y_callV_x (pc := 50) (c_X9_usable hl ec) q17 mf_X9_usable tw_8_102 ts_9_10 lf_X9_323 rfl rfl dX9_guessesAll_50 (by decide) rfl rfl (leb rfl) (xx_out0 rfl)
      refine y_callV_i (pc := 50) (c_X9_usable hl ec) q17 mf_X9_usable tw_8_102 ts_9_10 lf_X9_323 rfl rfl dX9_guessesAll_50 (by decide) rfl rfl (leb rfl) ?_
      refine x_aload_n (pc := 53) 0 dX9_guessesAll_53 rfl ?_
      obtain ⟨q22, e⟩ := chk_some e
      obtain ⟨q23, e⟩ := chk_some e
      refine x_getR (pc := 54) gf_X9_54 rfl dX9_guessesAll_54 q22 q23.1 ?_
      refine x_iload_n (pc := 57) 1 dX9_guessesAll_57 rfl ?_
      obtain ⟨q24, e⟩ := chk_some e
      refine x_iald (pc := 58) dX9_guessesAll_58 q23 q24 ?_
      refine x_imul (pc := 59) dX9_guessesAll_59 ?_
      refine x_bipush (pc := 60) (v := iN 100) dX9_guessesAll_60 rfl ?_
      obtain ⟨q25, e⟩ := chk_some e
      refine x_idiv (pc := 62) dX9_guessesAll_62 q25 ?_
      rcases bnd_some e with ⟨h26, r27, ec, rfl⟩ | ⟨h26, r27, ec, e⟩
      · exact y_callS_x (pc := 63) (c_X9_greater hl ec) mf_X9_greater tw_8_10 lf_X9_277 dX9_guessesAll_63 (by decide) rfl rfl (leb rfl) (xx_out0 rfl)
      refine y_callS_i (pc := 63) (c_X9_greater hl ec) mf_X9_greater tw_8_10 lf_X9_277 dX9_guessesAll_63 (by decide) rfl rfl (leb rfl) ?_
      refine x_goto (pc := 66) (t := 75) dX9_guessesAll_66 (by decide) ?_
      exact p_X9_guessesAll_L75 hl hk6 e
noncomputable def f_X9_guessesAll_L6 (n : Nat) : Hp → Nat → Int32 → Option (Rs Unit) := Nat.rec (motive := fun _ => Hp → Nat → Int32 → Option (Rs Unit)) (fun _ _ _ => none) (fun _ r => f_X9_guessesAll_B6 r) n
theorem p_X9_guessesAll_L6 {l : Launch} {K : Ctx} (hl : l.stackTraces = false) : ∀ (n : Nat) (h : Hp) (a0 : Nat) (i1 : Int32) (t : Rs Unit) (e : f_X9_guessesAll_L6 n h a0 i1 = some t), X l K mM_X9_guessesAll (tgV t) 6 [(0, .ref a0), (1, .int i1)] [] h := by
  intro n
  induction n with
  | zero => exact fun _ _ _ _ e => nomatch (show (none : Option (Rs Unit)) = some _ from e)
  | succ n ih => exact fun h a0 i1 t e => p_X9_guessesAll_B6 hl (fun h a0 i1 t e => ih h a0 i1 t e) e
noncomputable def f_X9_guessesAll (h : Hp) (a0 : Nat) : Option (Rs Unit) :=
  chk (okr h a0 9) <|
  bnd (f_X9_measuresColumns h a0) fun h2 _ =>
  f_X9_guessesAll_L6 2000 h2 a0 (iN 0)
theorem p_X9_guessesAll {l : Launch} {K : Ctx} (hl : l.stackTraces = false) {h : Hp} {a0 : Nat} {t : Rs Unit} (e : f_X9_guessesAll h a0 = some t) : X l K mM_X9_guessesAll (tgV t) 0 [(0, .ref a0)] [] h := by
  unfold f_X9_guessesAll at e
  refine x_aload_n (pc := 0) 0 dX9_guessesAll_0 rfl ?_
  obtain ⟨q1, e⟩ := chk_some e
  rcases bnd_some e with ⟨h2, r3, ec, rfl⟩ | ⟨h2, r3, ec, e⟩
  · exact y_callV_x (pc := 1) (c_X9_measuresColumns hl ec) q1 mf_X9_measuresColumns tw_8_62 ts_9_2 lf_X9_320 rfl rfl dX9_guessesAll_1 (by decide) rfl rfl (leb rfl) (xx_out0 rfl)
  refine y_callV_v (pc := 1) (c_X9_measuresColumns hl ec) q1 mf_X9_measuresColumns tw_8_62 ts_9_2 lf_X9_320 rfl rfl dX9_guessesAll_1 (by decide) rfl rfl (leb rfl) ?_
  refine x_iconst (pc := 4) dX9_guessesAll_4 ?_
  refine x_istore_n (pc := 5) dX9_guessesAll_5 (by decide) rfl ?_
  exact x_sub1 (p_X9_guessesAll_L6 hl 2000 _ _ _ _ e) [1, 0] rfl
abbrev w_X9_guessesAll : Cond := (Cond.code yX9_guessesAll cX9_guessesAll 2 (Option.none : Option Jvm.ClassFile.FieldType))
theorem mf_X9_guessesAll : MF yX9_guessesAll w_X9_guessesAll cX9_guessesAll 2 (Option.none : Option Jvm.ClassFile.FieldType) 0 := ⟨⟨rfl, tw_8_99, by decide⟩, tw_1_11, ⟨by decide, by decide⟩, by decide +kernel⟩
theorem c_X9_guessesAll {l : Launch} {K : Ctx} (hl : l.stackTraces = false) {h : Hp} {a0 : Nat} {t : Rs Unit} (e : f_X9_guessesAll h a0 = some t) : Ctr l K 14 yX9_guessesAll w_X9_guessesAll [.ref a0] h (tgV t) :=
  Ctr.of hl mf_X9_guessesAll false (fun q => nomatch q) rfl (leb rfl) (p_X9_guessesAll hl e)
/-! ## TableColumnBalancerModel.guessed -/
abbrev mM_X9_guessed : Mi := (8, yX9_guessed.cls, cX9_guessed, 4, (Option.some Jvm.ClassFile.FieldType.int), [], false)
noncomputable def f_X9_guessed_B4 (k4 : Hp → Nat → Int32 → Int32 → Int32 → Option (Rs Int32)) (h : Hp) (a0 : Nat) (i1 : Int32) (i2 : Int32) (i3 : Int32) : Option (Rs Int32) :=
  chk (okr h a0 9) <|
  chk (okr h (qR h a0 1) 20) <|
  chk (vp_in (iN 0) (qW h (qR h a0 1))) <|
  if (qI h (qR h a0 1) (Int32.toNatClampNeg (iN 0))) ≤ i3 then (
    some (h, .inr i2)
  ) else (
    chk (okr h (qR h a0 26) 20) <|
    chk (vp_in (((iN 4) * i1) + i3) (qW h (qR h a0 26))) <|
    k4 h a0 i1 (i2 + (qI h (qR h a0 26) (Int32.toNatClampNeg (((iN 4) * i1) + i3)))) (i3 + iN 1)
  )
theorem p_X9_guessed_B4 {l : Launch} {K : Ctx} (hl : l.stackTraces = false) {k4 : Hp → Nat → Int32 → Int32 → Int32 → Option (Rs Int32)} (hk4 : ∀ (h : Hp) (a0 : Nat) (i1 : Int32) (i2 : Int32) (i3 : Int32) (t : Rs Int32), k4 h a0 i1 i2 i3 = some t → X l K mM_X9_guessed (tgI t) 4 [(0, .ref a0), (1, .int i1), (2, .int i2), (3, .int i3)] [] h) {h : Hp} {a0 : Nat} {i1 : Int32} {i2 : Int32} {i3 : Int32} {t : Rs Int32} (e : f_X9_guessed_B4 k4 h a0 i1 i2 i3 = some t) : X l K mM_X9_guessed (tgI t) 4 [(0, .ref a0), (1, .int i1), (2, .int i2), (3, .int i3)] [] h := by
  unfold f_X9_guessed_B4 at e
  refine x_iload_n (pc := 4) 3 dX9_guessed_4 rfl ?_
  refine x_aload_n (pc := 5) 0 dX9_guessed_5 rfl ?_
  obtain ⟨q1, e⟩ := chk_some e
  obtain ⟨q2, e⟩ := chk_some e
  refine x_getR (pc := 6) gf_X9_9 rfl dX9_guessed_6 q1 q2.1 ?_
  refine x_iconst (pc := 9) dX9_guessed_9 ?_
  obtain ⟨q3, e⟩ := chk_some e
  refine x_iald (pc := 10) dX9_guessed_10 q2 q3 ?_
  rcases ite_some e with ⟨q4, e⟩ | ⟨q4, e⟩
  · refine x_icmp_ge_t (pc := 11) (t := 33) dX9_guessed_11 (by decide) q4 ?_
    refine x_iload_n (pc := 33) 2 dX9_guessed_33 rfl ?_
    cases Option.some.inj e
    exact x_iret (pc := 34) rfl dX9_guessed_34
  · refine x_icmp_ge_f (pc := 11) (t := 33) dX9_guessed_11 (by decide) q4 ?_
    refine x_iload_n (pc := 14) 2 dX9_guessed_14 rfl ?_
    refine x_aload_n (pc := 15) 0 dX9_guessed_15 rfl ?_
    obtain ⟨q5, e⟩ := chk_some e
    refine x_getR (pc := 16) gf_X9_63 rfl dX9_guessed_16 q1 q5.1 ?_
    refine x_iconst (pc := 19) dX9_guessed_19 ?_
    refine x_iload_n (pc := 20) 1 dX9_guessed_20 rfl ?_
    refine x_imul (pc := 21) dX9_guessed_21 ?_
    refine x_iload_n (pc := 22) 3 dX9_guessed_22 rfl ?_
    refine x_iadd (pc := 23) dX9_guessed_23 ?_
    obtain ⟨q6, e⟩ := chk_some e
    refine x_iald (pc := 24) dX9_guessed_24 q5 q6 ?_
    refine x_iadd (pc := 25) dX9_guessed_25 ?_
    refine x_istore_n (pc := 26) dX9_guessed_26 (by decide) rfl ?_
    refine x_iinc (pc := 27) 3 dX9_guessed_27 rfl (by decide) rfl ?_
    refine x_goto (pc := 30) (t := 4) dX9_guessed_30 (by decide) ?_
    exact x_sub1 (hk4 _ _ _ _ _ _ e) [2, 3, 1, 0] rfl
noncomputable def f_X9_guessed_L4 (n : Nat) : Hp → Nat → Int32 → Int32 → Int32 → Option (Rs Int32) := Nat.rec (motive := fun _ => Hp → Nat → Int32 → Int32 → Int32 → Option (Rs Int32)) (fun _ _ _ _ _ => none) (fun _ r => f_X9_guessed_B4 r) n
theorem p_X9_guessed_L4 {l : Launch} {K : Ctx} (hl : l.stackTraces = false) : ∀ (n : Nat) (h : Hp) (a0 : Nat) (i1 : Int32) (i2 : Int32) (i3 : Int32) (t : Rs Int32) (e : f_X9_guessed_L4 n h a0 i1 i2 i3 = some t), X l K mM_X9_guessed (tgI t) 4 [(0, .ref a0), (1, .int i1), (2, .int i2), (3, .int i3)] [] h := by
  intro n
  induction n with
  | zero => exact fun _ _ _ _ _ _ e => nomatch (show (none : Option (Rs Int32)) = some _ from e)
  | succ n ih => exact fun h a0 i1 i2 i3 t e => p_X9_guessed_B4 hl (fun h a0 i1 i2 i3 t e => ih h a0 i1 i2 i3 t e) e
noncomputable def f_X9_guessed (h : Hp) (a0 : Nat) (i1 : Int32) : Option (Rs Int32) :=
  f_X9_guessed_L4 2000 h a0 i1 (iN 0) (iN 0)
theorem p_X9_guessed {l : Launch} {K : Ctx} (hl : l.stackTraces = false) {h : Hp} {a0 : Nat} {i1 : Int32} {t : Rs Int32} (e : f_X9_guessed h a0 i1 = some t) : X l K mM_X9_guessed (tgI t) 0 [(0, .ref a0), (1, .int i1)] [] h := by
  unfold f_X9_guessed at e
  refine x_iconst (pc := 0) dX9_guessed_0 ?_
  refine x_istore_n (pc := 1) dX9_guessed_1 (by decide) rfl ?_
  refine x_iconst (pc := 2) dX9_guessed_2 ?_
  refine x_istore_n (pc := 3) dX9_guessed_3 (by decide) rfl ?_
  exact x_sub1 (p_X9_guessed_L4 hl 2000 _ _ _ _ _ _ e) [2, 3, 1, 0] rfl
abbrev w_X9_guessed : Cond := (Cond.code yX9_guessed cX9_guessed 4 (Option.some Jvm.ClassFile.FieldType.int))
theorem mf_X9_guessed : MF yX9_guessed w_X9_guessed cX9_guessed 4 (Option.some Jvm.ClassFile.FieldType.int) 1 := ⟨⟨rfl, tw_8_111, by decide⟩, tw_1_11, ⟨by decide, by decide⟩, by decide +kernel⟩
theorem c_X9_guessed {l : Launch} {K : Ctx} (hl : l.stackTraces = false) {h : Hp} {a0 : Nat} {i1 : Int32} {t : Rs Int32} (e : f_X9_guessed h a0 i1 = some t) : Ctr l K 8 yX9_guessed w_X9_guessed [.ref a0, .int i1] h (tgI t) :=
  Ctr.of hl mf_X9_guessed false (fun q => nomatch q) rfl (leb rfl) (p_X9_guessed hl e)
/-! ## TableColumnBalancerModel.guess -/
abbrev mM_X9_guess : Mi := (15, yX9_guess.cls, cX9_guess, 3, (Option.some Jvm.ClassFile.FieldType.int), [], false)
noncomputable def f_X9_guess_L39 (h : Hp) (a0 : Nat) (i1 : Int32) (i2 : Int32) : Option (Rs Int32) :=
  chk (okr h a0 9) <|
  bnd (f_X9_guessesAll h a0) fun h2 _ =>
  if i2 = (iN (-1)) then (
    chk (okr h2 a0 9) <|
    bnd (f_X9_guessed h2 a0 i1) fun h6 r7 =>
    some (h6, .inr r7)
  ) else (
    chk (okr h2 a0 9) <|
    chk (okr h2 (qR h2 a0 26) 20) <|
    chk (vp_in (((iN 4) * i1) + i2) (qW h2 (qR h2 a0 26))) <|
    some (h2, .inr (qI h2 (qR h2 a0 26) (Int32.toNatClampNeg (((iN 4) * i1) + i2))))
  )
theorem p_X9_guess_L39 {l : Launch} {K : Ctx} (hl : l.stackTraces = false) {h : Hp} {a0 : Nat} {i1 : Int32} {i2 : Int32} {t : Rs Int32} (e : f_X9_guess_L39 h a0 i1 i2 = some t) : X l K mM_X9_guess (tgI t) 39 [(0, .ref a0), (1, .int i1), (2, .int i2)] [] h := by
  unfold f_X9_guess_L39 at e
  refine x_aload_n (pc := 39) 0 dX9_guess_39 rfl ?_
  obtain ⟨q1, e⟩ := chk_some e
  rcases bnd_some e with ⟨h2, r3, ec, rfl⟩ | ⟨h2, r3, ec, e⟩
  · exact y_callV_x (pc := 40) (c_X9_guessesAll hl ec) q1 mf_X9_guessesAll tw_8_98 ts_9_9 lf_X9_329 rfl rfl dX9_guess_40 (by decide) rfl rfl (leb rfl) (xx_out0 rfl)
  refine y_callV_v (pc := 40) (c_X9_guessesAll hl ec) q1 mf_X9_guessesAll tw_8_98 ts_9_9 lf_X9_329 rfl rfl dX9_guess_40 (by decide) rfl rfl (leb rfl) ?_
  refine x_iload_n (pc := 43) 2 dX9_guess_43 rfl ?_
  refine x_iconst (pc := 44) dX9_guess_44 ?_
  rcases ite_some e with ⟨q4, e⟩ | ⟨q4, e⟩
  · refine x_icmp_ne_f (pc := 45) (t := 56) dX9_guess_45 (by decide) q4 ?_
    refine x_aload_n (pc := 48) 0 dX9_guess_48 rfl ?_
    refine x_iload_n (pc := 49) 1 dX9_guess_49 rfl ?_
    obtain ⟨q5, e⟩ := chk_some e
    rcases bnd_some e with ⟨h6, r7, ec, rfl⟩ | ⟨h6, r7, ec, e⟩
    · exact y_callV_x (pc := 50) (c_X9_guessed hl ec) q5 mf_X9_guessed tw_8_110 ts_9_12 lf_X9_332 rfl rfl dX9_guess_50 (by decide) rfl rfl (leb rfl) (xx_out0 rfl)
    refine y_callV_i (pc := 50) (c_X9_guessed hl ec) q5 mf_X9_guessed tw_8_110 ts_9_12 lf_X9_332 rfl rfl dX9_guess_50 (by decide) rfl rfl (leb rfl) ?_
    refine x_goto (pc := 53) (t := 66) dX9_guess_53 (by decide) ?_
    cases Option.some.inj e
    exact x_iret (pc := 66) rfl dX9_guess_66
  · refine x_icmp_ne_t (pc := 45) (t := 56) dX9_guess_45 (by decide) q4 ?_
    refine x_aload_n (pc := 56) 0 dX9_guess_56 rfl ?_
    obtain ⟨q8, e⟩ := chk_some e
    obtain ⟨q9, e⟩ := chk_some e
    refine x_getR (pc := 57) gf_X9_63 rfl dX9_guess_57 q8 q9.1 ?_
    refine x_iconst (pc := 60) dX9_guess_60 ?_
    refine x_iload_n (pc := 61) 1 dX9_guess_61 rfl ?_
    refine x_imul (pc := 62) dX9_guess_62 ?_
    refine x_iload_n (pc := 63) 2 dX9_guess_63 rfl ?_
    refine x_iadd (pc := 64) dX9_guess_64 ?_
    obtain ⟨q10, e⟩ := chk_some e
    refine x_iald (pc := 65) dX9_guess_65 q9 q10 ?_
    cases Option.some.inj e
    exact x_iret (pc := 66) rfl dX9_guess_66
noncomputable def f_X9_guess (h : Hp) (a0 : Nat) (i1 : Int32) (i2 : Int32) : Option (Rs Int32) :=
  chk (okr h a0 9) <|
  lt (putI h a0 0 (iN 0)) fun h2 =>
  bnd (f_X9_in h2 i1 (iN 0) (iN 3)) fun h3 r4 =>
  if r4 = 0 then (
    chk (okr h3 a0 9) <|
    bnd (f_X9_fails h3 a0 (iN 1)) fun h7 r8 =>
    some (h7, .inr r8)
  ) else (
    if i2 = (iN (-1)) then (
      f_X9_guess_L39 h3 a0 i1 i2
    ) else (
      chk (okr h3 a0 9) <|
      bnd (f_X9_isColumn h3 a0 i2) fun h11 r12 =>
      if r12 = 0 then (
        chk (okr h11 a0 9) <|
        bnd (f_X9_fails h11 a0 (iN 2)) fun h15 r16 =>
        some (h15, .inr r16)
      ) else (
        f_X9_guess_L39 h11 a0 i1 i2
      )
    )
  )
theorem p_X9_guess {l : Launch} {K : Ctx} (hl : l.stackTraces = false) {h : Hp} {a0 : Nat} {i1 : Int32} {i2 : Int32} {t : Rs Int32} (e : f_X9_guess h a0 i1 i2 = some t) : X l K mM_X9_guess (tgI t) 0 [(0, .ref a0), (1, .int i1), (2, .int i2)] [] h := by
  unfold f_X9_guess at e
  refine x_aload_n (pc := 0) 0 dX9_guess_0 rfl ?_
  refine x_iconst (pc := 1) dX9_guess_1 ?_
  obtain ⟨q1, e⟩ := chk_some e
  replace e := lt_go e
  refine x_putI (pc := 2) pf_X9_84 rfl rfl rfl dX9_guess_2 q1 ?_
  refine x_iload_n (pc := 5) 1 dX9_guess_5 rfl ?_
  refine x_iconst (pc := 6) dX9_guess_6 ?_
  refine x_iconst (pc := 7) dX9_guess_7 ?_
  rcases bnd_some e with ⟨h3, r4, ec, rfl⟩ | ⟨h3, r4, ec, e⟩
  · exact y_callS_x (pc := 8) (c_X9_in hl ec) mf_X9_in tw_7_20 lf_X9_87 dX9_guess_8 (by decide) rfl rfl (leb rfl) (xx_out0 rfl)
  refine y_callS_i (pc := 8) (c_X9_in hl ec) mf_X9_in tw_7_20 lf_X9_87 dX9_guess_8 (by decide) rfl rfl (leb rfl) ?_
  rcases ite_some e with ⟨q5, e⟩ | ⟨q5, e⟩
  · refine x_if_ne_f (pc := 11) (t := 20) dX9_guess_11 (by decide) q5 ?_
    refine x_aload_n (pc := 14) 0 dX9_guess_14 rfl ?_
    refine x_iconst (pc := 15) dX9_guess_15 ?_
    obtain ⟨q6, e⟩ := chk_some e
    rcases bnd_some e with ⟨h7, r8, ec, rfl⟩ | ⟨h7, r8, ec, e⟩
    · exact y_callV_x (pc := 16) (c_X9_fails hl ec) q6 mf_X9_fails tw_7_24 ts_6_7 lf_X9_95 rfl rfl dX9_guess_16 (by decide) rfl rfl (leb rfl) (xx_out0 rfl)
    refine y_callV_i (pc := 16) (c_X9_fails hl ec) q6 mf_X9_fails tw_7_24 ts_6_7 lf_X9_95 rfl rfl dX9_guess_16 (by decide) rfl rfl (leb rfl) ?_
    cases Option.some.inj e
    exact x_iret (pc := 19) rfl dX9_guess_19
  · refine x_if_ne_t (pc := 11) (t := 20) dX9_guess_11 (by decide) q5 ?_
    refine x_iload_n (pc := 20) 2 dX9_guess_20 rfl ?_
    refine x_iconst (pc := 21) dX9_guess_21 ?_
    rcases ite_some e with ⟨q9, e⟩ | ⟨q9, e⟩
    · refine x_icmp_eq_t (pc := 22) (t := 39) dX9_guess_22 (by decide) q9 ?_
      exact p_X9_guess_L39 hl e
    · refine x_icmp_eq_f (pc := 22) (t := 39) dX9_guess_22 (by decide) q9 ?_
      refine x_aload_n (pc := 25) 0 dX9_guess_25 rfl ?_
      refine x_iload_n (pc := 26) 2 dX9_guess_26 rfl ?_
      obtain ⟨q10, e⟩ := chk_some e
      rcases bnd_some e with ⟨h11, r12, ec, rfl⟩ | ⟨h11, r12, ec, e⟩
      · exact y_callV_x (pc := 27) (c_X9_isColumn hl ec) q10 mf_X9_isColumn tw_7_39 ts_6_8 lf_X9_103 rfl rfl dX9_guess_27 (by decide) rfl rfl (leb rfl) (xx_out0 rfl)
      refine y_callV_i (pc := 27) (c_X9_isColumn hl ec) q10 mf_X9_isColumn tw_7_39 ts_6_8 lf_X9_103 rfl rfl dX9_guess_27 (by decide) rfl rfl (leb rfl) ?_
      rcases ite_some e with ⟨q13, e⟩ | ⟨q13, e⟩
      · refine x_if_ne_f (pc := 30) (t := 39) dX9_guess_30 (by decide) q13 ?_
        refine x_aload_n (pc := 33) 0 dX9_guess_33 rfl ?_
        refine x_iconst (pc := 34) dX9_guess_34 ?_
        obtain ⟨q14, e⟩ := chk_some e
        rcases bnd_some e with ⟨h15, r16, ec, rfl⟩ | ⟨h15, r16, ec, e⟩
        · exact y_callV_x (pc := 35) (c_X9_fails hl ec) q14 mf_X9_fails tw_7_24 ts_6_7 lf_X9_95 rfl rfl dX9_guess_35 (by decide) rfl rfl (leb rfl) (xx_out0 rfl)
        refine y_callV_i (pc := 35) (c_X9_fails hl ec) q14 mf_X9_fails tw_7_24 ts_6_7 lf_X9_95 rfl rfl dX9_guess_35 (by decide) rfl rfl (leb rfl) ?_
        cases Option.some.inj e
        exact x_iret (pc := 38) rfl dX9_guess_38
      · refine x_if_ne_t (pc := 30) (t := 39) dX9_guess_30 (by decide) q13 ?_
        exact p_X9_guess_L39 hl e
abbrev w_X9_guess : Cond := (Cond.code yX9_guess cX9_guess 3 (Option.some Jvm.ClassFile.FieldType.int))
theorem mf_X9_guess : MF yX9_guess w_X9_guess cX9_guess 3 (Option.some Jvm.ClassFile.FieldType.int) 2 := ⟨⟨rfl, tw_8_95, by decide⟩, tw_1_11, ⟨by decide, by decide⟩, by decide +kernel⟩
theorem c_X9_guess {l : Launch} {K : Ctx} (hl : l.stackTraces = false) {h : Hp} {a0 : Nat} {i1 : Int32} {i2 : Int32} {t : Rs Int32} (e : f_X9_guess h a0 i1 i2 = some t) : Ctr l K 15 yX9_guess w_X9_guess [.ref a0, .int i1, .int i2] h (tgI t) :=
  Ctr.of hl mf_X9_guess false (fun q => nomatch q) rfl (leb rfl) (p_X9_guess hl e)
/-! ## TableColumnBalancer.automaticWidths -/
abbrev mM_X8_automaticWidths : Mi := (9, yX8_automaticWidths.cls, cX8_automaticWidths, 1, (Option.some (Jvm.ClassFile.FieldType.array Jvm.ClassFile.FieldType.int)), [], false)
noncomputable def f_X8_automaticWidths (h : Hp) (a0 : Nat) : Option (Rs Nat) :=
  chk (okr h a0 8) <|
  chk (okr h (qR h a0 1) 3) <|
  bnd (f_X8_requireState h (qI h (qR h a0 1) 7)) fun h3 _ =>
  chk (okr h3 a0 8) <|
  chk (okr h3 (qR h3 a0 1) 3) <|
  chk (okr h3 (qR h3 (qR h3 a0 1) 6) 20) <|
  some (h3, .inr (qR h3 (qR h3 a0 1) 6))
theorem p_X8_automaticWidths {l : Launch} {K : Ctx} (hl : l.stackTraces = false) {h : Hp} {a0 : Nat} {t : Rs Nat} (e : f_X8_automaticWidths h a0 = some t) : X l K mM_X8_automaticWidths (tgR t) 0 [(0, .ref a0)] [] h := by
  unfold f_X8_automaticWidths at e
  refine x_aload_n (pc := 0) 0 dX8_automaticWidths_0 rfl ?_
  obtain ⟨q1, e⟩ := chk_some e
  obtain ⟨q2, e⟩ := chk_some e
  refine x_getR (pc := 1) gf_X8_21 rfl dX8_automaticWidths_1 q1 q2.1 ?_
  refine x_getI (pc := 4) gf_X8_343 rfl dX8_automaticWidths_4 q2 ?_
  rcases bnd_some e with ⟨h3, r4, ec, rfl⟩ | ⟨h3, r4, ec, e⟩
  · exact y_callS_x (pc := 7) (c_X8_requireState hl ec) mf_X8_requireState tw_3_155 lf_X8_84 dX8_automaticWidths_7 (by decide) rfl rfl (leb rfl) (xx_out0 rfl)
  refine y_callS_v (pc := 7) (c_X8_requireState hl ec) mf_X8_requireState tw_3_155 lf_X8_84 dX8_automaticWidths_7 (by decide) rfl rfl (leb rfl) ?_
  refine x_aload_n (pc := 10) 0 dX8_automaticWidths_10 rfl ?_
  obtain ⟨q5, e⟩ := chk_some e
  obtain ⟨q6, e⟩ := chk_some e
  refine x_getR (pc := 11) gf_X8_21 rfl dX8_automaticWidths_11 q5 q6.1 ?_
  obtain ⟨q7, e⟩ := chk_some e
  refine x_getR (pc := 14) gf_X8_346 rfl dX8_automaticWidths_14 q6 q7.1 ?_
  cases Option.some.inj e
  exact x_aret (pc := 17) rfl (Or.inr ⟨_, rfl⟩) dX8_automaticWidths_17
abbrev w_X8_automaticWidths : Cond := (Cond.code yX8_automaticWidths cX8_automaticWidths 1 (Option.some (Jvm.ClassFile.FieldType.array Jvm.ClassFile.FieldType.int)))
theorem mf_X8_automaticWidths : MF yX8_automaticWidths w_X8_automaticWidths cX8_automaticWidths 1 (Option.some (Jvm.ClassFile.FieldType.array Jvm.ClassFile.FieldType.int)) 0 := ⟨⟨rfl, tw_5_178, by decide⟩, tw_1_1, ⟨by decide, by decide⟩, by decide +kernel⟩
theorem c_X8_automaticWidths {l : Launch} {K : Ctx} (hl : l.stackTraces = false) {h : Hp} {a0 : Nat} {t : Rs Nat} (e : f_X8_automaticWidths h a0 = some t) : Ctr l K 9 yX8_automaticWidths w_X8_automaticWidths [.ref a0] h (tgR t) :=
  Ctr.of hl mf_X8_automaticWidths false (fun q => nomatch q) rfl (leb rfl) (p_X8_automaticWidths hl e)
/-! ## TableColumnBalancer.autoWidth -/
abbrev mM_X8_autoWidth : Mi := (10, yX8_autoWidth.cls, cX8_autoWidth, 2, (Option.some Jvm.ClassFile.FieldType.int), [], false)
noncomputable def f_X8_autoWidth (h : Hp) (a0 : Nat) (i1 : Int32) : Option (Rs Int32) :=
  chk (okr h a0 8) <|
  bnd (f_X8_requireColumn h a0 i1) fun h2 _ =>
  chk (okr h2 a0 8) <|
  bnd (f_X8_automaticWidths h2 a0) fun h5 r6 =>
  chk (okr h5 r6 20) <|
  chk (vp_in i1 (qW h5 r6)) <|
  some (h5, .inr (qI h5 r6 (Int32.toNatClampNeg i1)))
theorem p_X8_autoWidth {l : Launch} {K : Ctx} (hl : l.stackTraces = false) {h : Hp} {a0 : Nat} {i1 : Int32} {t : Rs Int32} (e : f_X8_autoWidth h a0 i1 = some t) : X l K mM_X8_autoWidth (tgI t) 0 [(0, .ref a0), (1, .int i1)] [] h := by
  unfold f_X8_autoWidth at e
  refine x_aload_n (pc := 0) 0 dX8_autoWidth_0 rfl ?_
  refine x_iload_n (pc := 1) 1 dX8_autoWidth_1 rfl ?_
  obtain ⟨q1, e⟩ := chk_some e
  rcases bnd_some e with ⟨h2, r3, ec, rfl⟩ | ⟨h2, r3, ec, e⟩
  · exact y_callV_x (pc := 2) (c_X8_requireColumn hl ec) q1 mf_X8_requireColumn tw_4_11 ts_3_6 lf_X8_108 rfl rfl dX8_autoWidth_2 (by decide) rfl rfl (leb rfl) (xx_out0 rfl)
  refine y_callV_v (pc := 2) (c_X8_requireColumn hl ec) q1 mf_X8_requireColumn tw_4_11 ts_3_6 lf_X8_108 rfl rfl dX8_autoWidth_2 (by decide) rfl rfl (leb rfl) ?_
  refine x_aload_n (pc := 5) 0 dX8_autoWidth_5 rfl ?_
  obtain ⟨q4, e⟩ := chk_some e
  rcases bnd_some e with ⟨h5, r6, ec, rfl⟩ | ⟨h5, r6, ec, e⟩
  · exact y_callV_x (pc := 6) (c_X8_automaticWidths hl ec) q4 mf_X8_automaticWidths tw_5_177 ts_5_11 lf_X8_259 rfl rfl dX8_autoWidth_6 (by decide) rfl rfl (leb rfl) (xx_out0 rfl)
  refine y_callV_i (pc := 6) (c_X8_automaticWidths hl ec) q4 mf_X8_automaticWidths tw_5_177 ts_5_11 lf_X8_259 rfl rfl dX8_autoWidth_6 (by decide) rfl rfl (leb rfl) ?_
  refine x_iload_n (pc := 9) 1 dX8_autoWidth_9 rfl ?_
  obtain ⟨q7, e⟩ := chk_some e
  obtain ⟨q8, e⟩ := chk_some e
  refine x_iald (pc := 10) dX8_autoWidth_10 q7 q8 ?_
  cases Option.some.inj e
  exact x_iret (pc := 11) rfl dX8_autoWidth_11
abbrev w_X8_autoWidth : Cond := (Cond.code yX8_autoWidth cX8_autoWidth 2 (Option.some Jvm.ClassFile.FieldType.int))
theorem mf_X8_autoWidth : MF yX8_autoWidth w_X8_autoWidth cX8_autoWidth 2 (Option.some Jvm.ClassFile.FieldType.int) 1 := ⟨⟨rfl, tw_5_174, by decide⟩, tw_1_1, ⟨by decide, by decide⟩, by decide +kernel⟩
theorem c_X8_autoWidth {l : Launch} {K : Ctx} (hl : l.stackTraces = false) {h : Hp} {a0 : Nat} {i1 : Int32} {t : Rs Int32} (e : f_X8_autoWidth h a0 i1 = some t) : Ctr l K 10 yX8_autoWidth w_X8_autoWidth [.ref a0, .int i1] h (tgI t) :=
  Ctr.of hl mf_X8_autoWidth false (fun q => nomatch q) rfl (leb rfl) (p_X8_autoWidth hl e)
/-! ## TableColumnBalancerLaw.autoWidth -/
abbrev mM_L_autoWidth : Mi := (11, yL_autoWidth.cls, cL_autoWidth, 4, (Option.some Jvm.ClassFile.FieldType.int), [((0 : Nat), (9 : Nat), (12 : Nat), (21 : Nat)), ((0 : Nat), (9 : Nat), (15 : Nat), (15 : Nat))], false)
noncomputable def f_L_autoWidth (h : Hp) (a0 : Nat) (i1 : Int32) (a2 : Nat) : Option (Rs Int32) :=
  chk (okr h a0 8) <|
  bndX (f_X8_autoWidth h a0 i1) (fun h2 r3 => (
    chk (okr h2 a2 21) <|
    chk (vp_in (iN 0) (qW h2 a2)) <|
    lt (putL h2 a2 (Int32.toNatClampNeg (iN 0)) (Int32.toInt64 r3)) fun h6 =>
    some (h6, .inr (iN 0))
  )) fun h2 k =>
  if k = 2 then (
    some (h2, .inr (iN 1))
  ) else
  if k = 0 then (
    some (h2, .inr (iN 2))
  ) else
  none
theorem p_L_autoWidth {l : Launch} {K : Ctx} (hl : l.stackTraces = false) {h : Hp} {a0 : Nat} {i1 : Int32} {a2 : Nat} {t : Rs Int32} (e : f_L_autoWidth h a0 i1 a2 = some t) : X l K mM_L_autoWidth (tgI t) 0 [(0, .ref a0), (1, .int i1), (2, .ref a2)] [] h := by
  unfold f_L_autoWidth at e
  refine x_aload_n (pc := 0) 2 dL_autoWidth_0 rfl ?_
  refine x_iconst (pc := 1) dL_autoWidth_1 ?_
  refine x_aload_n (pc := 2) 0 dL_autoWidth_2 rfl ?_
  refine x_iload_n (pc := 3) 1 dL_autoWidth_3 rfl ?_
  obtain ⟨q1, e⟩ := chk_some e
  rcases bndX_some e with ⟨h2, k, ec, e⟩ | ⟨h2, r3, ec, e⟩
  · rcases ite_some e with ⟨q7, e⟩ | ⟨q7, e⟩
    · subst q7
      refine y_callV_x (pc := 4) (c_X8_autoWidth hl ec) q1 mf_X8_autoWidth tw_5_172 tw_5_173 lf_L_87 rfl rfl dL_autoWidth_4 (by decide) rfl rfl (leb rfl) (xx_catch (pc := 4) [] [(0, 9, 15, 15)] (0, 9, 12, 21) rfl (by decide) (fun _ hz => absurd hz List.not_mem_nil) (by decide) (by decide) tw_3_187 tw_3_229 dL_autoWidth_12 (by decide) rfl ?_)
      refine x_iconst (pc := 13) dL_autoWidth_13 ?_
      cases Option.some.inj e
      exact x_iret (pc := 14) rfl dL_autoWidth_14
    rcases ite_some e with ⟨q8, e⟩ | ⟨q8, e⟩
    · subst q8
      refine y_callV_x (pc := 4) (c_X8_autoWidth hl ec) q1 mf_X8_autoWidth tw_5_172 tw_5_173 lf_L_87 rfl rfl dL_autoWidth_4 (by decide) rfl rfl (leb rfl) (xx_catch (pc := 4) [(0, 9, 12, 21)] [] (0, 9, 15, 15) rfl (by decide) (List.forall_mem_cons.mpr ⟨⟨by decide, 2, by decide, by decide, tw_3_187⟩, fun _ hz => absurd hz List.not_mem_nil⟩) (by decide) (by decide) tw_3_77 tw_3_159 dL_autoWidth_15 (by decide) rfl ?_)
      refine x_iconst (pc := 16) dL_autoWidth_16 ?_
      cases Option.some.inj e
      exact x_iret (pc := 17) rfl dL_autoWidth_17
    cases e
  refine y_callV_i (pc := 4) (c_X8_autoWidth hl ec) q1 mf_X8_autoWidth tw_5_172 tw_5_173 lf_L_87 rfl rfl dL_autoWidth_4 (by decide) rfl rfl (leb rfl) ?_
  refine x_i2l (pc := 7) dL_autoWidth_7 ?_
  obtain ⟨q4, e⟩ := chk_some e
  obtain ⟨q5, e⟩ := chk_some e
  replace e := lt_go e
  refine x_last (pc := 8) dL_autoWidth_8 q4 q5 ?_
  refine x_goto (pc := 9) (t := 18) dL_autoWidth_9 (by decide) ?_
  refine x_iconst (pc := 18) dL_autoWidth_18 ?_
  cases Option.some.inj e
  exact x_iret (pc := 19) rfl dL_autoWidth_19
abbrev w_L_autoWidth : Cond := (Cond.codeWith yL_autoWidth cL_autoWidth 4 (Option.some Jvm.ClassFile.FieldType.int) [((0 : Nat), (9 : Nat), (12 : Nat), (21 : Nat)), ((0 : Nat), (9 : Nat), (15 : Nat), (15 : Nat))])
theorem mf_L_autoWidth : MFX yL_autoWidth w_L_autoWidth cL_autoWidth 4 (Option.some Jvm.ClassFile.FieldType.int) 3 [((0 : Nat), (9 : Nat), (12 : Nat), (21 : Nat)), ((0 : Nat), (9 : Nat), (15 : Nat), (15 : Nat))] := ⟨⟨rfl, tw_5_170, by decide⟩, tw_1_0, ⟨by decide, by decide⟩, by decide +kernel⟩
theorem c_L_autoWidth {l : Launch} {K : Ctx} (hl : l.stackTraces = false) {h : Hp} {a0 : Nat} {i1 : Int32} {a2 : Nat} {t : Rs Int32} (e : f_L_autoWidth h a0 i1 a2 = some t) : Ctr l K 11 yL_autoWidth w_L_autoWidth [.ref a0, .int i1, .ref a2] h (tgI t) :=
  Ctr.ofX hl mf_L_autoWidth rfl (leb rfl) (p_L_autoWidth hl e)
/-! ## TableColumnBalancerModel.weighsRest -/
abbrev mM_X9_weighsRest : Mi := (10, yX9_weighsRest.cls, cX9_weighsRest, 4, (Option.some Jvm.ClassFile.FieldType.int), [], false)
noncomputable def f_X9_weighsRest_L112 (k60 : Hp → Nat → Int32 → Int32 → Int32 → Option (Rs Int32)) (h : Hp) (a0 : Nat) (i1 : Int32) (i2 : Int32) (i3 : Int32) (s0 : Int32) (s1 : Int32) (s2 : Nat) : Option (Rs Int32) :=
  chk (okr h s2 20) <|
  chk (vp_in s1 (qW h s2)) <|
  lt (putI h s2 (Int32.toNatClampNeg s1) s0) fun h3 =>
  k60 h3 a0 i1 i2 (i3 + iN 1)
theorem p_X9_weighsRest_L112 {l : Launch} {K : Ctx} (hl : l.stackTraces = false) {k60 : Hp → Nat → Int32 → Int32 → Int32 → Option (Rs Int32)} (hk60 : ∀ (h : Hp) (a0 : Nat) (i1 : Int32) (i2 : Int32) (i3 : Int32) (t : Rs Int32), k60 h a0 i1 i2 i3 = some t → X l K mM_X9_weighsRest (tgI t) 60 [(0, .ref a0), (1, .int i1), (2, .int i2), (3, .int i3)] [] h) {h : Hp} {a0 : Nat} {i1 : Int32} {i2 : Int32} {i3 : Int32} {s0 : Int32} {s1 : Int32} {s2 : Nat} {t : Rs Int32} (e : f_X9_weighsRest_L112 k60 h a0 i1 i2 i3 s0 s1 s2 = some t) : X l K mM_X9_weighsRest (tgI t) 112 [(0, .ref a0), (1, .int i1), (2, .int i2), (3, .int i3)] [.int s0, .int s1, .ref s2] h := by
  unfold f_X9_weighsRest_L112 at e
  obtain ⟨q1, e⟩ := chk_some e
  obtain ⟨q2, e⟩ := chk_some e
  replace e := lt_go e
  refine x_iast (pc := 112) dX9_weighsRest_112 q1 q2 ?_
  refine x_iinc (pc := 113) 3 dX9_weighsRest_113 rfl (by decide) rfl ?_
  refine x_goto (pc := 116) (t := 60) dX9_weighsRest_116 (by decide) ?_
  exact x_sub1 (hk60 _ _ _ _ _ _ e) [1, 2, 3, 0] rfl
noncomputable def f_X9_weighsRest_B60 (k60 : Hp → Nat → Int32 → Int32 → Int32 → Option (Rs Int32)) (h : Hp) (a0 : Nat) (i1 : Int32) (i2 : Int32) (i3 : Int32) : Option (Rs Int32) :=
  chk (okr h a0 9) <|
  chk (okr h (qR h a0 1) 20) <|
  chk (vp_in (iN 0) (qW h (qR h a0 1))) <|
  if (qI h (qR h a0 1) (Int32.toNatClampNeg (iN 0))) ≤ i3 then (
    if i1 ≤ 0 then (
      if i2 ≤ 0 then (
        some (h, .inr (iN 15))
      ) else (
        some (h, .inr i2)
      )
    ) else (
      some (h, .inr i1)
    )
  ) else (
    chk (okr h (qR h a0 24) 20) <|
    if i1 ≤ 0 then (
      if i2 ≤ 0 then (
        chk (okr h (qR h a0 23) 20) <|
        chk (vp_in i3 (qW h (qR h a0 23))) <|
        f_X9_weighsRest_L112 k60 h a0 i1 i2 i3 ((qI h (qR h a0 23) (Int32.toNatClampNeg i3)) + (iN 1)) i3 (qR h a0 24)
      ) else (
        chk (okr h (qR h a0 26) 20) <|
        chk (vp_in ((iN 12) + i3) (qW h (qR h a0 26))) <|
        f_X9_weighsRest_L112 k60 h a0 i1 i2 i3 (qI h (qR h a0 26) (Int32.toNatClampNeg ((iN 12) + i3))) i3 (qR h a0 24)
      )
    ) else (
      chk (okr h (qR h a0 22) 20) <|
      chk (vp_in i3 (qW h (qR h a0 22))) <|
      f_X9_weighsRest_L112 k60 h a0 i1 i2 i3 (qI h (qR h a0 22) (Int32.toNatClampNeg i3)) i3 (qR h a0 24)
    )
  )
theorem p_X9_weighsRest_B60 {l : Launch} {K : Ctx} (hl : l.stackTraces = false) {k60 : Hp → Nat → Int32 → Int32 → Int32 → Option (Rs Int32)} (hk60 : ∀ (h : Hp) (a0 : Nat) (i1 : Int32) (i2 : Int32) (i3 : Int32) (t : Rs Int32), k60 h a0 i1 i2 i3 = some t → X l K mM_X9_weighsRest (tgI t) 60 [(0, .ref a0), (1, .int i1), (2, .int i2), (3, .int i3)] [] h) {h : Hp} {a0 : Nat} {i1 : Int32} {i2 : Int32} {i3 : Int32} {t : Rs Int32} (e : f_X9_weighsRest_B60 k60 h a0 i1 i2 i3 = some t) : X l K mM_X9_weighsRest (tgI t) 60 [(0, .ref a0), (1, .int i1), (2, .int i2), (3, .int i3)] [] h := by
  unfold f_X9_weighsRest_B60 at e
  refine x_iload_n (pc := 60) 3 dX9_weighsRest_60 rfl ?_
  refine x_aload_n (pc := 61) 0 dX9_weighsRest_61 rfl ?_
  obtain ⟨q1, e⟩ := chk_some e
  obtain ⟨q2, e⟩ := chk_some e
  refine x_getR (pc := 62) gf_X9_9 rfl dX9_weighsRest_62 q1 q2.1 ?_
  refine x_iconst (pc := 65) dX9_weighsRest_65 ?_
  obtain ⟨q3, e⟩ := chk_some e
  refine x_iald (pc := 66) dX9_weighsRest_66 q2 q3 ?_
  rcases ite_some e with ⟨q4, e⟩ | ⟨q4, e⟩
  · refine x_icmp_ge_t (pc := 67) (t := 119) dX9_weighsRest_67 (by decide) q4 ?_
    refine x_iload_n (pc := 119) 1 dX9_weighsRest_119 rfl ?_
    rcases ite_some e with ⟨q5, e⟩ | ⟨q5, e⟩
    · refine x_if_le_t (pc := 120) (t := 127) dX9_weighsRest_120 (by decide) q5 ?_
      refine x_iload_n (pc := 127) 2 dX9_weighsRest_127 rfl ?_
      rcases ite_some e with ⟨q6, e⟩ | ⟨q6, e⟩
      · refine x_if_le_t (pc := 128) (t := 135) dX9_weighsRest_128 (by decide) q6 ?_
        refine x_bipush (pc := 135) (v := iN 15) dX9_weighsRest_135 rfl ?_
        cases Option.some.inj e
        exact x_iret (pc := 137) rfl dX9_weighsRest_137
      · refine x_if_le_f (pc := 128) (t := 135) dX9_weighsRest_128 (by decide) q6 ?_
        refine x_iload_n (pc := 131) 2 dX9_weighsRest_131 rfl ?_
        refine x_goto (pc := 132) (t := 137) dX9_weighsRest_132 (by decide) ?_
        cases Option.some.inj e
        exact x_iret (pc := 137) rfl dX9_weighsRest_137
    · refine x_if_le_f (pc := 120) (t := 127) dX9_weighsRest_120 (by decide) q5 ?_
      refine x_iload_n (pc := 123) 1 dX9_weighsRest_123 rfl ?_
      refine x_goto (pc := 124) (t := 137) dX9_weighsRest_124 (by decide) ?_
      cases Option.some.inj e
      exact x_iret (pc := 137) rfl dX9_weighsRest_137
  · refine x_icmp_ge_f (pc := 67) (t := 119) dX9_weighsRest_67 (by decide) q4 ?_
    refine x_aload_n (pc := 70) 0 dX9_weighsRest_70 rfl ?_
    obtain ⟨q7, e⟩ := chk_some e
    refine x_getR (pc := 71) gf_X9_57 rfl dX9_weighsRest_71 q1 q7.1 ?_
    refine x_iload_n (pc := 74) 3 dX9_weighsRest_74 rfl ?_
    refine x_iload_n (pc := 75) 1 dX9_weighsRest_75 rfl ?_
    rcases ite_some e with ⟨q8, e⟩ | ⟨q8, e⟩
    · refine x_if_le_t (pc := 76) (t := 88) dX9_weighsRest_76 (by decide) q8 ?_
      refine x_iload_n (pc := 88) 2 dX9_weighsRest_88 rfl ?_
      rcases ite_some e with ⟨q9, e⟩ | ⟨q9, e⟩
      · refine x_if_le_t (pc := 89) (t := 104) dX9_weighsRest_89 (by decide) q9 ?_
        refine x_aload_n (pc := 104) 0 dX9_weighsRest_104 rfl ?_
        obtain ⟨q10, e⟩ := chk_some e
        refine x_getR (pc := 105) gf_X9_54 rfl dX9_weighsRest_105 q1 q10.1 ?_
        refine x_iload_n (pc := 108) 3 dX9_weighsRest_108 rfl ?_
        obtain ⟨q11, e⟩ := chk_some e
        refine x_iald (pc := 109) dX9_weighsRest_109 q10 q11 ?_
        refine x_iconst (pc := 110) dX9_weighsRest_110 ?_
        refine x_iadd (pc := 111) dX9_weighsRest_111 ?_
        exact p_X9_weighsRest_L112 hl hk60 e
      · refine x_if_le_f (pc := 89) (t := 104) dX9_weighsRest_89 (by decide) q9 ?_
        refine x_aload_n (pc := 92) 0 dX9_weighsRest_92 rfl ?_
        obtain ⟨q12, e⟩ := chk_some e
        refine x_getR (pc := 93) gf_X9_63 rfl dX9_weighsRest_93 q1 q12.1 ?_
        refine x_bipush (pc := 96) (v := iN 12) dX9_weighsRest_96 rfl ?_
        refine x_iload_n (pc := 98) 3 dX9_weighsRest_98 rfl ?_
        refine x_iadd (pc := 99) dX9_weighsRest_99 ?_
        obtain ⟨q13, e⟩ := chk_some e
        refine x_iald (pc := 100) dX9_weighsRest_100 q12 q13 ?_
        refine x_goto (pc := 101) (t := 112) dX9_weighsRest_101 (by decide) ?_
        exact p_X9_weighsRest_L112 hl hk60 e
    · refine x_if_le_f (pc := 76) (t := 88) dX9_weighsRest_76 (by decide) q8 ?_
      refine x_aload_n (pc := 79) 0 dX9_weighsRest_79 rfl ?_
      obtain ⟨q14, e⟩ := chk_some e
      refine x_getR (pc := 80) gf_X9_51 rfl dX9_weighsRest_80 q1 q14.1 ?_
      refine x_iload_n (pc := 83) 3 dX9_weighsRest_83 rfl ?_
      obtain ⟨q15, e⟩ := chk_some e
      refine x_iald (pc := 84) dX9_weighsRest_84 q14 q15 ?_
      refine x_goto (pc := 85) (t := 112) dX9_weighsRest_85 (by decide) ?_
      exact p_X9_weighsRest_L112 hl hk60 e
noncomputable def f_X9_weighsRest_L60 (n : Nat) : Hp → Nat → Int32 → Int32 → Int32 → Option (Rs Int32) := Nat.rec (motive := fun _ => Hp → Nat → Int32 → Int32 → Int32 → Option (Rs Int32)) (fun _ _ _ _ _ => none) (fun _ r => f_X9_weighsRest_B60 r) n
theorem p_X9_weighsRest_L60 {l : Launch} {K : Ctx} (hl : l.stackTraces = false) : ∀ (n : Nat) (h : Hp) (a0 : Nat) (i1 : Int32) (i2 : Int32) (i3 : Int32) (t : Rs Int32) (e : f_X9_weighsRest_L60 n h a0 i1 i2 i3 = some t), X l K mM_X9_weighsRest (tgI t) 60 [(0, .ref a0), (1, .int i1), (2, .int i2), (3, .int i3)] [] h := by
  intro n
  induction n with
  | zero => exact fun _ _ _ _ _ _ e => nomatch (show (none : Option (Rs Int32)) = some _ from e)
  | succ n ih => exact fun h a0 i1 i2 i3 t e => p_X9_weighsRest_B60 hl (fun h a0 i1 i2 i3 t e => ih h a0 i1 i2 i3 t e) e
noncomputable def f_X9_weighsRest_L50 (k6 : Hp → Nat → Int32 → Int32 → Int32 → Option (Rs Int32)) (h : Hp) (a0 : Nat) (i1 : Int32) (i3 : Int32) (s0 : Int32) (s1 : Int32) : Option (Rs Int32) :=
  k6 h a0 i1 (s1 ||| s0) (i3 + iN 1)
theorem p_X9_weighsRest_L50 {l : Launch} {K : Ctx} (hl : l.stackTraces = false) {k6 : Hp → Nat → Int32 → Int32 → Int32 → Option (Rs Int32)} (hk6 : ∀ (h : Hp) (a0 : Nat) (i1 : Int32) (i2 : Int32) (i3 : Int32) (t : Rs Int32), k6 h a0 i1 i2 i3 = some t → X l K mM_X9_weighsRest (tgI t) 6 [(0, .ref a0), (1, .int i1), (2, .int i2), (3, .int i3)] [] h) {h : Hp} {a0 : Nat} {i1 : Int32} {i3 : Int32} {s0 : Int32} {s1 : Int32} {t : Rs Int32} (e : f_X9_weighsRest_L50 k6 h a0 i1 i3 s0 s1 = some t) : X l K mM_X9_weighsRest (tgI t) 50 [(0, .ref a0), (1, .int i1), (3, .int i3)] [.int s0, .int s1] h := by
  unfold f_X9_weighsRest_L50 at e
  refine x_ior (pc := 50) dX9_weighsRest_50 ?_
  refine x_istore_n (pc := 51) dX9_weighsRest_51 (by decide) rfl ?_
  refine x_iinc (pc := 52) 3 dX9_weighsRest_52 rfl (by decide) rfl ?_
  refine x_goto (pc := 55) (t := 6) dX9_weighsRest_55 (by decide) ?_
  exact x_sub1 (hk6 _ _ _ _ _ _ e) [2, 3, 1, 0] rfl
noncomputable def f_X9_weighsRest_L32 (k6 : Hp → Nat → Int32 → Int32 → Int32 → Option (Rs Int32)) (h : Hp) (a0 : Nat) (i2 : Int32) (i3 : Int32) (s0 : Int32) (s1 : Int32) : Option (Rs Int32) :=
  chk (okr h a0 9) <|
  bnd (f_X9_isFixed h a0 i3) fun h2 r3 =>
  if r3 = 0 then (
    f_X9_weighsRest_L50 k6 h2 a0 (s1 ||| s0) i3 (iN 0) i2
  ) else (
    f_X9_weighsRest_L50 k6 h2 a0 (s1 ||| s0) i3 ((iN 1) <<< (i3 &&& 31)) i2
  )
theorem p_X9_weighsRest_L32 {l : Launch} {K : Ctx} (hl : l.stackTraces = false) {k6 : Hp → Nat → Int32 → Int32 → Int32 → Option (Rs Int32)} (hk6 : ∀ (h : Hp) (a0 : Nat) (i1 : Int32) (i2 : Int32) (i3 : Int32) (t : Rs Int32), k6 h a0 i1 i2 i3 = some t → X l K mM_X9_weighsRest (tgI t) 6 [(0, .ref a0), (1, .int i1), (2, .int i2), (3, .int i3)] [] h) {h : Hp} {a0 : Nat} {i2 : Int32} {i3 : Int32} {s0 : Int32} {s1 : Int32} {t : Rs Int32} (e : f_X9_weighsRest_L32 k6 h a0 i2 i3 s0 s1 = some t) : X l K mM_X9_weighsRest (tgI t) 32 [(0, .ref a0), (2, .int i2), (3, .int i3)] [.int s0, .int s1] h := by
  unfold f_X9_weighsRest_L32 at e
  refine x_ior (pc := 32) dX9_weighsRest_32 ?_
  refine x_istore_n (pc := 33) dX9_weighsRest_33 (by decide) rfl ?_
  refine x_iload_n (pc := 34) 2 dX9_weighsRest_34 rfl ?_
  refine x_aload_n (pc := 35) 1 dX9_weighsRest_35 rfl ?_
  refine x_iload_n (pc := 36) 3 dX9_weighsRest_36 rfl ?_
  obtain ⟨q1, e⟩ := chk_some e
  rcases bnd_some e with ⟨h2, r3, ec, rfl⟩ | ⟨h2, r3, ec, e⟩
  · exact y_callV_x (pc := 37) (c_X9_isFixed hl ec) q1 mf_X9_isFixed tw_8_66 ts_9_3 lf_X9_302 rfl rfl dX9_weighsRest_37 (by decide) rfl rfl (leb rfl) (xx_out0 rfl)
  refine y_callV_i (pc := 37) (c_X9_isFixed hl ec) q1 mf_X9_isFixed tw_8_66 ts_9_3 lf_X9_302 rfl rfl dX9_weighsRest_37 (by decide) rfl rfl (leb rfl) ?_
  rcases ite_some e with ⟨q4, e⟩ | ⟨q4, e⟩
  · refine x_if_eq_t (pc := 40) (t := 49) dX9_weighsRest_40 (by decide) q4 ?_
    refine x_iconst (pc := 49) dX9_weighsRest_49 ?_
    exact x_sub1 (p_X9_weighsRest_L50 hl hk6 e) [1, 0, 3] rfl
  · refine x_if_eq_f (pc := 40) (t := 49) dX9_weighsRest_40 (by decide) q4 ?_
    refine x_iconst (pc := 43) dX9_weighsRest_43 ?_
    refine x_iload_n (pc := 44) 3 dX9_weighsRest_44 rfl ?_
    refine x_ishl (pc := 45) dX9_weighsRest_45 ?_
    refine x_goto (pc := 46) (t := 50) dX9_weighsRest_46 (by decide) ?_
    exact x_sub1 (p_X9_weighsRest_L50 hl hk6 e) [1, 0, 3] rfl
noncomputable def f_X9_weighsRest_B6 (k6 : Hp → Nat → Int32 → Int32 → Int32 → Option (Rs Int32)) (h : Hp) (a0 : Nat) (i1 : Int32) (i2 : Int32) (i3 : Int32) : Option (Rs Int32) :=
  chk (okr h a0 9) <|
  chk (okr h (qR h a0 1) 20) <|
  chk (vp_in (iN 0) (qW h (qR h a0 1))) <|
  if (qI h (qR h a0 1) (Int32.toNatClampNeg (iN 0))) ≤ i3 then (
    f_X9_weighsRest_L60 2000 h a0 i1 i2 (iN 0)
  ) else (
    bnd (f_X9_isAuto h a0 i3) fun h5 r6 =>
    if r6 = 0 then (
      f_X9_weighsRest_L32 k6 h5 a0 i2 i3 (iN 0) i1
    ) else (
      f_X9_weighsRest_L32 k6 h5 a0 i2 i3 ((iN 1) <<< (i3 &&& 31)) i1
    )
  )
theorem p_X9_weighsRest_B6 {l : Launch} {K : Ctx} (hl : l.stackTraces = false) {k6 : Hp → Nat → Int32 → Int32 → Int32 → Option (Rs Int32)} (hk6 : ∀ (h : Hp) (a0 : Nat) (i1 : Int32) (i2 : Int32) (i3 : Int32) (t : Rs Int32), k6 h a0 i1 i2 i3 = some t → X l K mM_X9_weighsRest (tgI t) 6 [(0, .ref a0), (1, .int i1), (2, .int i2), (3, .int i3)] [] h) {h : Hp} {a0 : Nat} {i1 : Int32} {i2 : Int32} {i3 : Int32} {t : Rs Int32} (e : f_X9_weighsRest_B6 k6 h a0 i1 i2 i3 = some t) : X l K mM_X9_weighsRest (tgI t) 6 [(0, .ref a0), (1, .int i1), (2, .int i2), (3, .int i3)] [] h := by
  unfold f_X9_weighsRest_B6 at e
  refine x_iload_n (pc := 6) 3 dX9_weighsRest_6 rfl ?_
  refine x_aload_n (pc := 7) 0 dX9_weighsRest_7 rfl ?_
  obtain ⟨q1, e⟩ := chk_some e
  obtain ⟨q2, e⟩ := chk_some e
  refine x_getR (pc := 8) gf_X9_9 rfl dX9_weighsRest_8 q1 q2.1 ?_
  refine x_iconst (pc := 11) dX9_weighsRest_11 ?_
  obtain ⟨q3, e⟩ := chk_some e
  refine x_iald (pc := 12) dX9_weighsRest_12 q2 q3 ?_
  rcases ite_some e with ⟨q4, e⟩ | ⟨q4, e⟩
  · refine x_icmp_ge_t (pc := 13) (t := 58) dX9_weighsRest_13 (by decide) q4 ?_
    refine x_iconst (pc := 58) dX9_weighsRest_58 ?_
    refine x_istore_n (pc := 59) dX9_weighsRest_59 (by decide) rfl ?_
    exact x_sub1 (p_X9_weighsRest_L60 hl 2000 _ _ _ _ _ _ e) [1, 2, 3, 0] rfl
  · refine x_icmp_ge_f (pc := 13) (t := 58) dX9_weighsRest_13 (by decide) q4 ?_
    refine x_iload_n (pc := 16) 1 dX9_weighsRest_16 rfl ?_
    refine x_aload_n (pc := 17) 0 dX9_weighsRest_17 rfl ?_
    refine x_iload_n (pc := 18) 3 dX9_weighsRest_18 rfl ?_
    rcases bnd_some e with ⟨h5, r6, ec, rfl⟩ | ⟨h5, r6, ec, e⟩
    · exact y_callV_x (pc := 19) (c_X9_isAuto hl ec) q1 mf_X9_isAuto tw_8_106 ts_9_11 lf_X9_326 rfl rfl dX9_weighsRest_19 (by decide) rfl rfl (leb rfl) (xx_out0 rfl)
    refine y_callV_i (pc := 19) (c_X9_isAuto hl ec) q1 mf_X9_isAuto tw_8_106 ts_9_11 lf_X9_326 rfl rfl dX9_weighsRest_19 (by decide) rfl rfl (leb rfl) ?_
    rcases ite_some e with ⟨q7, e⟩ | ⟨q7, e⟩
    · refine x_if_eq_t (pc := 22) (t := 31) dX9_weighsRest_22 (by decide) q7 ?_
      refine x_iconst (pc := 31) dX9_weighsRest_31 ?_
      exact x_sub1 (p_X9_weighsRest_L32 hl hk6 e) [0, 2, 3] rfl
    · refine x_if_eq_f (pc := 22) (t := 31) dX9_weighsRest_22 (by decide) q7 ?_
      refine x_iconst (pc := 25) dX9_weighsRest_25 ?_
      refine x_iload_n (pc := 26) 3 dX9_weighsRest_26 rfl ?_
      refine x_ishl (pc := 27) dX9_weighsRest_27 ?_
      refine x_goto (pc := 28) (t := 32) dX9_weighsRest_28 (by decide) ?_
      exact x_sub1 (p_X9_weighsRest_L32 hl hk6 e) [0, 2, 3] rfl
noncomputable def f_X9_weighsRest_L6 (n : Nat) : Hp → Nat → Int32 → Int32 → Int32 → Option (Rs Int32) := Nat.rec (motive := fun _ => Hp → Nat → Int32 → Int32 → Int32 → Option (Rs Int32)) (fun _ _ _ _ _ => none) (fun _ r => f_X9_weighsRest_B6 r) n
theorem p_X9_weighsRest_L6 {l : Launch} {K : Ctx} (hl : l.stackTraces = false) : ∀ (n : Nat) (h : Hp) (a0 : Nat) (i1 : Int32) (i2 : Int32) (i3 : Int32) (t : Rs Int32) (e : f_X9_weighsRest_L6 n h a0 i1 i2 i3 = some t), X l K mM_X9_weighsRest (tgI t) 6 [(0, .ref a0), (1, .int i1), (2, .int i2), (3, .int i3)] [] h := by
  intro n
  induction n with
  | zero => exact fun _ _ _ _ _ _ e => nomatch (show (none : Option (Rs Int32)) = some _ from e)
  | succ n ih => exact fun h a0 i1 i2 i3 t e => p_X9_weighsRest_B6 hl (fun h a0 i1 i2 i3 t e => ih h a0 i1 i2 i3 t e) e
noncomputable def f_X9_weighsRest (h : Hp) (a0 : Nat) : Option (Rs Int32) :=
  f_X9_weighsRest_L6 2000 h a0 (iN 0) (iN 0) (iN 0)
theorem p_X9_weighsRest {l : Launch} {K : Ctx} (hl : l.stackTraces = false) {h : Hp} {a0 : Nat} {t : Rs Int32} (e : f_X9_weighsRest h a0 = some t) : X l K mM_X9_weighsRest (tgI t) 0 [(0, .ref a0)] [] h := by
  unfold f_X9_weighsRest at e
  refine x_iconst (pc := 0) dX9_weighsRest_0 ?_
  refine x_istore_n (pc := 1) dX9_weighsRest_1 (by decide) rfl ?_
  refine x_iconst (pc := 2) dX9_weighsRest_2 ?_
  refine x_istore_n (pc := 3) dX9_weighsRest_3 (by decide) rfl ?_
  refine x_iconst (pc := 4) dX9_weighsRest_4 ?_
  refine x_istore_n (pc := 5) dX9_weighsRest_5 (by decide) rfl ?_
  exact x_sub1 (p_X9_weighsRest_L6 hl 2000 _ _ _ _ _ _ e) [3, 2, 1, 0] rfl
abbrev w_X9_weighsRest : Cond := (Cond.code yX9_weighsRest cX9_weighsRest 4 (Option.some Jvm.ClassFile.FieldType.int))
theorem mf_X9_weighsRest : MF yX9_weighsRest w_X9_weighsRest cX9_weighsRest 4 (Option.some Jvm.ClassFile.FieldType.int) 0 := ⟨⟨rfl, tw_8_123, by decide⟩, tw_1_11, ⟨by decide, by decide⟩, by decide +kernel⟩
theorem c_X9_weighsRest {l : Launch} {K : Ctx} (hl : l.stackTraces = false) {h : Hp} {a0 : Nat} {t : Rs Int32} (e : f_X9_weighsRest h a0 = some t) : Ctr l K 10 yX9_weighsRest w_X9_weighsRest [.ref a0] h (tgI t) :=
  Ctr.of hl mf_X9_weighsRest false (fun q => nomatch q) rfl (leb rfl) (p_X9_weighsRest hl e)
/-! ## TableColumnBalancerModel.laysOut -/
abbrev mM_X9_laysOut : Mi := (15, yX9_laysOut.cls, cX9_laysOut, 6, (Option.some Jvm.ClassFile.FieldType.boolean), [], false)
noncomputable def f_X9_laysOut_B160 (k160 : Hp → Nat → Int32 → Int32 → Option (Rs Int32)) (h : Hp) (a0 : Nat) (i3 : Int32) (i5 : Int32) : Option (Rs Int32) :=
  chk (okr h a0 9) <|
  chk (okr h (qR h a0 1) 20) <|
  chk (vp_in (iN 0) (qW h (qR h a0 1))) <|
  if (qI h (qR h a0 1) (Int32.toNatClampNeg (iN 0))) ≤ i5 then (
    some (h, .inr (iN 1))
  ) else (
    chk (okr h (qR h a0 27) 20) <|
    chk (okr h (qR h a0 26) 20) <|
    chk (vp_in (((iN 4) * i3) + i5) (qW h (qR h a0 26))) <|
    chk (okr h (qR h a0 25) 20) <|
    chk (vp_in i5 (qW h (qR h a0 25))) <|
    chk (vp_in i5 (qW h (qR h a0 27))) <|
    lt (putI h (qR h a0 27) (Int32.toNatClampNeg i5) ((qI h (qR h a0 26) (Int32.toNatClampNeg (((iN 4) * i3) + i5))) + (qI h (qR h a0 25) (Int32.toNatClampNeg i5)))) fun h11 =>
    k160 h11 a0 i3 (i5 + iN 1)
  )
theorem p_X9_laysOut_B160 {l : Launch} {K : Ctx} (hl : l.stackTraces = false) {k160 : Hp → Nat → Int32 → Int32 → Option (Rs Int32)} (hk160 : ∀ (h : Hp) (a0 : Nat) (i3 : Int32) (i5 : Int32) (t : Rs Int32), k160 h a0 i3 i5 = some t → X l K mM_X9_laysOut (tgI t) 160 [(0, .ref a0), (3, .int i3), (5, .int i5)] [] h) {h : Hp} {a0 : Nat} {i3 : Int32} {i5 : Int32} {t : Rs Int32} (e : f_X9_laysOut_B160 k160 h a0 i3 i5 = some t) : X l K mM_X9_laysOut (tgI t) 160 [(0, .ref a0), (3, .int i3), (5, .int i5)] [] h := by
  unfold f_X9_laysOut_B160 at e
  refine x_iload (pc := 160) 2 dX9_laysOut_160 rfl ?_
  refine x_aload_n (pc := 162) 0 dX9_laysOut_162 rfl ?_
  obtain ⟨q1, e⟩ := chk_some e
  obtain ⟨q2, e⟩ := chk_some e
  refine x_getR (pc := 163) gf_X9_9 rfl dX9_laysOut_163 q1 q2.1 ?_
  refine x_iconst (pc := 166) dX9_laysOut_166 ?_
  obtain ⟨q3, e⟩ := chk_some e
  refine x_iald (pc := 167) dX9_laysOut_167 q2 q3 ?_
  rcases ite_some e with ⟨q4, e⟩ | ⟨q4, e⟩
  · refine x_icmp_ge_t (pc := 168) (t := 203) dX9_laysOut_168 (by decide) q4 ?_
    refine x_iconst (pc := 203) dX9_laysOut_203 ?_
    cases Option.some.inj e
    exact x_zret (pc := 204) rfl (Or.inr rfl) dX9_laysOut_204
  · refine x_icmp_ge_f (pc := 168) (t := 203) dX9_laysOut_168 (by decide) q4 ?_
    refine x_aload_n (pc := 171) 0 dX9_laysOut_171 rfl ?_
    obtain ⟨q5, e⟩ := chk_some e
    refine x_getR (pc := 172) gf_X9_66 rfl dX9_laysOut_172 q1 q5.1 ?_
    refine x_iload (pc := 175) 2 dX9_laysOut_175 rfl ?_
    refine x_aload_n (pc := 177) 0 dX9_laysOut_177 rfl ?_
    obtain ⟨q6, e⟩ := chk_some e
    refine x_getR (pc := 178) gf_X9_63 rfl dX9_laysOut_178 q1 q6.1 ?_
    refine x_iconst (pc := 181) dX9_laysOut_181 ?_
    refine x_iload_n (pc := 182) 1 dX9_laysOut_182 rfl ?_
    refine x_imul (pc := 183) dX9_laysOut_183 ?_
    refine x_iload (pc := 184) 2 dX9_laysOut_184 rfl ?_
    refine x_iadd (pc := 186) dX9_laysOut_186 ?_
    obtain ⟨q7, e⟩ := chk_some e
    refine x_iald (pc := 187) dX9_laysOut_187 q6 q7 ?_
    refine x_aload_n (pc := 188) 0 dX9_laysOut_188 rfl ?_
    obtain ⟨q8, e⟩ := chk_some e
    refine x_getR (pc := 189) gf_X9_60 rfl dX9_laysOut_189 q1 q8.1 ?_
    refine x_iload (pc := 192) 2 dX9_laysOut_192 rfl ?_
    obtain ⟨q9, e⟩ := chk_some e
    refine x_iald (pc := 194) dX9_laysOut_194 q8 q9 ?_
    refine x_iadd (pc := 195) dX9_laysOut_195 ?_
    obtain ⟨q10, e⟩ := chk_some e
    replace e := lt_go e
    refine x_iast (pc := 196) dX9_laysOut_196 q5 q10 ?_
    refine x_iinc (pc := 197) 2 dX9_laysOut_197 rfl (by decide) rfl ?_
    refine x_goto (pc := 200) (t := 160) dX9_laysOut_200 (by decide) ?_
    exact x_sub1 (hk160 _ _ _ _ _ e) [1, 2, 0] rfl
noncomputable def f_X9_laysOut_L160 (n : Nat) : Hp → Nat → Int32 → Int32 → Option (Rs Int32) := Nat.rec (motive := fun _ => Hp → Nat → Int32 → Int32 → Option (Rs Int32)) (fun _ _ _ _ => none) (fun _ r => f_X9_laysOut_B160 r) n
theorem p_X9_laysOut_L160 {l : Launch} {K : Ctx} (hl : l.stackTraces = false) : ∀ (n : Nat) (h : Hp) (a0 : Nat) (i3 : Int32) (i5 : Int32) (t : Rs Int32) (e : f_X9_laysOut_L160 n h a0 i3 i5 = some t), X l K mM_X9_laysOut (tgI t) 160 [(0, .ref a0), (3, .int i3), (5, .int i5)] [] h := by
  intro n
  induction n with
  | zero => exact fun _ _ _ _ _ e => nomatch (show (none : Option (Rs Int32)) = some _ from e)
  | succ n ih => exact fun h a0 i3 i5 t e => p_X9_laysOut_B160 hl (fun h a0 i3 i5 t e => ih h a0 i3 i5 t e) e
noncomputable def f_X9_laysOut_L144 (h : Hp) (a0 : Nat) (i1 : Int32) (i3 : Int32) (i4 : Int32) : Option (Rs Int32) :=
  chk (okr h a0 9) <|
  bnd (f_X9_guessed h a0 i3) fun h2 r3 =>
  chk (okr h2 a0 9) <|
  bnd (f_X9_shares h2 a0 (i1 - r3) i4) fun h5 _ =>
  f_X9_laysOut_L160 2000 h5 a0 i3 (iN 0)
theorem p_X9_laysOut_L144 {l : Launch} {K : Ctx} (hl : l.stackTraces = false) {h : Hp} {a0 : Nat} {i1 : Int32} {i3 : Int32} {i4 : Int32} {t : Rs Int32} (e : f_X9_laysOut_L144 h a0 i1 i3 i4 = some t) : X l K mM_X9_laysOut (tgI t) 144 [(0, .ref a0), (1, .int i1), (3, .int i3), (4, .int i4)] [] h := by
  unfold f_X9_laysOut_L144 at e
  refine x_aload_n (pc := 144) 0 dX9_laysOut_144 rfl ?_
  refine x_iload_n (pc := 145) 1 dX9_laysOut_145 rfl ?_
  refine x_aload_n (pc := 146) 0 dX9_laysOut_146 rfl ?_
  refine x_iload_n (pc := 147) 2 dX9_laysOut_147 rfl ?_
  obtain ⟨q1, e⟩ := chk_some e
  rcases bnd_some e with ⟨h2, r3, ec, rfl⟩ | ⟨h2, r3, ec, e⟩
  · exact y_callV_x (pc := 148) (c_X9_guessed hl ec) q1 mf_X9_guessed tw_8_110 ts_9_12 lf_X9_332 rfl rfl dX9_laysOut_148 (by decide) rfl rfl (leb rfl) (xx_out0 rfl)
  refine y_callV_i (pc := 148) (c_X9_guessed hl ec) q1 mf_X9_guessed tw_8_110 ts_9_12 lf_X9_332 rfl rfl dX9_laysOut_148 (by decide) rfl rfl (leb rfl) ?_
  refine x_isub (pc := 151) dX9_laysOut_151 ?_
  refine x_iload (pc := 152) 3 dX9_laysOut_152 rfl ?_
  obtain ⟨q4, e⟩ := chk_some e
  rcases bnd_some e with ⟨h5, r6, ec, rfl⟩ | ⟨h5, r6, ec, e⟩
  · exact y_callV_x (pc := 154) (c_X9_shares hl ec) q4 mf_X9_shares tw_8_82 ts_9_7 lf_X9_311 rfl rfl dX9_laysOut_154 (by decide) rfl rfl (leb rfl) (xx_out0 rfl)
  refine y_callV_v (pc := 154) (c_X9_shares hl ec) q4 mf_X9_shares tw_8_82 ts_9_7 lf_X9_311 rfl rfl dX9_laysOut_154 (by decide) rfl rfl (leb rfl) ?_
  refine x_iconst (pc := 157) dX9_laysOut_157 ?_
  refine x_istore (pc := 158) dX9_laysOut_158 (by decide) rfl ?_
  exact x_sub1 (p_X9_laysOut_L160 hl 2000 _ _ _ _ _ e) [1, 3, 0] rfl
noncomputable def f_X9_laysOut_L126 (k71 : Hp → Nat → Int32 → Int32 → Int32 → Int32 → Int32 → Option (Rs Int32)) (h : Hp) (a0 : Nat) (i1 : Int32) (i2 : Int32) (i3 : Int32) (i4 : Int32) (i5 : Int32) (s0 : Int32) (s1 : Int32) (s2 : Nat) : Option (Rs Int32) :=
  chk (okr h s2 20) <|
  chk (vp_in s1 (qW h s2)) <|
  lt (putI h s2 (Int32.toNatClampNeg s1) s0) fun h3 =>
  k71 h3 a0 i1 i2 i3 i4 (i5 + iN 1)
theorem p_X9_laysOut_L126 {l : Launch} {K : Ctx} (hl : l.stackTraces = false) {k71 : Hp → Nat → Int32 → Int32 → Int32 → Int32 → Int32 → Option (Rs Int32)} (hk71 : ∀ (h : Hp) (a0 : Nat) (i1 : Int32) (i2 : Int32) (i3 : Int32) (i4 : Int32) (i5 : Int32) (t : Rs Int32), k71 h a0 i1 i2 i3 i4 i5 = some t → X l K mM_X9_laysOut (tgI t) 71 [(0, .ref a0), (1, .int i1), (2, .int i2), (3, .int i3), (4, .int i4), (5, .int i5)] [] h) {h : Hp} {a0 : Nat} {i1 : Int32} {i2 : Int32} {i3 : Int32} {i4 : Int32} {i5 : Int32} {s0 : Int32} {s1 : Int32} {s2 : Nat} {t : Rs Int32} (e : f_X9_laysOut_L126 k71 h a0 i1 i2 i3 i4 i5 s0 s1 s2 = some t) : X l K mM_X9_laysOut (tgI t) 126 [(0, .ref a0), (1, .int i1), (2, .int i2), (3, .int i3), (4, .int i4), (5, .int i5)] [.int s0, .int s1, .ref s2] h := by
  unfold f_X9_laysOut_L126 at e
  obtain ⟨q1, e⟩ := chk_some e
  obtain ⟨q2, e⟩ := chk_some e
  replace e := lt_go e
  refine x_iast (pc := 126) dX9_laysOut_126 q1 q2 ?_
  refine x_iinc (pc := 127) 5 dX9_laysOut_127 rfl (by decide) rfl ?_
  refine x_goto (pc := 130) (t := 71) dX9_laysOut_130 (by decide) ?_
  exact x_sub1 (hk71 _ _ _ _ _ _ _ _ e) [1, 2, 3, 4, 5, 0] rfl
noncomputable def f_X9_laysOut_L125 (k71 : Hp → Nat → Int32 → Int32 → Int32 → Int32 → Int32 → Option (Rs Int32)) (h : Hp) (a0 : Nat) (i1 : Int32) (i2 : Int32) (i3 : Int32) (i4 : Int32) (i5 : Int32) (s0 : Int32) (s1 : Nat) : Option (Rs Int32) :=
  f_X9_laysOut_L126 k71 h a0 i1 i2 i3 i4 i5 (iN 0) s0 s1
theorem p_X9_laysOut_L125 {l : Launch} {K : Ctx} (hl : l.stackTraces = false) {k71 : Hp → Nat → Int32 → Int32 → Int32 → Int32 → Int32 → Option (Rs Int32)} (hk71 : ∀ (h : Hp) (a0 : Nat) (i1 : Int32) (i2 : Int32) (i3 : Int32) (i4 : Int32) (i5 : Int32) (t : Rs Int32), k71 h a0 i1 i2 i3 i4 i5 = some t → X l K mM_X9_laysOut (tgI t) 71 [(0, .ref a0), (1, .int i1), (2, .int i2), (3, .int i3), (4, .int i4), (5, .int i5)] [] h) {h : Hp} {a0 : Nat} {i1 : Int32} {i2 : Int32} {i3 : Int32} {i4 : Int32} {i5 : Int32} {s0 : Int32} {s1 : Nat} {t : Rs Int32} (e : f_X9_laysOut_L125 k71 h a0 i1 i2 i3 i4 i5 s0 s1 = some t) : X l K mM_X9_laysOut (tgI t) 125 [(0, .ref a0), (1, .int i1), (2, .int i2), (3, .int i3), (4, .int i4), (5, .int i5)] [.int s0, .ref s1] h := by
  unfold f_X9_laysOut_L125 at e
  refine x_iconst (pc := 125) dX9_laysOut_125 ?_
  exact p_X9_laysOut_L126 hl hk71 e
noncomputable def f_X9_laysOut_B71 (k71 : Hp → Nat → Int32 → Int32 → Int32 → Int32 → Int32 → Option (Rs Int32)) (h : Hp) (a0 : Nat) (i1 : Int32) (i2 : Int32) (i3 : Int32) (i4 : Int32) (i5 : Int32) : Option (Rs Int32) :=
  if (iN 4) ≤ i5 then (
    if i2 = (iN 4) then (
      chk (okr h a0 9) <|
      bnd (f_X9_weighsRest h a0) fun h4 r5 =>
      f_X9_laysOut_L144 h4 a0 i1 i3 r5
    ) else (
      f_X9_laysOut_L144 h a0 i1 i3 i4
    )
  ) else (
    chk (okr h a0 9) <|
    chk (okr h (qR h a0 24) 20) <|
    if (iN 4) ≤ i2 then (
      f_X9_laysOut_L125 k71 h a0 i1 i2 i3 i4 i5 i5 (qR h a0 24)
    ) else (
      chk (okr h (qR h a0 1) 20) <|
      chk (vp_in (iN 0) (qW h (qR h a0 1))) <|
      if (qI h (qR h a0 1) (Int32.toNatClampNeg (iN 0))) ≤ i5 then (
        f_X9_laysOut_L125 k71 h a0 i1 i2 i3 i4 i5 i5 (qR h a0 24)
      ) else (
        chk (okr h (qR h a0 26) 20) <|
        chk (vp_in (((iN 4) * i2) + i5) (qW h (qR h a0 26))) <|
        chk (vp_in (((iN 4) * i3) + i5) (qW h (qR h a0 26))) <|
        f_X9_laysOut_L126 k71 h a0 i1 i2 i3 i4 i5 ((qI h (qR h a0 26) (Int32.toNatClampNeg (((iN 4) * i2) + i5))) - (qI h (qR h a0 26) (Int32.toNatClampNeg (((iN 4) * i3) + i5)))) i5 (qR h a0 24)
      )
    )
  )
theorem p_X9_laysOut_B71 {l : Launch} {K : Ctx} (hl : l.stackTraces = false) {k71 : Hp → Nat → Int32 → Int32 → Int32 → Int32 → Int32 → Option (Rs Int32)} (hk71 : ∀ (h : Hp) (a0 : Nat) (i1 : Int32) (i2 : Int32) (i3 : Int32) (i4 : Int32) (i5 : Int32) (t : Rs Int32), k71 h a0 i1 i2 i3 i4 i5 = some t → X l K mM_X9_laysOut (tgI t) 71 [(0, .ref a0), (1, .int i1), (2, .int i2), (3, .int i3), (4, .int i4), (5, .int i5)] [] h) {h : Hp} {a0 : Nat} {i1 : Int32} {i2 : Int32} {i3 : Int32} {i4 : Int32} {i5 : Int32} {t : Rs Int32} (e : f_X9_laysOut_B71 k71 h a0 i1 i2 i3 i4 i5 = some t) : X l K mM_X9_laysOut (tgI t) 71 [(0, .ref a0), (1, .int i1), (2, .int i2), (3, .int i3), (4, .int i4), (5, .int i5)] [] h := by
  unfold f_X9_laysOut_B71 at e
  refine x_iload (pc := 71) 5 dX9_laysOut_71 rfl ?_
  refine x_iconst (pc := 73) dX9_laysOut_73 ?_
  rcases ite_some e with ⟨q1, e⟩ | ⟨q1, e⟩
  · refine x_icmp_ge_t (pc := 74) (t := 133) dX9_laysOut_74 (by decide) q1 ?_
    refine x_iload_n (pc := 133) 2 dX9_laysOut_133 rfl ?_
    refine x_iconst (pc := 134) dX9_laysOut_134 ?_
    rcases ite_some e with ⟨q2, e⟩ | ⟨q2, e⟩
    · refine x_icmp_ne_f (pc := 135) (t := 144) dX9_laysOut_135 (by decide) q2 ?_
      refine x_aload_n (pc := 138) 0 dX9_laysOut_138 rfl ?_
      obtain ⟨q3, e⟩ := chk_some e
      rcases bnd_some e with ⟨h4, r5, ec, rfl⟩ | ⟨h4, r5, ec, e⟩
      · exact y_callV_x (pc := 139) (c_X9_weighsRest hl ec) q3 mf_X9_weighsRest tw_8_122 ts_9_14 lf_X9_335 rfl rfl dX9_laysOut_139 (by decide) rfl rfl (leb rfl) (xx_out0 rfl)
      refine y_callV_i (pc := 139) (c_X9_weighsRest hl ec) q3 mf_X9_weighsRest tw_8_122 ts_9_14 lf_X9_335 rfl rfl dX9_laysOut_139 (by decide) rfl rfl (leb rfl) ?_
      refine x_istore (pc := 142) dX9_laysOut_142 (by decide) rfl ?_
      exact x_sub1 (p_X9_laysOut_L144 hl e) [1, 2, 4, 0] rfl
    · refine x_icmp_ne_t (pc := 135) (t := 144) dX9_laysOut_135 (by decide) q2 ?_
      exact x_sub1 (p_X9_laysOut_L144 hl e) [0, 1, 3, 4] rfl
  · refine x_icmp_ge_f (pc := 74) (t := 133) dX9_laysOut_74 (by decide) q1 ?_
    refine x_aload_n (pc := 77) 0 dX9_laysOut_77 rfl ?_
    obtain ⟨q6, e⟩ := chk_some e
    obtain ⟨q7, e⟩ := chk_some e
    refine x_getR (pc := 78) gf_X9_57 rfl dX9_laysOut_78 q6 q7.1 ?_
    refine x_iload (pc := 81) 5 dX9_laysOut_81 rfl ?_
    refine x_iload_n (pc := 83) 2 dX9_laysOut_83 rfl ?_
    refine x_iconst (pc := 84) dX9_laysOut_84 ?_
    rcases ite_some e with ⟨q8, e⟩ | ⟨q8, e⟩
    · refine x_icmp_ge_t (pc := 85) (t := 125) dX9_laysOut_85 (by decide) q8 ?_
      exact p_X9_laysOut_L125 hl hk71 e
    · refine x_icmp_ge_f (pc := 85) (t := 125) dX9_laysOut_85 (by decide) q8 ?_
      refine x_iload (pc := 88) 5 dX9_laysOut_88 rfl ?_
      refine x_aload_n (pc := 90) 0 dX9_laysOut_90 rfl ?_
      obtain ⟨q9, e⟩ := chk_some e
      refine x_getR (pc := 91) gf_X9_9 rfl dX9_laysOut_91 q6 q9.1 ?_
      refine x_iconst (pc := 94) dX9_laysOut_94 ?_
      obtain ⟨q10, e⟩ := chk_some e
      refine x_iald (pc := 95) dX9_laysOut_95 q9 q10 ?_
      rcases ite_some e with ⟨q11, e⟩ | ⟨q11, e⟩
      · refine x_icmp_ge_t (pc := 96) (t := 125) dX9_laysOut_96 (by decide) q11 ?_
        exact p_X9_laysOut_L125 hl hk71 e
      · refine x_icmp_ge_f (pc := 96) (t := 125) dX9_laysOut_96 (by decide) q11 ?_
        refine x_aload_n (pc := 99) 0 dX9_laysOut_99 rfl ?_
        obtain ⟨q12, e⟩ := chk_some e
        refine x_getR (pc := 100) gf_X9_63 rfl dX9_laysOut_100 q6 q12.1 ?_
        refine x_iconst (pc := 103) dX9_laysOut_103 ?_
        refine x_iload_n (pc := 104) 2 dX9_laysOut_104 rfl ?_
        refine x_imul (pc := 105) dX9_laysOut_105 ?_
        refine x_iload (pc := 106) 5 dX9_laysOut_106 rfl ?_
        refine x_iadd (pc := 108) dX9_laysOut_108 ?_
        obtain ⟨q13, e⟩ := chk_some e
        refine x_iald (pc := 109) dX9_laysOut_109 q12 q13 ?_
        refine x_aload_n (pc := 110) 0 dX9_laysOut_110 rfl ?_
        refine x_getR (pc := 111) gf_X9_63 rfl dX9_laysOut_111 q6 q12.1 ?_
        refine x_iconst (pc := 114) dX9_laysOut_114 ?_
        refine x_iload_n (pc := 115) 3 dX9_laysOut_115 rfl ?_
        refine x_imul (pc := 116) dX9_laysOut_116 ?_
        refine x_iload (pc := 117) 5 dX9_laysOut_117 rfl ?_
        refine x_iadd (pc := 119) dX9_laysOut_119 ?_
        obtain ⟨q14, e⟩ := chk_some e
        refine x_iald (pc := 120) dX9_laysOut_120 q12 q14 ?_
        refine x_isub (pc := 121) dX9_laysOut_121 ?_
        refine x_goto (pc := 122) (t := 126) dX9_laysOut_122 (by decide) ?_
        exact p_X9_laysOut_L126 hl hk71 e
noncomputable def f_X9_laysOut_L71 (n : Nat) : Hp → Nat → Int32 → Int32 → Int32 → Int32 → Int32 → Option (Rs Int32) := Nat.rec (motive := fun _ => Hp → Nat → Int32 → Int32 → Int32 → Int32 → Int32 → Option (Rs Int32)) (fun _ _ _ _ _ _ _ => none) (fun _ r => f_X9_laysOut_B71 r) n
theorem p_X9_laysOut_L71 {l : Launch} {K : Ctx} (hl : l.stackTraces = false) : ∀ (n : Nat) (h : Hp) (a0 : Nat) (i1 : Int32) (i2 : Int32) (i3 : Int32) (i4 : Int32) (i5 : Int32) (t : Rs Int32) (e : f_X9_laysOut_L71 n h a0 i1 i2 i3 i4 i5 = some t), X l K mM_X9_laysOut (tgI t) 71 [(0, .ref a0), (1, .int i1), (2, .int i2), (3, .int i3), (4, .int i4), (5, .int i5)] [] h := by
  intro n
  induction n with
  | zero => exact fun _ _ _ _ _ _ _ _ e => nomatch (show (none : Option (Rs Int32)) = some _ from e)
  | succ n ih => exact fun h a0 i1 i2 i3 i4 i5 t e => p_X9_laysOut_B71 hl (fun h a0 i1 i2 i3 i4 i5 t e => ih h a0 i1 i2 i3 i4 i5 t e) e
noncomputable def f_X9_laysOut_L63 (h : Hp) (a0 : Nat) (i1 : Int32) (i2 : Int32) (s0 : Int32) : Option (Rs Int32) :=
  f_X9_laysOut_L71 2000 h a0 i1 i2 s0 (iN 15) (iN 0)
theorem p_X9_laysOut_L63 {l : Launch} {K : Ctx} (hl : l.stackTraces = false) {h : Hp} {a0 : Nat} {i1 : Int32} {i2 : Int32} {s0 : Int32} {t : Rs Int32} (e : f_X9_laysOut_L63 h a0 i1 i2 s0 = some t) : X l K mM_X9_laysOut (tgI t) 63 [(0, .ref a0), (1, .int i1), (2, .int i2)] [.int s0] h := by
  unfold f_X9_laysOut_L63 at e
  refine x_istore_n (pc := 63) dX9_laysOut_63 (by decide) rfl ?_
  refine x_bipush (pc := 64) (v := iN 15) dX9_laysOut_64 rfl ?_
  refine x_istore (pc := 66) dX9_laysOut_66 (by decide) rfl ?_
  refine x_iconst (pc := 68) dX9_laysOut_68 ?_
  refine x_istore (pc := 69) dX9_laysOut_69 (by decide) rfl ?_
  exact x_sub1 (p_X9_laysOut_L71 hl 2000 _ _ _ _ _ _ _ _ e) [3, 4, 5, 2, 1, 0] rfl
noncomputable def f_X9_laysOut_L60 (h : Hp) (a0 : Nat) (i1 : Int32) (i2 : Int32) : Option (Rs Int32) :=
  f_X9_laysOut_L63 h a0 i1 i2 (i2 - (iN 1))
theorem p_X9_laysOut_L60 {l : Launch} {K : Ctx} (hl : l.stackTraces = false) {h : Hp} {a0 : Nat} {i1 : Int32} {i2 : Int32} {t : Rs Int32} (e : f_X9_laysOut_L60 h a0 i1 i2 = some t) : X l K mM_X9_laysOut (tgI t) 60 [(0, .ref a0), (1, .int i1), (2, .int i2)] [] h := by
  unfold f_X9_laysOut_L60 at e
  refine x_iload_n (pc := 60) 2 dX9_laysOut_60 rfl ?_
  refine x_iconst (pc := 61) dX9_laysOut_61 ?_
  refine x_isub (pc := 62) dX9_laysOut_62 ?_
  exact p_X9_laysOut_L63 hl e
noncomputable def f_X9_laysOut_L42 (h : Hp) (a0 : Nat) (i1 : Int32) (i2 : Int32) : Option (Rs Int32) :=
  if (iN 4) ≤ i2 then (
    f_X9_laysOut_L60 h a0 i1 i2
  ) else (
    chk (okr h a0 9) <|
    bnd (f_X9_guessed h a0 i2) fun h3 r4 =>
    if r4 = i1 then (
      f_X9_laysOut_L63 h3 a0 i1 i2 i2
    ) else (
      f_X9_laysOut_L60 h3 a0 i1 i2
    )
  )
theorem p_X9_laysOut_L42 {l : Launch} {K : Ctx} (hl : l.stackTraces = false) {h : Hp} {a0 : Nat} {i1 : Int32} {i2 : Int32} {t : Rs Int32} (e : f_X9_laysOut_L42 h a0 i1 i2 = some t) : X l K mM_X9_laysOut (tgI t) 42 [(0, .ref a0), (1, .int i1), (2, .int i2)] [] h := by
  unfold f_X9_laysOut_L42 at e
  refine x_iload_n (pc := 42) 2 dX9_laysOut_42 rfl ?_
  refine x_iconst (pc := 43) dX9_laysOut_43 ?_
  rcases ite_some e with ⟨q1, e⟩ | ⟨q1, e⟩
  · refine x_icmp_ge_t (pc := 44) (t := 60) dX9_laysOut_44 (by decide) q1 ?_
    exact p_X9_laysOut_L60 hl e
  · refine x_icmp_ge_f (pc := 44) (t := 60) dX9_laysOut_44 (by decide) q1 ?_
    refine x_aload_n (pc := 47) 0 dX9_laysOut_47 rfl ?_
    refine x_iload_n (pc := 48) 2 dX9_laysOut_48 rfl ?_
    obtain ⟨q2, e⟩ := chk_some e
    rcases bnd_some e with ⟨h3, r4, ec, rfl⟩ | ⟨h3, r4, ec, e⟩
    · exact y_callV_x (pc := 49) (c_X9_guessed hl ec) q2 mf_X9_guessed tw_8_110 ts_9_12 lf_X9_332 rfl rfl dX9_laysOut_49 (by decide) rfl rfl (leb rfl) (xx_out0 rfl)
    refine y_callV_i (pc := 49) (c_X9_guessed hl ec) q2 mf_X9_guessed tw_8_110 ts_9_12 lf_X9_332 rfl rfl dX9_laysOut_49 (by decide) rfl rfl (leb rfl) ?_
    refine x_iload_n (pc := 52) 1 dX9_laysOut_52 rfl ?_
    rcases ite_some e with ⟨q5, e⟩ | ⟨q5, e⟩
    · refine x_icmp_ne_f (pc := 53) (t := 60) dX9_laysOut_53 (by decide) q5 ?_
      refine x_iload_n (pc := 56) 2 dX9_laysOut_56 rfl ?_
      refine x_goto (pc := 57) (t := 63) dX9_laysOut_57 (by decide) ?_
      exact p_X9_laysOut_L63 hl e
    · refine x_icmp_ne_t (pc := 53) (t := 60) dX9_laysOut_53 (by decide) q5 ?_
      exact p_X9_laysOut_L60 hl e
noncomputable def f_X9_laysOut_B22 (k22 : Hp → Nat → Int32 → Int32 → Option (Rs Int32)) (h : Hp) (a0 : Nat) (i1 : Int32) (i2 : Int32) : Option (Rs Int32) :=
  if (iN 4) ≤ i2 then (
    f_X9_laysOut_L42 h a0 i1 i2
  ) else (
    chk (okr h a0 9) <|
    bnd (f_X9_guessed h a0 i2) fun h3 r4 =>
    if i1 ≤ r4 then (
      f_X9_laysOut_L42 h3 a0 i1 i2
    ) else (
      k22 h3 a0 i1 (i2 + iN 1)
    )
  )
theorem p_X9_laysOut_B22 {l : Launch} {K : Ctx} (hl : l.stackTraces = false) {k22 : Hp → Nat → Int32 → Int32 → Option (Rs Int32)} (hk22 : ∀ (h : Hp) (a0 : Nat) (i1 : Int32) (i2 : Int32) (t : Rs Int32), k22 h a0 i1 i2 = some t → X l K mM_X9_laysOut (tgI t) 22 [(0, .ref a0), (1, .int i1), (2, .int i2)] [] h) {h : Hp} {a0 : Nat} {i1 : Int32} {i2 : Int32} {t : Rs Int32} (e : f_X9_laysOut_B22 k22 h a0 i1 i2 = some t) : X l K mM_X9_laysOut (tgI t) 22 [(0, .ref a0), (1, .int i1), (2, .int i2)] [] h := by
  unfold f_X9_laysOut_B22 at e
  refine x_iload_n (pc := 22) 2 dX9_laysOut_22 rfl ?_
  refine x_iconst (pc := 23) dX9_laysOut_23 ?_
  rcases ite_some e with ⟨q1, e⟩ | ⟨q1, e⟩
  · refine x_icmp_ge_t (pc := 24) (t := 42) dX9_laysOut_24 (by decide) q1 ?_
    exact p_X9_laysOut_L42 hl e
  · refine x_icmp_ge_f (pc := 24) (t := 42) dX9_laysOut_24 (by decide) q1 ?_
    refine x_aload_n (pc := 27) 0 dX9_laysOut_27 rfl ?_
    refine x_iload_n (pc := 28) 2 dX9_laysOut_28 rfl ?_
    obtain ⟨q2, e⟩ := chk_some e
    rcases bnd_some e with ⟨h3, r4, ec, rfl⟩ | ⟨h3, r4, ec, e⟩
    · exact y_callV_x (pc := 29) (c_X9_guessed hl ec) q2 mf_X9_guessed tw_8_110 ts_9_12 lf_X9_332 rfl rfl dX9_laysOut_29 (by decide) rfl rfl (leb rfl) (xx_out0 rfl)
    refine y_callV_i (pc := 29) (c_X9_guessed hl ec) q2 mf_X9_guessed tw_8_110 ts_9_12 lf_X9_332 rfl rfl dX9_laysOut_29 (by decide) rfl rfl (leb rfl) ?_
    refine x_iload_n (pc := 32) 1 dX9_laysOut_32 rfl ?_
    rcases ite_some e with ⟨q5, e⟩ | ⟨q5, e⟩
    · refine x_icmp_ge_t (pc := 33) (t := 42) dX9_laysOut_33 (by decide) q5 ?_
      exact p_X9_laysOut_L42 hl e
    · refine x_icmp_ge_f (pc := 33) (t := 42) dX9_laysOut_33 (by decide) q5 ?_
      refine x_iinc (pc := 36) 2 dX9_laysOut_36 rfl (by decide) rfl ?_
      refine x_goto (pc := 39) (t := 22) dX9_laysOut_39 (by decide) ?_
      exact x_sub1 (hk22 _ _ _ _ _ e) [1, 2, 0] rfl
noncomputable def f_X9_laysOut_L22 (n : Nat) : Hp → Nat → Int32 → Int32 → Option (Rs Int32) := Nat.rec (motive := fun _ => Hp → Nat → Int32 → Int32 → Option (Rs Int32)) (fun _ _ _ _ => none) (fun _ r => f_X9_laysOut_B22 r) n
theorem p_X9_laysOut_L22 {l : Launch} {K : Ctx} (hl : l.stackTraces = false) : ∀ (n : Nat) (h : Hp) (a0 : Nat) (i1 : Int32) (i2 : Int32) (t : Rs Int32) (e : f_X9_laysOut_L22 n h a0 i1 i2 = some t), X l K mM_X9_laysOut (tgI t) 22 [(0, .ref a0), (1, .int i1), (2, .int i2)] [] h := by
  intro n
  induction n with
  | zero => exact fun _ _ _ _ _ e => nomatch (show (none : Option (Rs Int32)) = some _ from e)
  | succ n ih => exact fun h a0 i1 i2 t e => p_X9_laysOut_B22 hl (fun h a0 i1 i2 t e => ih h a0 i1 i2 t e) e
noncomputable def f_X9_laysOut (h : Hp) (a0 : Nat) : Option (Rs Int32) :=
  chk (okr h a0 9) <|
  bnd (f_X9_guessesAll h a0) fun h2 _ =>
  chk (okr h2 a0 9) <|
  bnd (f_X9_usable h2 a0) fun h5 r6 =>
  chk (okr h5 a0 9) <|
  bnd (f_X9_guessed h5 a0 (iN 0)) fun h8 r9 =>
  if r9 ≤ r6 then (
    f_X9_laysOut_L22 2000 h8 a0 r6 (iN 0)
  ) else (
    some (h8, .inr (iN 0))
  )
theorem p_X9_laysOut {l : Launch} {K : Ctx} (hl : l.stackTraces = false) {h : Hp} {a0 : Nat} {t : Rs Int32} (e : f_X9_laysOut h a0 = some t) : X l K mM_X9_laysOut (tgI t) 0 [(0, .ref a0)] [] h := by
  unfold f_X9_laysOut at e
  refine x_aload_n (pc := 0) 0 dX9_laysOut_0 rfl ?_
  obtain ⟨q1, e⟩ := chk_some e
  rcases bnd_some e with ⟨h2, r3, ec, rfl⟩ | ⟨h2, r3, ec, e⟩
  · exact y_callV_x (pc := 1) (c_X9_guessesAll hl ec) q1 mf_X9_guessesAll tw_8_98 ts_9_9 lf_X9_329 rfl rfl dX9_laysOut_1 (by decide) rfl rfl (leb rfl) (xx_out0 rfl)
  refine y_callV_v (pc := 1) (c_X9_guessesAll hl ec) q1 mf_X9_guessesAll tw_8_98 ts_9_9 lf_X9_329 rfl rfl dX9_laysOut_1 (by decide) rfl rfl (leb rfl) ?_
  refine x_aload_n (pc := 4) 0 dX9_laysOut_4 rfl ?_
  obtain ⟨q4, e⟩ := chk_some e
  rcases bnd_some e with ⟨h5, r6, ec, rfl⟩ | ⟨h5, r6, ec, e⟩
  · exact y_callV_x (pc := 5) (c_X9_usable hl ec) q4 mf_X9_usable tw_8_102 ts_9_10 lf_X9_323 rfl rfl dX9_laysOut_5 (by decide) rfl rfl (leb rfl) (xx_out0 rfl)
  refine y_callV_i (pc := 5) (c_X9_usable hl ec) q4 mf_X9_usable tw_8_102 ts_9_10 lf_X9_323 rfl rfl dX9_laysOut_5 (by decide) rfl rfl (leb rfl) ?_
  refine x_istore_n (pc := 8) dX9_laysOut_8 (by decide) rfl ?_
  refine x_iload_n (pc := 9) 0 dX9_laysOut_9 rfl ?_
  refine x_aload_n (pc := 10) 1 dX9_laysOut_10 rfl ?_
  refine x_iconst (pc := 11) dX9_laysOut_11 ?_
  obtain ⟨q7, e⟩ := chk_some e
  rcases bnd_some e with ⟨h8, r9, ec, rfl⟩ | ⟨h8, r9, ec, e⟩
  · exact y_callV_x (pc := 12) (c_X9_guessed hl ec) q7 mf_X9_guessed tw_8_110 ts_9_12 lf_X9_332 rfl rfl dX9_laysOut_12 (by decide) rfl rfl (leb rfl) (xx_out0 rfl)
  refine y_callV_i (pc := 12) (c_X9_guessed hl ec) q7 mf_X9_guessed tw_8_110 ts_9_12 lf_X9_332 rfl rfl dX9_laysOut_12 (by decide) rfl rfl (leb rfl) ?_
  rcases ite_some e with ⟨q10, e⟩ | ⟨q10, e⟩
  · refine x_icmp_ge_t (pc := 15) (t := 20) dX9_laysOut_15 (by decide) q10 ?_
    refine x_iconst (pc := 20) dX9_laysOut_20 ?_
    refine x_istore_n (pc := 21) dX9_laysOut_21 (by decide) rfl ?_
    exact x_sub1 (p_X9_laysOut_L22 hl 2000 _ _ _ _ _ e) [2, 1, 0] rfl
  · refine x_icmp_ge_f (pc := 15) (t := 20) dX9_laysOut_15 (by decide) q10 ?_
    refine x_iconst (pc := 18) dX9_laysOut_18 ?_
    cases Option.some.inj e
    exact x_zret (pc := 19) rfl (Or.inl rfl) dX9_laysOut_19
abbrev w_X9_laysOut : Cond := (Cond.code yX9_laysOut cX9_laysOut 6 (Option.some Jvm.ClassFile.FieldType.boolean))
theorem mf_X9_laysOut : MF yX9_laysOut w_X9_laysOut cX9_laysOut 6 (Option.some Jvm.ClassFile.FieldType.boolean) 0 := ⟨⟨rfl, tw_8_119, by decide⟩, tw_1_11, ⟨by decide, by decide⟩, by decide +kernel⟩
theorem c_X9_laysOut {l : Launch} {K : Ctx} (hl : l.stackTraces = false) {h : Hp} {a0 : Nat} {t : Rs Int32} (e : f_X9_laysOut h a0 = some t) : Ctr l K 15 yX9_laysOut w_X9_laysOut [.ref a0] h (tgI t) :=
  Ctr.of hl mf_X9_laysOut false (fun q => nomatch q) rfl (leb rfl) (p_X9_laysOut hl e)
/-! ## TableColumnBalancerModel.autoWidth -/
abbrev mM_X9_autoWidth : Mi := (16, yX9_autoWidth.cls, cX9_autoWidth, 2, (Option.some Jvm.ClassFile.FieldType.int), [], false)
noncomputable def f_X9_autoWidth (h : Hp) (a0 : Nat) (i1 : Int32) : Option (Rs Int32) :=
  chk (okr h a0 9) <|
  lt (putI h a0 0 (iN 0)) fun h2 =>
  bnd (f_X9_isColumn h2 a0 i1) fun h3 r4 =>
  if r4 = 0 then (
    chk (okr h3 a0 9) <|
    bnd (f_X9_fails h3 a0 (iN 1)) fun h7 r8 =>
    some (h7, .inr r8)
  ) else (
    chk (okr h3 a0 9) <|
    bnd (f_X9_laysOut h3 a0) fun h10 r11 =>
    if r11 = 0 then (
      chk (okr h10 a0 9) <|
      bnd (f_X9_fails h10 a0 (iN 2)) fun h14 r15 =>
      some (h14, .inr r15)
    ) else (
      chk (okr h10 a0 9) <|
      chk (okr h10 (qR h10 a0 27) 20) <|
      chk (vp_in i1 (qW h10 (qR h10 a0 27))) <|
      some (h10, .inr (qI h10 (qR h10 a0 27) (Int32.toNatClampNeg i1)))
    )
  )
theorem p_X9_autoWidth {l : Launch} {K : Ctx} (hl : l.stackTraces = false) {h : Hp} {a0 : Nat} {i1 : Int32} {t : Rs Int32} (e : f_X9_autoWidth h a0 i1 = some t) : X l K mM_X9_autoWidth (tgI t) 0 [(0, .ref a0), (1, .int i1)] [] h := by
  unfold f_X9_autoWidth at e
  refine x_aload_n (pc := 0) 0 dX9_autoWidth_0 rfl ?_
  refine x_iconst (pc := 1) dX9_autoWidth_1 ?_
  obtain ⟨q1, e⟩ := chk_some e
  replace e := lt_go e
  refine x_putI (pc := 2) pf_X9_84 rfl rfl rfl dX9_autoWidth_2 q1 ?_
  refine x_aload_n (pc := 5) 0 dX9_autoWidth_5 rfl ?_
  refine x_iload_n (pc := 6) 1 dX9_autoWidth_6 rfl ?_
  rcases bnd_some e with ⟨h3, r4, ec, rfl⟩ | ⟨h3, r4, ec, e⟩
  · exact y_callV_x (pc := 7) (c_X9_isColumn hl ec) (okr_pI q1) mf_X9_isColumn tw_7_39 ts_6_8 lf_X9_103 rfl rfl dX9_autoWidth_7 (by decide) rfl rfl (leb rfl) (xx_out0 rfl)
  refine y_callV_i (pc := 7) (c_X9_isColumn hl ec) (okr_pI q1) mf_X9_isColumn tw_7_39 ts_6_8 lf_X9_103 rfl rfl dX9_autoWidth_7 (by decide) rfl rfl (leb rfl) ?_
  rcases ite_some e with ⟨q5, e⟩ | ⟨q5, e⟩
  · refine x_if_ne_f (pc := 10) (t := 19) dX9_autoWidth_10 (by decide) q5 ?_
    refine x_aload_n (pc := 13) 0 dX9_autoWidth_13 rfl ?_
    refine x_iconst (pc := 14) dX9_autoWidth_14 ?_
    obtain ⟨q6, e⟩ := chk_some e
    rcases bnd_some e with ⟨h7, r8, ec, rfl⟩ | ⟨h7, r8, ec, e⟩
    · exact y_callV_x (pc := 15) (c_X9_fails hl ec) q6 mf_X9_fails tw_7_24 ts_6_7 lf_X9_95 rfl rfl dX9_autoWidth_15 (by decide) rfl rfl (leb rfl) (xx_out0 rfl)
    refine y_callV_i (pc := 15) (c_X9_fails hl ec) q6 mf_X9_fails tw_7_24 ts_6_7 lf_X9_95 rfl rfl dX9_autoWidth_15 (by decide) rfl rfl (leb rfl) ?_
    cases Option.some.inj e
    exact x_iret (pc := 18) rfl dX9_autoWidth_18
  · refine x_if_ne_t (pc := 10) (t := 19) dX9_autoWidth_10 (by decide) q5 ?_
    refine x_aload_n (pc := 19) 0 dX9_autoWidth_19 rfl ?_
    obtain ⟨q9, e⟩ := chk_some e
    rcases bnd_some e with ⟨h10, r11, ec, rfl⟩ | ⟨h10, r11, ec, e⟩
    · exact y_callV_x (pc := 20) (c_X9_laysOut hl ec) q9 mf_X9_laysOut tw_8_118 ts_9_13 lf_X9_338 rfl rfl dX9_autoWidth_20 (by decide) rfl rfl (leb rfl) (xx_out0 rfl)
    refine y_callV_i (pc := 20) (c_X9_laysOut hl ec) q9 mf_X9_laysOut tw_8_118 ts_9_13 lf_X9_338 rfl rfl dX9_autoWidth_20 (by decide) rfl rfl (leb rfl) ?_
    rcases ite_some e with ⟨q12, e⟩ | ⟨q12, e⟩
    · refine x_if_eq_t (pc := 23) (t := 35) dX9_autoWidth_23 (by decide) q12 ?_
      refine x_aload_n (pc := 35) 0 dX9_autoWidth_35 rfl ?_
      refine x_iconst (pc := 36) dX9_autoWidth_36 ?_
      obtain ⟨q13, e⟩ := chk_some e
      rcases bnd_some e with ⟨h14, r15, ec, rfl⟩ | ⟨h14, r15, ec, e⟩
      · exact y_callV_x (pc := 37) (c_X9_fails hl ec) q13 mf_X9_fails tw_7_24 ts_6_7 lf_X9_95 rfl rfl dX9_autoWidth_37 (by decide) rfl rfl (leb rfl) (xx_out0 rfl)
      refine y_callV_i (pc := 37) (c_X9_fails hl ec) q13 mf_X9_fails tw_7_24 ts_6_7 lf_X9_95 rfl rfl dX9_autoWidth_37 (by decide) rfl rfl (leb rfl) ?_
      cases Option.some.inj e
      exact x_iret (pc := 40) rfl dX9_autoWidth_40
    · refine x_if_eq_f (pc := 23) (t := 35) dX9_autoWidth_23 (by decide) q12 ?_
      refine x_aload_n (pc := 26) 0 dX9_autoWidth_26 rfl ?_
      obtain ⟨q16, e⟩ := chk_some e
      obtain ⟨q17, e⟩ := chk_some e
      refine x_getR (pc := 27) gf_X9_66 rfl dX9_autoWidth_27 q16 q17.1 ?_
      refine x_iload_n (pc := 30) 1 dX9_autoWidth_30 rfl ?_
      obtain ⟨q18, e⟩ := chk_some e
      refine x_iald (pc := 31) dX9_autoWidth_31 q17 q18 ?_
      refine x_goto (pc := 32) (t := 40) dX9_autoWidth_32 (by decide) ?_
      cases Option.some.inj e
      exact x_iret (pc := 40) rfl dX9_autoWidth_40
abbrev w_X9_autoWidth : Cond := (Cond.code yX9_autoWidth cX9_autoWidth 2 (Option.some Jvm.ClassFile.FieldType.int))
theorem mf_X9_autoWidth : MF yX9_autoWidth w_X9_autoWidth cX9_autoWidth 2 (Option.some Jvm.ClassFile.FieldType.int) 1 := ⟨⟨rfl, tw_8_115, by decide⟩, tw_1_11, ⟨by decide, by decide⟩, by decide +kernel⟩
theorem c_X9_autoWidth {l : Launch} {K : Ctx} (hl : l.stackTraces = false) {h : Hp} {a0 : Nat} {i1 : Int32} {t : Rs Int32} (e : f_X9_autoWidth h a0 i1 = some t) : Ctr l K 16 yX9_autoWidth w_X9_autoWidth [.ref a0, .int i1] h (tgI t) :=
  Ctr.of hl mf_X9_autoWidth false (fun q => nomatch q) rfl (leb rfl) (p_X9_autoWidth hl e)
/-! ## TableColumnBalancer$Table.heightIn -/
abbrev mM_X7_heightIn : Mi := (11, yX7_heightIn.cls, cX7_heightIn, 3, (Option.some Jvm.ClassFile.FieldType.int), [], false)
noncomputable def f_X7_heightIn (h : Hp) (a0 : Nat) (a1 : Nat) (a2 : Nat) : Option (Rs Int32) :=
  chk (okr h a0 7) <|
  bnd (f_X7_widthIn h a0 a1 a2) fun h2 r3 =>
  chk (okr h2 a0 7) <|
  bnd (f_X7_heightWithin h2 a0 a1 r3) fun h5 r6 =>
  some (h5, .inr r6)
theorem p_X7_heightIn {l : Launch} {K : Ctx} (hl : l.stackTraces = false) {h : Hp} {a0 : Nat} {a1 : Nat} {a2 : Nat} {t : Rs Int32} (e : f_X7_heightIn h a0 a1 a2 = some t) : X l K mM_X7_heightIn (tgI t) 0 [(0, .ref a0), (1, .ref a1), (2, .ref a2)] [] h := by
  unfold f_X7_heightIn at e
  refine x_aload_n (pc := 0) 0 dX7_heightIn_0 rfl ?_
  refine x_aload_n (pc := 1) 1 dX7_heightIn_1 rfl ?_
  refine x_aload_n (pc := 2) 0 dX7_heightIn_2 rfl ?_
  refine x_aload_n (pc := 3) 1 dX7_heightIn_3 rfl ?_
  refine x_aload_n (pc := 4) 2 dX7_heightIn_4 rfl ?_
  obtain ⟨q1, e⟩ := chk_some e
  rcases bnd_some e with ⟨h2, r3, ec, rfl⟩ | ⟨h2, r3, ec, e⟩
  · exact y_callV_x (pc := 5) (c_X7_widthIn hl ec) q1 mf_X7_widthIn tw_2_148 ts_1_10 lf_X7_82 rfl rfl dX7_heightIn_5 (by decide) rfl rfl (leb rfl) (xx_out0 rfl)
  refine y_callV_i (pc := 5) (c_X7_widthIn hl ec) q1 mf_X7_widthIn tw_2_148 ts_1_10 lf_X7_82 rfl rfl dX7_heightIn_5 (by decide) rfl rfl (leb rfl) ?_
  obtain ⟨q4, e⟩ := chk_some e
  rcases bnd_some e with ⟨h5, r6, ec, rfl⟩ | ⟨h5, r6, ec, e⟩
  · exact y_callV_x (pc := 8) (c_X7_heightWithin hl ec) q4 mf_X7_heightWithin tw_3_19 ts_2_8 lf_X7_86 rfl rfl dX7_heightIn_8 (by decide) rfl rfl (leb rfl) (xx_out0 rfl)
  refine y_callV_i (pc := 8) (c_X7_heightWithin hl ec) q4 mf_X7_heightWithin tw_3_19 ts_2_8 lf_X7_86 rfl rfl dX7_heightIn_8 (by decide) rfl rfl (leb rfl) ?_
  cases Option.some.inj e
  exact x_iret (pc := 11) rfl dX7_heightIn_11
abbrev w_X7_heightIn : Cond := (Cond.code yX7_heightIn cX7_heightIn 3 (Option.some Jvm.ClassFile.FieldType.int))
theorem mf_X7_heightIn : MF yX7_heightIn w_X7_heightIn cX7_heightIn 3 (Option.some Jvm.ClassFile.FieldType.int) 2 := ⟨⟨rfl, tw_5_197, by decide⟩, tw_1_2, ⟨by decide, by decide⟩, by decide +kernel⟩
theorem c_X7_heightIn {l : Launch} {K : Ctx} (hl : l.stackTraces = false) {h : Hp} {a0 : Nat} {a1 : Nat} {a2 : Nat} {t : Rs Int32} (e : f_X7_heightIn h a0 a1 a2 = some t) : Ctr l K 11 yX7_heightIn w_X7_heightIn [.ref a0, .ref a1, .ref a2] h (tgI t) :=
  Ctr.of hl mf_X7_heightIn false (fun q => nomatch q) rfl (leb rfl) (p_X7_heightIn hl e)
/-! ## TableColumnBalancer$Table.heightOfRow -/
abbrev mM_X7_heightOfRow : Mi := (12, yX7_heightOfRow.cls, cX7_heightOfRow, 5, (Option.some Jvm.ClassFile.FieldType.int), [], false)
noncomputable def f_X7_heightOfRow_L45 (k5 : Hp → Nat → Int32 → Nat → Int32 → Int32 → Option (Rs Int32)) (h : Hp) (a0 : Nat) (i1 : Int32) (a2 : Nat) (i3 : Int32) (i4 : Int32) : Option (Rs Int32) :=
  k5 h a0 i1 a2 i3 (i4 + iN 1)
theorem p_X7_heightOfRow_L45 {l : Launch} {K : Ctx} (hl : l.stackTraces = false) {k5 : Hp → Nat → Int32 → Nat → Int32 → Int32 → Option (Rs Int32)} (hk5 : ∀ (h : Hp) (a0 : Nat) (i1 : Int32) (a2 : Nat) (i3 : Int32) (i4 : Int32) (t : Rs Int32), k5 h a0 i1 a2 i3 i4 = some t → X l K mM_X7_heightOfRow (tgI t) 5 [(0, .ref a0), (1, .int i1), (2, .ref a2), (3, .int i3), (4, .int i4)] [] h) {h : Hp} {a0 : Nat} {i1 : Int32} {a2 : Nat} {i3 : Int32} {i4 : Int32} {t : Rs Int32} (e : f_X7_heightOfRow_L45 k5 h a0 i1 a2 i3 i4 = some t) : X l K mM_X7_heightOfRow (tgI t) 45 [(0, .ref a0), (1, .int i1), (2, .ref a2), (3, .int i3), (4, .int i4)] [] h := by
  unfold f_X7_heightOfRow_L45 at e
  refine x_iinc (pc := 45) 4 dX7_heightOfRow_45 rfl (by decide) rfl ?_
  refine x_goto (pc := 48) (t := 5) dX7_heightOfRow_48 (by decide) ?_
  exact x_sub1 (hk5 _ _ _ _ _ _ _ e) [1, 2, 3, 4, 0] rfl
noncomputable def f_X7_heightOfRow_B5 (k5 : Hp → Nat → Int32 → Nat → Int32 → Int32 → Option (Rs Int32)) (h : Hp) (a0 : Nat) (i1 : Int32) (a2 : Nat) (i3 : Int32) (i4 : Int32) : Option (Rs Int32) :=
  chk (okr h a0 7) <|
  if (qI h a0 5) ≤ i4 then (
    some (h, .inr i3)
  ) else (
    chk (okr h (qR h a0 8) 25) <|
    chk (vp_in i4 (qW h (qR h a0 8))) <|
    chk (okr h (qR h (qR h a0 8) (Int32.toNatClampNeg i4)) 1) <|
    if (qI h (qR h (qR h a0 8) (Int32.toNatClampNeg i4)) 0) = i1 then (
      bnd (f_X7_heightIn h a0 (qR h (qR h a0 8) (Int32.toNatClampNeg i4)) a2) fun h7 r8 =>
      f_X7_heightOfRow_L45 k5 h7 a0 i1 a2 (jmax i3 r8) i4
    ) else (
      f_X7_heightOfRow_L45 k5 h a0 i1 a2 i3 i4
    )
  )
theorem p_X7_heightOfRow_B5 {l : Launch} {K : Ctx} (hl : l.stackTraces = false) {k5 : Hp → Nat → Int32 → Nat → Int32 → Int32 → Option (Rs Int32)} (hk5 : ∀ (h : Hp) (a0 : Nat) (i1 : Int32) (a2 : Nat) (i3 : Int32) (i4 : Int32) (t : Rs Int32), k5 h a0 i1 a2 i3 i4 = some t → X l K mM_X7_heightOfRow (tgI t) 5 [(0, .ref a0), (1, .int i1), (2, .ref a2), (3, .int i3), (4, .int i4)] [] h) {h : Hp} {a0 : Nat} {i1 : Int32} {a2 : Nat} {i3 : Int32} {i4 : Int32} {t : Rs Int32} (e : f_X7_heightOfRow_B5 k5 h a0 i1 a2 i3 i4 = some t) : X l K mM_X7_heightOfRow (tgI t) 5 [(0, .ref a0), (1, .int i1), (2, .ref a2), (3, .int i3), (4, .int i4)] [] h := by
  unfold f_X7_heightOfRow_B5 at e
  refine x_iload (pc := 5) 4 dX7_heightOfRow_5 rfl ?_
  refine x_aload_n (pc := 7) 0 dX7_heightOfRow_7 rfl ?_
  obtain ⟨q1, e⟩ := chk_some e
  refine x_getI (pc := 8) gf_X7_41 rfl dX7_heightOfRow_8 q1 ?_
  rcases ite_some e with ⟨q2, e⟩ | ⟨q2, e⟩
  · refine x_icmp_ge_t (pc := 11) (t := 51) dX7_heightOfRow_11 (by decide) q2 ?_
    refine x_iload_n (pc := 51) 3 dX7_heightOfRow_51 rfl ?_
    cases Option.some.inj e
    exact x_iret (pc := 52) rfl dX7_heightOfRow_52
  · refine x_icmp_ge_f (pc := 11) (t := 51) dX7_heightOfRow_11 (by decide) q2 ?_
    refine x_aload_n (pc := 14) 0 dX7_heightOfRow_14 rfl ?_
    obtain ⟨q3, e⟩ := chk_some e
    refine x_getR (pc := 15) gf_X7_30 rfl dX7_heightOfRow_15 q1 q3.1 ?_
    refine x_iload (pc := 18) 4 dX7_heightOfRow_18 rfl ?_
    obtain ⟨q4, e⟩ := chk_some e
    obtain ⟨q5, e⟩ := chk_some e
    refine x_aald (pc := 20) (t := 1) (by decide) dX7_heightOfRow_20 q3 q4 q5.1 ?_
    refine x_getI (pc := 21) gf_X7_52 rfl dX7_heightOfRow_21 q5 ?_
    refine x_iload_n (pc := 24) 1 dX7_heightOfRow_24 rfl ?_
    rcases ite_some e with ⟨q6, e⟩ | ⟨q6, e⟩
    · refine x_icmp_ne_f (pc := 25) (t := 45) dX7_heightOfRow_25 (by decide) q6 ?_
      refine x_iload_n (pc := 28) 3 dX7_heightOfRow_28 rfl ?_
      refine x_aload_n (pc := 29) 0 dX7_heightOfRow_29 rfl ?_
      refine x_aload_n (pc := 30) 0 dX7_heightOfRow_30 rfl ?_
      refine x_getR (pc := 31) gf_X7_30 rfl dX7_heightOfRow_31 q1 q3.1 ?_
      refine x_iload (pc := 34) 4 dX7_heightOfRow_34 rfl ?_
      refine x_aald (pc := 36) (t := 1) (by decide) dX7_heightOfRow_36 q3 q4 q5.1 ?_
      refine x_aload_n (pc := 37) 2 dX7_heightOfRow_37 rfl ?_
      rcases bnd_some e with ⟨h7, r8, ec, rfl⟩ | ⟨h7, r8, ec, e⟩
      · exact y_callV_x (pc := 38) (c_X7_heightIn hl ec) q1 mf_X7_heightIn tw_5_196 ts_5_14 lf_X7_89 rfl rfl dX7_heightOfRow_38 (by decide) rfl rfl (leb rfl) (xx_out0 rfl)
      refine y_callV_i (pc := 38) (c_X7_heightIn hl ec) q1 mf_X7_heightIn tw_5_196 ts_5_14 lf_X7_89 rfl rfl dX7_heightOfRow_38 (by decide) rfl rfl (leb rfl) ?_
      refine x_mmax (pc := 41) tw_5_200 tw_2_123 tw_1_9 tw_2_124 (by decide) (leb rfl) dX7_heightOfRow_41 ?_
      refine x_istore_n (pc := 44) dX7_heightOfRow_44 (by decide) rfl ?_
      exact x_sub1 (p_X7_heightOfRow_L45 hl hk5 e) [1, 2, 3, 0, 4] rfl
    · refine x_icmp_ne_t (pc := 25) (t := 45) dX7_heightOfRow_25 (by decide) q6 ?_
      exact p_X7_heightOfRow_L45 hl hk5 e
noncomputable def f_X7_heightOfRow_L5 (n : Nat) : Hp → Nat → Int32 → Nat → Int32 → Int32 → Option (Rs Int32) := Nat.rec (motive := fun _ => Hp → Nat → Int32 → Nat → Int32 → Int32 → Option (Rs Int32)) (fun _ _ _ _ _ _ => none) (fun _ r => f_X7_heightOfRow_B5 r) n
theorem p_X7_heightOfRow_L5 {l : Launch} {K : Ctx} (hl : l.stackTraces = false) : ∀ (n : Nat) (h : Hp) (a0 : Nat) (i1 : Int32) (a2 : Nat) (i3 : Int32) (i4 : Int32) (t : Rs Int32) (e : f_X7_heightOfRow_L5 n h a0 i1 a2 i3 i4 = some t), X l K mM_X7_heightOfRow (tgI t) 5 [(0, .ref a0), (1, .int i1), (2, .ref a2), (3, .int i3), (4, .int i4)] [] h := by
  intro n
  induction n with
  | zero => exact fun _ _ _ _ _ _ _ e => nomatch (show (none : Option (Rs Int32)) = some _ from e)
  | succ n ih => exact fun h a0 i1 a2 i3 i4 t e => p_X7_heightOfRow_B5 hl (fun h a0 i1 a2 i3 i4 t e => ih h a0 i1 a2 i3 i4 t e) e
noncomputable def f_X7_heightOfRow (h : Hp) (a0 : Nat) (i1 : Int32) (a2 : Nat) : Option (Rs Int32) :=
  f_X7_heightOfRow_L5 2000 h a0 i1 a2 (iN 0) (iN 0)
theorem p_X7_heightOfRow {l : Launch} {K : Ctx} (hl : l.stackTraces = false) {h : Hp} {a0 : Nat} {i1 : Int32} {a2 : Nat} {t : Rs Int32} (e : f_X7_heightOfRow h a0 i1 a2 = some t) : X l K mM_X7_heightOfRow (tgI t) 0 [(0, .ref a0), (1, .int i1), (2, .ref a2)] [] h := by
  unfold f_X7_heightOfRow at e
  refine x_iconst (pc := 0) dX7_heightOfRow_0 ?_
  refine x_istore_n (pc := 1) dX7_heightOfRow_1 (by decide) rfl ?_
  refine x_iconst (pc := 2) dX7_heightOfRow_2 ?_
  refine x_istore (pc := 3) dX7_heightOfRow_3 (by decide) rfl ?_
  exact x_sub1 (p_X7_heightOfRow_L5 hl 2000 _ _ _ _ _ _ _ e) [2, 3, 4, 1, 0] rfl
abbrev w_X7_heightOfRow : Cond := (Cond.code yX7_heightOfRow cX7_heightOfRow 5 (Option.some Jvm.ClassFile.FieldType.int))
theorem mf_X7_heightOfRow : MF yX7_heightOfRow w_X7_heightOfRow cX7_heightOfRow 5 (Option.some Jvm.ClassFile.FieldType.int) 2 := ⟨⟨rfl, tw_5_193, by decide⟩, tw_1_2, ⟨by decide, by decide⟩, by decide +kernel⟩
theorem c_X7_heightOfRow {l : Launch} {K : Ctx} (hl : l.stackTraces = false) {h : Hp} {a0 : Nat} {i1 : Int32} {a2 : Nat} {t : Rs Int32} (e : f_X7_heightOfRow h a0 i1 a2 = some t) : Ctr l K 12 yX7_heightOfRow w_X7_heightOfRow [.ref a0, .int i1, .ref a2] h (tgI t) :=
  Ctr.of hl mf_X7_heightOfRow false (fun q => nomatch q) rfl (leb rfl) (p_X7_heightOfRow hl e)
/-! ## TableColumnBalancer$Table.heightOfAll -/
abbrev mM_X7_heightOfAll : Mi := (13, yX7_heightOfAll.cls, cX7_heightOfAll, 4, (Option.some Jvm.ClassFile.FieldType.int), [], false)
noncomputable def f_X7_heightOfAll_B14 (k14 : Hp → Nat → Nat → Int32 → Int32 → Option (Rs Int32)) (h : Hp) (a0 : Nat) (a1 : Nat) (i2 : Int32) (i3 : Int32) : Option (Rs Int32) :=
  chk (okr h a0 7) <|
  if (qI h a0 4) ≤ i3 then (
    some (h, .inr i2)
  ) else (
    bnd (f_X7_heightOfRow h a0 i3 a1) fun h3 r4 =>
    k14 h3 a0 a1 (i2 + r4) (i3 + iN 1)
  )
theorem p_X7_heightOfAll_B14 {l : Launch} {K : Ctx} (hl : l.stackTraces = false) {k14 : Hp → Nat → Nat → Int32 → Int32 → Option (Rs Int32)} (hk14 : ∀ (h : Hp) (a0 : Nat) (a1 : Nat) (i2 : Int32) (i3 : Int32) (t : Rs Int32), k14 h a0 a1 i2 i3 = some t → X l K mM_X7_heightOfAll (tgI t) 14 [(0, .ref a0), (1, .ref a1), (2, .int i2), (3, .int i3)] [] h) {h : Hp} {a0 : Nat} {a1 : Nat} {i2 : Int32} {i3 : Int32} {t : Rs Int32} (e : f_X7_heightOfAll_B14 k14 h a0 a1 i2 i3 = some t) : X l K mM_X7_heightOfAll (tgI t) 14 [(0, .ref a0), (1, .ref a1), (2, .int i2), (3, .int i3)] [] h := by
  unfold f_X7_heightOfAll_B14 at e
  refine x_iload_n (pc := 14) 3 dX7_heightOfAll_14 rfl ?_
  refine x_aload_n (pc := 15) 0 dX7_heightOfAll_15 rfl ?_
  obtain ⟨q1, e⟩ := chk_some e
  refine x_getI (pc := 16) gf_X7_38 rfl dX7_heightOfAll_16 q1 ?_
  rcases ite_some e with ⟨q2, e⟩ | ⟨q2, e⟩
  · refine x_icmp_ge_t (pc := 19) (t := 37) dX7_heightOfAll_19 (by decide) q2 ?_
    refine x_iload_n (pc := 37) 2 dX7_heightOfAll_37 rfl ?_
    cases Option.some.inj e
    exact x_iret (pc := 38) rfl dX7_heightOfAll_38
  · refine x_icmp_ge_f (pc := 19) (t := 37) dX7_heightOfAll_19 (by decide) q2 ?_
    refine x_iload_n (pc := 22) 2 dX7_heightOfAll_22 rfl ?_
    refine x_aload_n (pc := 23) 0 dX7_heightOfAll_23 rfl ?_
    refine x_iload_n (pc := 24) 3 dX7_heightOfAll_24 rfl ?_
    refine x_aload_n (pc := 25) 1 dX7_heightOfAll_25 rfl ?_
    rcases bnd_some e with ⟨h3, r4, ec, rfl⟩ | ⟨h3, r4, ec, e⟩
    · exact y_callV_x (pc := 26) (c_X7_heightOfRow hl ec) q1 mf_X7_heightOfRow tw_5_192 ts_5_13 lf_X7_98 rfl rfl dX7_heightOfAll_26 (by decide) rfl rfl (leb rfl) (xx_out0 rfl)
    refine y_callV_i (pc := 26) (c_X7_heightOfRow hl ec) q1 mf_X7_heightOfRow tw_5_192 ts_5_13 lf_X7_98 rfl rfl dX7_heightOfAll_26 (by decide) rfl rfl (leb rfl) ?_
    refine x_iadd (pc := 29) dX7_heightOfAll_29 ?_
    refine x_istore_n (pc := 30) dX7_heightOfAll_30 (by decide) rfl ?_
    refine x_iinc (pc := 31) 3 dX7_heightOfAll_31 rfl (by decide) rfl ?_
    refine x_goto (pc := 34) (t := 14) dX7_heightOfAll_34 (by decide) ?_
    exact x_sub1 (hk14 _ _ _ _ _ _ e) [2, 3, 1, 0] rfl
noncomputable def f_X7_heightOfAll_L14 (n : Nat) : Hp → Nat → Nat → Int32 → Int32 → Option (Rs Int32) := Nat.rec (motive := fun _ => Hp → Nat → Nat → Int32 → Int32 → Option (Rs Int32)) (fun _ _ _ _ _ => none) (fun _ r => f_X7_heightOfAll_B14 r) n
theorem p_X7_heightOfAll_L14 {l : Launch} {K : Ctx} (hl : l.stackTraces = false) : ∀ (n : Nat) (h : Hp) (a0 : Nat) (a1 : Nat) (i2 : Int32) (i3 : Int32) (t : Rs Int32) (e : f_X7_heightOfAll_L14 n h a0 a1 i2 i3 = some t), X l K mM_X7_heightOfAll (tgI t) 14 [(0, .ref a0), (1, .ref a1), (2, .int i2), (3, .int i3)] [] h := by
  intro n
  induction n with
  | zero => exact fun _ _ _ _ _ _ e => nomatch (show (none : Option (Rs Int32)) = some _ from e)
  | succ n ih => exact fun h a0 a1 i2 i3 t e => p_X7_heightOfAll_B14 hl (fun h a0 a1 i2 i3 t e => ih h a0 a1 i2 i3 t e) e
noncomputable def f_X7_heightOfAll (h : Hp) (a0 : Nat) (a1 : Nat) : Option (Rs Int32) :=
  chk (okr h a0 7) <|
  f_X7_heightOfAll_L14 2000 h a0 a1 ((qI h a0 1) * ((qI h a0 4) + (iN 1))) (iN 0)
theorem p_X7_heightOfAll {l : Launch} {K : Ctx} (hl : l.stackTraces = false) {h : Hp} {a0 : Nat} {a1 : Nat} {t : Rs Int32} (e : f_X7_heightOfAll h a0 a1 = some t) : X l K mM_X7_heightOfAll (tgI t) 0 [(0, .ref a0), (1, .ref a1)] [] h := by
  unfold f_X7_heightOfAll at e
  refine x_aload_n (pc := 0) 0 dX7_heightOfAll_0 rfl ?_
  obtain ⟨q1, e⟩ := chk_some e
  refine x_getI (pc := 1) gf_X7_15 rfl dX7_heightOfAll_1 q1 ?_
  refine x_aload_n (pc := 4) 0 dX7_heightOfAll_4 rfl ?_
  refine x_getI (pc := 5) gf_X7_38 rfl dX7_heightOfAll_5 q1 ?_
  refine x_iconst (pc := 8) dX7_heightOfAll_8 ?_
  refine x_iadd (pc := 9) dX7_heightOfAll_9 ?_
  refine x_imul (pc := 10) dX7_heightOfAll_10 ?_
  refine x_istore_n (pc := 11) dX7_heightOfAll_11 (by decide) rfl ?_
  refine x_iconst (pc := 12) dX7_heightOfAll_12 ?_
  refine x_istore_n (pc := 13) dX7_heightOfAll_13 (by decide) rfl ?_
  exact x_sub1 (p_X7_heightOfAll_L14 hl 2000 _ _ _ _ _ _ e) [2, 3, 1, 0] rfl
abbrev w_X7_heightOfAll : Cond := (Cond.code yX7_heightOfAll cX7_heightOfAll 4 (Option.some Jvm.ClassFile.FieldType.int))
theorem mf_X7_heightOfAll : MF yX7_heightOfAll w_X7_heightOfAll cX7_heightOfAll 4 (Option.some Jvm.ClassFile.FieldType.int) 1 := ⟨⟨rfl, tw_5_189, by decide⟩, tw_1_2, ⟨by decide, by decide⟩, by decide +kernel⟩
theorem c_X7_heightOfAll {l : Launch} {K : Ctx} (hl : l.stackTraces = false) {h : Hp} {a0 : Nat} {a1 : Nat} {t : Rs Int32} (e : f_X7_heightOfAll h a0 a1 = some t) : Ctr l K 13 yX7_heightOfAll w_X7_heightOfAll [.ref a0, .ref a1] h (tgI t) :=
  Ctr.of hl mf_X7_heightOfAll false (fun q => nomatch q) rfl (leb rfl) (p_X7_heightOfAll hl e)
