/-! ===== the methods as functions, each with its proof: made by program (gen_fun.py) ===== -/
theorem vx_ofWF {l : Launch} {y : MethodName} {ws ws' : List Cond} {rm : Room} {Pc : Array Value → State → Prop} {Qc : Array Value → State → Outcome → State → Prop} {XC : String → State → State → Prop} {mc ms : Nat} {free : Addr → Prop} {cc : ByteArray} {maxL : Nat} {ret : Option FieldType}
    (hy : plainFor y = true) (hw : ws = Cond.code y cc maxL ret :: ws')
    (body : ∀ p e s m args below meth c s₁, BodyLoose p l y (headSpec ws rm) cc maxL ret e s m args below meth c s₁ → c.maxLocals = maxL → (∀ x ∈ c.exceptionTable.toList, False) → Pc args s →
      W p l e (headSpec ws rm).room s m args below meth c s.heap [] 0 0 (vx_MQ below Qc XC args s mc ms free) (entryFrame m args maxL)) : vx_Met l y ws rm Pc Qc XC mc ms free := by
  refine MetFree.of_bodySF (code := cc) (maxLocals := maxL) (ret := ret) hy ?_ ?_
  · intro args s m h hn
    obtain ⟨meth, c, h1, h2, h3, h4, h5, h6, -, -⟩ := Cond.code_spec hn (atoms_spec (ws := ws) h _ (by rw [hw]; exact List.mem_cons_self))
    exact ⟨meth, c, h1, h2, h3, h4, h5, h6⟩
  · intro p e s m args below meth c s₁ B hml hP _
    have hh0 : s₁.heap = s.heap := by rw [B.state]; rfl
    have ht : ∀ x ∈ c.exceptionTable.toList, False := by
      obtain ⟨meth9, c9, h1, h2, -, -, -, -, h7, -⟩ := Cond.code_spec B.named (atoms_spec (ws := ws) B.pre _ (by rw [hw]; exact List.mem_cons_self))
      cases Option.some.inj (h1.symm.trans B.method)
      cases Option.some.inj (h2.symm.trans (Stand.of_body B).code)
      intro x hx
      rw [Array.isEmpty_iff.mp h7] at hx
      cases hx
    obtain ⟨t, a1, o, b1, b2, b3⟩ := body p e s m args below meth c s₁ B hml ht hP s₁ hh0 (Stand.of_body B)
    exact ⟨t, o, a1, b1, b2, b3⟩
theorem Ctr.ofF {l : Launch} {K : Ctx} {y : MethodName} {cw : Cond} {bytes : ByteArray} {maxL n d : Nat} {ret : Option FieldType} {as : List Value} {h : Hp} {tg : Tg} (hl : l.stackTraces = false) (mf : MF y cw bytes maxL ret n) (ini : Bool) (hi : ini = true → y.name = "<init>") (hpl : plainFor y = true) (hsz : slN as ≤ maxL)
    (k : X l K (d, y.cls, bytes, maxL, ret, [], ini) tg 0 (ar0 0 as) [] h) : Ctr l K d y cw as h tg := by
  obtain ⟨⟨rfl, hcw, hmx⟩, hini, hmh, hpd⟩ := mf
  refine ⟨k.1, fun hok σ => ?_⟩
  refine vx_ofWF (cc := bytes) (maxL := maxL) (ret := ret) hpl rfl ?_
  intro p e s m args below meth c s₁ B hml ht hv
  obtain ⟨rfl, hB, hM⟩ := hv
  have hts := atoms_spec (ws := Cond.code y bytes maxL ret :: AW) B.pre
  have hown : s.vm.findClass y.cls = some m.cls := findClass_of_methodNamed B.named
  have hl0 := lv_entry (as.map (cv σ)) (n := maxL) (by rw [slN_lg]; exact hsz)
  rw [lg_entry_eq]
  generalize (lg_sl (as.map (cv σ)) ++ List.replicate (maxL - (lg_sl (as.map (cv σ))).length) Slot.unset).toArray = la at hl0 ⊢
  rw [ar0_args] at hl0
  have k9 := k.2 p e s m (as.map (cv σ)).toArray below meth c s.heap [] (qC h) (qS h) (qN h) σ σ la
    ⟨B.exec, B.bytes, hml, B.returns, B.notSynchronized, hown, fun w hw => hts w (List.mem_cons_of_mem _ hw), hB, List.eq_nil_iff_forall_not_mem.mpr ht, fun q => (name_of_methodNamed B.named B.method).1.trans (hi q), hl⟩ ⟨Nat.le_refl _, Nat.le_refl _, Nat.le_refl _⟩ Ex.rf va_S.rf hM hl0 ⟨fun q hq => hok _ (ar0_mem as 0 q hq), fun v hv => nomatch hv⟩
  rw [Nat.sub_self, Nat.sub_self] at k9
  exact k9
/-! ## TableColumnBalancerModel.heightAt -/
abbrev mM_X9_heightAt : Mi := (22, yX9_heightAt.cls, cX9_heightAt, 3, (Option.some Jvm.ClassFile.FieldType.int), [], false)
noncomputable def f_X9_heightAt (h : Hp) (a0 : Nat) (i1 : Int32) : Option (Rs Int32) :=
  chk (okr h a0 9) <|
  lt (putI h a0 0 (iN 0)) fun h2 =>
  bnd (f_X9_in h2 i1 (iN 8) (iN 36)) fun h3 r4 =>
  if r4 = 0 then (
    chk (okr h3 a0 9) <|
    bnd (f_X9_fails h3 a0 (iN 1)) fun h7 r8 =>
    some (h7, .inr r8)
  ) else (
    chk (okr h3 a0 9) <|
    bnd (f_X9_reckons h3 a0) fun h10 _ =>
    chk (okr h10 a0 9) <|
    bnd (f_X9_highAt h10 a0 i1) fun h13 r14 =>
    if r14 = (iN (-1)) then (
      chk (okr h13 a0 9) <|
      bnd (f_X9_fails h13 a0 (iN 2)) fun h17 r18 =>
      some (h17, .inr r18)
    ) else (
      some (h13, .inr r14)
    )
  )
theorem p_X9_heightAt {l : Launch} {K : Ctx} (hl : l.stackTraces = false) {h : Hp} {a0 : Nat} {i1 : Int32} {t : Rs Int32} (e : f_X9_heightAt h a0 i1 = some t) : X l K mM_X9_heightAt (tgI t) 0 [(0, .ref a0), (1, .int i1)] [] h := by
  unfold f_X9_heightAt at e
  refine x_aload_n (pc := 0) 0 dX9_heightAt_0 rfl ?_
  refine x_iconst (pc := 1) dX9_heightAt_1 ?_
  obtain ⟨q1, e⟩ := chk_some e
  replace e := lt_go e
  refine x_putI (pc := 2) pf_X9_84 rfl rfl rfl dX9_heightAt_2 q1 ?_
  refine x_iload_n (pc := 5) 1 dX9_heightAt_5 rfl ?_
  refine x_bipush (pc := 6) (v := iN 8) dX9_heightAt_6 rfl ?_
  refine x_bipush (pc := 8) (v := iN 36) dX9_heightAt_8 rfl ?_
  rcases bnd_some e with ⟨h3, r4, ec, rfl⟩ | ⟨h3, r4, ec, e⟩
  · exact y_callS_x (pc := 10) (c_X9_in hl ec) mf_X9_in tw_7_20 lf_X9_87 dX9_heightAt_10 (by decide) rfl rfl (leb rfl) (xx_out0 rfl)
  refine y_callS_i (pc := 10) (c_X9_in hl ec) mf_X9_in tw_7_20 lf_X9_87 dX9_heightAt_10 (by decide) rfl rfl (leb rfl) ?_
  rcases ite_some e with ⟨q5, e⟩ | ⟨q5, e⟩
  · refine x_if_ne_f (pc := 13) (t := 22) dX9_heightAt_13 (by decide) q5 ?_
    refine x_aload_n (pc := 16) 0 dX9_heightAt_16 rfl ?_
    refine x_iconst (pc := 17) dX9_heightAt_17 ?_
    obtain ⟨q6, e⟩ := chk_some e
    rcases bnd_some e with ⟨h7, r8, ec, rfl⟩ | ⟨h7, r8, ec, e⟩
    · exact y_callV_x (pc := 18) (c_X9_fails hl ec) q6 mf_X9_fails tw_7_24 ts_6_7 lf_X9_95 rfl rfl dX9_heightAt_18 (by decide) rfl rfl (leb rfl) (xx_out0 rfl)
    refine y_callV_i (pc := 18) (c_X9_fails hl ec) q6 mf_X9_fails tw_7_24 ts_6_7 lf_X9_95 rfl rfl dX9_heightAt_18 (by decide) rfl rfl (leb rfl) ?_
    cases Option.some.inj e
    exact x_iret (pc := 21) rfl dX9_heightAt_21
  · refine x_if_ne_t (pc := 13) (t := 22) dX9_heightAt_13 (by decide) q5 ?_
    refine x_aload_n (pc := 22) 0 dX9_heightAt_22 rfl ?_
    obtain ⟨q9, e⟩ := chk_some e
    rcases bnd_some e with ⟨h10, r11, ec, rfl⟩ | ⟨h10, r11, ec, e⟩
    · exact y_callV_x (pc := 23) (c_X9_reckons hl ec) q9 mf_X9_reckons tw_8_150 ts_10_3 lf_X9_361 rfl rfl dX9_heightAt_23 (by decide) rfl rfl (leb rfl) (xx_out0 rfl)
    refine y_callV_v (pc := 23) (c_X9_reckons hl ec) q9 mf_X9_reckons tw_8_150 ts_10_3 lf_X9_361 rfl rfl dX9_heightAt_23 (by decide) rfl rfl (leb rfl) ?_
    refine x_aload_n (pc := 26) 0 dX9_heightAt_26 rfl ?_
    refine x_iload_n (pc := 27) 1 dX9_heightAt_27 rfl ?_
    obtain ⟨q12, e⟩ := chk_some e
    rcases bnd_some e with ⟨h13, r14, ec, rfl⟩ | ⟨h13, r14, ec, e⟩
    · exact y_callV_x (pc := 28) (c_X9_highAt hl ec) q12 mf_X9_highAt tw_8_186 ts_10_7 lf_X9_370 rfl rfl dX9_heightAt_28 (by decide) rfl rfl (leb rfl) (xx_out0 rfl)
    refine y_callV_i (pc := 28) (c_X9_highAt hl ec) q12 mf_X9_highAt tw_8_186 ts_10_7 lf_X9_370 rfl rfl dX9_heightAt_28 (by decide) rfl rfl (leb rfl) ?_
    refine x_istore_n (pc := 31) dX9_heightAt_31 (by decide) rfl ?_
    refine x_iload_n (pc := 32) 0 dX9_heightAt_32 rfl ?_
    refine x_iconst (pc := 33) dX9_heightAt_33 ?_
    rcases ite_some e with ⟨q15, e⟩ | ⟨q15, e⟩
    · refine x_icmp_ne_f (pc := 34) (t := 45) dX9_heightAt_34 (by decide) q15 ?_
      refine x_aload_n (pc := 37) 1 dX9_heightAt_37 rfl ?_
      refine x_iconst (pc := 38) dX9_heightAt_38 ?_
      obtain ⟨q16, e⟩ := chk_some e
      rcases bnd_some e with ⟨h17, r18, ec, rfl⟩ | ⟨h17, r18, ec, e⟩
      · exact y_callV_x (pc := 39) (c_X9_fails hl ec) q16 mf_X9_fails tw_7_24 ts_6_7 lf_X9_95 rfl rfl dX9_heightAt_39 (by decide) rfl rfl (leb rfl) (xx_out0 rfl)
      refine y_callV_i (pc := 39) (c_X9_fails hl ec) q16 mf_X9_fails tw_7_24 ts_6_7 lf_X9_95 rfl rfl dX9_heightAt_39 (by decide) rfl rfl (leb rfl) ?_
      refine x_goto (pc := 42) (t := 46) dX9_heightAt_42 (by decide) ?_
      cases Option.some.inj e
      exact x_iret (pc := 46) rfl dX9_heightAt_46
    · refine x_icmp_ne_t (pc := 34) (t := 45) dX9_heightAt_34 (by decide) q15 ?_
      refine x_iload_n (pc := 45) 0 dX9_heightAt_45 rfl ?_
      cases Option.some.inj e
      exact x_iret (pc := 46) rfl dX9_heightAt_46
abbrev w_X9_heightAt : Cond := (Cond.code yX9_heightAt cX9_heightAt 3 (Option.some Jvm.ClassFile.FieldType.int))
theorem mf_X9_heightAt : MF yX9_heightAt w_X9_heightAt cX9_heightAt 3 (Option.some Jvm.ClassFile.FieldType.int) 1 := ⟨⟨rfl, tw_8_183, by decide⟩, tw_1_11, ⟨by decide, by decide⟩, by decide +kernel⟩
theorem c_X9_heightAt {l : Launch} {K : Ctx} (hl : l.stackTraces = false) {h : Hp} {a0 : Nat} {i1 : Int32} {t : Rs Int32} (e : f_X9_heightAt h a0 i1 = some t) : Ctr l K 22 yX9_heightAt w_X9_heightAt [.ref a0, .int i1] h (tgI t) :=
  Ctr.of hl mf_X9_heightAt false (fun q => nomatch q) rfl (leb rfl) (p_X9_heightAt hl e)
/-! ## TableColumnBalancer.narrowest -/
abbrev mM_X8_narrowest : Mi := (21, yX8_narrowest.cls, cX8_narrowest, 4, (Option.some Jvm.ClassFile.FieldType.int), [], false)
noncomputable def f_X8_narrowest_L29 (k3 : Hp → Nat → Int32 → Int32 → Option (Rs Int32)) (h : Hp) (a0 : Nat) (i1 : Int32) (i2 : Int32) : Option (Rs Int32) :=
  k3 h a0 i1 (i2 + iN 1)
theorem p_X8_narrowest_L29 {l : Launch} {K : Ctx} (hl : l.stackTraces = false) {k3 : Hp → Nat → Int32 → Int32 → Option (Rs Int32)} (hk3 : ∀ (h : Hp) (a0 : Nat) (i1 : Int32) (i2 : Int32) (t : Rs Int32), k3 h a0 i1 i2 = some t → X l K mM_X8_narrowest (tgI t) 3 [(0, .ref a0), (1, .int i1), (2, .int i2)] [] h) {h : Hp} {a0 : Nat} {i1 : Int32} {i2 : Int32} {t : Rs Int32} (e : f_X8_narrowest_L29 k3 h a0 i1 i2 = some t) : X l K mM_X8_narrowest (tgI t) 29 [(0, .ref a0), (1, .int i1), (2, .int i2)] [] h := by
  unfold f_X8_narrowest_L29 at e
  refine x_iinc (pc := 29) 2 dX8_narrowest_29 rfl (by decide) rfl ?_
  refine x_goto (pc := 32) (t := 3) dX8_narrowest_32 (by decide) ?_
  exact x_sub1 (hk3 _ _ _ _ _ e) [1, 2, 0] rfl
noncomputable def f_X8_narrowest_B3 (k3 : Hp → Nat → Int32 → Int32 → Option (Rs Int32)) (h : Hp) (a0 : Nat) (i1 : Int32) (i2 : Int32) : Option (Rs Int32) :=
  if (iN 36) < i2 then (
    some (bump h, .inl 5)
  ) else (
    chk (okr h a0 8) <|
    chk (okr h (qR h a0 2) 6) <|
    bnd (f_X6_leastHeight h (qR h a0 2) i2) fun h4 r5 =>
    if r5 < 0 then (
      f_X8_narrowest_L29 k3 h4 a0 i1 i2
    ) else (
      if i1 < r5 then (
        f_X8_narrowest_L29 k3 h4 a0 i1 i2
      ) else (
        some (h4, .inr i2)
      )
    )
  )
theorem p_X8_narrowest_B3 {l : Launch} {K : Ctx} (hl : l.stackTraces = false) {k3 : Hp → Nat → Int32 → Int32 → Option (Rs Int32)} (hk3 : ∀ (h : Hp) (a0 : Nat) (i1 : Int32) (i2 : Int32) (t : Rs Int32), k3 h a0 i1 i2 = some t → X l K mM_X8_narrowest (tgI t) 3 [(0, .ref a0), (1, .int i1), (2, .int i2)] [] h) {h : Hp} {a0 : Nat} {i1 : Int32} {i2 : Int32} {t : Rs Int32} (e : f_X8_narrowest_B3 k3 h a0 i1 i2 = some t) : X l K mM_X8_narrowest (tgI t) 3 [(0, .ref a0), (1, .int i1), (2, .int i2)] [] h := by
  unfold f_X8_narrowest_B3 at e
  refine x_iload_n (pc := 3) 2 dX8_narrowest_3 rfl ?_
  refine x_bipush (pc := 4) (v := iN 36) dX8_narrowest_4 rfl ?_
  rcases ite_some e with ⟨q1, e⟩ | ⟨q1, e⟩
  · refine x_icmp_gt_t (pc := 6) (t := 35) dX8_narrowest_6 (by decide) q1 ?_
    cases Option.some.inj e
    exact x_throw (pc := 35) (ic := 283) rfl tw_5_124 tw_1_25 th_X8_283 (by decide) tg_X8_283 dX8_narrowest_35 dX8_narrowest_38 dX8_narrowest_39 dX8_narrowest_42 (by decide) (leb rfl)
  · refine x_icmp_gt_f (pc := 6) (t := 35) dX8_narrowest_6 (by decide) q1 ?_
    refine x_aload_n (pc := 9) 0 dX8_narrowest_9 rfl ?_
    obtain ⟨q2, e⟩ := chk_some e
    obtain ⟨q3, e⟩ := chk_some e
    refine x_getR (pc := 10) gf_X8_30 rfl dX8_narrowest_10 q2 q3.1 ?_
    refine x_iload_n (pc := 13) 2 dX8_narrowest_13 rfl ?_
    rcases bnd_some e with ⟨h4, r5, ec, rfl⟩ | ⟨h4, r5, ec, e⟩
    · exact y_callV_x (pc := 14) (c_X6_leastHeight hl ec) q3 mf_X6_leastHeight tw_3_9 ts_2_6 lf_X8_270 rfl rfl dX8_narrowest_14 (by decide) rfl rfl (leb rfl) (xx_out0 rfl)
    refine y_callV_i (pc := 14) (c_X6_leastHeight hl ec) q3 mf_X6_leastHeight tw_3_9 ts_2_6 lf_X8_270 rfl rfl dX8_narrowest_14 (by decide) rfl rfl (leb rfl) ?_
    refine x_istore_n (pc := 17) dX8_narrowest_17 (by decide) rfl ?_
    refine x_iload_n (pc := 18) 0 dX8_narrowest_18 rfl ?_
    rcases ite_some e with ⟨q6, e⟩ | ⟨q6, e⟩
    · refine x_if_lt_t (pc := 19) (t := 29) dX8_narrowest_19 (by decide) q6 ?_
      exact x_sub1 (p_X8_narrowest_L29 hl hk3 e) [1, 2, 3] rfl
    · refine x_if_lt_f (pc := 19) (t := 29) dX8_narrowest_19 (by decide) q6 ?_
      refine x_iload_n (pc := 22) 0 dX8_narrowest_22 rfl ?_
      refine x_iload_n (pc := 23) 2 dX8_narrowest_23 rfl ?_
      rcases ite_some e with ⟨q7, e⟩ | ⟨q7, e⟩
      · refine x_icmp_gt_t (pc := 24) (t := 29) dX8_narrowest_24 (by decide) q7 ?_
        exact x_sub1 (p_X8_narrowest_L29 hl hk3 e) [1, 2, 3] rfl
      · refine x_icmp_gt_f (pc := 24) (t := 29) dX8_narrowest_24 (by decide) q7 ?_
        refine x_iload_n (pc := 27) 3 dX8_narrowest_27 rfl ?_
        cases Option.some.inj e
        exact x_iret (pc := 28) rfl dX8_narrowest_28
noncomputable def f_X8_narrowest_L3 (n : Nat) : Hp → Nat → Int32 → Int32 → Option (Rs Int32) := Nat.rec (motive := fun _ => Hp → Nat → Int32 → Int32 → Option (Rs Int32)) (fun _ _ _ _ => none) (fun _ r => f_X8_narrowest_B3 r) n
theorem p_X8_narrowest_L3 {l : Launch} {K : Ctx} (hl : l.stackTraces = false) : ∀ (n : Nat) (h : Hp) (a0 : Nat) (i1 : Int32) (i2 : Int32) (t : Rs Int32) (e : f_X8_narrowest_L3 n h a0 i1 i2 = some t), X l K mM_X8_narrowest (tgI t) 3 [(0, .ref a0), (1, .int i1), (2, .int i2)] [] h := by
  intro n
  induction n with
  | zero => exact fun _ _ _ _ _ e => nomatch (show (none : Option (Rs Int32)) = some _ from e)
  | succ n ih => exact fun h a0 i1 i2 t e => p_X8_narrowest_B3 hl (fun h a0 i1 i2 t e => ih h a0 i1 i2 t e) e
noncomputable def f_X8_narrowest (h : Hp) (a0 : Nat) (i1 : Int32) : Option (Rs Int32) :=
  f_X8_narrowest_L3 2000 h a0 i1 (iN 8)
theorem p_X8_narrowest {l : Launch} {K : Ctx} (hl : l.stackTraces = false) {h : Hp} {a0 : Nat} {i1 : Int32} {t : Rs Int32} (e : f_X8_narrowest h a0 i1 = some t) : X l K mM_X8_narrowest (tgI t) 0 [(0, .ref a0), (1, .int i1)] [] h := by
  unfold f_X8_narrowest at e
  refine x_bipush (pc := 0) (v := iN 8) dX8_narrowest_0 rfl ?_
  refine x_istore_n (pc := 2) dX8_narrowest_2 (by decide) rfl ?_
  exact x_sub1 (p_X8_narrowest_L3 hl 2000 _ _ _ _ _ e) [1, 2, 0] rfl
abbrev w_X8_narrowest : Cond := (Cond.code yX8_narrowest cX8_narrowest 4 (Option.some Jvm.ClassFile.FieldType.int))
theorem mf_X8_narrowest : MF yX8_narrowest w_X8_narrowest cX8_narrowest 4 (Option.some Jvm.ClassFile.FieldType.int) 1 := ⟨⟨rfl, tw_6_19, by decide⟩, tw_1_1, ⟨by decide, by decide⟩, by decide +kernel⟩
theorem c_X8_narrowest {l : Launch} {K : Ctx} (hl : l.stackTraces = false) {h : Hp} {a0 : Nat} {i1 : Int32} {t : Rs Int32} (e : f_X8_narrowest h a0 i1 = some t) : Ctr l K 21 yX8_narrowest w_X8_narrowest [.ref a0, .int i1] h (tgI t) :=
  Ctr.of hl mf_X8_narrowest false (fun q => nomatch q) rfl (leb rfl) (p_X8_narrowest hl e)
/-! ## TableColumnBalancerLaw.narrowest -/
abbrev mM_L_narrowest : Mi := (22, yL_narrowest.cls, cL_narrowest, 4, (Option.some Jvm.ClassFile.FieldType.int), [((0 : Nat), (9 : Nat), (12 : Nat), (73 : Nat))], false)
noncomputable def f_L_narrowest (h : Hp) (a0 : Nat) (i1 : Int32) (a2 : Nat) : Option (Rs Int32) :=
  chk (okr h a0 8) <|
  bndX (f_X8_narrowest h a0 i1) (fun h2 r3 => (
    chk (okr h2 a2 21) <|
    chk (vp_in (iN 0) (qW h2 a2)) <|
    lt (putL h2 a2 (Int32.toNatClampNeg (iN 0)) (Int32.toInt64 r3)) fun h6 =>
    some (h6, .inr (iN 0))
  )) fun h2 k =>
  if k = 5 then (
    some (h2, .inr (iN 1))
  ) else
  none
theorem p_L_narrowest {l : Launch} {K : Ctx} (hl : l.stackTraces = false) {h : Hp} {a0 : Nat} {i1 : Int32} {a2 : Nat} {t : Rs Int32} (e : f_L_narrowest h a0 i1 a2 = some t) : X l K mM_L_narrowest (tgI t) 0 [(0, .ref a0), (1, .int i1), (2, .ref a2)] [] h := by
  unfold f_L_narrowest at e
  refine x_aload_n (pc := 0) 2 dL_narrowest_0 rfl ?_
  refine x_iconst (pc := 1) dL_narrowest_1 ?_
  refine x_aload_n (pc := 2) 0 dL_narrowest_2 rfl ?_
  refine x_iload_n (pc := 3) 1 dL_narrowest_3 rfl ?_
  obtain ⟨q1, e⟩ := chk_some e
  rcases bndX_some e with ⟨h2, k, ec, e⟩ | ⟨h2, r3, ec, e⟩
  · rcases ite_some e with ⟨q7, e⟩ | ⟨q7, e⟩
    · subst q7
      refine y_callV_x (pc := 4) (c_X8_narrowest hl ec) q1 mf_X8_narrowest tw_6_17 tw_6_18 lf_L_112 rfl rfl dL_narrowest_4 (by decide) rfl rfl (leb rfl) (xx_catch (pc := 4) [] [] (0, 9, 12, 73) rfl (by decide) (fun _ hz => absurd hz List.not_mem_nil) (by decide) (by decide) tw_5_116 tw_5_126 dL_narrowest_12 (by decide) rfl ?_)
      refine x_iconst (pc := 13) dL_narrowest_13 ?_
      cases Option.some.inj e
      exact x_iret (pc := 14) rfl dL_narrowest_14
    cases e
  refine y_callV_i (pc := 4) (c_X8_narrowest hl ec) q1 mf_X8_narrowest tw_6_17 tw_6_18 lf_L_112 rfl rfl dL_narrowest_4 (by decide) rfl rfl (leb rfl) ?_
  refine x_i2l (pc := 7) dL_narrowest_7 ?_
  obtain ⟨q4, e⟩ := chk_some e
  obtain ⟨q5, e⟩ := chk_some e
  replace e := lt_go e
  refine x_last (pc := 8) dL_narrowest_8 q4 q5 ?_
  refine x_goto (pc := 9) (t := 15) dL_narrowest_9 (by decide) ?_
  refine x_iconst (pc := 15) dL_narrowest_15 ?_
  cases Option.some.inj e
  exact x_iret (pc := 16) rfl dL_narrowest_16
abbrev w_L_narrowest : Cond := (Cond.codeWith yL_narrowest cL_narrowest 4 (Option.some Jvm.ClassFile.FieldType.int) [((0 : Nat), (9 : Nat), (12 : Nat), (73 : Nat))])
theorem mf_L_narrowest : MFX yL_narrowest w_L_narrowest cL_narrowest 4 (Option.some Jvm.ClassFile.FieldType.int) 3 [((0 : Nat), (9 : Nat), (12 : Nat), (73 : Nat))] := ⟨⟨rfl, tw_6_15, by decide⟩, tw_1_0, ⟨by decide, by decide⟩, by decide +kernel⟩
theorem c_L_narrowest {l : Launch} {K : Ctx} (hl : l.stackTraces = false) {h : Hp} {a0 : Nat} {i1 : Int32} {a2 : Nat} {t : Rs Int32} (e : f_L_narrowest h a0 i1 a2 = some t) : Ctr l K 22 yL_narrowest w_L_narrowest [.ref a0, .int i1, .ref a2] h (tgI t) :=
  Ctr.ofX hl mf_L_narrowest rfl (leb rfl) (p_L_narrowest hl e)
/-! ## TableColumnBalancerModel.narrowest -/
abbrev mM_X9_narrowest : Mi := (22, yX9_narrowest.cls, cX9_narrowest, 4, (Option.some Jvm.ClassFile.FieldType.int), [], false)
noncomputable def f_X9_narrowest_L36 (k12 : Hp → Nat → Int32 → Int32 → Option (Rs Int32)) (h : Hp) (a0 : Nat) (i1 : Int32) (i2 : Int32) : Option (Rs Int32) :=
  k12 h a0 i1 (i2 + iN 1)
theorem p_X9_narrowest_L36 {l : Launch} {K : Ctx} (hl : l.stackTraces = false) {k12 : Hp → Nat → Int32 → Int32 → Option (Rs Int32)} (hk12 : ∀ (h : Hp) (a0 : Nat) (i1 : Int32) (i2 : Int32) (t : Rs Int32), k12 h a0 i1 i2 = some t → X l K mM_X9_narrowest (tgI t) 12 [(0, .ref a0), (1, .int i1), (2, .int i2)] [] h) {h : Hp} {a0 : Nat} {i1 : Int32} {i2 : Int32} {t : Rs Int32} (e : f_X9_narrowest_L36 k12 h a0 i1 i2 = some t) : X l K mM_X9_narrowest (tgI t) 36 [(0, .ref a0), (1, .int i1), (2, .int i2)] [] h := by
  unfold f_X9_narrowest_L36 at e
  refine x_iinc (pc := 36) 2 dX9_narrowest_36 rfl (by decide) rfl ?_
  refine x_goto (pc := 39) (t := 12) dX9_narrowest_39 (by decide) ?_
  exact x_sub1 (hk12 _ _ _ _ _ e) [1, 2, 0] rfl
noncomputable def f_X9_narrowest_B12 (k12 : Hp → Nat → Int32 → Int32 → Option (Rs Int32)) (h : Hp) (a0 : Nat) (i1 : Int32) (i2 : Int32) : Option (Rs Int32) :=
  if (iN 36) < i2 then (
    chk (okr h a0 9) <|
    bnd (f_X9_fails h a0 (iN 1)) fun h3 r4 =>
    some (h3, .inr r4)
  ) else (
    chk (okr h a0 9) <|
    bnd (f_X9_highAt h a0 i2) fun h6 r7 =>
    if r7 = (iN (-1)) then (
      f_X9_narrowest_L36 k12 h6 a0 i1 i2
    ) else (
      if i1 < r7 then (
        f_X9_narrowest_L36 k12 h6 a0 i1 i2
      ) else (
        some (h6, .inr i2)
      )
    )
  )
theorem p_X9_narrowest_B12 {l : Launch} {K : Ctx} (hl : l.stackTraces = false) {k12 : Hp → Nat → Int32 → Int32 → Option (Rs Int32)} (hk12 : ∀ (h : Hp) (a0 : Nat) (i1 : Int32) (i2 : Int32) (t : Rs Int32), k12 h a0 i1 i2 = some t → X l K mM_X9_narrowest (tgI t) 12 [(0, .ref a0), (1, .int i1), (2, .int i2)] [] h) {h : Hp} {a0 : Nat} {i1 : Int32} {i2 : Int32} {t : Rs Int32} (e : f_X9_narrowest_B12 k12 h a0 i1 i2 = some t) : X l K mM_X9_narrowest (tgI t) 12 [(0, .ref a0), (1, .int i1), (2, .int i2)] [] h := by
  unfold f_X9_narrowest_B12 at e
  refine x_iload_n (pc := 12) 2 dX9_narrowest_12 rfl ?_
  refine x_bipush (pc := 13) (v := iN 36) dX9_narrowest_13 rfl ?_
  rcases ite_some e with ⟨q1, e⟩ | ⟨q1, e⟩
  · refine x_icmp_gt_t (pc := 15) (t := 42) dX9_narrowest_15 (by decide) q1 ?_
    refine x_aload_n (pc := 42) 0 dX9_narrowest_42 rfl ?_
    refine x_iconst (pc := 43) dX9_narrowest_43 ?_
    obtain ⟨q2, e⟩ := chk_some e
    rcases bnd_some e with ⟨h3, r4, ec, rfl⟩ | ⟨h3, r4, ec, e⟩
    · exact y_callV_x (pc := 44) (c_X9_fails hl ec) q2 mf_X9_fails tw_7_24 ts_6_7 lf_X9_95 rfl rfl dX9_narrowest_44 (by decide) rfl rfl (leb rfl) (xx_out0 rfl)
    refine y_callV_i (pc := 44) (c_X9_fails hl ec) q2 mf_X9_fails tw_7_24 ts_6_7 lf_X9_95 rfl rfl dX9_narrowest_44 (by decide) rfl rfl (leb rfl) ?_
    cases Option.some.inj e
    exact x_iret (pc := 47) rfl dX9_narrowest_47
  · refine x_icmp_gt_f (pc := 15) (t := 42) dX9_narrowest_15 (by decide) q1 ?_
    refine x_aload_n (pc := 18) 0 dX9_narrowest_18 rfl ?_
    refine x_iload_n (pc := 19) 2 dX9_narrowest_19 rfl ?_
    obtain ⟨q5, e⟩ := chk_some e
    rcases bnd_some e with ⟨h6, r7, ec, rfl⟩ | ⟨h6, r7, ec, e⟩
    · exact y_callV_x (pc := 20) (c_X9_highAt hl ec) q5 mf_X9_highAt tw_8_186 ts_10_7 lf_X9_370 rfl rfl dX9_narrowest_20 (by decide) rfl rfl (leb rfl) (xx_out0 rfl)
    refine y_callV_i (pc := 20) (c_X9_highAt hl ec) q5 mf_X9_highAt tw_8_186 ts_10_7 lf_X9_370 rfl rfl dX9_narrowest_20 (by decide) rfl rfl (leb rfl) ?_
    refine x_istore_n (pc := 23) dX9_narrowest_23 (by decide) rfl ?_
    refine x_iload_n (pc := 24) 0 dX9_narrowest_24 rfl ?_
    refine x_iconst (pc := 25) dX9_narrowest_25 ?_
    rcases ite_some e with ⟨q8, e⟩ | ⟨q8, e⟩
    · refine x_icmp_eq_t (pc := 26) (t := 36) dX9_narrowest_26 (by decide) q8 ?_
      exact x_sub1 (p_X9_narrowest_L36 hl hk12 e) [1, 2, 3] rfl
    · refine x_icmp_eq_f (pc := 26) (t := 36) dX9_narrowest_26 (by decide) q8 ?_
      refine x_iload_n (pc := 29) 0 dX9_narrowest_29 rfl ?_
      refine x_iload_n (pc := 30) 2 dX9_narrowest_30 rfl ?_
      rcases ite_some e with ⟨q9, e⟩ | ⟨q9, e⟩
      · refine x_icmp_gt_t (pc := 31) (t := 36) dX9_narrowest_31 (by decide) q9 ?_
        exact x_sub1 (p_X9_narrowest_L36 hl hk12 e) [1, 2, 3] rfl
      · refine x_icmp_gt_f (pc := 31) (t := 36) dX9_narrowest_31 (by decide) q9 ?_
        refine x_iload_n (pc := 34) 3 dX9_narrowest_34 rfl ?_
        cases Option.some.inj e
        exact x_iret (pc := 35) rfl dX9_narrowest_35
noncomputable def f_X9_narrowest_L12 (n : Nat) : Hp → Nat → Int32 → Int32 → Option (Rs Int32) := Nat.rec (motive := fun _ => Hp → Nat → Int32 → Int32 → Option (Rs Int32)) (fun _ _ _ _ => none) (fun _ r => f_X9_narrowest_B12 r) n
theorem p_X9_narrowest_L12 {l : Launch} {K : Ctx} (hl : l.stackTraces = false) : ∀ (n : Nat) (h : Hp) (a0 : Nat) (i1 : Int32) (i2 : Int32) (t : Rs Int32) (e : f_X9_narrowest_L12 n h a0 i1 i2 = some t), X l K mM_X9_narrowest (tgI t) 12 [(0, .ref a0), (1, .int i1), (2, .int i2)] [] h := by
  intro n
  induction n with
  | zero => exact fun _ _ _ _ _ e => nomatch (show (none : Option (Rs Int32)) = some _ from e)
  | succ n ih => exact fun h a0 i1 i2 t e => p_X9_narrowest_B12 hl (fun h a0 i1 i2 t e => ih h a0 i1 i2 t e) e
noncomputable def f_X9_narrowest (h : Hp) (a0 : Nat) (i1 : Int32) : Option (Rs Int32) :=
  chk (okr h a0 9) <|
  lt (putI h a0 0 (iN 0)) fun h2 =>
  bnd (f_X9_reckons h2 a0) fun h3 _ =>
  f_X9_narrowest_L12 2000 h3 a0 i1 (iN 8)
theorem p_X9_narrowest {l : Launch} {K : Ctx} (hl : l.stackTraces = false) {h : Hp} {a0 : Nat} {i1 : Int32} {t : Rs Int32} (e : f_X9_narrowest h a0 i1 = some t) : X l K mM_X9_narrowest (tgI t) 0 [(0, .ref a0), (1, .int i1)] [] h := by
  unfold f_X9_narrowest at e
  refine x_aload_n (pc := 0) 0 dX9_narrowest_0 rfl ?_
  refine x_iconst (pc := 1) dX9_narrowest_1 ?_
  obtain ⟨q1, e⟩ := chk_some e
  replace e := lt_go e
  refine x_putI (pc := 2) pf_X9_84 rfl rfl rfl dX9_narrowest_2 q1 ?_
  refine x_aload_n (pc := 5) 0 dX9_narrowest_5 rfl ?_
  rcases bnd_some e with ⟨h3, r4, ec, rfl⟩ | ⟨h3, r4, ec, e⟩
  · exact y_callV_x (pc := 6) (c_X9_reckons hl ec) (okr_pI q1) mf_X9_reckons tw_8_150 ts_10_3 lf_X9_361 rfl rfl dX9_narrowest_6 (by decide) rfl rfl (leb rfl) (xx_out0 rfl)
  refine y_callV_v (pc := 6) (c_X9_reckons hl ec) (okr_pI q1) mf_X9_reckons tw_8_150 ts_10_3 lf_X9_361 rfl rfl dX9_narrowest_6 (by decide) rfl rfl (leb rfl) ?_
  refine x_bipush (pc := 9) (v := iN 8) dX9_narrowest_9 rfl ?_
  refine x_istore_n (pc := 11) dX9_narrowest_11 (by decide) rfl ?_
  exact x_sub1 (p_X9_narrowest_L12 hl 2000 _ _ _ _ _ e) [1, 2, 0] rfl
abbrev w_X9_narrowest : Cond := (Cond.code yX9_narrowest cX9_narrowest 4 (Option.some Jvm.ClassFile.FieldType.int))
theorem mf_X9_narrowest : MF yX9_narrowest w_X9_narrowest cX9_narrowest 4 (Option.some Jvm.ClassFile.FieldType.int) 1 := ⟨⟨rfl, tw_8_191, by decide⟩, tw_1_11, ⟨by decide, by decide⟩, by decide +kernel⟩
theorem c_X9_narrowest {l : Launch} {K : Ctx} (hl : l.stackTraces = false) {h : Hp} {a0 : Nat} {i1 : Int32} {t : Rs Int32} (e : f_X9_narrowest h a0 i1 = some t) : Ctr l K 22 yX9_narrowest w_X9_narrowest [.ref a0, .int i1] h (tgI t) :=
  Ctr.of hl mf_X9_narrowest false (fun q => nomatch q) rfl (leb rfl) (p_X9_narrowest hl e)
/-! ## TableColumnBalancer.isImproving -/
abbrev mM_X8_isImproving : Mi := (21, yX8_isImproving.cls, cX8_isImproving, 6, (Option.some Jvm.ClassFile.FieldType.boolean), [], false)
noncomputable def f_X8_isImproving_L60 (k23 : Hp → Nat → Int32 → Int32 → Int32 → Int32 → Option (Rs Int32)) (h : Hp) (a0 : Nat) (i1 : Int32) (i2 : Int32) (i4 : Int32) (s0 : Int32) : Option (Rs Int32) :=
  k23 h a0 i1 i2 s0 (i4 + iN 1)
theorem p_X8_isImproving_L60 {l : Launch} {K : Ctx} (hl : l.stackTraces = false) {k23 : Hp → Nat → Int32 → Int32 → Int32 → Int32 → Option (Rs Int32)} (hk23 : ∀ (h : Hp) (a0 : Nat) (i1 : Int32) (i2 : Int32) (i3 : Int32) (i4 : Int32) (t : Rs Int32), k23 h a0 i1 i2 i3 i4 = some t → X l K mM_X8_isImproving (tgI t) 23 [(0, .ref a0), (1, .int i1), (2, .int i2), (3, .int i3), (4, .int i4)] [] h) {h : Hp} {a0 : Nat} {i1 : Int32} {i2 : Int32} {i4 : Int32} {s0 : Int32} {t : Rs Int32} (e : f_X8_isImproving_L60 k23 h a0 i1 i2 i4 s0 = some t) : X l K mM_X8_isImproving (tgI t) 60 [(0, .ref a0), (1, .int i1), (2, .int i2), (4, .int i4)] [.int s0] h := by
  unfold f_X8_isImproving_L60 at e
  refine x_istore_n (pc := 60) dX8_isImproving_60 (by decide) rfl ?_
  refine x_iinc (pc := 61) 4 dX8_isImproving_61 rfl (by decide) rfl ?_
  refine x_goto (pc := 64) (t := 23) dX8_isImproving_64 (by decide) ?_
  exact x_sub1 (hk23 _ _ _ _ _ _ _ e) [2, 3, 4, 1, 0] rfl
noncomputable def f_X8_isImproving_L55 (k23 : Hp → Nat → Int32 → Int32 → Int32 → Int32 → Option (Rs Int32)) (h : Hp) (a0 : Nat) (i1 : Int32) (i2 : Int32) (i4 : Int32) : Option (Rs Int32) :=
  f_X8_isImproving_L60 k23 h a0 i1 i2 i4 (iN 1)
theorem p_X8_isImproving_L55 {l : Launch} {K : Ctx} (hl : l.stackTraces = false) {k23 : Hp → Nat → Int32 → Int32 → Int32 → Int32 → Option (Rs Int32)} (hk23 : ∀ (h : Hp) (a0 : Nat) (i1 : Int32) (i2 : Int32) (i3 : Int32) (i4 : Int32) (t : Rs Int32), k23 h a0 i1 i2 i3 i4 = some t → X l K mM_X8_isImproving (tgI t) 23 [(0, .ref a0), (1, .int i1), (2, .int i2), (3, .int i3), (4, .int i4)] [] h) {h : Hp} {a0 : Nat} {i1 : Int32} {i2 : Int32} {i4 : Int32} {t : Rs Int32} (e : f_X8_isImproving_L55 k23 h a0 i1 i2 i4 = some t) : X l K mM_X8_isImproving (tgI t) 55 [(0, .ref a0), (1, .int i1), (2, .int i2), (4, .int i4)] [] h := by
  unfold f_X8_isImproving_L55 at e
  refine x_iconst (pc := 55) dX8_isImproving_55 ?_
  refine x_goto (pc := 56) (t := 60) dX8_isImproving_56 (by decide) ?_
  exact p_X8_isImproving_L60 hl hk23 e
noncomputable def f_X8_isImproving_B23 (k23 : Hp → Nat → Int32 → Int32 → Int32 → Int32 → Option (Rs Int32)) (h : Hp) (a0 : Nat) (i1 : Int32) (i2 : Int32) (i3 : Int32) (i4 : Int32) : Option (Rs Int32) :=
  if i3 = 0 then (
    chk (i3 = 0 ∨ i3 = 1) <|
    some (h, .inr i3)
  ) else (
    if i1 ≤ i4 then (
      chk (i3 = 0 ∨ i3 = 1) <|
      some (h, .inr i3)
    ) else (
      chk (okr h a0 8) <|
      chk (okr h (qR h a0 2) 6) <|
      bnd (f_X6_leastHeight h (qR h a0 2) i4) fun h7 r8 =>
      if r8 < 0 then (
        f_X8_isImproving_L55 k23 h7 a0 i1 i2 i4
      ) else (
        if r8 ≤ i2 then (
          f_X8_isImproving_L60 k23 h7 a0 i1 i2 i4 (iN 0)
        ) else (
          f_X8_isImproving_L55 k23 h7 a0 i1 i2 i4
        )
      )
    )
  )
theorem p_X8_isImproving_B23 {l : Launch} {K : Ctx} (hl : l.stackTraces = false) {k23 : Hp → Nat → Int32 → Int32 → Int32 → Int32 → Option (Rs Int32)} (hk23 : ∀ (h : Hp) (a0 : Nat) (i1 : Int32) (i2 : Int32) (i3 : Int32) (i4 : Int32) (t : Rs Int32), k23 h a0 i1 i2 i3 i4 = some t → X l K mM_X8_isImproving (tgI t) 23 [(0, .ref a0), (1, .int i1), (2, .int i2), (3, .int i3), (4, .int i4)] [] h) {h : Hp} {a0 : Nat} {i1 : Int32} {i2 : Int32} {i3 : Int32} {i4 : Int32} {t : Rs Int32} (e : f_X8_isImproving_B23 k23 h a0 i1 i2 i3 i4 = some t) : X l K mM_X8_isImproving (tgI t) 23 [(0, .ref a0), (1, .int i1), (2, .int i2), (3, .int i3), (4, .int i4)] [] h := by
  unfold f_X8_isImproving_B23 at e
  refine x_iload_n (pc := 23) 3 dX8_isImproving_23 rfl ?_
  rcases ite_some e with ⟨q1, e⟩ | ⟨q1, e⟩
  · refine x_if_eq_t (pc := 24) (t := 67) dX8_isImproving_24 (by decide) q1 ?_
    refine x_iload_n (pc := 67) 3 dX8_isImproving_67 rfl ?_
    obtain ⟨q2, e⟩ := chk_some e
    cases Option.some.inj e
    exact x_zret (pc := 68) rfl q2 dX8_isImproving_68
  · refine x_if_eq_f (pc := 24) (t := 67) dX8_isImproving_24 (by decide) q1 ?_
    refine x_iload (pc := 27) 4 dX8_isImproving_27 rfl ?_
    refine x_iload_n (pc := 29) 1 dX8_isImproving_29 rfl ?_
    rcases ite_some e with ⟨q3, e⟩ | ⟨q3, e⟩
    · refine x_icmp_ge_t (pc := 30) (t := 67) dX8_isImproving_30 (by decide) q3 ?_
      refine x_iload_n (pc := 67) 3 dX8_isImproving_67 rfl ?_
      obtain ⟨q4, e⟩ := chk_some e
      cases Option.some.inj e
      exact x_zret (pc := 68) rfl q4 dX8_isImproving_68
    · refine x_icmp_ge_f (pc := 30) (t := 67) dX8_isImproving_30 (by decide) q3 ?_
      refine x_aload_n (pc := 33) 0 dX8_isImproving_33 rfl ?_
      obtain ⟨q5, e⟩ := chk_some e
      obtain ⟨q6, e⟩ := chk_some e
      refine x_getR (pc := 34) gf_X8_30 rfl dX8_isImproving_34 q5 q6.1 ?_
      refine x_iload (pc := 37) 4 dX8_isImproving_37 rfl ?_
      rcases bnd_some e with ⟨h7, r8, ec, rfl⟩ | ⟨h7, r8, ec, e⟩
      · exact y_callV_x (pc := 39) (c_X6_leastHeight hl ec) q6 mf_X6_leastHeight tw_3_9 ts_2_6 lf_X8_270 rfl rfl dX8_isImproving_39 (by decide) rfl rfl (leb rfl) (xx_out0 rfl)
      refine y_callV_i (pc := 39) (c_X6_leastHeight hl ec) q6 mf_X6_leastHeight tw_3_9 ts_2_6 lf_X8_270 rfl rfl dX8_isImproving_39 (by decide) rfl rfl (leb rfl) ?_
      refine x_istore (pc := 42) dX8_isImproving_42 (by decide) rfl ?_
      refine x_iload (pc := 44) 0 dX8_isImproving_44 rfl ?_
      rcases ite_some e with ⟨q9, e⟩ | ⟨q9, e⟩
      · refine x_if_lt_t (pc := 46) (t := 55) dX8_isImproving_46 (by decide) q9 ?_
        exact x_sub1 (p_X8_isImproving_L55 hl hk23 e) [1, 2, 3, 5] rfl
      · refine x_if_lt_f (pc := 46) (t := 55) dX8_isImproving_46 (by decide) q9 ?_
        refine x_iload_n (pc := 49) 3 dX8_isImproving_49 rfl ?_
        refine x_iload (pc := 50) 0 dX8_isImproving_50 rfl ?_
        rcases ite_some e with ⟨q10, e⟩ | ⟨q10, e⟩
        · refine x_icmp_ge_t (pc := 52) (t := 59) dX8_isImproving_52 (by decide) q10 ?_
          refine x_iconst (pc := 59) dX8_isImproving_59 ?_
          exact x_sub1 (p_X8_isImproving_L60 hl hk23 e) [1, 2, 3, 5] rfl
        · refine x_icmp_ge_f (pc := 52) (t := 59) dX8_isImproving_52 (by decide) q10 ?_
          exact x_sub1 (p_X8_isImproving_L55 hl hk23 e) [1, 2, 3, 5] rfl
noncomputable def f_X8_isImproving_L23 (n : Nat) : Hp → Nat → Int32 → Int32 → Int32 → Int32 → Option (Rs Int32) := Nat.rec (motive := fun _ => Hp → Nat → Int32 → Int32 → Int32 → Int32 → Option (Rs Int32)) (fun _ _ _ _ _ _ => none) (fun _ r => f_X8_isImproving_B23 r) n
theorem p_X8_isImproving_L23 {l : Launch} {K : Ctx} (hl : l.stackTraces = false) : ∀ (n : Nat) (h : Hp) (a0 : Nat) (i1 : Int32) (i2 : Int32) (i3 : Int32) (i4 : Int32) (t : Rs Int32) (e : f_X8_isImproving_L23 n h a0 i1 i2 i3 i4 = some t), X l K mM_X8_isImproving (tgI t) 23 [(0, .ref a0), (1, .int i1), (2, .int i2), (3, .int i3), (4, .int i4)] [] h := by
  intro n
  induction n with
  | zero => exact fun _ _ _ _ _ _ _ e => nomatch (show (none : Option (Rs Int32)) = some _ from e)
  | succ n ih => exact fun h a0 i1 i2 i3 i4 t e => p_X8_isImproving_B23 hl (fun h a0 i1 i2 i3 i4 t e => ih h a0 i1 i2 i3 i4 t e) e
noncomputable def f_X8_isImproving_L18 (h : Hp) (a0 : Nat) (i1 : Int32) (i2 : Int32) (s0 : Int32) : Option (Rs Int32) :=
  f_X8_isImproving_L23 2000 h a0 i1 i2 s0 (iN 8)
theorem p_X8_isImproving_L18 {l : Launch} {K : Ctx} (hl : l.stackTraces = false) {h : Hp} {a0 : Nat} {i1 : Int32} {i2 : Int32} {s0 : Int32} {t : Rs Int32} (e : f_X8_isImproving_L18 h a0 i1 i2 s0 = some t) : X l K mM_X8_isImproving (tgI t) 18 [(0, .ref a0), (1, .int i1), (2, .int i2)] [.int s0] h := by
  unfold f_X8_isImproving_L18 at e
  refine x_istore_n (pc := 18) dX8_isImproving_18 (by decide) rfl ?_
  refine x_bipush (pc := 19) (v := iN 8) dX8_isImproving_19 rfl ?_
  refine x_istore (pc := 21) dX8_isImproving_21 (by decide) rfl ?_
  exact x_sub1 (p_X8_isImproving_L23 hl 2000 _ _ _ _ _ _ _ e) [2, 3, 4, 1, 0] rfl
noncomputable def f_X8_isImproving (h : Hp) (a0 : Nat) (i1 : Int32) : Option (Rs Int32) :=
  chk (okr h a0 8) <|
  chk (okr h (qR h a0 2) 6) <|
  bnd (f_X6_leastHeight h (qR h a0 2) i1) fun h3 r4 =>
  if r4 < 0 then (
    f_X8_isImproving_L18 h3 a0 i1 r4 (iN 0)
  ) else (
    f_X8_isImproving_L18 h3 a0 i1 r4 (iN 1)
  )
theorem p_X8_isImproving {l : Launch} {K : Ctx} (hl : l.stackTraces = false) {h : Hp} {a0 : Nat} {i1 : Int32} {t : Rs Int32} (e : f_X8_isImproving h a0 i1 = some t) : X l K mM_X8_isImproving (tgI t) 0 [(0, .ref a0), (1, .int i1)] [] h := by
  unfold f_X8_isImproving at e
  refine x_aload_n (pc := 0) 0 dX8_isImproving_0 rfl ?_
  obtain ⟨q1, e⟩ := chk_some e
  obtain ⟨q2, e⟩ := chk_some e
  refine x_getR (pc := 1) gf_X8_30 rfl dX8_isImproving_1 q1 q2.1 ?_
  refine x_iload_n (pc := 4) 1 dX8_isImproving_4 rfl ?_
  rcases bnd_some e with ⟨h3, r4, ec, rfl⟩ | ⟨h3, r4, ec, e⟩
  · exact y_callV_x (pc := 5) (c_X6_leastHeight hl ec) q2 mf_X6_leastHeight tw_3_9 ts_2_6 lf_X8_270 rfl rfl dX8_isImproving_5 (by decide) rfl rfl (leb rfl) (xx_out0 rfl)
  refine y_callV_i (pc := 5) (c_X6_leastHeight hl ec) q2 mf_X6_leastHeight tw_3_9 ts_2_6 lf_X8_270 rfl rfl dX8_isImproving_5 (by decide) rfl rfl (leb rfl) ?_
  refine x_istore_n (pc := 8) dX8_isImproving_8 (by decide) rfl ?_
  refine x_iload_n (pc := 9) 0 dX8_isImproving_9 rfl ?_
  rcases ite_some e with ⟨q5, e⟩ | ⟨q5, e⟩
  · refine x_if_lt_t (pc := 10) (t := 17) dX8_isImproving_10 (by decide) q5 ?_
    refine x_iconst (pc := 17) dX8_isImproving_17 ?_
    exact x_sub1 (p_X8_isImproving_L18 hl e) [1, 2, 0] rfl
  · refine x_if_lt_f (pc := 10) (t := 17) dX8_isImproving_10 (by decide) q5 ?_
    refine x_iconst (pc := 13) dX8_isImproving_13 ?_
    refine x_goto (pc := 14) (t := 18) dX8_isImproving_14 (by decide) ?_
    exact x_sub1 (p_X8_isImproving_L18 hl e) [1, 2, 0] rfl
abbrev w_X8_isImproving : Cond := (Cond.code yX8_isImproving cX8_isImproving 6 (Option.some Jvm.ClassFile.FieldType.boolean))
theorem mf_X8_isImproving : MF yX8_isImproving w_X8_isImproving cX8_isImproving 6 (Option.some Jvm.ClassFile.FieldType.boolean) 1 := ⟨⟨rfl, tw_3_6, by decide⟩, tw_1_1, ⟨by decide, by decide⟩, by decide +kernel⟩
theorem c_X8_isImproving {l : Launch} {K : Ctx} (hl : l.stackTraces = false) {h : Hp} {a0 : Nat} {i1 : Int32} {t : Rs Int32} (e : f_X8_isImproving h a0 i1 = some t) : Ctr l K 21 yX8_isImproving w_X8_isImproving [.ref a0, .int i1] h (tgI t) :=
  Ctr.of hl mf_X8_isImproving false (fun q => nomatch q) rfl (leb rfl) (p_X8_isImproving hl e)
/-! ## TableColumnBalancer.improvements -/
abbrev mM_X8_improvements : Mi := (22, yX8_improvements.cls, cX8_improvements, 3, (Option.some Jvm.ClassFile.FieldType.int), [], false)
noncomputable def f_X8_improvements_L25 (k5 : Hp → Nat → Int32 → Int32 → Option (Rs Int32)) (h : Hp) (a0 : Nat) (i2 : Int32) (s0 : Int32) (s1 : Int32) : Option (Rs Int32) :=
  k5 h a0 (s1 + s0) (i2 + iN 1)
theorem p_X8_improvements_L25 {l : Launch} {K : Ctx} (hl : l.stackTraces = false) {k5 : Hp → Nat → Int32 → Int32 → Option (Rs Int32)} (hk5 : ∀ (h : Hp) (a0 : Nat) (i1 : Int32) (i2 : Int32) (t : Rs Int32), k5 h a0 i1 i2 = some t → X l K mM_X8_improvements (tgI t) 5 [(0, .ref a0), (1, .int i1), (2, .int i2)] [] h) {h : Hp} {a0 : Nat} {i2 : Int32} {s0 : Int32} {s1 : Int32} {t : Rs Int32} (e : f_X8_improvements_L25 k5 h a0 i2 s0 s1 = some t) : X l K mM_X8_improvements (tgI t) 25 [(0, .ref a0), (2, .int i2)] [.int s0, .int s1] h := by
  unfold f_X8_improvements_L25 at e
  refine x_iadd (pc := 25) dX8_improvements_25 ?_
  refine x_istore_n (pc := 26) dX8_improvements_26 (by decide) rfl ?_
  refine x_iinc (pc := 27) 2 dX8_improvements_27 rfl (by decide) rfl ?_
  refine x_goto (pc := 30) (t := 5) dX8_improvements_30 (by decide) ?_
  exact x_sub1 (hk5 _ _ _ _ _ e) [2, 1, 0] rfl
noncomputable def f_X8_improvements_B5 (k5 : Hp → Nat → Int32 → Int32 → Option (Rs Int32)) (h : Hp) (a0 : Nat) (i1 : Int32) (i2 : Int32) : Option (Rs Int32) :=
  if (iN 36) < i2 then (
    some (h, .inr i1)
  ) else (
    chk (okr h a0 8) <|
    bnd (f_X8_isImproving h a0 i2) fun h3 r4 =>
    if r4 = 0 then (
      f_X8_improvements_L25 k5 h3 a0 i2 (iN 0) i1
    ) else (
      f_X8_improvements_L25 k5 h3 a0 i2 (iN 1) i1
    )
  )
theorem p_X8_improvements_B5 {l : Launch} {K : Ctx} (hl : l.stackTraces = false) {k5 : Hp → Nat → Int32 → Int32 → Option (Rs Int32)} (hk5 : ∀ (h : Hp) (a0 : Nat) (i1 : Int32) (i2 : Int32) (t : Rs Int32), k5 h a0 i1 i2 = some t → X l K mM_X8_improvements (tgI t) 5 [(0, .ref a0), (1, .int i1), (2, .int i2)] [] h) {h : Hp} {a0 : Nat} {i1 : Int32} {i2 : Int32} {t : Rs Int32} (e : f_X8_improvements_B5 k5 h a0 i1 i2 = some t) : X l K mM_X8_improvements (tgI t) 5 [(0, .ref a0), (1, .int i1), (2, .int i2)] [] h := by
  unfold f_X8_improvements_B5 at e
  refine x_iload_n (pc := 5) 2 dX8_improvements_5 rfl ?_
  refine x_bipush (pc := 6) (v := iN 36) dX8_improvements_6 rfl ?_
  rcases ite_some e with ⟨q1, e⟩ | ⟨q1, e⟩
  · refine x_icmp_gt_t (pc := 8) (t := 33) dX8_improvements_8 (by decide) q1 ?_
    refine x_iload_n (pc := 33) 1 dX8_improvements_33 rfl ?_
    cases Option.some.inj e
    exact x_iret (pc := 34) rfl dX8_improvements_34
  · refine x_icmp_gt_f (pc := 8) (t := 33) dX8_improvements_8 (by decide) q1 ?_
    refine x_iload_n (pc := 11) 1 dX8_improvements_11 rfl ?_
    refine x_aload_n (pc := 12) 0 dX8_improvements_12 rfl ?_
    refine x_iload_n (pc := 13) 2 dX8_improvements_13 rfl ?_
    obtain ⟨q2, e⟩ := chk_some e
    rcases bnd_some e with ⟨h3, r4, ec, rfl⟩ | ⟨h3, r4, ec, e⟩
    · exact y_callV_x (pc := 14) (c_X8_isImproving hl ec) q2 mf_X8_isImproving tw_3_5 ts_2_5 lf_X8_284 rfl rfl dX8_improvements_14 (by decide) rfl rfl (leb rfl) (xx_out0 rfl)
    refine y_callV_i (pc := 14) (c_X8_isImproving hl ec) q2 mf_X8_isImproving tw_3_5 ts_2_5 lf_X8_284 rfl rfl dX8_improvements_14 (by decide) rfl rfl (leb rfl) ?_
    rcases ite_some e with ⟨q5, e⟩ | ⟨q5, e⟩
    · refine x_if_eq_t (pc := 17) (t := 24) dX8_improvements_17 (by decide) q5 ?_
      refine x_iconst (pc := 24) dX8_improvements_24 ?_
      exact x_sub1 (p_X8_improvements_L25 hl hk5 e) [0, 2] rfl
    · refine x_if_eq_f (pc := 17) (t := 24) dX8_improvements_17 (by decide) q5 ?_
      refine x_iconst (pc := 20) dX8_improvements_20 ?_
      refine x_goto (pc := 21) (t := 25) dX8_improvements_21 (by decide) ?_
      exact x_sub1 (p_X8_improvements_L25 hl hk5 e) [0, 2] rfl
noncomputable def f_X8_improvements_L5 (n : Nat) : Hp → Nat → Int32 → Int32 → Option (Rs Int32) := Nat.rec (motive := fun _ => Hp → Nat → Int32 → Int32 → Option (Rs Int32)) (fun _ _ _ _ => none) (fun _ r => f_X8_improvements_B5 r) n
theorem p_X8_improvements_L5 {l : Launch} {K : Ctx} (hl : l.stackTraces = false) : ∀ (n : Nat) (h : Hp) (a0 : Nat) (i1 : Int32) (i2 : Int32) (t : Rs Int32) (e : f_X8_improvements_L5 n h a0 i1 i2 = some t), X l K mM_X8_improvements (tgI t) 5 [(0, .ref a0), (1, .int i1), (2, .int i2)] [] h := by
  intro n
  induction n with
  | zero => exact fun _ _ _ _ _ e => nomatch (show (none : Option (Rs Int32)) = some _ from e)
  | succ n ih => exact fun h a0 i1 i2 t e => p_X8_improvements_B5 hl (fun h a0 i1 i2 t e => ih h a0 i1 i2 t e) e
noncomputable def f_X8_improvements (h : Hp) (a0 : Nat) : Option (Rs Int32) :=
  f_X8_improvements_L5 2000 h a0 (iN 0) (iN 8)
theorem p_X8_improvements {l : Launch} {K : Ctx} (hl : l.stackTraces = false) {h : Hp} {a0 : Nat} {t : Rs Int32} (e : f_X8_improvements h a0 = some t) : X l K mM_X8_improvements (tgI t) 0 [(0, .ref a0)] [] h := by
  unfold f_X8_improvements at e
  refine x_iconst (pc := 0) dX8_improvements_0 ?_
  refine x_istore_n (pc := 1) dX8_improvements_1 (by decide) rfl ?_
  refine x_bipush (pc := 2) (v := iN 8) dX8_improvements_2 rfl ?_
  refine x_istore_n (pc := 4) dX8_improvements_4 (by decide) rfl ?_
  exact x_sub1 (p_X8_improvements_L5 hl 2000 _ _ _ _ _ e) [2, 1, 0] rfl
abbrev w_X8_improvements : Cond := (Cond.code yX8_improvements cX8_improvements 3 (Option.some Jvm.ClassFile.FieldType.int))
theorem mf_X8_improvements : MF yX8_improvements w_X8_improvements cX8_improvements 3 (Option.some Jvm.ClassFile.FieldType.int) 0 := ⟨⟨rfl, tw_3_2, by decide⟩, tw_1_1, ⟨by decide, by decide⟩, by decide +kernel⟩
theorem c_X8_improvements {l : Launch} {K : Ctx} (hl : l.stackTraces = false) {h : Hp} {a0 : Nat} {t : Rs Int32} (e : f_X8_improvements h a0 = some t) : Ctr l K 22 yX8_improvements w_X8_improvements [.ref a0] h (tgI t) :=
  Ctr.of hl mf_X8_improvements false (fun q => nomatch q) rfl (leb rfl) (p_X8_improvements hl e)
/-! ## TableColumnBalancerModel.improving -/
abbrev mM_X9_improving : Mi := (22, yX9_improving.cls, cX9_improving, 6, (Option.some Jvm.ClassFile.FieldType.int), [], false)
noncomputable def f_X9_improving_L58 (k12 : Hp → Nat → Int32 → Int32 → Int32 → Int32 → Option (Rs Int32)) (h : Hp) (a0 : Nat) (i1 : Int32) (i2 : Int32) (i3 : Int32) (i4 : Int32) : Option (Rs Int32) :=
  k12 h a0 i1 i2 i3 (i4 + iN 1)
theorem p_X9_improving_L58 {l : Launch} {K : Ctx} (hl : l.stackTraces = false) {k12 : Hp → Nat → Int32 → Int32 → Int32 → Int32 → Option (Rs Int32)} (hk12 : ∀ (h : Hp) (a0 : Nat) (i1 : Int32) (i2 : Int32) (i3 : Int32) (i4 : Int32) (t : Rs Int32), k12 h a0 i1 i2 i3 i4 = some t → X l K mM_X9_improving (tgI t) 12 [(0, .ref a0), (1, .int i1), (2, .int i2), (3, .int i3), (4, .int i4)] [] h) {h : Hp} {a0 : Nat} {i1 : Int32} {i2 : Int32} {i3 : Int32} {i4 : Int32} {t : Rs Int32} (e : f_X9_improving_L58 k12 h a0 i1 i2 i3 i4 = some t) : X l K mM_X9_improving (tgI t) 58 [(0, .ref a0), (1, .int i1), (2, .int i2), (3, .int i3), (4, .int i4)] [] h := by
  unfold f_X9_improving_L58 at e
  refine x_iinc (pc := 58) 4 dX9_improving_58 rfl (by decide) rfl ?_
  refine x_goto (pc := 61) (t := 12) dX9_improving_61 (by decide) ?_
  exact x_sub1 (hk12 _ _ _ _ _ _ _ e) [1, 2, 3, 4, 0] rfl
noncomputable def f_X9_improving_L44 (k12 : Hp → Nat → Int32 → Int32 → Int32 → Int32 → Option (Rs Int32)) (h : Hp) (a0 : Nat) (i1 : Int32) (i2 : Int32) (i4 : Int32) (i5 : Int32) : Option (Rs Int32) :=
  if i2 = i1 then (
    some (h, .inr i4)
  ) else (
    f_X9_improving_L58 k12 h a0 i1 (i2 + iN 1) i5 i4
  )
theorem p_X9_improving_L44 {l : Launch} {K : Ctx} (hl : l.stackTraces = false) {k12 : Hp → Nat → Int32 → Int32 → Int32 → Int32 → Option (Rs Int32)} (hk12 : ∀ (h : Hp) (a0 : Nat) (i1 : Int32) (i2 : Int32) (i3 : Int32) (i4 : Int32) (t : Rs Int32), k12 h a0 i1 i2 i3 i4 = some t → X l K mM_X9_improving (tgI t) 12 [(0, .ref a0), (1, .int i1), (2, .int i2), (3, .int i3), (4, .int i4)] [] h) {h : Hp} {a0 : Nat} {i1 : Int32} {i2 : Int32} {i4 : Int32} {i5 : Int32} {t : Rs Int32} (e : f_X9_improving_L44 k12 h a0 i1 i2 i4 i5 = some t) : X l K mM_X9_improving (tgI t) 44 [(0, .ref a0), (1, .int i1), (2, .int i2), (4, .int i4), (5, .int i5)] [] h := by
  unfold f_X9_improving_L44 at e
  refine x_iload_n (pc := 44) 2 dX9_improving_44 rfl ?_
  refine x_iload_n (pc := 45) 1 dX9_improving_45 rfl ?_
  rcases ite_some e with ⟨q1, e⟩ | ⟨q1, e⟩
  · refine x_icmp_ne_f (pc := 46) (t := 52) dX9_improving_46 (by decide) q1 ?_
    refine x_iload (pc := 49) 3 dX9_improving_49 rfl ?_
    cases Option.some.inj e
    exact x_iret (pc := 51) rfl dX9_improving_51
  · refine x_icmp_ne_t (pc := 46) (t := 52) dX9_improving_46 (by decide) q1 ?_
    refine x_iinc (pc := 52) 2 dX9_improving_52 rfl (by decide) rfl ?_
    refine x_iload (pc := 55) 4 dX9_improving_55 rfl ?_
    refine x_istore_n (pc := 57) dX9_improving_57 (by decide) rfl ?_
    exact x_sub1 (p_X9_improving_L58 hl hk12 e) [2, 3, 1, 0, 4] rfl
noncomputable def f_X9_improving_B12 (k12 : Hp → Nat → Int32 → Int32 → Int32 → Int32 → Option (Rs Int32)) (h : Hp) (a0 : Nat) (i1 : Int32) (i2 : Int32) (i3 : Int32) (i4 : Int32) : Option (Rs Int32) :=
  if (iN 36) < i4 then (
    if i1 = (iN (-1)) then (
      some (h, .inr i2)
    ) else (
      some (h, .inr (iN (-1)))
    )
  ) else (
    chk (okr h a0 9) <|
    bnd (f_X9_highAt h a0 i4) fun h4 r5 =>
    if r5 = (iN (-1)) then (
      f_X9_improving_L58 k12 h4 a0 i1 i2 i3 i4
    ) else (
      if i3 = (iN (-1)) then (
        f_X9_improving_L44 k12 h4 a0 i1 i2 i4 r5
      ) else (
        if i3 ≤ r5 then (
          f_X9_improving_L58 k12 h4 a0 i1 i2 i3 i4
        ) else (
          f_X9_improving_L44 k12 h4 a0 i1 i2 i4 r5
        )
      )
    )
  )
theorem p_X9_improving_B12 {l : Launch} {K : Ctx} (hl : l.stackTraces = false) {k12 : Hp → Nat → Int32 → Int32 → Int32 → Int32 → Option (Rs Int32)} (hk12 : ∀ (h : Hp) (a0 : Nat) (i1 : Int32) (i2 : Int32) (i3 : Int32) (i4 : Int32) (t : Rs Int32), k12 h a0 i1 i2 i3 i4 = some t → X l K mM_X9_improving (tgI t) 12 [(0, .ref a0), (1, .int i1), (2, .int i2), (3, .int i3), (4, .int i4)] [] h) {h : Hp} {a0 : Nat} {i1 : Int32} {i2 : Int32} {i3 : Int32} {i4 : Int32} {t : Rs Int32} (e : f_X9_improving_B12 k12 h a0 i1 i2 i3 i4 = some t) : X l K mM_X9_improving (tgI t) 12 [(0, .ref a0), (1, .int i1), (2, .int i2), (3, .int i3), (4, .int i4)] [] h := by
  unfold f_X9_improving_B12 at e
  refine x_iload (pc := 12) 4 dX9_improving_12 rfl ?_
  refine x_bipush (pc := 14) (v := iN 36) dX9_improving_14 rfl ?_
  rcases ite_some e with ⟨q1, e⟩ | ⟨q1, e⟩
  · refine x_icmp_gt_t (pc := 16) (t := 64) dX9_improving_16 (by decide) q1 ?_
    refine x_iload_n (pc := 64) 1 dX9_improving_64 rfl ?_
    refine x_iconst (pc := 65) dX9_improving_65 ?_
    rcases ite_some e with ⟨q2, e⟩ | ⟨q2, e⟩
    · refine x_icmp_ne_f (pc := 66) (t := 73) dX9_improving_66 (by decide) q2 ?_
      refine x_iload_n (pc := 69) 2 dX9_improving_69 rfl ?_
      refine x_goto (pc := 70) (t := 74) dX9_improving_70 (by decide) ?_
      cases Option.some.inj e
      exact x_iret (pc := 74) rfl dX9_improving_74
    · refine x_icmp_ne_t (pc := 66) (t := 73) dX9_improving_66 (by decide) q2 ?_
      refine x_iconst (pc := 73) dX9_improving_73 ?_
      cases Option.some.inj e
      exact x_iret (pc := 74) rfl dX9_improving_74
  · refine x_icmp_gt_f (pc := 16) (t := 64) dX9_improving_16 (by decide) q1 ?_
    refine x_aload_n (pc := 19) 0 dX9_improving_19 rfl ?_
    refine x_iload (pc := 20) 4 dX9_improving_20 rfl ?_
    obtain ⟨q3, e⟩ := chk_some e
    rcases bnd_some e with ⟨h4, r5, ec, rfl⟩ | ⟨h4, r5, ec, e⟩
    · exact y_callV_x (pc := 22) (c_X9_highAt hl ec) q3 mf_X9_highAt tw_8_186 ts_10_7 lf_X9_370 rfl rfl dX9_improving_22 (by decide) rfl rfl (leb rfl) (xx_out0 rfl)
    refine y_callV_i (pc := 22) (c_X9_highAt hl ec) q3 mf_X9_highAt tw_8_186 ts_10_7 lf_X9_370 rfl rfl dX9_improving_22 (by decide) rfl rfl (leb rfl) ?_
    refine x_istore (pc := 25) dX9_improving_25 (by decide) rfl ?_
    refine x_iload (pc := 27) 0 dX9_improving_27 rfl ?_
    refine x_iconst (pc := 29) dX9_improving_29 ?_
    rcases ite_some e with ⟨q6, e⟩ | ⟨q6, e⟩
    · refine x_icmp_eq_t (pc := 30) (t := 58) dX9_improving_30 (by decide) q6 ?_
      exact x_sub1 (p_X9_improving_L58 hl hk12 e) [1, 2, 3, 4, 5] rfl
    · refine x_icmp_eq_f (pc := 30) (t := 58) dX9_improving_30 (by decide) q6 ?_
      refine x_iload_n (pc := 33) 4 dX9_improving_33 rfl ?_
      refine x_iconst (pc := 34) dX9_improving_34 ?_
      rcases ite_some e with ⟨q7, e⟩ | ⟨q7, e⟩
      · refine x_icmp_eq_t (pc := 35) (t := 44) dX9_improving_35 (by decide) q7 ?_
        exact x_sub1 (p_X9_improving_L44 hl hk12 e) [1, 2, 3, 5, 0] rfl
      · refine x_icmp_eq_f (pc := 35) (t := 44) dX9_improving_35 (by decide) q7 ?_
        refine x_iload (pc := 38) 0 dX9_improving_38 rfl ?_
        refine x_iload_n (pc := 40) 4 dX9_improving_40 rfl ?_
        rcases ite_some e with ⟨q8, e⟩ | ⟨q8, e⟩
        · refine x_icmp_ge_t (pc := 41) (t := 58) dX9_improving_41 (by decide) q8 ?_
          exact x_sub1 (p_X9_improving_L58 hl hk12 e) [1, 2, 3, 4, 5] rfl
        · refine x_icmp_ge_f (pc := 41) (t := 58) dX9_improving_41 (by decide) q8 ?_
          exact x_sub1 (p_X9_improving_L44 hl hk12 e) [1, 2, 3, 5, 0] rfl
noncomputable def f_X9_improving_L12 (n : Nat) : Hp → Nat → Int32 → Int32 → Int32 → Int32 → Option (Rs Int32) := Nat.rec (motive := fun _ => Hp → Nat → Int32 → Int32 → Int32 → Int32 → Option (Rs Int32)) (fun _ _ _ _ _ _ => none) (fun _ r => f_X9_improving_B12 r) n
theorem p_X9_improving_L12 {l : Launch} {K : Ctx} (hl : l.stackTraces = false) : ∀ (n : Nat) (h : Hp) (a0 : Nat) (i1 : Int32) (i2 : Int32) (i3 : Int32) (i4 : Int32) (t : Rs Int32) (e : f_X9_improving_L12 n h a0 i1 i2 i3 i4 = some t), X l K mM_X9_improving (tgI t) 12 [(0, .ref a0), (1, .int i1), (2, .int i2), (3, .int i3), (4, .int i4)] [] h := by
  intro n
  induction n with
  | zero => exact fun _ _ _ _ _ _ _ e => nomatch (show (none : Option (Rs Int32)) = some _ from e)
  | succ n ih => exact fun h a0 i1 i2 i3 i4 t e => p_X9_improving_B12 hl (fun h a0 i1 i2 i3 i4 t e => ih h a0 i1 i2 i3 i4 t e) e
noncomputable def f_X9_improving (h : Hp) (a0 : Nat) (i1 : Int32) : Option (Rs Int32) :=
  chk (okr h a0 9) <|
  bnd (f_X9_reckons h a0) fun h2 _ =>
  f_X9_improving_L12 2000 h2 a0 i1 (iN 0) (iN (-1)) (iN 8)
theorem p_X9_improving {l : Launch} {K : Ctx} (hl : l.stackTraces = false) {h : Hp} {a0 : Nat} {i1 : Int32} {t : Rs Int32} (e : f_X9_improving h a0 i1 = some t) : X l K mM_X9_improving (tgI t) 0 [(0, .ref a0), (1, .int i1)] [] h := by
  unfold f_X9_improving at e
  refine x_aload_n (pc := 0) 0 dX9_improving_0 rfl ?_
  obtain ⟨q1, e⟩ := chk_some e
  rcases bnd_some e with ⟨h2, r3, ec, rfl⟩ | ⟨h2, r3, ec, e⟩
  · exact y_callV_x (pc := 1) (c_X9_reckons hl ec) q1 mf_X9_reckons tw_8_150 ts_10_3 lf_X9_361 rfl rfl dX9_improving_1 (by decide) rfl rfl (leb rfl) (xx_out0 rfl)
  refine y_callV_v (pc := 1) (c_X9_reckons hl ec) q1 mf_X9_reckons tw_8_150 ts_10_3 lf_X9_361 rfl rfl dX9_improving_1 (by decide) rfl rfl (leb rfl) ?_
  refine x_iconst (pc := 4) dX9_improving_4 ?_
  refine x_istore_n (pc := 5) dX9_improving_5 (by decide) rfl ?_
  refine x_iconst (pc := 6) dX9_improving_6 ?_
  refine x_istore_n (pc := 7) dX9_improving_7 (by decide) rfl ?_
  refine x_bipush (pc := 8) (v := iN 8) dX9_improving_8 rfl ?_
  refine x_istore (pc := 10) dX9_improving_10 (by decide) rfl ?_
  exact x_sub1 (p_X9_improving_L12 hl 2000 _ _ _ _ _ _ _ e) [3, 4, 2, 1, 0] rfl
abbrev w_X9_improving : Cond := (Cond.code yX9_improving cX9_improving 6 (Option.some Jvm.ClassFile.FieldType.int))
theorem mf_X9_improving : MF yX9_improving w_X9_improving cX9_improving 6 (Option.some Jvm.ClassFile.FieldType.int) 1 := ⟨⟨rfl, tw_8_199, by decide⟩, tw_1_11, ⟨by decide, by decide⟩, by decide +kernel⟩
theorem c_X9_improving {l : Launch} {K : Ctx} (hl : l.stackTraces = false) {h : Hp} {a0 : Nat} {i1 : Int32} {t : Rs Int32} (e : f_X9_improving h a0 i1 = some t) : Ctr l K 22 yX9_improving w_X9_improving [.ref a0, .int i1] h (tgI t) :=
  Ctr.of hl mf_X9_improving false (fun q => nomatch q) rfl (leb rfl) (p_X9_improving hl e)
/-! ## TableColumnBalancerModel.improvements -/
abbrev mM_X9_improvements : Mi := (23, yX9_improvements.cls, cX9_improvements, 1, (Option.some Jvm.ClassFile.FieldType.int), [], false)
noncomputable def f_X9_improvements (h : Hp) (a0 : Nat) : Option (Rs Int32) :=
  chk (okr h a0 9) <|
  lt (putI h a0 0 (iN 0)) fun h2 =>
  bnd (f_X9_improving h2 a0 (iN (-1))) fun h3 r4 =>
  some (h3, .inr r4)
theorem p_X9_improvements {l : Launch} {K : Ctx} (hl : l.stackTraces = false) {h : Hp} {a0 : Nat} {t : Rs Int32} (e : f_X9_improvements h a0 = some t) : X l K mM_X9_improvements (tgI t) 0 [(0, .ref a0)] [] h := by
  unfold f_X9_improvements at e
  refine x_aload_n (pc := 0) 0 dX9_improvements_0 rfl ?_
  refine x_iconst (pc := 1) dX9_improvements_1 ?_
  obtain ⟨q1, e⟩ := chk_some e
  replace e := lt_go e
  refine x_putI (pc := 2) pf_X9_84 rfl rfl rfl dX9_improvements_2 q1 ?_
  refine x_aload_n (pc := 5) 0 dX9_improvements_5 rfl ?_
  refine x_iconst (pc := 6) dX9_improvements_6 ?_
  rcases bnd_some e with ⟨h3, r4, ec, rfl⟩ | ⟨h3, r4, ec, e⟩
  · exact y_callV_x (pc := 7) (c_X9_improving hl ec) (okr_pI q1) mf_X9_improving tw_8_198 ts_10_8 lf_X9_373 rfl rfl dX9_improvements_7 (by decide) rfl rfl (leb rfl) (xx_out0 rfl)
  refine y_callV_i (pc := 7) (c_X9_improving hl ec) (okr_pI q1) mf_X9_improving tw_8_198 ts_10_8 lf_X9_373 rfl rfl dX9_improvements_7 (by decide) rfl rfl (leb rfl) ?_
  cases Option.some.inj e
  exact x_iret (pc := 10) rfl dX9_improvements_10
abbrev w_X9_improvements : Cond := (Cond.code yX9_improvements cX9_improvements 1 (Option.some Jvm.ClassFile.FieldType.int))
theorem mf_X9_improvements : MF yX9_improvements w_X9_improvements cX9_improvements 1 (Option.some Jvm.ClassFile.FieldType.int) 0 := ⟨⟨rfl, tw_8_195, by decide⟩, tw_1_11, ⟨by decide, by decide⟩, by decide +kernel⟩
theorem c_X9_improvements {l : Launch} {K : Ctx} (hl : l.stackTraces = false) {h : Hp} {a0 : Nat} {t : Rs Int32} (e : f_X9_improvements h a0 = some t) : Ctr l K 23 yX9_improvements w_X9_improvements [.ref a0] h (tgI t) :=
  Ctr.of hl mf_X9_improvements false (fun q => nomatch q) rfl (leb rfl) (p_X9_improvements hl e)
/-! ## TableColumnBalancer.improvement -/
abbrev mM_X8_improvement : Mi := (22, yX8_improvement.cls, cX8_improvement, 4, (Option.some Jvm.ClassFile.FieldType.int), [], false)
noncomputable def f_X8_improvement_L29 (k5 : Hp → Nat → Int32 → Int32 → Int32 → Option (Rs Int32)) (h : Hp) (a0 : Nat) (i1 : Int32) (i2 : Int32) (i3 : Int32) : Option (Rs Int32) :=
  k5 h a0 i1 i2 (i3 + iN 1)
theorem p_X8_improvement_L29 {l : Launch} {K : Ctx} (hl : l.stackTraces = false) {k5 : Hp → Nat → Int32 → Int32 → Int32 → Option (Rs Int32)} (hk5 : ∀ (h : Hp) (a0 : Nat) (i1 : Int32) (i2 : Int32) (i3 : Int32) (t : Rs Int32), k5 h a0 i1 i2 i3 = some t → X l K mM_X8_improvement (tgI t) 5 [(0, .ref a0), (1, .int i1), (2, .int i2), (3, .int i3)] [] h) {h : Hp} {a0 : Nat} {i1 : Int32} {i2 : Int32} {i3 : Int32} {t : Rs Int32} (e : f_X8_improvement_L29 k5 h a0 i1 i2 i3 = some t) : X l K mM_X8_improvement (tgI t) 29 [(0, .ref a0), (1, .int i1), (2, .int i2), (3, .int i3)] [] h := by
  unfold f_X8_improvement_L29 at e
  refine x_iinc (pc := 29) 3 dX8_improvement_29 rfl (by decide) rfl ?_
  refine x_goto (pc := 32) (t := 5) dX8_improvement_32 (by decide) ?_
  exact x_sub1 (hk5 _ _ _ _ _ _ e) [1, 2, 3, 0] rfl
noncomputable def f_X8_improvement_B5 (k5 : Hp → Nat → Int32 → Int32 → Int32 → Option (Rs Int32)) (h : Hp) (a0 : Nat) (i1 : Int32) (i2 : Int32) (i3 : Int32) : Option (Rs Int32) :=
  if (iN 36) < i3 then (
    some (bump h, .inl 5)
  ) else (
    chk (okr h a0 8) <|
    bnd (f_X8_isImproving h a0 i3) fun h3 r4 =>
    if r4 = 0 then (
      f_X8_improvement_L29 k5 h3 a0 i1 i2 i3
    ) else (
      if i2 = i1 then (
        some (h3, .inr i3)
      ) else (
        f_X8_improvement_L29 k5 h3 a0 i1 (i2 + iN 1) i3
      )
    )
  )
theorem p_X8_improvement_B5 {l : Launch} {K : Ctx} (hl : l.stackTraces = false) {k5 : Hp → Nat → Int32 → Int32 → Int32 → Option (Rs Int32)} (hk5 : ∀ (h : Hp) (a0 : Nat) (i1 : Int32) (i2 : Int32) (i3 : Int32) (t : Rs Int32), k5 h a0 i1 i2 i3 = some t → X l K mM_X8_improvement (tgI t) 5 [(0, .ref a0), (1, .int i1), (2, .int i2), (3, .int i3)] [] h) {h : Hp} {a0 : Nat} {i1 : Int32} {i2 : Int32} {i3 : Int32} {t : Rs Int32} (e : f_X8_improvement_B5 k5 h a0 i1 i2 i3 = some t) : X l K mM_X8_improvement (tgI t) 5 [(0, .ref a0), (1, .int i1), (2, .int i2), (3, .int i3)] [] h := by
  unfold f_X8_improvement_B5 at e
  refine x_iload_n (pc := 5) 3 dX8_improvement_5 rfl ?_
  refine x_bipush (pc := 6) (v := iN 36) dX8_improvement_6 rfl ?_
  rcases ite_some e with ⟨q1, e⟩ | ⟨q1, e⟩
  · refine x_icmp_gt_t (pc := 8) (t := 35) dX8_improvement_8 (by decide) q1 ?_
    cases Option.some.inj e
    exact x_throw (pc := 35) (ic := 283) rfl tw_5_124 tw_1_25 th_X8_283 (by decide) tg_X8_283 dX8_improvement_35 dX8_improvement_38 dX8_improvement_39 dX8_improvement_42 (by decide) (leb rfl)
  · refine x_icmp_gt_f (pc := 8) (t := 35) dX8_improvement_8 (by decide) q1 ?_
    refine x_aload_n (pc := 11) 0 dX8_improvement_11 rfl ?_
    refine x_iload_n (pc := 12) 3 dX8_improvement_12 rfl ?_
    obtain ⟨q2, e⟩ := chk_some e
    rcases bnd_some e with ⟨h3, r4, ec, rfl⟩ | ⟨h3, r4, ec, e⟩
    · exact y_callV_x (pc := 13) (c_X8_isImproving hl ec) q2 mf_X8_isImproving tw_3_5 ts_2_5 lf_X8_284 rfl rfl dX8_improvement_13 (by decide) rfl rfl (leb rfl) (xx_out0 rfl)
    refine y_callV_i (pc := 13) (c_X8_isImproving hl ec) q2 mf_X8_isImproving tw_3_5 ts_2_5 lf_X8_284 rfl rfl dX8_improvement_13 (by decide) rfl rfl (leb rfl) ?_
    rcases ite_some e with ⟨q5, e⟩ | ⟨q5, e⟩
    · refine x_if_eq_t (pc := 16) (t := 29) dX8_improvement_16 (by decide) q5 ?_
      exact p_X8_improvement_L29 hl hk5 e
    · refine x_if_eq_f (pc := 16) (t := 29) dX8_improvement_16 (by decide) q5 ?_
      refine x_iload_n (pc := 19) 2 dX8_improvement_19 rfl ?_
      refine x_iload_n (pc := 20) 1 dX8_improvement_20 rfl ?_
      rcases ite_some e with ⟨q6, e⟩ | ⟨q6, e⟩
      · refine x_icmp_ne_f (pc := 21) (t := 26) dX8_improvement_21 (by decide) q6 ?_
        refine x_iload_n (pc := 24) 3 dX8_improvement_24 rfl ?_
        cases Option.some.inj e
        exact x_iret (pc := 25) rfl dX8_improvement_25
      · refine x_icmp_ne_t (pc := 21) (t := 26) dX8_improvement_21 (by decide) q6 ?_
        refine x_iinc (pc := 26) 2 dX8_improvement_26 rfl (by decide) rfl ?_
        exact x_sub1 (p_X8_improvement_L29 hl hk5 e) [1, 2, 0, 3] rfl
noncomputable def f_X8_improvement_L5 (n : Nat) : Hp → Nat → Int32 → Int32 → Int32 → Option (Rs Int32) := Nat.rec (motive := fun _ => Hp → Nat → Int32 → Int32 → Int32 → Option (Rs Int32)) (fun _ _ _ _ _ => none) (fun _ r => f_X8_improvement_B5 r) n
theorem p_X8_improvement_L5 {l : Launch} {K : Ctx} (hl : l.stackTraces = false) : ∀ (n : Nat) (h : Hp) (a0 : Nat) (i1 : Int32) (i2 : Int32) (i3 : Int32) (t : Rs Int32) (e : f_X8_improvement_L5 n h a0 i1 i2 i3 = some t), X l K mM_X8_improvement (tgI t) 5 [(0, .ref a0), (1, .int i1), (2, .int i2), (3, .int i3)] [] h := by
  intro n
  induction n with
  | zero => exact fun _ _ _ _ _ _ e => nomatch (show (none : Option (Rs Int32)) = some _ from e)
  | succ n ih => exact fun h a0 i1 i2 i3 t e => p_X8_improvement_B5 hl (fun h a0 i1 i2 i3 t e => ih h a0 i1 i2 i3 t e) e
noncomputable def f_X8_improvement (h : Hp) (a0 : Nat) (i1 : Int32) : Option (Rs Int32) :=
  f_X8_improvement_L5 2000 h a0 i1 (iN 0) (iN 8)
theorem p_X8_improvement {l : Launch} {K : Ctx} (hl : l.stackTraces = false) {h : Hp} {a0 : Nat} {i1 : Int32} {t : Rs Int32} (e : f_X8_improvement h a0 i1 = some t) : X l K mM_X8_improvement (tgI t) 0 [(0, .ref a0), (1, .int i1)] [] h := by
  unfold f_X8_improvement at e
  refine x_iconst (pc := 0) dX8_improvement_0 ?_
  refine x_istore_n (pc := 1) dX8_improvement_1 (by decide) rfl ?_
  refine x_bipush (pc := 2) (v := iN 8) dX8_improvement_2 rfl ?_
  refine x_istore_n (pc := 4) dX8_improvement_4 (by decide) rfl ?_
  exact x_sub1 (p_X8_improvement_L5 hl 2000 _ _ _ _ _ _ e) [2, 3, 1, 0] rfl
abbrev w_X8_improvement : Cond := (Cond.code yX8_improvement cX8_improvement 4 (Option.some Jvm.ClassFile.FieldType.int))
theorem mf_X8_improvement : MF yX8_improvement w_X8_improvement cX8_improvement 4 (Option.some Jvm.ClassFile.FieldType.int) 1 := ⟨⟨rfl, tw_6_26, by decide⟩, tw_1_1, ⟨by decide, by decide⟩, by decide +kernel⟩
theorem c_X8_improvement {l : Launch} {K : Ctx} (hl : l.stackTraces = false) {h : Hp} {a0 : Nat} {i1 : Int32} {t : Rs Int32} (e : f_X8_improvement h a0 i1 = some t) : Ctr l K 22 yX8_improvement w_X8_improvement [.ref a0, .int i1] h (tgI t) :=
  Ctr.of hl mf_X8_improvement false (fun q => nomatch q) rfl (leb rfl) (p_X8_improvement hl e)
/-! ## TableColumnBalancerLaw.improvement -/
abbrev mM_L_improvement : Mi := (23, yL_improvement.cls, cL_improvement, 4, (Option.some Jvm.ClassFile.FieldType.int), [((0 : Nat), (9 : Nat), (12 : Nat), (73 : Nat))], false)
noncomputable def f_L_improvement (h : Hp) (a0 : Nat) (i1 : Int32) (a2 : Nat) : Option (Rs Int32) :=
  chk (okr h a0 8) <|
  bndX (f_X8_improvement h a0 i1) (fun h2 r3 => (
    chk (okr h2 a2 21) <|
    chk (vp_in (iN 0) (qW h2 a2)) <|
    lt (putL h2 a2 (Int32.toNatClampNeg (iN 0)) (Int32.toInt64 r3)) fun h6 =>
    some (h6, .inr (iN 0))
  )) fun h2 k =>
  if k = 5 then (
    some (h2, .inr (iN 1))
  ) else
  none
theorem p_L_improvement {l : Launch} {K : Ctx} (hl : l.stackTraces = false) {h : Hp} {a0 : Nat} {i1 : Int32} {a2 : Nat} {t : Rs Int32} (e : f_L_improvement h a0 i1 a2 = some t) : X l K mM_L_improvement (tgI t) 0 [(0, .ref a0), (1, .int i1), (2, .ref a2)] [] h := by
  unfold f_L_improvement at e
  refine x_aload_n (pc := 0) 2 dL_improvement_0 rfl ?_
  refine x_iconst (pc := 1) dL_improvement_1 ?_
  refine x_aload_n (pc := 2) 0 dL_improvement_2 rfl ?_
  refine x_iload_n (pc := 3) 1 dL_improvement_3 rfl ?_
  obtain ⟨q1, e⟩ := chk_some e
  rcases bndX_some e with ⟨h2, k, ec, e⟩ | ⟨h2, r3, ec, e⟩
  · rcases ite_some e with ⟨q7, e⟩ | ⟨q7, e⟩
    · subst q7
      refine y_callV_x (pc := 4) (c_X8_improvement hl ec) q1 mf_X8_improvement tw_6_24 tw_6_25 lf_L_115 rfl rfl dL_improvement_4 (by decide) rfl rfl (leb rfl) (xx_catch (pc := 4) [] [] (0, 9, 12, 73) rfl (by decide) (fun _ hz => absurd hz List.not_mem_nil) (by decide) (by decide) tw_5_116 tw_5_126 dL_improvement_12 (by decide) rfl ?_)
      refine x_iconst (pc := 13) dL_improvement_13 ?_
      cases Option.some.inj e
      exact x_iret (pc := 14) rfl dL_improvement_14
    cases e
  refine y_callV_i (pc := 4) (c_X8_improvement hl ec) q1 mf_X8_improvement tw_6_24 tw_6_25 lf_L_115 rfl rfl dL_improvement_4 (by decide) rfl rfl (leb rfl) ?_
  refine x_i2l (pc := 7) dL_improvement_7 ?_
  obtain ⟨q4, e⟩ := chk_some e
  obtain ⟨q5, e⟩ := chk_some e
  replace e := lt_go e
  refine x_last (pc := 8) dL_improvement_8 q4 q5 ?_
  refine x_goto (pc := 9) (t := 15) dL_improvement_9 (by decide) ?_
  refine x_iconst (pc := 15) dL_improvement_15 ?_
  cases Option.some.inj e
  exact x_iret (pc := 16) rfl dL_improvement_16
abbrev w_L_improvement : Cond := (Cond.codeWith yL_improvement cL_improvement 4 (Option.some Jvm.ClassFile.FieldType.int) [((0 : Nat), (9 : Nat), (12 : Nat), (73 : Nat))])
theorem mf_L_improvement : MFX yL_improvement w_L_improvement cL_improvement 4 (Option.some Jvm.ClassFile.FieldType.int) 3 [((0 : Nat), (9 : Nat), (12 : Nat), (73 : Nat))] := ⟨⟨rfl, tw_6_22, by decide⟩, tw_1_0, ⟨by decide, by decide⟩, by decide +kernel⟩
theorem c_L_improvement {l : Launch} {K : Ctx} (hl : l.stackTraces = false) {h : Hp} {a0 : Nat} {i1 : Int32} {a2 : Nat} {t : Rs Int32} (e : f_L_improvement h a0 i1 a2 = some t) : Ctr l K 23 yL_improvement w_L_improvement [.ref a0, .int i1, .ref a2] h (tgI t) :=
  Ctr.ofX hl mf_L_improvement rfl (leb rfl) (p_L_improvement hl e)
/-! ## TableColumnBalancerModel.improvement -/
abbrev mM_X9_improvement : Mi := (23, yX9_improvement.cls, cX9_improvement, 3, (Option.some Jvm.ClassFile.FieldType.int), [], false)
noncomputable def f_X9_improvement_L18 (h : Hp) (a0 : Nat) (s0 : Int32) : Option (Rs Int32) :=
  if s0 = (iN (-1)) then (
    chk (okr h a0 9) <|
    bnd (f_X9_fails h a0 (iN 1)) fun h3 r4 =>
    some (h3, .inr r4)
  ) else (
    some (h, .inr s0)
  )
theorem p_X9_improvement_L18 {l : Launch} {K : Ctx} (hl : l.stackTraces = false) {h : Hp} {a0 : Nat} {s0 : Int32} {t : Rs Int32} (e : f_X9_improvement_L18 h a0 s0 = some t) : X l K mM_X9_improvement (tgI t) 18 [(0, .ref a0)] [.int s0] h := by
  unfold f_X9_improvement_L18 at e
  refine x_istore_n (pc := 18) dX9_improvement_18 (by decide) rfl ?_
  refine x_iload_n (pc := 19) 0 dX9_improvement_19 rfl ?_
  refine x_iconst (pc := 20) dX9_improvement_20 ?_
  rcases ite_some e with ⟨q1, e⟩ | ⟨q1, e⟩
  · refine x_icmp_ne_f (pc := 21) (t := 32) dX9_improvement_21 (by decide) q1 ?_
    refine x_aload_n (pc := 24) 1 dX9_improvement_24 rfl ?_
    refine x_iconst (pc := 25) dX9_improvement_25 ?_
    obtain ⟨q2, e⟩ := chk_some e
    rcases bnd_some e with ⟨h3, r4, ec, rfl⟩ | ⟨h3, r4, ec, e⟩
    · exact y_callV_x (pc := 26) (c_X9_fails hl ec) q2 mf_X9_fails tw_7_24 ts_6_7 lf_X9_95 rfl rfl dX9_improvement_26 (by decide) rfl rfl (leb rfl) (xx_out0 rfl)
    refine y_callV_i (pc := 26) (c_X9_fails hl ec) q2 mf_X9_fails tw_7_24 ts_6_7 lf_X9_95 rfl rfl dX9_improvement_26 (by decide) rfl rfl (leb rfl) ?_
    refine x_goto (pc := 29) (t := 33) dX9_improvement_29 (by decide) ?_
    cases Option.some.inj e
    exact x_iret (pc := 33) rfl dX9_improvement_33
  · refine x_icmp_ne_t (pc := 21) (t := 32) dX9_improvement_21 (by decide) q1 ?_
    refine x_iload_n (pc := 32) 0 dX9_improvement_32 rfl ?_
    cases Option.some.inj e
    exact x_iret (pc := 33) rfl dX9_improvement_33
noncomputable def f_X9_improvement (h : Hp) (a0 : Nat) (i1 : Int32) : Option (Rs Int32) :=
  chk (okr h a0 9) <|
  lt (putI h a0 0 (iN 0)) fun h2 =>
  if 0 ≤ i1 then (
    bnd (f_X9_improving h2 a0 i1) fun h4 r5 =>
    f_X9_improvement_L18 h4 a0 r5
  ) else (
    f_X9_improvement_L18 h2 a0 (iN (-1))
  )
theorem p_X9_improvement {l : Launch} {K : Ctx} (hl : l.stackTraces = false) {h : Hp} {a0 : Nat} {i1 : Int32} {t : Rs Int32} (e : f_X9_improvement h a0 i1 = some t) : X l K mM_X9_improvement (tgI t) 0 [(0, .ref a0), (1, .int i1)] [] h := by
  unfold f_X9_improvement at e
  refine x_aload_n (pc := 0) 0 dX9_improvement_0 rfl ?_
  refine x_iconst (pc := 1) dX9_improvement_1 ?_
  obtain ⟨q1, e⟩ := chk_some e
  replace e := lt_go e
  refine x_putI (pc := 2) pf_X9_84 rfl rfl rfl dX9_improvement_2 q1 ?_
  refine x_iload_n (pc := 5) 1 dX9_improvement_5 rfl ?_
  rcases ite_some e with ⟨q3, e⟩ | ⟨q3, e⟩
  · refine x_if_ge_t (pc := 6) (t := 13) dX9_improvement_6 (by decide) q3 ?_
    refine x_aload_n (pc := 13) 0 dX9_improvement_13 rfl ?_
    refine x_iload_n (pc := 14) 1 dX9_improvement_14 rfl ?_
    rcases bnd_some e with ⟨h4, r5, ec, rfl⟩ | ⟨h4, r5, ec, e⟩
    · exact y_callV_x (pc := 15) (c_X9_improving hl ec) (okr_pI q1) mf_X9_improving tw_8_198 ts_10_8 lf_X9_373 rfl rfl dX9_improvement_15 (by decide) rfl rfl (leb rfl) (xx_out0 rfl)
    refine y_callV_i (pc := 15) (c_X9_improving hl ec) (okr_pI q1) mf_X9_improving tw_8_198 ts_10_8 lf_X9_373 rfl rfl dX9_improvement_15 (by decide) rfl rfl (leb rfl) ?_
    exact x_sub1 (p_X9_improvement_L18 hl e) [0] rfl
  · refine x_if_ge_f (pc := 6) (t := 13) dX9_improvement_6 (by decide) q3 ?_
    refine x_iconst (pc := 9) dX9_improvement_9 ?_
    refine x_goto (pc := 10) (t := 18) dX9_improvement_10 (by decide) ?_
    exact x_sub1 (p_X9_improvement_L18 hl e) [0] rfl
abbrev w_X9_improvement : Cond := (Cond.code yX9_improvement cX9_improvement 3 (Option.some Jvm.ClassFile.FieldType.int))
theorem mf_X9_improvement : MF yX9_improvement w_X9_improvement cX9_improvement 3 (Option.some Jvm.ClassFile.FieldType.int) 1 := ⟨⟨rfl, tw_8_203, by decide⟩, tw_1_11, ⟨by decide, by decide⟩, by decide +kernel⟩
theorem c_X9_improvement {l : Launch} {K : Ctx} (hl : l.stackTraces = false) {h : Hp} {a0 : Nat} {i1 : Int32} {t : Rs Int32} (e : f_X9_improvement h a0 i1 = some t) : Ctr l K 23 yX9_improvement w_X9_improvement [.ref a0, .int i1] h (tgI t) :=
  Ctr.of hl mf_X9_improvement false (fun q => nomatch q) rfl (leb rfl) (p_X9_improvement hl e)
/-! ## TableColumnBalancer.heightOfTrialBelow -/
abbrev mM_X8_heightOfTrialBelow : Mi := (21, yX8_heightOfTrialBelow.cls, cX8_heightOfTrialBelow, 2, (Option.some Jvm.ClassFile.FieldType.int), [], false)
noncomputable def f_X8_heightOfTrialBelow (h : Hp) (a0 : Nat) (i1 : Int32) : Option (Rs Int32) :=
  chk (okr h a0 8) <|
  chk (okr h (qR h a0 4) 3) <|
  bnd (f_X3_measure h (qR h a0 4)) fun h3 _ =>
  chk (okr h3 a0 8) <|
  chk (okr h3 (qR h3 a0 5) 6) <|
  bnd (f_X6_restart h3 (qR h3 a0 5) i1) fun h7 _ =>
  chk (okr h7 a0 8) <|
  chk (okr h7 (qR h7 a0 5) 6) <|
  chk (okr h7 (qR h7 a0 3) 7) <|
  bnd (f_X6_leastHeight h7 (qR h7 a0 5) (qI h7 (qR h7 a0 3) 0)) fun h12 r13 =>
  some (h12, .inr r13)
theorem p_X8_heightOfTrialBelow {l : Launch} {K : Ctx} (hl : l.stackTraces = false) {h : Hp} {a0 : Nat} {i1 : Int32} {t : Rs Int32} (e : f_X8_heightOfTrialBelow h a0 i1 = some t) : X l K mM_X8_heightOfTrialBelow (tgI t) 0 [(0, .ref a0), (1, .int i1)] [] h := by
  unfold f_X8_heightOfTrialBelow at e
  refine x_aload_n (pc := 0) 0 dX8_heightOfTrialBelow_0 rfl ?_
  obtain ⟨q1, e⟩ := chk_some e
  obtain ⟨q2, e⟩ := chk_some e
  refine x_getR (pc := 1) gf_X8_37 rfl dX8_heightOfTrialBelow_1 q1 q2.1 ?_
  rcases bnd_some e with ⟨h3, r4, ec, rfl⟩ | ⟨h3, r4, ec, e⟩
  · exact y_callV_x (pc := 4) (c_X3_measure hl ec) q2 mf_X3_measure tw_2_104 ts_1_0 lf_X8_64 rfl rfl dX8_heightOfTrialBelow_4 (by decide) rfl rfl (leb rfl) (xx_out0 rfl)
  refine y_callV_v (pc := 4) (c_X3_measure hl ec) q2 mf_X3_measure tw_2_104 ts_1_0 lf_X8_64 rfl rfl dX8_heightOfTrialBelow_4 (by decide) rfl rfl (leb rfl) ?_
  refine x_aload_n (pc := 7) 0 dX8_heightOfTrialBelow_7 rfl ?_
  obtain ⟨q5, e⟩ := chk_some e
  obtain ⟨q6, e⟩ := chk_some e
  refine x_getR (pc := 8) gf_X8_40 rfl dX8_heightOfTrialBelow_8 q5 q6.1 ?_
  refine x_iload_n (pc := 11) 1 dX8_heightOfTrialBelow_11 rfl ?_
  rcases bnd_some e with ⟨h7, r8, ec, rfl⟩ | ⟨h7, r8, ec, e⟩
  · exact y_callV_x (pc := 12) (c_X6_restart hl ec) q6 mf_X6_restart tw_2_188 ts_2_3 lf_X8_68 rfl rfl dX8_heightOfTrialBelow_12 (by decide) rfl rfl (leb rfl) (xx_out0 rfl)
  refine y_callV_v (pc := 12) (c_X6_restart hl ec) q6 mf_X6_restart tw_2_188 ts_2_3 lf_X8_68 rfl rfl dX8_heightOfTrialBelow_12 (by decide) rfl rfl (leb rfl) ?_
  refine x_aload_n (pc := 15) 0 dX8_heightOfTrialBelow_15 rfl ?_
  obtain ⟨q9, e⟩ := chk_some e
  obtain ⟨q10, e⟩ := chk_some e
  refine x_getR (pc := 16) gf_X8_40 rfl dX8_heightOfTrialBelow_16 q9 q10.1 ?_
  refine x_aload_n (pc := 19) 0 dX8_heightOfTrialBelow_19 rfl ?_
  obtain ⟨q11, e⟩ := chk_some e
  refine x_getR (pc := 20) gf_X8_34 rfl dX8_heightOfTrialBelow_20 q9 q11.1 ?_
  refine x_getI (pc := 23) gf_X8_99 rfl dX8_heightOfTrialBelow_23 q11 ?_
  rcases bnd_some e with ⟨h12, r13, ec, rfl⟩ | ⟨h12, r13, ec, e⟩
  · exact y_callV_x (pc := 26) (c_X6_leastHeight hl ec) q10 mf_X6_leastHeight tw_3_9 ts_2_6 lf_X8_270 rfl rfl dX8_heightOfTrialBelow_26 (by decide) rfl rfl (leb rfl) (xx_out0 rfl)
  refine y_callV_i (pc := 26) (c_X6_leastHeight hl ec) q10 mf_X6_leastHeight tw_3_9 ts_2_6 lf_X8_270 rfl rfl dX8_heightOfTrialBelow_26 (by decide) rfl rfl (leb rfl) ?_
  cases Option.some.inj e
  exact x_iret (pc := 29) rfl dX8_heightOfTrialBelow_29
abbrev w_X8_heightOfTrialBelow : Cond := (Cond.code yX8_heightOfTrialBelow cX8_heightOfTrialBelow 2 (Option.some Jvm.ClassFile.FieldType.int))
theorem mf_X8_heightOfTrialBelow : MF yX8_heightOfTrialBelow w_X8_heightOfTrialBelow cX8_heightOfTrialBelow 2 (Option.some Jvm.ClassFile.FieldType.int) 1 := ⟨⟨rfl, tw_6_37, by decide⟩, tw_1_1, ⟨by decide, by decide⟩, by decide +kernel⟩
theorem c_X8_heightOfTrialBelow {l : Launch} {K : Ctx} (hl : l.stackTraces = false) {h : Hp} {a0 : Nat} {i1 : Int32} {t : Rs Int32} (e : f_X8_heightOfTrialBelow h a0 i1 = some t) : Ctr l K 21 yX8_heightOfTrialBelow w_X8_heightOfTrialBelow [.ref a0, .int i1] h (tgI t) :=
  Ctr.of hl mf_X8_heightOfTrialBelow false (fun q => nomatch q) rfl (leb rfl) (p_X8_heightOfTrialBelow hl e)
/-! ## TableColumnBalancer.critical -/
abbrev mM_X8_critical : Mi := (22, yX8_critical.cls, cX8_critical, 5, (Option.some Jvm.ClassFile.FieldType.int), [], false)
noncomputable def f_X8_critical_L93 (h : Hp) (i2 : Int32) (s0 : Int32) : Option (Rs Int32) :=
  bnd (f_X8_requireElement h s0) fun h1 _ =>
  some (h1, .inr i2)
theorem p_X8_critical_L93 {l : Launch} {K : Ctx} (hl : l.stackTraces = false) {h : Hp} {i2 : Int32} {s0 : Int32} {t : Rs Int32} (e : f_X8_critical_L93 h i2 s0 = some t) : X l K mM_X8_critical (tgI t) 93 [(2, .int i2)] [.int s0] h := by
  unfold f_X8_critical_L93 at e
  rcases bnd_some e with ⟨h1, r2, ec, rfl⟩ | ⟨h1, r2, ec, e⟩
  · exact y_callS_x (pc := 93) (c_X8_requireElement hl ec) mf_X8_requireElement tw_5_122 lf_X8_233 dX8_critical_93 (by decide) rfl rfl (leb rfl) (xx_out0 rfl)
  refine y_callS_v (pc := 93) (c_X8_requireElement hl ec) mf_X8_requireElement tw_5_122 lf_X8_233 dX8_critical_93 (by decide) rfl rfl (leb rfl) ?_
  refine x_iload_n (pc := 96) 0 dX8_critical_96 rfl ?_
  cases Option.some.inj e
  exact x_iret (pc := 97) rfl dX8_critical_97
noncomputable def f_X8_critical_L78 (k31 : Hp → Nat → Int32 → Int32 → Int32 → Option (Rs Int32)) (h : Hp) (a0 : Nat) (i1 : Int32) (i2 : Int32) (i3 : Int32) : Option (Rs Int32) :=
  k31 h a0 i1 i2 (i3 + iN 1)
theorem p_X8_critical_L78 {l : Launch} {K : Ctx} (hl : l.stackTraces = false) {k31 : Hp → Nat → Int32 → Int32 → Int32 → Option (Rs Int32)} (hk31 : ∀ (h : Hp) (a0 : Nat) (i1 : Int32) (i2 : Int32) (i3 : Int32) (t : Rs Int32), k31 h a0 i1 i2 i3 = some t → X l K mM_X8_critical (tgI t) 31 [(0, .ref a0), (1, .int i1), (2, .int i2), (3, .int i3)] [] h) {h : Hp} {a0 : Nat} {i1 : Int32} {i2 : Int32} {i3 : Int32} {t : Rs Int32} (e : f_X8_critical_L78 k31 h a0 i1 i2 i3 = some t) : X l K mM_X8_critical (tgI t) 78 [(0, .ref a0), (1, .int i1), (2, .int i2), (3, .int i3)] [] h := by
  unfold f_X8_critical_L78 at e
  refine x_iinc (pc := 78) 3 dX8_critical_78 rfl (by decide) rfl ?_
  refine x_goto (pc := 81) (t := 31) dX8_critical_81 (by decide) ?_
  exact x_sub1 (hk31 _ _ _ _ _ _ e) [1, 2, 3, 0] rfl
noncomputable def f_X8_critical_B31 (k31 : Hp → Nat → Int32 → Int32 → Int32 → Option (Rs Int32)) (h : Hp) (a0 : Nat) (i1 : Int32) (i2 : Int32) (i3 : Int32) : Option (Rs Int32) :=
  chk (okr h a0 8) <|
  chk (okr h (qR h a0 0) 7) <|
  if (qI h (qR h a0 0) 5) ≤ i3 then (
    if i2 < 0 then (
      f_X8_critical_L93 h i2 (iN 0)
    ) else (
      f_X8_critical_L93 h i2 (iN 1)
    )
  ) else (
    chk (okr h (qR h a0 3) 7) <|
    bnd (f_X7_copyFrom h (qR h a0 3) (qR h a0 0)) fun h6 _ =>
    chk (okr h6 a0 8) <|
    chk (okr h6 (qR h6 a0 3) 7) <|
    bnd (f_X7_takeOut h6 (qR h6 a0 3) i3) fun h10 _ =>
    chk (okr h10 a0 8) <|
    bnd (f_X8_heightOfTrialBelow h10 a0 i1) fun h13 r14 =>
    if r14 < 0 then (
      f_X8_critical_L78 k31 h13 a0 i1 i2 i3
    ) else (
      f_X8_critical_L78 k31 h13 a0 r14 i3 i3
    )
  )
theorem p_X8_critical_B31 {l : Launch} {K : Ctx} (hl : l.stackTraces = false) {k31 : Hp → Nat → Int32 → Int32 → Int32 → Option (Rs Int32)} (hk31 : ∀ (h : Hp) (a0 : Nat) (i1 : Int32) (i2 : Int32) (i3 : Int32) (t : Rs Int32), k31 h a0 i1 i2 i3 = some t → X l K mM_X8_critical (tgI t) 31 [(0, .ref a0), (1, .int i1), (2, .int i2), (3, .int i3)] [] h) {h : Hp} {a0 : Nat} {i1 : Int32} {i2 : Int32} {i3 : Int32} {t : Rs Int32} (e : f_X8_critical_B31 k31 h a0 i1 i2 i3 = some t) : X l K mM_X8_critical (tgI t) 31 [(0, .ref a0), (1, .int i1), (2, .int i2), (3, .int i3)] [] h := by
  unfold f_X8_critical_B31 at e
  refine x_iload_n (pc := 31) 3 dX8_critical_31 rfl ?_
  refine x_aload_n (pc := 32) 0 dX8_critical_32 rfl ?_
  obtain ⟨q1, e⟩ := chk_some e
  obtain ⟨q2, e⟩ := chk_some e
  refine x_getR (pc := 33) gf_X8_10 rfl dX8_critical_33 q1 q2.1 ?_
  refine x_getI (pc := 36) gf_X8_80 rfl dX8_critical_36 q2 ?_
  rcases ite_some e with ⟨q3, e⟩ | ⟨q3, e⟩
  · refine x_icmp_ge_t (pc := 39) (t := 84) dX8_critical_39 (by decide) q3 ?_
    refine x_iload_n (pc := 84) 2 dX8_critical_84 rfl ?_
    rcases ite_some e with ⟨q4, e⟩ | ⟨q4, e⟩
    · refine x_if_lt_t (pc := 85) (t := 92) dX8_critical_85 (by decide) q4 ?_
      refine x_iconst (pc := 92) dX8_critical_92 ?_
      exact x_sub1 (p_X8_critical_L93 hl e) [2] rfl
    · refine x_if_lt_f (pc := 85) (t := 92) dX8_critical_85 (by decide) q4 ?_
      refine x_iconst (pc := 88) dX8_critical_88 ?_
      refine x_goto (pc := 89) (t := 93) dX8_critical_89 (by decide) ?_
      exact x_sub1 (p_X8_critical_L93 hl e) [2] rfl
  · refine x_icmp_ge_f (pc := 39) (t := 84) dX8_critical_39 (by decide) q3 ?_
    refine x_aload_n (pc := 42) 0 dX8_critical_42 rfl ?_
    obtain ⟨q5, e⟩ := chk_some e
    refine x_getR (pc := 43) gf_X8_34 rfl dX8_critical_43 q1 q5.1 ?_
    refine x_aload_n (pc := 46) 0 dX8_critical_46 rfl ?_
    refine x_getR (pc := 47) gf_X8_10 rfl dX8_critical_47 q1 q2.1 ?_
    rcases bnd_some e with ⟨h6, r7, ec, rfl⟩ | ⟨h6, r7, ec, e⟩
    · exact y_callV_x (pc := 50) (c_X7_copyFrom hl ec) q5 mf_X7_copyFrom tw_3_60 ts_2_15 lf_X8_195 rfl rfl dX8_critical_50 (by decide) rfl rfl (leb rfl) (xx_out0 rfl)
    refine y_callV_v (pc := 50) (c_X7_copyFrom hl ec) q5 mf_X7_copyFrom tw_3_60 ts_2_15 lf_X8_195 rfl rfl dX8_critical_50 (by decide) rfl rfl (leb rfl) ?_
    refine x_aload_n (pc := 53) 0 dX8_critical_53 rfl ?_
    obtain ⟨q8, e⟩ := chk_some e
    obtain ⟨q9, e⟩ := chk_some e
    refine x_getR (pc := 54) gf_X8_34 rfl dX8_critical_54 q8 q9.1 ?_
    refine x_iload_n (pc := 57) 3 dX8_critical_57 rfl ?_
    rcases bnd_some e with ⟨h10, r11, ec, rfl⟩ | ⟨h10, r11, ec, e⟩
    · exact y_callV_x (pc := 58) (c_X7_takeOut hl ec) q9 mf_X7_takeOut tw_4_71 ts_3_15 lf_X8_142 rfl rfl dX8_critical_58 (by decide) rfl rfl (leb rfl) (xx_out0 rfl)
    refine y_callV_v (pc := 58) (c_X7_takeOut hl ec) q9 mf_X7_takeOut tw_4_71 ts_3_15 lf_X8_142 rfl rfl dX8_critical_58 (by decide) rfl rfl (leb rfl) ?_
    refine x_aload_n (pc := 61) 0 dX8_critical_61 rfl ?_
    refine x_iload_n (pc := 62) 1 dX8_critical_62 rfl ?_
    obtain ⟨q12, e⟩ := chk_some e
    rcases bnd_some e with ⟨h13, r14, ec, rfl⟩ | ⟨h13, r14, ec, e⟩
    · exact y_callV_x (pc := 63) (c_X8_heightOfTrialBelow hl ec) q12 mf_X8_heightOfTrialBelow tw_6_36 ts_6_1 lf_X8_287 rfl rfl dX8_critical_63 (by decide) rfl rfl (leb rfl) (xx_out0 rfl)
    refine y_callV_i (pc := 63) (c_X8_heightOfTrialBelow hl ec) q12 mf_X8_heightOfTrialBelow tw_6_36 ts_6_1 lf_X8_287 rfl rfl dX8_critical_63 (by decide) rfl rfl (leb rfl) ?_
    refine x_istore (pc := 66) dX8_critical_66 (by decide) rfl ?_
    refine x_iload (pc := 68) 0 dX8_critical_68 rfl ?_
    rcases ite_some e with ⟨q15, e⟩ | ⟨q15, e⟩
    · refine x_if_lt_t (pc := 70) (t := 78) dX8_critical_70 (by decide) q15 ?_
      exact x_sub1 (p_X8_critical_L78 hl hk31 e) [1, 2, 3, 4] rfl
    · refine x_if_lt_f (pc := 70) (t := 78) dX8_critical_70 (by decide) q15 ?_
      refine x_iload (pc := 73) 0 dX8_critical_73 rfl ?_
      refine x_istore_n (pc := 75) dX8_critical_75 (by decide) rfl ?_
      refine x_iload_n (pc := 76) 4 dX8_critical_76 rfl ?_
      refine x_istore_n (pc := 77) dX8_critical_77 (by decide) rfl ?_
      exact x_sub1 (p_X8_critical_L78 hl hk31 e) [3, 1, 0, 4] rfl
noncomputable def f_X8_critical_L31 (n : Nat) : Hp → Nat → Int32 → Int32 → Int32 → Option (Rs Int32) := Nat.rec (motive := fun _ => Hp → Nat → Int32 → Int32 → Int32 → Option (Rs Int32)) (fun _ _ _ _ _ => none) (fun _ r => f_X8_critical_B31 r) n
theorem p_X8_critical_L31 {l : Launch} {K : Ctx} (hl : l.stackTraces = false) : ∀ (n : Nat) (h : Hp) (a0 : Nat) (i1 : Int32) (i2 : Int32) (i3 : Int32) (t : Rs Int32) (e : f_X8_critical_L31 n h a0 i1 i2 i3 = some t), X l K mM_X8_critical (tgI t) 31 [(0, .ref a0), (1, .int i1), (2, .int i2), (3, .int i3)] [] h := by
  intro n
  induction n with
  | zero => exact fun _ _ _ _ _ _ e => nomatch (show (none : Option (Rs Int32)) = some _ from e)
  | succ n ih => exact fun h a0 i1 i2 i3 t e => p_X8_critical_B31 hl (fun h a0 i1 i2 i3 t e => ih h a0 i1 i2 i3 t e) e
noncomputable def f_X8_critical_L24 (h : Hp) (a0 : Nat) (i1 : Int32) (s0 : Int32) : Option (Rs Int32) :=
  bnd (f_X8_requireState h s0) fun h1 _ =>
  f_X8_critical_L31 2000 h1 a0 i1 (iN (-1)) (iN 0)
theorem p_X8_critical_L24 {l : Launch} {K : Ctx} (hl : l.stackTraces = false) {h : Hp} {a0 : Nat} {i1 : Int32} {s0 : Int32} {t : Rs Int32} (e : f_X8_critical_L24 h a0 i1 s0 = some t) : X l K mM_X8_critical (tgI t) 24 [(0, .ref a0), (1, .int i1)] [.int s0] h := by
  unfold f_X8_critical_L24 at e
  rcases bnd_some e with ⟨h1, r2, ec, rfl⟩ | ⟨h1, r2, ec, e⟩
  · exact y_callS_x (pc := 24) (c_X8_requireState hl ec) mf_X8_requireState tw_3_155 lf_X8_84 dX8_critical_24 (by decide) rfl rfl (leb rfl) (xx_out0 rfl)
  refine y_callS_v (pc := 24) (c_X8_requireState hl ec) mf_X8_requireState tw_3_155 lf_X8_84 dX8_critical_24 (by decide) rfl rfl (leb rfl) ?_
  refine x_iconst (pc := 27) dX8_critical_27 ?_
  refine x_istore_n (pc := 28) dX8_critical_28 (by decide) rfl ?_
  refine x_iconst (pc := 29) dX8_critical_29 ?_
  refine x_istore_n (pc := 30) dX8_critical_30 (by decide) rfl ?_
  exact x_sub1 (p_X8_critical_L31 hl 2000 _ _ _ _ _ _ e) [2, 3, 1, 0] rfl
noncomputable def f_X8_critical (h : Hp) (a0 : Nat) : Option (Rs Int32) :=
  chk (okr h a0 8) <|
  chk (okr h (qR h a0 2) 6) <|
  chk (okr h (qR h a0 0) 7) <|
  bnd (f_X6_leastHeight h (qR h a0 2) (qI h (qR h a0 0) 0)) fun h4 r5 =>
  if r5 < 0 then (
    f_X8_critical_L24 h4 a0 r5 (iN 0)
  ) else (
    f_X8_critical_L24 h4 a0 r5 (iN 1)
  )
theorem p_X8_critical {l : Launch} {K : Ctx} (hl : l.stackTraces = false) {h : Hp} {a0 : Nat} {t : Rs Int32} (e : f_X8_critical h a0 = some t) : X l K mM_X8_critical (tgI t) 0 [(0, .ref a0)] [] h := by
  unfold f_X8_critical at e
  refine x_aload_n (pc := 0) 0 dX8_critical_0 rfl ?_
  obtain ⟨q1, e⟩ := chk_some e
  obtain ⟨q2, e⟩ := chk_some e
  refine x_getR (pc := 1) gf_X8_30 rfl dX8_critical_1 q1 q2.1 ?_
  refine x_aload_n (pc := 4) 0 dX8_critical_4 rfl ?_
  obtain ⟨q3, e⟩ := chk_some e
  refine x_getR (pc := 5) gf_X8_10 rfl dX8_critical_5 q1 q3.1 ?_
  refine x_getI (pc := 8) gf_X8_99 rfl dX8_critical_8 q3 ?_
  rcases bnd_some e with ⟨h4, r5, ec, rfl⟩ | ⟨h4, r5, ec, e⟩
  · exact y_callV_x (pc := 11) (c_X6_leastHeight hl ec) q2 mf_X6_leastHeight tw_3_9 ts_2_6 lf_X8_270 rfl rfl dX8_critical_11 (by decide) rfl rfl (leb rfl) (xx_out0 rfl)
  refine y_callV_i (pc := 11) (c_X6_leastHeight hl ec) q2 mf_X6_leastHeight tw_3_9 ts_2_6 lf_X8_270 rfl rfl dX8_critical_11 (by decide) rfl rfl (leb rfl) ?_
  refine x_istore_n (pc := 14) dX8_critical_14 (by decide) rfl ?_
  refine x_iload_n (pc := 15) 0 dX8_critical_15 rfl ?_
  rcases ite_some e with ⟨q6, e⟩ | ⟨q6, e⟩
  · refine x_if_lt_t (pc := 16) (t := 23) dX8_critical_16 (by decide) q6 ?_
    refine x_iconst (pc := 23) dX8_critical_23 ?_
    exact x_sub1 (p_X8_critical_L24 hl e) [1, 0] rfl
  · refine x_if_lt_f (pc := 16) (t := 23) dX8_critical_16 (by decide) q6 ?_
    refine x_iconst (pc := 19) dX8_critical_19 ?_
    refine x_goto (pc := 20) (t := 24) dX8_critical_20 (by decide) ?_
    exact x_sub1 (p_X8_critical_L24 hl e) [1, 0] rfl
abbrev w_X8_critical : Cond := (Cond.code yX8_critical cX8_critical 5 (Option.some Jvm.ClassFile.FieldType.int))
theorem mf_X8_critical : MF yX8_critical w_X8_critical cX8_critical 5 (Option.some Jvm.ClassFile.FieldType.int) 0 := ⟨⟨rfl, tw_6_33, by decide⟩, tw_1_1, ⟨by decide, by decide⟩, by decide +kernel⟩
theorem c_X8_critical {l : Launch} {K : Ctx} (hl : l.stackTraces = false) {h : Hp} {a0 : Nat} {t : Rs Int32} (e : f_X8_critical h a0 = some t) : Ctr l K 22 yX8_critical w_X8_critical [.ref a0] h (tgI t) :=
  Ctr.of hl mf_X8_critical false (fun q => nomatch q) rfl (leb rfl) (p_X8_critical hl e)
/-! ## TableColumnBalancerLaw.critical -/
abbrev mM_L_critical : Mi := (23, yL_critical.cls, cL_critical, 3, (Option.some Jvm.ClassFile.FieldType.int), [((0 : Nat), (8 : Nat), (11 : Nat), (15 : Nat)), ((0 : Nat), (8 : Nat), (14 : Nat), (73 : Nat))], false)
noncomputable def f_L_critical (h : Hp) (a0 : Nat) (a1 : Nat) : Option (Rs Int32) :=
  chk (okr h a0 8) <|
  bndX (f_X8_critical h a0) (fun h2 r3 => (
    chk (okr h2 a1 21) <|
    chk (vp_in (iN 0) (qW h2 a1)) <|
    lt (putL h2 a1 (Int32.toNatClampNeg (iN 0)) (Int32.toInt64 r3)) fun h6 =>
    some (h6, .inr (iN 0))
  )) fun h2 k =>
  if k = 0 then (
    some (h2, .inr (iN 1))
  ) else
  if k = 5 then (
    some (h2, .inr (iN 2))
  ) else
  none
theorem p_L_critical {l : Launch} {K : Ctx} (hl : l.stackTraces = false) {h : Hp} {a0 : Nat} {a1 : Nat} {t : Rs Int32} (e : f_L_critical h a0 a1 = some t) : X l K mM_L_critical (tgI t) 0 [(0, .ref a0), (1, .ref a1)] [] h := by
  unfold f_L_critical at e
  refine x_aload_n (pc := 0) 1 dL_critical_0 rfl ?_
  refine x_iconst (pc := 1) dL_critical_1 ?_
  refine x_aload_n (pc := 2) 0 dL_critical_2 rfl ?_
  obtain ⟨q1, e⟩ := chk_some e
  rcases bndX_some e with ⟨h2, k, ec, e⟩ | ⟨h2, r3, ec, e⟩
  · rcases ite_some e with ⟨q7, e⟩ | ⟨q7, e⟩
    · subst q7
      refine y_callV_x (pc := 3) (c_X8_critical hl ec) q1 mf_X8_critical tw_6_31 tw_6_32 lf_L_118 rfl rfl dL_critical_3 (by decide) rfl rfl (leb rfl) (xx_catch (pc := 3) [] [(0, 8, 14, 73)] (0, 8, 11, 15) rfl (by decide) (fun _ hz => absurd hz List.not_mem_nil) (by decide) (by decide) tw_3_77 tw_3_159 dL_critical_11 (by decide) rfl ?_)
      refine x_iconst (pc := 12) dL_critical_12 ?_
      cases Option.some.inj e
      exact x_iret (pc := 13) rfl dL_critical_13
    rcases ite_some e with ⟨q8, e⟩ | ⟨q8, e⟩
    · subst q8
      refine y_callV_x (pc := 3) (c_X8_critical hl ec) q1 mf_X8_critical tw_6_31 tw_6_32 lf_L_118 rfl rfl dL_critical_3 (by decide) rfl rfl (leb rfl) (xx_catch (pc := 3) [(0, 8, 11, 15)] [] (0, 8, 14, 73) rfl (by decide) (List.forall_mem_cons.mpr ⟨⟨by decide, 0, by decide, by decide, tw_3_77⟩, fun _ hz => absurd hz List.not_mem_nil⟩) (by decide) (by decide) tw_5_116 tw_5_126 dL_critical_14 (by decide) rfl ?_)
      refine x_iconst (pc := 15) dL_critical_15 ?_
      cases Option.some.inj e
      exact x_iret (pc := 16) rfl dL_critical_16
    cases e
  refine y_callV_i (pc := 3) (c_X8_critical hl ec) q1 mf_X8_critical tw_6_31 tw_6_32 lf_L_118 rfl rfl dL_critical_3 (by decide) rfl rfl (leb rfl) ?_
  refine x_i2l (pc := 6) dL_critical_6 ?_
  obtain ⟨q4, e⟩ := chk_some e
  obtain ⟨q5, e⟩ := chk_some e
  replace e := lt_go e
  refine x_last (pc := 7) dL_critical_7 q4 q5 ?_
  refine x_goto (pc := 8) (t := 17) dL_critical_8 (by decide) ?_
  refine x_iconst (pc := 17) dL_critical_17 ?_
  cases Option.some.inj e
  exact x_iret (pc := 18) rfl dL_critical_18
abbrev w_L_critical : Cond := (Cond.codeWith yL_critical cL_critical 3 (Option.some Jvm.ClassFile.FieldType.int) [((0 : Nat), (8 : Nat), (11 : Nat), (15 : Nat)), ((0 : Nat), (8 : Nat), (14 : Nat), (73 : Nat))])
theorem mf_L_critical : MFX yL_critical w_L_critical cL_critical 3 (Option.some Jvm.ClassFile.FieldType.int) 2 [((0 : Nat), (8 : Nat), (11 : Nat), (15 : Nat)), ((0 : Nat), (8 : Nat), (14 : Nat), (73 : Nat))] := ⟨⟨rfl, tw_6_29, by decide⟩, tw_1_0, ⟨by decide, by decide⟩, by decide +kernel⟩
theorem c_L_critical {l : Launch} {K : Ctx} (hl : l.stackTraces = false) {h : Hp} {a0 : Nat} {a1 : Nat} {t : Rs Int32} (e : f_L_critical h a0 a1 = some t) : Ctr l K 23 yL_critical w_L_critical [.ref a0, .ref a1] h (tgI t) :=
  Ctr.ofX hl mf_L_critical rfl (leb rfl) (p_L_critical hl e)
/-! ## TableColumnBalancerModel.critical -/
abbrev mM_X9_critical : Mi := (22, yX9_critical.cls, cX9_critical, 5, (Option.some Jvm.ClassFile.FieldType.int), [], false)
noncomputable def f_X9_critical_L92 (k31 : Hp → Nat → Int32 → Int32 → Int32 → Option (Rs Int32)) (h : Hp) (a0 : Nat) (i2 : Int32) (i3 : Int32) (s0 : Int32) : Option (Rs Int32) :=
  chk (okr h a0 9) <|
  bnd (f_X9_goesBack h a0) fun h2 _ =>
  k31 h2 a0 s0 i2 (i3 + iN 1)
theorem p_X9_critical_L92 {l : Launch} {K : Ctx} (hl : l.stackTraces = false) {k31 : Hp → Nat → Int32 → Int32 → Int32 → Option (Rs Int32)} (hk31 : ∀ (h : Hp) (a0 : Nat) (i1 : Int32) (i2 : Int32) (i3 : Int32) (t : Rs Int32), k31 h a0 i1 i2 i3 = some t → X l K mM_X9_critical (tgI t) 31 [(0, .ref a0), (1, .int i1), (2, .int i2), (3, .int i3)] [] h) {h : Hp} {a0 : Nat} {i2 : Int32} {i3 : Int32} {s0 : Int32} {t : Rs Int32} (e : f_X9_critical_L92 k31 h a0 i2 i3 s0 = some t) : X l K mM_X9_critical (tgI t) 92 [(0, .ref a0), (2, .int i2), (3, .int i3)] [.int s0] h := by
  unfold f_X9_critical_L92 at e
  refine x_istore_n (pc := 92) dX9_critical_92 (by decide) rfl ?_
  refine x_aload_n (pc := 93) 1 dX9_critical_93 rfl ?_
  obtain ⟨q1, e⟩ := chk_some e
  rcases bnd_some e with ⟨h2, r3, ec, rfl⟩ | ⟨h2, r3, ec, e⟩
  · exact y_callV_x (pc := 94) (c_X9_goesBack hl ec) q1 mf_X9_goesBack tw_7_223 ts_8_7 lf_X9_259 rfl rfl dX9_critical_94 (by decide) rfl rfl (leb rfl) (xx_out0 rfl)
  refine y_callV_v (pc := 94) (c_X9_goesBack hl ec) q1 mf_X9_goesBack tw_7_223 ts_8_7 lf_X9_259 rfl rfl dX9_critical_94 (by decide) rfl rfl (leb rfl) ?_
  refine x_iinc (pc := 97) 3 dX9_critical_97 rfl (by decide) rfl ?_
  refine x_goto (pc := 100) (t := 31) dX9_critical_100 (by decide) ?_
  exact x_sub1 (hk31 _ _ _ _ _ _ e) [2, 1, 3, 0] rfl
noncomputable def f_X9_critical_L78 (k31 : Hp → Nat → Int32 → Int32 → Int32 → Option (Rs Int32)) (h : Hp) (a0 : Nat) (i1 : Int32) (i3 : Int32) (i4 : Int32) (s0 : Int32) : Option (Rs Int32) :=
  if i4 = 0 then (
    f_X9_critical_L92 k31 h a0 s0 i3 i1
  ) else (
    chk (okr h a0 9) <|
    f_X9_critical_L92 k31 h a0 s0 i3 (qI h a0 32)
  )
theorem p_X9_critical_L78 {l : Launch} {K : Ctx} (hl : l.stackTraces = false) {k31 : Hp → Nat → Int32 → Int32 → Int32 → Option (Rs Int32)} (hk31 : ∀ (h : Hp) (a0 : Nat) (i1 : Int32) (i2 : Int32) (i3 : Int32) (t : Rs Int32), k31 h a0 i1 i2 i3 = some t → X l K mM_X9_critical (tgI t) 31 [(0, .ref a0), (1, .int i1), (2, .int i2), (3, .int i3)] [] h) {h : Hp} {a0 : Nat} {i1 : Int32} {i3 : Int32} {i4 : Int32} {s0 : Int32} {t : Rs Int32} (e : f_X9_critical_L78 k31 h a0 i1 i3 i4 s0 = some t) : X l K mM_X9_critical (tgI t) 78 [(0, .ref a0), (1, .int i1), (3, .int i3), (4, .int i4)] [.int s0] h := by
  unfold f_X9_critical_L78 at e
  refine x_istore_n (pc := 78) dX9_critical_78 (by decide) rfl ?_
  refine x_iload (pc := 79) 4 dX9_critical_79 rfl ?_
  rcases ite_some e with ⟨q1, e⟩ | ⟨q1, e⟩
  · refine x_if_eq_t (pc := 81) (t := 91) dX9_critical_81 (by decide) q1 ?_
    refine x_iload_n (pc := 91) 2 dX9_critical_91 rfl ?_
    exact x_sub1 (p_X9_critical_L92 hl hk31 e) [1, 0, 3] rfl
  · refine x_if_eq_f (pc := 81) (t := 91) dX9_critical_81 (by decide) q1 ?_
    refine x_aload_n (pc := 84) 1 dX9_critical_84 rfl ?_
    obtain ⟨q2, e⟩ := chk_some e
    refine x_getI (pc := 85) gf_X9_355 rfl dX9_critical_85 q2 ?_
    refine x_goto (pc := 88) (t := 92) dX9_critical_88 (by decide) ?_
    exact x_sub1 (p_X9_critical_L92 hl hk31 e) [1, 0, 3] rfl
noncomputable def f_X9_critical_L66 (k31 : Hp → Nat → Int32 → Int32 → Int32 → Option (Rs Int32)) (h : Hp) (a0 : Nat) (i1 : Int32) (i2 : Int32) (i3 : Int32) (s0 : Int32) : Option (Rs Int32) :=
  if s0 = 0 then (
    f_X9_critical_L78 k31 h a0 i1 i3 s0 i2
  ) else (
    f_X9_critical_L78 k31 h a0 i1 i3 s0 i3
  )
theorem p_X9_critical_L66 {l : Launch} {K : Ctx} (hl : l.stackTraces = false) {k31 : Hp → Nat → Int32 → Int32 → Int32 → Option (Rs Int32)} (hk31 : ∀ (h : Hp) (a0 : Nat) (i1 : Int32) (i2 : Int32) (i3 : Int32) (t : Rs Int32), k31 h a0 i1 i2 i3 = some t → X l K mM_X9_critical (tgI t) 31 [(0, .ref a0), (1, .int i1), (2, .int i2), (3, .int i3)] [] h) {h : Hp} {a0 : Nat} {i1 : Int32} {i2 : Int32} {i3 : Int32} {s0 : Int32} {t : Rs Int32} (e : f_X9_critical_L66 k31 h a0 i1 i2 i3 s0 = some t) : X l K mM_X9_critical (tgI t) 66 [(0, .ref a0), (1, .int i1), (2, .int i2), (3, .int i3)] [.int s0] h := by
  unfold f_X9_critical_L66 at e
  refine x_istore (pc := 66) dX9_critical_66 (by decide) rfl ?_
  refine x_iload (pc := 68) 0 dX9_critical_68 rfl ?_
  rcases ite_some e with ⟨q1, e⟩ | ⟨q1, e⟩
  · refine x_if_eq_t (pc := 70) (t := 77) dX9_critical_70 (by decide) q1 ?_
    refine x_iload_n (pc := 77) 3 dX9_critical_77 rfl ?_
    exact x_sub1 (p_X9_critical_L78 hl hk31 e) [1, 2, 4, 0] rfl
  · refine x_if_eq_f (pc := 70) (t := 77) dX9_critical_70 (by decide) q1 ?_
    refine x_iload_n (pc := 73) 4 dX9_critical_73 rfl ?_
    refine x_goto (pc := 74) (t := 78) dX9_critical_74 (by decide) ?_
    exact x_sub1 (p_X9_critical_L78 hl hk31 e) [1, 2, 4, 0] rfl
noncomputable def f_X9_critical_L65 (k31 : Hp → Nat → Int32 → Int32 → Int32 → Option (Rs Int32)) (h : Hp) (a0 : Nat) (i1 : Int32) (i2 : Int32) (i3 : Int32) : Option (Rs Int32) :=
  f_X9_critical_L66 k31 h a0 i1 i2 i3 (iN 0)
theorem p_X9_critical_L65 {l : Launch} {K : Ctx} (hl : l.stackTraces = false) {k31 : Hp → Nat → Int32 → Int32 → Int32 → Option (Rs Int32)} (hk31 : ∀ (h : Hp) (a0 : Nat) (i1 : Int32) (i2 : Int32) (i3 : Int32) (t : Rs Int32), k31 h a0 i1 i2 i3 = some t → X l K mM_X9_critical (tgI t) 31 [(0, .ref a0), (1, .int i1), (2, .int i2), (3, .int i3)] [] h) {h : Hp} {a0 : Nat} {i1 : Int32} {i2 : Int32} {i3 : Int32} {t : Rs Int32} (e : f_X9_critical_L65 k31 h a0 i1 i2 i3 = some t) : X l K mM_X9_critical (tgI t) 65 [(0, .ref a0), (1, .int i1), (2, .int i2), (3, .int i3)] [] h := by
  unfold f_X9_critical_L65 at e
  refine x_iconst (pc := 65) dX9_critical_65 ?_
  exact p_X9_critical_L66 hl hk31 e
noncomputable def f_X9_critical_B31 (k31 : Hp → Nat → Int32 → Int32 → Int32 → Option (Rs Int32)) (h : Hp) (a0 : Nat) (i1 : Int32) (i2 : Int32) (i3 : Int32) : Option (Rs Int32) :=
  chk (okr h a0 9) <|
  chk (okr h (qR h a0 3) 20) <|
  chk (vp_in (iN 5) (qW h (qR h a0 3))) <|
  if (qI h (qR h a0 3) (Int32.toNatClampNeg (iN 5))) ≤ i3 then (
    if i2 = (iN (-1)) then (
      bnd (f_X9_fails h a0 (iN 2)) fun h6 r7 =>
      some (h6, .inr r7)
    ) else (
      some (h, .inr i2)
    )
  ) else (
    bnd (f_X9_removes h a0 i3) fun h8 _ =>
    chk (okr h8 a0 9) <|
    bnd (f_X9_isBest h8 a0) fun h11 r12 =>
    if r12 = 0 then (
      f_X9_critical_L65 k31 h11 a0 i1 i2 i3
    ) else (
      chk (okr h11 a0 9) <|
      if i1 ≤ (qI h11 a0 32) then (
        f_X9_critical_L65 k31 h11 a0 i1 i2 i3
      ) else (
        f_X9_critical_L66 k31 h11 a0 i1 i2 i3 (iN 1)
      )
    )
  )
theorem p_X9_critical_B31 {l : Launch} {K : Ctx} (hl : l.stackTraces = false) {k31 : Hp → Nat → Int32 → Int32 → Int32 → Option (Rs Int32)} (hk31 : ∀ (h : Hp) (a0 : Nat) (i1 : Int32) (i2 : Int32) (i3 : Int32) (t : Rs Int32), k31 h a0 i1 i2 i3 = some t → X l K mM_X9_critical (tgI t) 31 [(0, .ref a0), (1, .int i1), (2, .int i2), (3, .int i3)] [] h) {h : Hp} {a0 : Nat} {i1 : Int32} {i2 : Int32} {i3 : Int32} {t : Rs Int32} (e : f_X9_critical_B31 k31 h a0 i1 i2 i3 = some t) : X l K mM_X9_critical (tgI t) 31 [(0, .ref a0), (1, .int i1), (2, .int i2), (3, .int i3)] [] h := by
  unfold f_X9_critical_B31 at e
  refine x_iload_n (pc := 31) 3 dX9_critical_31 rfl ?_
  refine x_aload_n (pc := 32) 0 dX9_critical_32 rfl ?_
  obtain ⟨q1, e⟩ := chk_some e
  obtain ⟨q2, e⟩ := chk_some e
  refine x_getR (pc := 33) gf_X9_16 rfl dX9_critical_33 q1 q2.1 ?_
  refine x_iconst (pc := 36) dX9_critical_36 ?_
  obtain ⟨q3, e⟩ := chk_some e
  refine x_iald (pc := 37) dX9_critical_37 q2 q3 ?_
  rcases ite_some e with ⟨q4, e⟩ | ⟨q4, e⟩
  · refine x_icmp_ge_t (pc := 38) (t := 103) dX9_critical_38 (by decide) q4 ?_
    refine x_iload_n (pc := 103) 2 dX9_critical_103 rfl ?_
    refine x_iconst (pc := 104) dX9_critical_104 ?_
    rcases ite_some e with ⟨q5, e⟩ | ⟨q5, e⟩
    · refine x_icmp_ne_f (pc := 105) (t := 116) dX9_critical_105 (by decide) q5 ?_
      refine x_aload_n (pc := 108) 0 dX9_critical_108 rfl ?_
      refine x_iconst (pc := 109) dX9_critical_109 ?_
      rcases bnd_some e with ⟨h6, r7, ec, rfl⟩ | ⟨h6, r7, ec, e⟩
      · exact y_callV_x (pc := 110) (c_X9_fails hl ec) q1 mf_X9_fails tw_7_24 ts_6_7 lf_X9_95 rfl rfl dX9_critical_110 (by decide) rfl rfl (leb rfl) (xx_out0 rfl)
      refine y_callV_i (pc := 110) (c_X9_fails hl ec) q1 mf_X9_fails tw_7_24 ts_6_7 lf_X9_95 rfl rfl dX9_critical_110 (by decide) rfl rfl (leb rfl) ?_
      refine x_goto (pc := 113) (t := 117) dX9_critical_113 (by decide) ?_
      cases Option.some.inj e
      exact x_iret (pc := 117) rfl dX9_critical_117
    · refine x_icmp_ne_t (pc := 105) (t := 116) dX9_critical_105 (by decide) q5 ?_
      refine x_iload_n (pc := 116) 2 dX9_critical_116 rfl ?_
      cases Option.some.inj e
      exact x_iret (pc := 117) rfl dX9_critical_117
  · refine x_icmp_ge_f (pc := 38) (t := 103) dX9_critical_38 (by decide) q4 ?_
    refine x_aload_n (pc := 41) 0 dX9_critical_41 rfl ?_
    refine x_iload_n (pc := 42) 3 dX9_critical_42 rfl ?_
    rcases bnd_some e with ⟨h8, r9, ec, rfl⟩ | ⟨h8, r9, ec, e⟩
    · exact y_callV_x (pc := 43) (c_X9_removes hl ec) q1 mf_X9_removes tw_7_79 ts_6_15 lf_X9_123 rfl rfl dX9_critical_43 (by decide) rfl rfl (leb rfl) (xx_out0 rfl)
    refine y_callV_v (pc := 43) (c_X9_removes hl ec) q1 mf_X9_removes tw_7_79 ts_6_15 lf_X9_123 rfl rfl dX9_critical_43 (by decide) rfl rfl (leb rfl) ?_
    refine x_aload_n (pc := 46) 0 dX9_critical_46 rfl ?_
    obtain ⟨q10, e⟩ := chk_some e
    rcases bnd_some e with ⟨h11, r12, ec, rfl⟩ | ⟨h11, r12, ec, e⟩
    · exact y_callV_x (pc := 47) (c_X9_isBest hl ec) q10 mf_X9_isBest tw_8_146 ts_10_2 lf_X9_367 rfl rfl dX9_critical_47 (by decide) rfl rfl (leb rfl) (xx_out0 rfl)
    refine y_callV_i (pc := 47) (c_X9_isBest hl ec) q10 mf_X9_isBest tw_8_146 ts_10_2 lf_X9_367 rfl rfl dX9_critical_47 (by decide) rfl rfl (leb rfl) ?_
    rcases ite_some e with ⟨q13, e⟩ | ⟨q13, e⟩
    · refine x_if_eq_t (pc := 50) (t := 65) dX9_critical_50 (by decide) q13 ?_
      exact p_X9_critical_L65 hl hk31 e
    · refine x_if_eq_f (pc := 50) (t := 65) dX9_critical_50 (by decide) q13 ?_
      refine x_aload_n (pc := 53) 0 dX9_critical_53 rfl ?_
      obtain ⟨q14, e⟩ := chk_some e
      refine x_getI (pc := 54) gf_X9_355 rfl dX9_critical_54 q14 ?_
      refine x_iload_n (pc := 57) 1 dX9_critical_57 rfl ?_
      rcases ite_some e with ⟨q15, e⟩ | ⟨q15, e⟩
      · refine x_icmp_ge_t (pc := 58) (t := 65) dX9_critical_58 (by decide) q15 ?_
        exact p_X9_critical_L65 hl hk31 e
      · refine x_icmp_ge_f (pc := 58) (t := 65) dX9_critical_58 (by decide) q15 ?_
        refine x_iconst (pc := 61) dX9_critical_61 ?_
        refine x_goto (pc := 62) (t := 66) dX9_critical_62 (by decide) ?_
        exact p_X9_critical_L66 hl hk31 e
noncomputable def f_X9_critical_L31 (n : Nat) : Hp → Nat → Int32 → Int32 → Int32 → Option (Rs Int32) := Nat.rec (motive := fun _ => Hp → Nat → Int32 → Int32 → Int32 → Option (Rs Int32)) (fun _ _ _ _ _ => none) (fun _ r => f_X9_critical_B31 r) n
theorem p_X9_critical_L31 {l : Launch} {K : Ctx} (hl : l.stackTraces = false) : ∀ (n : Nat) (h : Hp) (a0 : Nat) (i1 : Int32) (i2 : Int32) (i3 : Int32) (t : Rs Int32) (e : f_X9_critical_L31 n h a0 i1 i2 i3 = some t), X l K mM_X9_critical (tgI t) 31 [(0, .ref a0), (1, .int i1), (2, .int i2), (3, .int i3)] [] h := by
  intro n
  induction n with
  | zero => exact fun _ _ _ _ _ _ e => nomatch (show (none : Option (Rs Int32)) = some _ from e)
  | succ n ih => exact fun h a0 i1 i2 i3 t e => p_X9_critical_B31 hl (fun h a0 i1 i2 i3 t e => ih h a0 i1 i2 i3 t e) e
noncomputable def f_X9_critical (h : Hp) (a0 : Nat) : Option (Rs Int32) :=
  chk (okr h a0 9) <|
  lt (putI h a0 0 (iN 0)) fun h2 =>
  bnd (f_X9_isBest h2 a0) fun h3 r4 =>
  if r4 = 0 then (
    chk (okr h3 a0 9) <|
    bnd (f_X9_fails h3 a0 (iN 1)) fun h7 r8 =>
    some (h7, .inr r8)
  ) else (
    chk (okr h3 a0 9) <|
    bnd (f_X9_keeps h3 a0) fun h10 _ =>
    f_X9_critical_L31 2000 h10 a0 (qI h3 a0 32) (iN (-1)) (iN 0)
  )
theorem p_X9_critical {l : Launch} {K : Ctx} (hl : l.stackTraces = false) {h : Hp} {a0 : Nat} {t : Rs Int32} (e : f_X9_critical h a0 = some t) : X l K mM_X9_critical (tgI t) 0 [(0, .ref a0)] [] h := by
  unfold f_X9_critical at e
  refine x_aload_n (pc := 0) 0 dX9_critical_0 rfl ?_
  refine x_iconst (pc := 1) dX9_critical_1 ?_
  obtain ⟨q1, e⟩ := chk_some e
  replace e := lt_go e
  refine x_putI (pc := 2) pf_X9_84 rfl rfl rfl dX9_critical_2 q1 ?_
  refine x_aload_n (pc := 5) 0 dX9_critical_5 rfl ?_
  rcases bnd_some e with ⟨h3, r4, ec, rfl⟩ | ⟨h3, r4, ec, e⟩
  · exact y_callV_x (pc := 6) (c_X9_isBest hl ec) (okr_pI q1) mf_X9_isBest tw_8_146 ts_10_2 lf_X9_367 rfl rfl dX9_critical_6 (by decide) rfl rfl (leb rfl) (xx_out0 rfl)
  refine y_callV_i (pc := 6) (c_X9_isBest hl ec) (okr_pI q1) mf_X9_isBest tw_8_146 ts_10_2 lf_X9_367 rfl rfl dX9_critical_6 (by decide) rfl rfl (leb rfl) ?_
  rcases ite_some e with ⟨q5, e⟩ | ⟨q5, e⟩
  · refine x_if_ne_f (pc := 9) (t := 18) dX9_critical_9 (by decide) q5 ?_
    refine x_aload_n (pc := 12) 0 dX9_critical_12 rfl ?_
    refine x_iconst (pc := 13) dX9_critical_13 ?_
    obtain ⟨q6, e⟩ := chk_some e
    rcases bnd_some e with ⟨h7, r8, ec, rfl⟩ | ⟨h7, r8, ec, e⟩
    · exact y_callV_x (pc := 14) (c_X9_fails hl ec) q6 mf_X9_fails tw_7_24 ts_6_7 lf_X9_95 rfl rfl dX9_critical_14 (by decide) rfl rfl (leb rfl) (xx_out0 rfl)
    refine y_callV_i (pc := 14) (c_X9_fails hl ec) q6 mf_X9_fails tw_7_24 ts_6_7 lf_X9_95 rfl rfl dX9_critical_14 (by decide) rfl rfl (leb rfl) ?_
    cases Option.some.inj e
    exact x_iret (pc := 17) rfl dX9_critical_17
  · refine x_if_ne_t (pc := 9) (t := 18) dX9_critical_9 (by decide) q5 ?_
    refine x_aload_n (pc := 18) 0 dX9_critical_18 rfl ?_
    obtain ⟨q9, e⟩ := chk_some e
    refine x_getI (pc := 19) gf_X9_355 rfl dX9_critical_19 q9 ?_
    refine x_istore_n (pc := 22) dX9_critical_22 (by decide) rfl ?_
    refine x_iconst (pc := 23) dX9_critical_23 ?_
    refine x_istore_n (pc := 24) dX9_critical_24 (by decide) rfl ?_
    refine x_aload_n (pc := 25) 2 dX9_critical_25 rfl ?_
    rcases bnd_some e with ⟨h10, r11, ec, rfl⟩ | ⟨h10, r11, ec, e⟩
    · exact y_callV_x (pc := 26) (c_X9_keeps hl ec) q9 mf_X9_keeps tw_7_219 ts_8_6 lf_X9_256 rfl rfl dX9_critical_26 (by decide) rfl rfl (leb rfl) (xx_out0 rfl)
    refine y_callV_v (pc := 26) (c_X9_keeps hl ec) q9 mf_X9_keeps tw_7_219 ts_8_6 lf_X9_256 rfl rfl dX9_critical_26 (by decide) rfl rfl (leb rfl) ?_
    refine x_iconst (pc := 29) dX9_critical_29 ?_
    refine x_istore_n (pc := 30) dX9_critical_30 (by decide) rfl ?_
    exact x_sub1 (p_X9_critical_L31 hl 2000 _ _ _ _ _ _ e) [3, 2, 1, 0] rfl
abbrev w_X9_critical : Cond := (Cond.code yX9_critical cX9_critical 5 (Option.some Jvm.ClassFile.FieldType.int))
theorem mf_X9_critical : MF yX9_critical w_X9_critical cX9_critical 5 (Option.some Jvm.ClassFile.FieldType.int) 0 := ⟨⟨rfl, tw_8_207, by decide⟩, tw_1_11, ⟨by decide, by decide⟩, by decide +kernel⟩
theorem c_X9_critical {l : Launch} {K : Ctx} (hl : l.stackTraces = false) {h : Hp} {a0 : Nat} {t : Rs Int32} (e : f_X9_critical h a0 = some t) : Ctr l K 22 yX9_critical w_X9_critical [.ref a0] h (tgI t) :=
  Ctr.of hl mf_X9_critical false (fun q => nomatch q) rfl (leb rfl) (p_X9_critical hl e)
/-! ## TableColumnBalancer$Content.pushAfterSpace -/
abbrev mM_X4_pushAfterSpace : Mi := (11, yX4_pushAfterSpace.cls, cX4_pushAfterSpace, 2, (Option.none : Option Jvm.ClassFile.FieldType), [], false)
noncomputable def f_X4_pushAfterSpace_L19 (h : Hp) (a0 : Nat) (i1 : Int32) : Option (Rs Unit) :=
  chk (okr h a0 4) <|
  bnd (f_X4_push h a0 i1 (iN 0)) fun h2 _ =>
  some (h2, .inr ())
theorem p_X4_pushAfterSpace_L19 {l : Launch} {K : Ctx} (hl : l.stackTraces = false) {h : Hp} {a0 : Nat} {i1 : Int32} {t : Rs Unit} (e : f_X4_pushAfterSpace_L19 h a0 i1 = some t) : X l K mM_X4_pushAfterSpace (tgV t) 19 [(0, .ref a0), (1, .int i1)] [] h := by
  unfold f_X4_pushAfterSpace_L19 at e
  refine x_aload_n (pc := 19) 0 dX4_pushAfterSpace_19 rfl ?_
  refine x_iload_n (pc := 20) 1 dX4_pushAfterSpace_20 rfl ?_
  refine x_iconst (pc := 21) dX4_pushAfterSpace_21 ?_
  obtain ⟨q1, e⟩ := chk_some e
  rcases bnd_some e with ⟨h2, r3, ec, rfl⟩ | ⟨h2, r3, ec, e⟩
  · exact y_callV_x (pc := 22) (c_X4_push hl ec) q1 mf_X4_push tw_4_106 ts_4_1 lf_X4_62 rfl rfl dX4_pushAfterSpace_22 (by decide) rfl rfl (leb rfl) (xx_out0 rfl)
  refine y_callV_v (pc := 22) (c_X4_push hl ec) q1 mf_X4_push tw_4_106 ts_4_1 lf_X4_62 rfl rfl dX4_pushAfterSpace_22 (by decide) rfl rfl (leb rfl) ?_
  cases Option.some.inj e
  exact x_vret (pc := 25) rfl dX4_pushAfterSpace_25
noncomputable def f_X4_pushAfterSpace (h : Hp) (a0 : Nat) (i1 : Int32) : Option (Rs Unit) :=
  chk (okr h a0 4) <|
  if (qI h a0 3) ≤ 0 then (
    f_X4_pushAfterSpace_L19 h a0 i1
  ) else (
    chk (okr h (qR h a0 6) 20) <|
    chk (vp_in ((qI h a0 3) - (iN 1)) (qW h (qR h a0 6))) <|
    lt (putI h (qR h a0 6) (Int32.toNatClampNeg ((qI h a0 3) - (iN 1))) (iN 0)) fun h5 =>
    f_X4_pushAfterSpace_L19 h5 a0 i1
  )
theorem p_X4_pushAfterSpace {l : Launch} {K : Ctx} (hl : l.stackTraces = false) {h : Hp} {a0 : Nat} {i1 : Int32} {t : Rs Unit} (e : f_X4_pushAfterSpace h a0 i1 = some t) : X l K mM_X4_pushAfterSpace (tgV t) 0 [(0, .ref a0), (1, .int i1)] [] h := by
  unfold f_X4_pushAfterSpace at e
  refine x_aload_n (pc := 0) 0 dX4_pushAfterSpace_0 rfl ?_
  obtain ⟨q1, e⟩ := chk_some e
  refine x_getI (pc := 1) gf_X4_44 rfl dX4_pushAfterSpace_1 q1 ?_
  rcases ite_some e with ⟨q2, e⟩ | ⟨q2, e⟩
  · refine x_if_le_t (pc := 4) (t := 19) dX4_pushAfterSpace_4 (by decide) q2 ?_
    exact p_X4_pushAfterSpace_L19 hl e
  · refine x_if_le_f (pc := 4) (t := 19) dX4_pushAfterSpace_4 (by decide) q2 ?_
    refine x_aload_n (pc := 7) 0 dX4_pushAfterSpace_7 rfl ?_
    obtain ⟨q3, e⟩ := chk_some e
    refine x_getR (pc := 8) gf_X4_15 rfl dX4_pushAfterSpace_8 q1 q3.1 ?_
    refine x_aload_n (pc := 11) 0 dX4_pushAfterSpace_11 rfl ?_
    refine x_getI (pc := 12) gf_X4_44 rfl dX4_pushAfterSpace_12 q1 ?_
    refine x_iconst (pc := 15) dX4_pushAfterSpace_15 ?_
    refine x_isub (pc := 16) dX4_pushAfterSpace_16 ?_
    refine x_iconst (pc := 17) dX4_pushAfterSpace_17 ?_
    obtain ⟨q4, e⟩ := chk_some e
    replace e := lt_go e
    refine x_iast (pc := 18) dX4_pushAfterSpace_18 q3 q4 ?_
    exact p_X4_pushAfterSpace_L19 hl e
abbrev w_X4_pushAfterSpace : Cond := (Cond.code yX4_pushAfterSpace cX4_pushAfterSpace 2 (Option.none : Option Jvm.ClassFile.FieldType))
theorem mf_X4_pushAfterSpace : MF yX4_pushAfterSpace w_X4_pushAfterSpace cX4_pushAfterSpace 2 (Option.none : Option Jvm.ClassFile.FieldType) 1 := ⟨⟨rfl, tw_6_48, by decide⟩, tw_1_4, ⟨by decide, by decide⟩, by decide +kernel⟩
theorem c_X4_pushAfterSpace {l : Launch} {K : Ctx} (hl : l.stackTraces = false) {h : Hp} {a0 : Nat} {i1 : Int32} {t : Rs Unit} (e : f_X4_pushAfterSpace h a0 i1 = some t) : Ctr l K 11 yX4_pushAfterSpace w_X4_pushAfterSpace [.ref a0, .int i1] h (tgV t) :=
  Ctr.of hl mf_X4_pushAfterSpace false (fun q => nomatch q) rfl (leb rfl) (p_X4_pushAfterSpace hl e)
/-! ## TableColumnBalancer.costOfWord -/
abbrev mM_X8_costOfWord : Mi := (22, yX8_costOfWord.cls, cX8_costOfWord, 6, (Option.some Jvm.ClassFile.FieldType.int), [], false)
noncomputable def f_X8_costOfWord_L107 (h : Hp) (i4 : Int32) (i5 : Int32) (s0 : Int32) : Option (Rs Int32) :=
  bnd (f_X8_requireState h s0) fun h1 _ =>
  some (h1, .inr (i5 - i4))
theorem p_X8_costOfWord_L107 {l : Launch} {K : Ctx} (hl : l.stackTraces = false) {h : Hp} {i4 : Int32} {i5 : Int32} {s0 : Int32} {t : Rs Int32} (e : f_X8_costOfWord_L107 h i4 i5 s0 = some t) : X l K mM_X8_costOfWord (tgI t) 107 [(4, .int i4), (5, .int i5)] [.int s0] h := by
  unfold f_X8_costOfWord_L107 at e
  rcases bnd_some e with ⟨h1, r2, ec, rfl⟩ | ⟨h1, r2, ec, e⟩
  · exact y_callS_x (pc := 107) (c_X8_requireState hl ec) mf_X8_requireState tw_3_155 lf_X8_84 dX8_costOfWord_107 (by decide) rfl rfl (leb rfl) (xx_out0 rfl)
  refine y_callS_v (pc := 107) (c_X8_requireState hl ec) mf_X8_requireState tw_3_155 lf_X8_84 dX8_costOfWord_107 (by decide) rfl rfl (leb rfl) ?_
  refine x_iload (pc := 110) 1 dX8_costOfWord_110 rfl ?_
  refine x_iload (pc := 112) 0 dX8_costOfWord_112 rfl ?_
  refine x_isub (pc := 114) dX8_costOfWord_114 ?_
  cases Option.some.inj e
  exact x_iret (pc := 115) rfl dX8_costOfWord_115
noncomputable def f_X8_costOfWord_L59 (h : Hp) (a0 : Nat) (i1 : Int32) (i2 : Int32) (i4 : Int32) (s0 : Int32) : Option (Rs Int32) :=
  bnd (f_X8_requireState h s0) fun h1 _ =>
  chk (okr h1 a0 8) <|
  chk (okr h1 (qR h1 a0 3) 7) <|
  chk (okr h1 (qR h1 a0 0) 7) <|
  bnd (f_X7_copyFrom h1 (qR h1 a0 3) (qR h1 a0 0)) fun h6 _ =>
  chk (okr h6 a0 8) <|
  chk (okr h6 (qR h6 a0 3) 7) <|
  chk (okr h6 (qR h6 (qR h6 a0 3) 8) 25) <|
  chk (vp_in i1 (qW h6 (qR h6 (qR h6 a0 3) 8))) <|
  chk (okr h6 (qR h6 (qR h6 (qR h6 a0 3) 8) (Int32.toNatClampNeg i1)) 1) <|
  chk (okr h6 (qR h6 (qR h6 (qR h6 (qR h6 a0 3) 8) (Int32.toNatClampNeg i1)) 3) 4) <|
  bnd (f_X4_pushAfterSpace h6 (qR h6 (qR h6 (qR h6 (qR h6 a0 3) 8) (Int32.toNatClampNeg i1)) 3) i2) fun h14 _ =>
  chk (okr h14 a0 8) <|
  bnd (f_X8_heightOfTrialBelow h14 a0 (1000000 : Int32)) fun h17 r18 =>
  if r18 < 0 then (
    f_X8_costOfWord_L107 h17 i4 r18 (iN 0)
  ) else (
    f_X8_costOfWord_L107 h17 i4 r18 (iN 1)
  )
theorem p_X8_costOfWord_L59 {l : Launch} {K : Ctx} (hl : l.stackTraces = false) {h : Hp} {a0 : Nat} {i1 : Int32} {i2 : Int32} {i4 : Int32} {s0 : Int32} {t : Rs Int32} (e : f_X8_costOfWord_L59 h a0 i1 i2 i4 s0 = some t) : X l K mM_X8_costOfWord (tgI t) 59 [(0, .ref a0), (1, .int i1), (2, .int i2), (4, .int i4)] [.int s0] h := by
  unfold f_X8_costOfWord_L59 at e
  rcases bnd_some e with ⟨h1, r2, ec, rfl⟩ | ⟨h1, r2, ec, e⟩
  · exact y_callS_x (pc := 59) (c_X8_requireState hl ec) mf_X8_requireState tw_3_155 lf_X8_84 dX8_costOfWord_59 (by decide) rfl rfl (leb rfl) (xx_out0 rfl)
  refine y_callS_v (pc := 59) (c_X8_requireState hl ec) mf_X8_requireState tw_3_155 lf_X8_84 dX8_costOfWord_59 (by decide) rfl rfl (leb rfl) ?_
  refine x_aload_n (pc := 62) 0 dX8_costOfWord_62 rfl ?_
  obtain ⟨q3, e⟩ := chk_some e
  obtain ⟨q4, e⟩ := chk_some e
  refine x_getR (pc := 63) gf_X8_34 rfl dX8_costOfWord_63 q3 q4.1 ?_
  refine x_aload_n (pc := 66) 0 dX8_costOfWord_66 rfl ?_
  obtain ⟨q5, e⟩ := chk_some e
  refine x_getR (pc := 67) gf_X8_10 rfl dX8_costOfWord_67 q3 q5.1 ?_
  rcases bnd_some e with ⟨h6, r7, ec, rfl⟩ | ⟨h6, r7, ec, e⟩
  · exact y_callV_x (pc := 70) (c_X7_copyFrom hl ec) q4 mf_X7_copyFrom tw_3_60 ts_2_15 lf_X8_195 rfl rfl dX8_costOfWord_70 (by decide) rfl rfl (leb rfl) (xx_out0 rfl)
  refine y_callV_v (pc := 70) (c_X7_copyFrom hl ec) q4 mf_X7_copyFrom tw_3_60 ts_2_15 lf_X8_195 rfl rfl dX8_costOfWord_70 (by decide) rfl rfl (leb rfl) ?_
  refine x_aload_n (pc := 73) 0 dX8_costOfWord_73 rfl ?_
  obtain ⟨q8, e⟩ := chk_some e
  obtain ⟨q9, e⟩ := chk_some e
  refine x_getR (pc := 74) gf_X8_34 rfl dX8_costOfWord_74 q8 q9.1 ?_
  obtain ⟨q10, e⟩ := chk_some e
  refine x_getR (pc := 77) gf_X8_159 rfl dX8_costOfWord_77 q9 q10.1 ?_
  refine x_iload_n (pc := 80) 1 dX8_costOfWord_80 rfl ?_
  obtain ⟨q11, e⟩ := chk_some e
  obtain ⟨q12, e⟩ := chk_some e
  refine x_aald (pc := 81) (t := 1) (by decide) dX8_costOfWord_81 q10 q11 q12.1 ?_
  obtain ⟨q13, e⟩ := chk_some e
  refine x_getR (pc := 82) gf_X8_163 rfl dX8_costOfWord_82 q12 q13.1 ?_
  refine x_iload_n (pc := 85) 2 dX8_costOfWord_85 rfl ?_
  rcases bnd_some e with ⟨h14, r15, ec, rfl⟩ | ⟨h14, r15, ec, e⟩
  · exact y_callV_x (pc := 86) (c_X4_pushAfterSpace hl ec) q13 mf_X4_pushAfterSpace tw_6_47 ts_6_2 lf_X8_290 rfl rfl dX8_costOfWord_86 (by decide) rfl rfl (leb rfl) (xx_out0 rfl)
  refine y_callV_v (pc := 86) (c_X4_pushAfterSpace hl ec) q13 mf_X4_pushAfterSpace tw_6_47 ts_6_2 lf_X8_290 rfl rfl dX8_costOfWord_86 (by decide) rfl rfl (leb rfl) ?_
  refine x_aload_n (pc := 89) 0 dX8_costOfWord_89 rfl ?_
  refine x_ldc (pc := 90) tw_2_185 dX8_costOfWord_90 ?_
  obtain ⟨q16, e⟩ := chk_some e
  rcases bnd_some e with ⟨h17, r18, ec, rfl⟩ | ⟨h17, r18, ec, e⟩
  · exact y_callV_x (pc := 92) (c_X8_heightOfTrialBelow hl ec) q16 mf_X8_heightOfTrialBelow tw_6_36 ts_6_1 lf_X8_287 rfl rfl dX8_costOfWord_92 (by decide) rfl rfl (leb rfl) (xx_out0 rfl)
  refine y_callV_i (pc := 92) (c_X8_heightOfTrialBelow hl ec) q16 mf_X8_heightOfTrialBelow tw_6_36 ts_6_1 lf_X8_287 rfl rfl dX8_costOfWord_92 (by decide) rfl rfl (leb rfl) ?_
  refine x_istore (pc := 95) dX8_costOfWord_95 (by decide) rfl ?_
  refine x_iload (pc := 97) 0 dX8_costOfWord_97 rfl ?_
  rcases ite_some e with ⟨q19, e⟩ | ⟨q19, e⟩
  · refine x_if_lt_t (pc := 99) (t := 106) dX8_costOfWord_99 (by decide) q19 ?_
    refine x_iconst (pc := 106) dX8_costOfWord_106 ?_
    exact x_sub1 (p_X8_costOfWord_L107 hl e) [4, 0] rfl
  · refine x_if_lt_f (pc := 99) (t := 106) dX8_costOfWord_99 (by decide) q19 ?_
    refine x_iconst (pc := 102) dX8_costOfWord_102 ?_
    refine x_goto (pc := 103) (t := 107) dX8_costOfWord_103 (by decide) ?_
    exact x_sub1 (p_X8_costOfWord_L107 hl e) [4, 0] rfl
noncomputable def f_X8_costOfWord_L30 (h : Hp) (a0 : Nat) (i1 : Int32) (i2 : Int32) (s0 : Int32) : Option (Rs Int32) :=
  bnd (f_X8_requireState h s0) fun h1 _ =>
  chk (okr h1 a0 8) <|
  chk (okr h1 (qR h1 a0 2) 6) <|
  chk (okr h1 (qR h1 a0 0) 7) <|
  bnd (f_X6_leastHeight h1 (qR h1 a0 2) (qI h1 (qR h1 a0 0) 0)) fun h6 r7 =>
  if r7 < 0 then (
    f_X8_costOfWord_L59 h6 a0 i1 i2 r7 (iN 0)
  ) else (
    f_X8_costOfWord_L59 h6 a0 i1 i2 r7 (iN 1)
  )
theorem p_X8_costOfWord_L30 {l : Launch} {K : Ctx} (hl : l.stackTraces = false) {h : Hp} {a0 : Nat} {i1 : Int32} {i2 : Int32} {s0 : Int32} {t : Rs Int32} (e : f_X8_costOfWord_L30 h a0 i1 i2 s0 = some t) : X l K mM_X8_costOfWord (tgI t) 30 [(0, .ref a0), (1, .int i1), (2, .int i2)] [.int s0] h := by
  unfold f_X8_costOfWord_L30 at e
  rcases bnd_some e with ⟨h1, r2, ec, rfl⟩ | ⟨h1, r2, ec, e⟩
  · exact y_callS_x (pc := 30) (c_X8_requireState hl ec) mf_X8_requireState tw_3_155 lf_X8_84 dX8_costOfWord_30 (by decide) rfl rfl (leb rfl) (xx_out0 rfl)
  refine y_callS_v (pc := 30) (c_X8_requireState hl ec) mf_X8_requireState tw_3_155 lf_X8_84 dX8_costOfWord_30 (by decide) rfl rfl (leb rfl) ?_
  refine x_aload_n (pc := 33) 0 dX8_costOfWord_33 rfl ?_
  obtain ⟨q3, e⟩ := chk_some e
  obtain ⟨q4, e⟩ := chk_some e
  refine x_getR (pc := 34) gf_X8_30 rfl dX8_costOfWord_34 q3 q4.1 ?_
  refine x_aload_n (pc := 37) 0 dX8_costOfWord_37 rfl ?_
  obtain ⟨q5, e⟩ := chk_some e
  refine x_getR (pc := 38) gf_X8_10 rfl dX8_costOfWord_38 q3 q5.1 ?_
  refine x_getI (pc := 41) gf_X8_99 rfl dX8_costOfWord_41 q5 ?_
  rcases bnd_some e with ⟨h6, r7, ec, rfl⟩ | ⟨h6, r7, ec, e⟩
  · exact y_callV_x (pc := 44) (c_X6_leastHeight hl ec) q4 mf_X6_leastHeight tw_3_9 ts_2_6 lf_X8_270 rfl rfl dX8_costOfWord_44 (by decide) rfl rfl (leb rfl) (xx_out0 rfl)
  refine y_callV_i (pc := 44) (c_X6_leastHeight hl ec) q4 mf_X6_leastHeight tw_3_9 ts_2_6 lf_X8_270 rfl rfl dX8_costOfWord_44 (by decide) rfl rfl (leb rfl) ?_
  refine x_istore (pc := 47) dX8_costOfWord_47 (by decide) rfl ?_
  refine x_iload (pc := 49) 0 dX8_costOfWord_49 rfl ?_
  rcases ite_some e with ⟨q8, e⟩ | ⟨q8, e⟩
  · refine x_if_lt_t (pc := 51) (t := 58) dX8_costOfWord_51 (by decide) q8 ?_
    refine x_iconst (pc := 58) dX8_costOfWord_58 ?_
    exact x_sub1 (p_X8_costOfWord_L59 hl e) [1, 2, 3, 0] rfl
  · refine x_if_lt_f (pc := 51) (t := 58) dX8_costOfWord_51 (by decide) q8 ?_
    refine x_iconst (pc := 54) dX8_costOfWord_54 ?_
    refine x_goto (pc := 55) (t := 59) dX8_costOfWord_55 (by decide) ?_
    exact x_sub1 (p_X8_costOfWord_L59 hl e) [1, 2, 3, 0] rfl
noncomputable def f_X8_costOfWord (h : Hp) (a0 : Nat) (i1 : Int32) (i2 : Int32) : Option (Rs Int32) :=
  chk (okr h a0 8) <|
  bnd (f_X8_textOf h a0 i1) fun h2 r3 =>
  bnd (f_X8_isWithin h2 i2 (iN 1) (iN 12)) fun h4 r5 =>
  bnd (f_X8_requireArgument h4 r5) fun h6 _ =>
  chk (okr h6 r3 4) <|
  if (iN 12) ≤ (qI h6 r3 3) then (
    f_X8_costOfWord_L30 h6 a0 i1 i2 (iN 0)
  ) else (
    f_X8_costOfWord_L30 h6 a0 i1 i2 (iN 1)
  )
theorem p_X8_costOfWord {l : Launch} {K : Ctx} (hl : l.stackTraces = false) {h : Hp} {a0 : Nat} {i1 : Int32} {i2 : Int32} {t : Rs Int32} (e : f_X8_costOfWord h a0 i1 i2 = some t) : X l K mM_X8_costOfWord (tgI t) 0 [(0, .ref a0), (1, .int i1), (2, .int i2)] [] h := by
  unfold f_X8_costOfWord at e
  refine x_aload_n (pc := 0) 0 dX8_costOfWord_0 rfl ?_
  refine x_iload_n (pc := 1) 1 dX8_costOfWord_1 rfl ?_
  obtain ⟨q1, e⟩ := chk_some e
  rcases bnd_some e with ⟨h2, r3, ec, rfl⟩ | ⟨h2, r3, ec, e⟩
  · exact y_callV_x (pc := 2) (c_X8_textOf hl ec) q1 mf_X8_textOf tw_4_83 ts_4_0 lf_X8_145 rfl rfl dX8_costOfWord_2 (by decide) rfl rfl (leb rfl) (xx_out0 rfl)
  refine y_callV_i (pc := 2) (c_X8_textOf hl ec) q1 mf_X8_textOf tw_4_83 ts_4_0 lf_X8_145 rfl rfl dX8_costOfWord_2 (by decide) rfl rfl (leb rfl) ?_
  refine x_astore_n (pc := 5) dX8_costOfWord_5 (by decide) rfl ?_
  refine x_iload_n (pc := 6) 3 dX8_costOfWord_6 rfl ?_
  refine x_iconst (pc := 7) dX8_costOfWord_7 ?_
  refine x_bipush (pc := 8) (v := iN 12) dX8_costOfWord_8 rfl ?_
  rcases bnd_some e with ⟨h4, r5, ec, rfl⟩ | ⟨h4, r5, ec, e⟩
  · exact y_callS_x (pc := 10) (c_X8_isWithin hl ec) mf_X8_isWithin tw_3_26 lf_X8_72 dX8_costOfWord_10 (by decide) rfl rfl (leb rfl) (xx_out0 rfl)
  refine y_callS_i (pc := 10) (c_X8_isWithin hl ec) mf_X8_isWithin tw_3_26 lf_X8_72 dX8_costOfWord_10 (by decide) rfl rfl (leb rfl) ?_
  rcases bnd_some e with ⟨h6, r7, ec, rfl⟩ | ⟨h6, r7, ec, e⟩
  · exact y_callS_x (pc := 13) (c_X8_requireArgument hl ec) mf_X8_requireArgument tw_3_84 lf_X8_76 dX8_costOfWord_13 (by decide) rfl rfl (leb rfl) (xx_out0 rfl)
  refine y_callS_v (pc := 13) (c_X8_requireArgument hl ec) mf_X8_requireArgument tw_3_84 lf_X8_76 dX8_costOfWord_13 (by decide) rfl rfl (leb rfl) ?_
  refine x_aload_n (pc := 16) 0 dX8_costOfWord_16 rfl ?_
  obtain ⟨q8, e⟩ := chk_some e
  refine x_getI (pc := 17) gf_X8_149 rfl dX8_costOfWord_17 q8 ?_
  refine x_bipush (pc := 20) (v := iN 12) dX8_costOfWord_20 rfl ?_
  rcases ite_some e with ⟨q9, e⟩ | ⟨q9, e⟩
  · refine x_icmp_ge_t (pc := 22) (t := 29) dX8_costOfWord_22 (by decide) q9 ?_
    refine x_iconst (pc := 29) dX8_costOfWord_29 ?_
    exact x_sub1 (p_X8_costOfWord_L30 hl e) [1, 2, 3] rfl
  · refine x_icmp_ge_f (pc := 22) (t := 29) dX8_costOfWord_22 (by decide) q9 ?_
    refine x_iconst (pc := 25) dX8_costOfWord_25 ?_
    refine x_goto (pc := 26) (t := 30) dX8_costOfWord_26 (by decide) ?_
    exact x_sub1 (p_X8_costOfWord_L30 hl e) [1, 2, 3] rfl
abbrev w_X8_costOfWord : Cond := (Cond.code yX8_costOfWord cX8_costOfWord 6 (Option.some Jvm.ClassFile.FieldType.int))
theorem mf_X8_costOfWord : MF yX8_costOfWord w_X8_costOfWord cX8_costOfWord 6 (Option.some Jvm.ClassFile.FieldType.int) 2 := ⟨⟨rfl, tw_6_44, by decide⟩, tw_1_1, ⟨by decide, by decide⟩, by decide +kernel⟩
theorem c_X8_costOfWord {l : Launch} {K : Ctx} (hl : l.stackTraces = false) {h : Hp} {a0 : Nat} {i1 : Int32} {i2 : Int32} {t : Rs Int32} (e : f_X8_costOfWord h a0 i1 i2 = some t) : Ctr l K 22 yX8_costOfWord w_X8_costOfWord [.ref a0, .int i1, .int i2] h (tgI t) :=
  Ctr.of hl mf_X8_costOfWord false (fun q => nomatch q) rfl (leb rfl) (p_X8_costOfWord hl e)
/-! ## TableColumnBalancerLaw.costOfWord -/
abbrev mM_L_costOfWord : Mi := (23, yL_costOfWord.cls, cL_costOfWord, 5, (Option.some Jvm.ClassFile.FieldType.int), [((0 : Nat), (10 : Nat), (13 : Nat), (21 : Nat)), ((0 : Nat), (10 : Nat), (17 : Nat), (41 : Nat)), ((0 : Nat), (10 : Nat), (21 : Nat), (13 : Nat)), ((0 : Nat), (10 : Nat), (25 : Nat), (15 : Nat))], false)
noncomputable def f_L_costOfWord (h : Hp) (a0 : Nat) (i1 : Int32) (i2 : Int32) (a3 : Nat) : Option (Rs Int32) :=
  chk (okr h a0 8) <|
  bndX (f_X8_costOfWord h a0 i1 i2) (fun h2 r3 => (
    chk (okr h2 a3 21) <|
    chk (vp_in (iN 0) (qW h2 a3)) <|
    lt (putL h2 a3 (Int32.toNatClampNeg (iN 0)) (Int32.toInt64 r3)) fun h6 =>
    some (h6, .inr (iN 0))
  )) fun h2 k =>
  if k = 2 then (
    some (h2, .inr (iN 1))
  ) else
  if k = 4 then (
    some (h2, .inr (iN 2))
  ) else
  if k = 1 then (
    some (h2, .inr (iN 3))
  ) else
  if k = 0 then (
    some (h2, .inr (iN 4))
  ) else
  none
theorem p_L_costOfWord {l : Launch} {K : Ctx} (hl : l.stackTraces = false) {h : Hp} {a0 : Nat} {i1 : Int32} {i2 : Int32} {a3 : Nat} {t : Rs Int32} (e : f_L_costOfWord h a0 i1 i2 a3 = some t) : X l K mM_L_costOfWord (tgI t) 0 [(0, .ref a0), (1, .int i1), (2, .int i2), (3, .ref a3)] [] h := by
  unfold f_L_costOfWord at e
  refine x_aload_n (pc := 0) 3 dL_costOfWord_0 rfl ?_
  refine x_iconst (pc := 1) dL_costOfWord_1 ?_
  refine x_aload_n (pc := 2) 0 dL_costOfWord_2 rfl ?_
  refine x_iload_n (pc := 3) 1 dL_costOfWord_3 rfl ?_
  refine x_iload_n (pc := 4) 2 dL_costOfWord_4 rfl ?_
  obtain ⟨q1, e⟩ := chk_some e
  rcases bndX_some e with ⟨h2, k, ec, e⟩ | ⟨h2, r3, ec, e⟩
  · rcases ite_some e with ⟨q7, e⟩ | ⟨q7, e⟩
    · subst q7
      refine y_callV_x (pc := 5) (c_X8_costOfWord hl ec) q1 mf_X8_costOfWord tw_6_42 tw_6_43 lf_L_121 rfl rfl dL_costOfWord_5 (by decide) rfl rfl (leb rfl) (xx_catchA (pc := 5) [] [(0, 10, 17, 41), (0, 10, 21, 13), (0, 10, 25, 15)] (0, 10, 13, 21) rfl (by decide) (fun _ hz => absurd hz List.not_mem_nil) (by decide) (by decide) tw_3_187 tw_3_229 dL_costOfWord_13 (by decide) rfl ?_)
      refine x_iconst (pc := 15) dL_costOfWord_15 ?_
      cases Option.some.inj e
      exact x_iret (pc := 16) rfl dL_costOfWord_16
    rcases ite_some e with ⟨q8, e⟩ | ⟨q8, e⟩
    · subst q8
      refine y_callV_x (pc := 5) (c_X8_costOfWord hl ec) q1 mf_X8_costOfWord tw_6_42 tw_6_43 lf_L_121 rfl rfl dL_costOfWord_5 (by decide) rfl rfl (leb rfl) (xx_catchA (pc := 5) [(0, 10, 13, 21)] [(0, 10, 21, 13), (0, 10, 25, 15)] (0, 10, 17, 41) rfl (by decide) (List.forall_mem_cons.mpr ⟨⟨by decide, 2, by decide, by decide, tw_3_187⟩, fun _ hz => absurd hz List.not_mem_nil⟩) (by decide) (by decide) tw_4_76 tw_4_91 dL_costOfWord_17 (by decide) rfl ?_)
      refine x_iconst (pc := 19) dL_costOfWord_19 ?_
      cases Option.some.inj e
      exact x_iret (pc := 20) rfl dL_costOfWord_20
    rcases ite_some e with ⟨q9, e⟩ | ⟨q9, e⟩
    · subst q9
      refine y_callV_x (pc := 5) (c_X8_costOfWord hl ec) q1 mf_X8_costOfWord tw_6_42 tw_6_43 lf_L_121 rfl rfl dL_costOfWord_5 (by decide) rfl rfl (leb rfl) (xx_catchA (pc := 5) [(0, 10, 13, 21), (0, 10, 17, 41)] [(0, 10, 25, 15)] (0, 10, 21, 13) rfl (by decide) (List.forall_mem_cons.mpr ⟨⟨by decide, 2, by decide, by decide, tw_3_187⟩, List.forall_mem_cons.mpr ⟨⟨by decide, 4, by decide, by decide, tw_4_76⟩, fun _ hz => absurd hz List.not_mem_nil⟩⟩) (by decide) (by decide) tw_3_76 tw_3_88 dL_costOfWord_21 (by decide) rfl ?_)
      refine x_iconst (pc := 23) dL_costOfWord_23 ?_
      cases Option.some.inj e
      exact x_iret (pc := 24) rfl dL_costOfWord_24
    rcases ite_some e with ⟨q10, e⟩ | ⟨q10, e⟩
    · subst q10
      refine y_callV_x (pc := 5) (c_X8_costOfWord hl ec) q1 mf_X8_costOfWord tw_6_42 tw_6_43 lf_L_121 rfl rfl dL_costOfWord_5 (by decide) rfl rfl (leb rfl) (xx_catchA (pc := 5) [(0, 10, 13, 21), (0, 10, 17, 41), (0, 10, 21, 13)] [] (0, 10, 25, 15) rfl (by decide) (List.forall_mem_cons.mpr ⟨⟨by decide, 2, by decide, by decide, tw_3_187⟩, List.forall_mem_cons.mpr ⟨⟨by decide, 4, by decide, by decide, tw_4_76⟩, List.forall_mem_cons.mpr ⟨⟨by decide, 1, by decide, by decide, tw_3_76⟩, fun _ hz => absurd hz List.not_mem_nil⟩⟩⟩) (by decide) (by decide) tw_3_77 tw_3_159 dL_costOfWord_25 (by decide) rfl ?_)
      refine x_iconst (pc := 27) dL_costOfWord_27 ?_
      cases Option.some.inj e
      exact x_iret (pc := 28) rfl dL_costOfWord_28
    cases e
  refine y_callV_i (pc := 5) (c_X8_costOfWord hl ec) q1 mf_X8_costOfWord tw_6_42 tw_6_43 lf_L_121 rfl rfl dL_costOfWord_5 (by decide) rfl rfl (leb rfl) ?_
  refine x_i2l (pc := 8) dL_costOfWord_8 ?_
  obtain ⟨q4, e⟩ := chk_some e
  obtain ⟨q5, e⟩ := chk_some e
  replace e := lt_go e
  refine x_last (pc := 9) dL_costOfWord_9 q4 q5 ?_
  refine x_goto (pc := 10) (t := 29) dL_costOfWord_10 (by decide) ?_
  refine x_iconst (pc := 29) dL_costOfWord_29 ?_
  cases Option.some.inj e
  exact x_iret (pc := 30) rfl dL_costOfWord_30
abbrev w_L_costOfWord : Cond := (Cond.codeWith yL_costOfWord cL_costOfWord 5 (Option.some Jvm.ClassFile.FieldType.int) [((0 : Nat), (10 : Nat), (13 : Nat), (21 : Nat)), ((0 : Nat), (10 : Nat), (17 : Nat), (41 : Nat)), ((0 : Nat), (10 : Nat), (21 : Nat), (13 : Nat)), ((0 : Nat), (10 : Nat), (25 : Nat), (15 : Nat))])
theorem mf_L_costOfWord : MFX yL_costOfWord w_L_costOfWord cL_costOfWord 5 (Option.some Jvm.ClassFile.FieldType.int) 4 [((0 : Nat), (10 : Nat), (13 : Nat), (21 : Nat)), ((0 : Nat), (10 : Nat), (17 : Nat), (41 : Nat)), ((0 : Nat), (10 : Nat), (21 : Nat), (13 : Nat)), ((0 : Nat), (10 : Nat), (25 : Nat), (15 : Nat))] := ⟨⟨rfl, tw_6_40, by decide⟩, tw_1_0, ⟨by decide, by decide⟩, by decide +kernel⟩
theorem c_L_costOfWord {l : Launch} {K : Ctx} (hl : l.stackTraces = false) {h : Hp} {a0 : Nat} {i1 : Int32} {i2 : Int32} {a3 : Nat} {t : Rs Int32} (e : f_L_costOfWord h a0 i1 i2 a3 = some t) : Ctr l K 23 yL_costOfWord w_L_costOfWord [.ref a0, .int i1, .int i2, .ref a3] h (tgI t) :=
  Ctr.ofX hl mf_L_costOfWord rfl (leb rfl) (p_L_costOfWord hl e)
/-! ## TableColumnBalancerModel.costOfWord -/
abbrev mM_X9_costOfWord : Mi := (22, yX9_costOfWord.cls, cX9_costOfWord, 5, (Option.some Jvm.ClassFile.FieldType.int), [], false)
noncomputable def f_X9_costOfWord_L67 (h : Hp) (a0 : Nat) : Option (Rs Int32) :=
  chk (okr h a0 9) <|
  bnd (f_X9_fails h a0 (iN 4)) fun h2 r3 =>
  some (h2, .inr r3)
theorem p_X9_costOfWord_L67 {l : Launch} {K : Ctx} (hl : l.stackTraces = false) {h : Hp} {a0 : Nat} {t : Rs Int32} (e : f_X9_costOfWord_L67 h a0 = some t) : X l K mM_X9_costOfWord (tgI t) 67 [(0, .ref a0)] [] h := by
  unfold f_X9_costOfWord_L67 at e
  refine x_aload_n (pc := 67) 0 dX9_costOfWord_67 rfl ?_
  refine x_iconst (pc := 68) dX9_costOfWord_68 ?_
  obtain ⟨q1, e⟩ := chk_some e
  rcases bnd_some e with ⟨h2, r3, ec, rfl⟩ | ⟨h2, r3, ec, e⟩
  · exact y_callV_x (pc := 69) (c_X9_fails hl ec) q1 mf_X9_fails tw_7_24 ts_6_7 lf_X9_95 rfl rfl dX9_costOfWord_69 (by decide) rfl rfl (leb rfl) (xx_out0 rfl)
  refine y_callV_i (pc := 69) (c_X9_fails hl ec) q1 mf_X9_fails tw_7_24 ts_6_7 lf_X9_95 rfl rfl dX9_costOfWord_69 (by decide) rfl rfl (leb rfl) ?_
  cases Option.some.inj e
  exact x_iret (pc := 72) rfl dX9_costOfWord_72
noncomputable def f_X9_costOfWord_L116 (h : Hp) (a0 : Nat) (i1 : Int32) (i2 : Int32) (i3 : Int32) : Option (Rs Int32) :=
  chk (okr h a0 9) <|
  bnd (f_X9_puts h a0 i1 i2 (iN 0)) fun h2 _ =>
  chk (okr h2 a0 9) <|
  bnd (f_X9_isBest h2 a0) fun h5 r6 =>
  chk (okr h5 a0 9) <|
  bnd (f_X9_goesBack h5 a0) fun h8 _ =>
  if r6 = 0 then (
    chk (okr h8 a0 9) <|
    bnd (f_X9_fails h8 a0 (iN 4)) fun h12 r13 =>
    some (h12, .inr r13)
  ) else (
    chk (okr h8 a0 9) <|
    some (h8, .inr ((qI h8 a0 32) - i3))
  )
theorem p_X9_costOfWord_L116 {l : Launch} {K : Ctx} (hl : l.stackTraces = false) {h : Hp} {a0 : Nat} {i1 : Int32} {i2 : Int32} {i3 : Int32} {t : Rs Int32} (e : f_X9_costOfWord_L116 h a0 i1 i2 i3 = some t) : X l K mM_X9_costOfWord (tgI t) 116 [(0, .ref a0), (1, .int i1), (2, .int i2), (3, .int i3)] [] h := by
  unfold f_X9_costOfWord_L116 at e
  refine x_aload_n (pc := 116) 0 dX9_costOfWord_116 rfl ?_
  refine x_iload_n (pc := 117) 1 dX9_costOfWord_117 rfl ?_
  refine x_iload_n (pc := 118) 2 dX9_costOfWord_118 rfl ?_
  refine x_iconst (pc := 119) dX9_costOfWord_119 ?_
  obtain ⟨q1, e⟩ := chk_some e
  rcases bnd_some e with ⟨h2, r3, ec, rfl⟩ | ⟨h2, r3, ec, e⟩
  · exact y_callV_x (pc := 120) (c_X9_puts hl ec) q1 mf_X9_puts tw_7_91 ts_7_1 lf_X9_130 rfl rfl dX9_costOfWord_120 (by decide) rfl rfl (leb rfl) (xx_out0 rfl)
  refine y_callV_v (pc := 120) (c_X9_puts hl ec) q1 mf_X9_puts tw_7_91 ts_7_1 lf_X9_130 rfl rfl dX9_costOfWord_120 (by decide) rfl rfl (leb rfl) ?_
  refine x_aload_n (pc := 123) 0 dX9_costOfWord_123 rfl ?_
  obtain ⟨q4, e⟩ := chk_some e
  rcases bnd_some e with ⟨h5, r6, ec, rfl⟩ | ⟨h5, r6, ec, e⟩
  · exact y_callV_x (pc := 124) (c_X9_isBest hl ec) q4 mf_X9_isBest tw_8_146 ts_10_2 lf_X9_367 rfl rfl dX9_costOfWord_124 (by decide) rfl rfl (leb rfl) (xx_out0 rfl)
  refine y_callV_i (pc := 124) (c_X9_isBest hl ec) q4 mf_X9_isBest tw_8_146 ts_10_2 lf_X9_367 rfl rfl dX9_costOfWord_124 (by decide) rfl rfl (leb rfl) ?_
  refine x_istore (pc := 127) dX9_costOfWord_127 (by decide) rfl ?_
  refine x_aload_n (pc := 129) 1 dX9_costOfWord_129 rfl ?_
  obtain ⟨q7, e⟩ := chk_some e
  rcases bnd_some e with ⟨h8, r9, ec, rfl⟩ | ⟨h8, r9, ec, e⟩
  · exact y_callV_x (pc := 130) (c_X9_goesBack hl ec) q7 mf_X9_goesBack tw_7_223 ts_8_7 lf_X9_259 rfl rfl dX9_costOfWord_130 (by decide) rfl rfl (leb rfl) (xx_out0 rfl)
  refine y_callV_v (pc := 130) (c_X9_goesBack hl ec) q7 mf_X9_goesBack tw_7_223 ts_8_7 lf_X9_259 rfl rfl dX9_costOfWord_130 (by decide) rfl rfl (leb rfl) ?_
  refine x_iload (pc := 133) 0 dX9_costOfWord_133 rfl ?_
  rcases ite_some e with ⟨q10, e⟩ | ⟨q10, e⟩
  · refine x_if_eq_t (pc := 135) (t := 147) dX9_costOfWord_135 (by decide) q10 ?_
    refine x_aload_n (pc := 147) 1 dX9_costOfWord_147 rfl ?_
    refine x_iconst (pc := 148) dX9_costOfWord_148 ?_
    obtain ⟨q11, e⟩ := chk_some e
    rcases bnd_some e with ⟨h12, r13, ec, rfl⟩ | ⟨h12, r13, ec, e⟩
    · exact y_callV_x (pc := 149) (c_X9_fails hl ec) q11 mf_X9_fails tw_7_24 ts_6_7 lf_X9_95 rfl rfl dX9_costOfWord_149 (by decide) rfl rfl (leb rfl) (xx_out0 rfl)
    refine y_callV_i (pc := 149) (c_X9_fails hl ec) q11 mf_X9_fails tw_7_24 ts_6_7 lf_X9_95 rfl rfl dX9_costOfWord_149 (by decide) rfl rfl (leb rfl) ?_
    cases Option.some.inj e
    exact x_iret (pc := 152) rfl dX9_costOfWord_152
  · refine x_if_eq_f (pc := 135) (t := 147) dX9_costOfWord_135 (by decide) q10 ?_
    refine x_aload_n (pc := 138) 1 dX9_costOfWord_138 rfl ?_
    obtain ⟨q14, e⟩ := chk_some e
    refine x_getI (pc := 139) gf_X9_355 rfl dX9_costOfWord_139 q14 ?_
    refine x_iload_n (pc := 142) 4 dX9_costOfWord_142 rfl ?_
    refine x_isub (pc := 143) dX9_costOfWord_143 ?_
    refine x_goto (pc := 144) (t := 152) dX9_costOfWord_144 (by decide) ?_
    cases Option.some.inj e
    exact x_iret (pc := 152) rfl dX9_costOfWord_152
noncomputable def f_X9_costOfWord (h : Hp) (a0 : Nat) (i1 : Int32) (i2 : Int32) : Option (Rs Int32) :=
  chk (okr h a0 9) <|
  lt (putI h a0 0 (iN 0)) fun h2 =>
  bnd (f_X9_isCell h2 a0 i1) fun h3 r4 =>
  if r4 = 0 then (
    chk (okr h3 a0 9) <|
    bnd (f_X9_fails h3 a0 (iN 1)) fun h7 r8 =>
    some (h7, .inr r8)
  ) else (
    chk (okr h3 a0 9) <|
    bnd (f_X9_isText h3 a0 i1) fun h10 r11 =>
    if r11 = 0 then (
      chk (okr h10 a0 9) <|
      bnd (f_X9_fails h10 a0 (iN 2)) fun h14 r15 =>
      some (h14, .inr r15)
    ) else (
      bnd (f_X9_in h10 i2 (iN 1) (iN 12)) fun h16 r17 =>
      if r17 = 0 then (
        chk (okr h16 a0 9) <|
        bnd (f_X9_fails h16 a0 (iN 3)) fun h20 r21 =>
        some (h20, .inr r21)
      ) else (
        chk (okr h16 a0 9) <|
        bnd (f_X9_of h16 a0 i1 (iN 4)) fun h23 r24 =>
        if r24 = (iN 12) then (
          f_X9_costOfWord_L67 h23 a0
        ) else (
          chk (okr h23 a0 9) <|
          bnd (f_X9_isBest h23 a0) fun h27 r28 =>
          if r28 = 0 then (
            f_X9_costOfWord_L67 h27 a0
          ) else (
            chk (okr h27 a0 9) <|
            bnd (f_X9_keeps h27 a0) fun h31 _ =>
            chk (okr h31 a0 9) <|
            bnd (f_X9_of h31 a0 i1 (iN 4)) fun h34 r35 =>
            if r35 ≤ 0 then (
              f_X9_costOfWord_L116 h34 a0 i1 i2 (qI h27 a0 32)
            ) else (
              chk (okr h34 a0 9) <|
              chk (okr h34 (qR h34 a0 1) 20) <|
              bnd (f_X9_of h34 a0 i1 (iN 4)) fun h39 r40 =>
              chk (okr h39 (qR h34 a0 1) 20) <|
              chk (vp_in (((((iN 10) + ((iN 31) * i1)) + (iN 19)) + r40) - (iN 1)) (qW h39 (qR h34 a0 1))) <|
              lt (putI h39 (qR h34 a0 1) (Int32.toNatClampNeg (((((iN 10) + ((iN 31) * i1)) + (iN 19)) + r40) - (iN 1))) (iN 0)) fun h43 =>
              f_X9_costOfWord_L116 h43 a0 i1 i2 (qI h27 a0 32)
            )
          )
        )
      )
    )
  )
theorem p_X9_costOfWord {l : Launch} {K : Ctx} (hl : l.stackTraces = false) {h : Hp} {a0 : Nat} {i1 : Int32} {i2 : Int32} {t : Rs Int32} (e : f_X9_costOfWord h a0 i1 i2 = some t) : X l K mM_X9_costOfWord (tgI t) 0 [(0, .ref a0), (1, .int i1), (2, .int i2)] [] h := by
  unfold f_X9_costOfWord at e
  refine x_aload_n (pc := 0) 0 dX9_costOfWord_0 rfl ?_
  refine x_iconst (pc := 1) dX9_costOfWord_1 ?_
  obtain ⟨q1, e⟩ := chk_some e
  replace e := lt_go e
  refine x_putI (pc := 2) pf_X9_84 rfl rfl rfl dX9_costOfWord_2 q1 ?_
  refine x_aload_n (pc := 5) 0 dX9_costOfWord_5 rfl ?_
  refine x_iload_n (pc := 6) 1 dX9_costOfWord_6 rfl ?_
  rcases bnd_some e with ⟨h3, r4, ec, rfl⟩ | ⟨h3, r4, ec, e⟩
  · exact y_callV_x (pc := 7) (c_X9_isCell hl ec) (okr_pI q1) mf_X9_isCell tw_7_75 ts_6_14 lf_X9_120 rfl rfl dX9_costOfWord_7 (by decide) rfl rfl (leb rfl) (xx_out0 rfl)
  refine y_callV_i (pc := 7) (c_X9_isCell hl ec) (okr_pI q1) mf_X9_isCell tw_7_75 ts_6_14 lf_X9_120 rfl rfl dX9_costOfWord_7 (by decide) rfl rfl (leb rfl) ?_
  rcases ite_some e with ⟨q5, e⟩ | ⟨q5, e⟩
  · refine x_if_ne_f (pc := 10) (t := 19) dX9_costOfWord_10 (by decide) q5 ?_
    refine x_aload_n (pc := 13) 0 dX9_costOfWord_13 rfl ?_
    refine x_iconst (pc := 14) dX9_costOfWord_14 ?_
    obtain ⟨q6, e⟩ := chk_some e
    rcases bnd_some e with ⟨h7, r8, ec, rfl⟩ | ⟨h7, r8, ec, e⟩
    · exact y_callV_x (pc := 15) (c_X9_fails hl ec) q6 mf_X9_fails tw_7_24 ts_6_7 lf_X9_95 rfl rfl dX9_costOfWord_15 (by decide) rfl rfl (leb rfl) (xx_out0 rfl)
    refine y_callV_i (pc := 15) (c_X9_fails hl ec) q6 mf_X9_fails tw_7_24 ts_6_7 lf_X9_95 rfl rfl dX9_costOfWord_15 (by decide) rfl rfl (leb rfl) ?_
    cases Option.some.inj e
    exact x_iret (pc := 18) rfl dX9_costOfWord_18
  · refine x_if_ne_t (pc := 10) (t := 19) dX9_costOfWord_10 (by decide) q5 ?_
    refine x_aload_n (pc := 19) 0 dX9_costOfWord_19 rfl ?_
    refine x_iload_n (pc := 20) 1 dX9_costOfWord_20 rfl ?_
    obtain ⟨q9, e⟩ := chk_some e
    rcases bnd_some e with ⟨h10, r11, ec, rfl⟩ | ⟨h10, r11, ec, e⟩
    · exact y_callV_x (pc := 21) (c_X9_isText hl ec) q9 mf_X9_isText tw_7_87 ts_7_0 lf_X9_127 rfl rfl dX9_costOfWord_21 (by decide) rfl rfl (leb rfl) (xx_out0 rfl)
    refine y_callV_i (pc := 21) (c_X9_isText hl ec) q9 mf_X9_isText tw_7_87 ts_7_0 lf_X9_127 rfl rfl dX9_costOfWord_21 (by decide) rfl rfl (leb rfl) ?_
    rcases ite_some e with ⟨q12, e⟩ | ⟨q12, e⟩
    · refine x_if_ne_f (pc := 24) (t := 33) dX9_costOfWord_24 (by decide) q12 ?_
      refine x_aload_n (pc := 27) 0 dX9_costOfWord_27 rfl ?_
      refine x_iconst (pc := 28) dX9_costOfWord_28 ?_
      obtain ⟨q13, e⟩ := chk_some e
      rcases bnd_some e with ⟨h14, r15, ec, rfl⟩ | ⟨h14, r15, ec, e⟩
      · exact y_callV_x (pc := 29) (c_X9_fails hl ec) q13 mf_X9_fails tw_7_24 ts_6_7 lf_X9_95 rfl rfl dX9_costOfWord_29 (by decide) rfl rfl (leb rfl) (xx_out0 rfl)
      refine y_callV_i (pc := 29) (c_X9_fails hl ec) q13 mf_X9_fails tw_7_24 ts_6_7 lf_X9_95 rfl rfl dX9_costOfWord_29 (by decide) rfl rfl (leb rfl) ?_
      cases Option.some.inj e
      exact x_iret (pc := 32) rfl dX9_costOfWord_32
    · refine x_if_ne_t (pc := 24) (t := 33) dX9_costOfWord_24 (by decide) q12 ?_
      refine x_iload_n (pc := 33) 2 dX9_costOfWord_33 rfl ?_
      refine x_iconst (pc := 34) dX9_costOfWord_34 ?_
      refine x_bipush (pc := 35) (v := iN 12) dX9_costOfWord_35 rfl ?_
      rcases bnd_some e with ⟨h16, r17, ec, rfl⟩ | ⟨h16, r17, ec, e⟩
      · exact y_callS_x (pc := 37) (c_X9_in hl ec) mf_X9_in tw_7_20 lf_X9_87 dX9_costOfWord_37 (by decide) rfl rfl (leb rfl) (xx_out0 rfl)
      refine y_callS_i (pc := 37) (c_X9_in hl ec) mf_X9_in tw_7_20 lf_X9_87 dX9_costOfWord_37 (by decide) rfl rfl (leb rfl) ?_
      rcases ite_some e with ⟨q18, e⟩ | ⟨q18, e⟩
      · refine x_if_ne_f (pc := 40) (t := 49) dX9_costOfWord_40 (by decide) q18 ?_
        refine x_aload_n (pc := 43) 0 dX9_costOfWord_43 rfl ?_
        refine x_iconst (pc := 44) dX9_costOfWord_44 ?_
        obtain ⟨q19, e⟩ := chk_some e
        rcases bnd_some e with ⟨h20, r21, ec, rfl⟩ | ⟨h20, r21, ec, e⟩
        · exact y_callV_x (pc := 45) (c_X9_fails hl ec) q19 mf_X9_fails tw_7_24 ts_6_7 lf_X9_95 rfl rfl dX9_costOfWord_45 (by decide) rfl rfl (leb rfl) (xx_out0 rfl)
        refine y_callV_i (pc := 45) (c_X9_fails hl ec) q19 mf_X9_fails tw_7_24 ts_6_7 lf_X9_95 rfl rfl dX9_costOfWord_45 (by decide) rfl rfl (leb rfl) ?_
        cases Option.some.inj e
        exact x_iret (pc := 48) rfl dX9_costOfWord_48
      · refine x_if_ne_t (pc := 40) (t := 49) dX9_costOfWord_40 (by decide) q18 ?_
        refine x_aload_n (pc := 49) 0 dX9_costOfWord_49 rfl ?_
        refine x_iload_n (pc := 50) 1 dX9_costOfWord_50 rfl ?_
        refine x_iconst (pc := 51) dX9_costOfWord_51 ?_
        obtain ⟨q22, e⟩ := chk_some e
        rcases bnd_some e with ⟨h23, r24, ec, rfl⟩ | ⟨h23, r24, ec, e⟩
        · exact y_callV_x (pc := 52) (c_X9_of hl ec) q22 mf_X9_of tw_7_63 ts_6_12 lf_X9_91 rfl rfl dX9_costOfWord_52 (by decide) rfl rfl (leb rfl) (xx_out0 rfl)
        refine y_callV_i (pc := 52) (c_X9_of hl ec) q22 mf_X9_of tw_7_63 ts_6_12 lf_X9_91 rfl rfl dX9_costOfWord_52 (by decide) rfl rfl (leb rfl) ?_
        refine x_bipush (pc := 55) (v := iN 12) dX9_costOfWord_55 rfl ?_
        rcases ite_some e with ⟨q25, e⟩ | ⟨q25, e⟩
        · refine x_icmp_eq_t (pc := 57) (t := 67) dX9_costOfWord_57 (by decide) q25 ?_
          exact x_sub1 (p_X9_costOfWord_L67 hl e) [0] rfl
        · refine x_icmp_eq_f (pc := 57) (t := 67) dX9_costOfWord_57 (by decide) q25 ?_
          refine x_aload_n (pc := 60) 0 dX9_costOfWord_60 rfl ?_
          obtain ⟨q26, e⟩ := chk_some e
          rcases bnd_some e with ⟨h27, r28, ec, rfl⟩ | ⟨h27, r28, ec, e⟩
          · exact y_callV_x (pc := 61) (c_X9_isBest hl ec) q26 mf_X9_isBest tw_8_146 ts_10_2 lf_X9_367 rfl rfl dX9_costOfWord_61 (by decide) rfl rfl (leb rfl) (xx_out0 rfl)
          refine y_callV_i (pc := 61) (c_X9_isBest hl ec) q26 mf_X9_isBest tw_8_146 ts_10_2 lf_X9_367 rfl rfl dX9_costOfWord_61 (by decide) rfl rfl (leb rfl) ?_
          rcases ite_some e with ⟨q29, e⟩ | ⟨q29, e⟩
          · refine x_if_ne_f (pc := 64) (t := 73) dX9_costOfWord_64 (by decide) q29 ?_
            exact x_sub1 (p_X9_costOfWord_L67 hl e) [0] rfl
          · refine x_if_ne_t (pc := 64) (t := 73) dX9_costOfWord_64 (by decide) q29 ?_
            refine x_aload_n (pc := 73) 0 dX9_costOfWord_73 rfl ?_
            obtain ⟨q30, e⟩ := chk_some e
            refine x_getI (pc := 74) gf_X9_355 rfl dX9_costOfWord_74 q30 ?_
            refine x_istore_n (pc := 77) dX9_costOfWord_77 (by decide) rfl ?_
            refine x_aload_n (pc := 78) 1 dX9_costOfWord_78 rfl ?_
            rcases bnd_some e with ⟨h31, r32, ec, rfl⟩ | ⟨h31, r32, ec, e⟩
            · exact y_callV_x (pc := 79) (c_X9_keeps hl ec) q30 mf_X9_keeps tw_7_219 ts_8_6 lf_X9_256 rfl rfl dX9_costOfWord_79 (by decide) rfl rfl (leb rfl) (xx_out0 rfl)
            refine y_callV_v (pc := 79) (c_X9_keeps hl ec) q30 mf_X9_keeps tw_7_219 ts_8_6 lf_X9_256 rfl rfl dX9_costOfWord_79 (by decide) rfl rfl (leb rfl) ?_
            refine x_aload_n (pc := 82) 1 dX9_costOfWord_82 rfl ?_
            refine x_iload_n (pc := 83) 2 dX9_costOfWord_83 rfl ?_
            refine x_iconst (pc := 84) dX9_costOfWord_84 ?_
            obtain ⟨q33, e⟩ := chk_some e
            rcases bnd_some e with ⟨h34, r35, ec, rfl⟩ | ⟨h34, r35, ec, e⟩
            · exact y_callV_x (pc := 85) (c_X9_of hl ec) q33 mf_X9_of tw_7_63 ts_6_12 lf_X9_91 rfl rfl dX9_costOfWord_85 (by decide) rfl rfl (leb rfl) (xx_out0 rfl)
            refine y_callV_i (pc := 85) (c_X9_of hl ec) q33 mf_X9_of tw_7_63 ts_6_12 lf_X9_91 rfl rfl dX9_costOfWord_85 (by decide) rfl rfl (leb rfl) ?_
            rcases ite_some e with ⟨q36, e⟩ | ⟨q36, e⟩
            · refine x_if_le_t (pc := 88) (t := 116) dX9_costOfWord_88 (by decide) q36 ?_
              exact x_sub1 (p_X9_costOfWord_L116 hl e) [1, 2, 3, 0] rfl
            · refine x_if_le_f (pc := 88) (t := 116) dX9_costOfWord_88 (by decide) q36 ?_
              refine x_aload_n (pc := 91) 1 dX9_costOfWord_91 rfl ?_
              obtain ⟨q37, e⟩ := chk_some e
              obtain ⟨q38, e⟩ := chk_some e
              refine x_getR (pc := 92) gf_X9_9 rfl dX9_costOfWord_92 q37 q38.1 ?_
              refine x_bipush (pc := 95) (v := iN 10) dX9_costOfWord_95 rfl ?_
              refine x_bipush (pc := 97) (v := iN 31) dX9_costOfWord_97 rfl ?_
              refine x_iload_n (pc := 99) 2 dX9_costOfWord_99 rfl ?_
              refine x_imul (pc := 100) dX9_costOfWord_100 ?_
              refine x_iadd (pc := 101) dX9_costOfWord_101 ?_
              refine x_bipush (pc := 102) (v := iN 19) dX9_costOfWord_102 rfl ?_
              refine x_iadd (pc := 104) dX9_costOfWord_104 ?_
              refine x_aload_n (pc := 105) 1 dX9_costOfWord_105 rfl ?_
              refine x_iload_n (pc := 106) 2 dX9_costOfWord_106 rfl ?_
              refine x_iconst (pc := 107) dX9_costOfWord_107 ?_
              rcases bnd_some e with ⟨h39, r40, ec, rfl⟩ | ⟨h39, r40, ec, e⟩
              · exact y_callV_x (pc := 108) (c_X9_of hl ec) q37 mf_X9_of tw_7_63 ts_6_12 lf_X9_91 rfl rfl dX9_costOfWord_108 (by decide) rfl rfl (leb rfl) (xx_out0 rfl)
              refine y_callV_i (pc := 108) (c_X9_of hl ec) q37 mf_X9_of tw_7_63 ts_6_12 lf_X9_91 rfl rfl dX9_costOfWord_108 (by decide) rfl rfl (leb rfl) ?_
              refine x_iadd (pc := 111) dX9_costOfWord_111 ?_
              refine x_iconst (pc := 112) dX9_costOfWord_112 ?_
              refine x_isub (pc := 113) dX9_costOfWord_113 ?_
              refine x_iconst (pc := 114) dX9_costOfWord_114 ?_
              obtain ⟨q41, e⟩ := chk_some e
              obtain ⟨q42, e⟩ := chk_some e
              replace e := lt_go e
              refine x_iast (pc := 115) dX9_costOfWord_115 q41 q42 ?_
              exact x_sub1 (p_X9_costOfWord_L116 hl e) [1, 2, 3, 0] rfl
abbrev w_X9_costOfWord : Cond := (Cond.code yX9_costOfWord cX9_costOfWord 5 (Option.some Jvm.ClassFile.FieldType.int))
theorem mf_X9_costOfWord : MF yX9_costOfWord w_X9_costOfWord cX9_costOfWord 5 (Option.some Jvm.ClassFile.FieldType.int) 2 := ⟨⟨rfl, tw_8_211, by decide⟩, tw_1_11, ⟨by decide, by decide⟩, by decide +kernel⟩
theorem c_X9_costOfWord {l : Launch} {K : Ctx} (hl : l.stackTraces = false) {h : Hp} {a0 : Nat} {i1 : Int32} {i2 : Int32} {t : Rs Int32} (e : f_X9_costOfWord h a0 i1 i2 = some t) : Ctr l K 22 yX9_costOfWord w_X9_costOfWord [.ref a0, .int i1, .int i2] h (tgI t) :=
  Ctr.of hl mf_X9_costOfWord false (fun q => nomatch q) rfl (leb rfl) (p_X9_costOfWord hl e)
/-! ## TableColumnBalancer$Content.raggedness -/
abbrev mM_X4_raggedness : Mi := (9, yX4_raggedness.cls, cX4_raggedness, 7, (Option.some Jvm.ClassFile.FieldType.float), [], false)
noncomputable def f_X4_raggedness_B31 (k31 : Hp → Nat → Int32 → Int32 → UInt32 → Int32 → Option (Rs UInt32)) (h : Hp) (a0 : Nat) (i2 : Int32) (i3 : Int32) (d4 : UInt32) (i5 : Int32) : Option (Rs UInt32) :=
  if i3 ≤ i5 then (
    chk (vf_n32 (FP.fdiv d4 (FP.i2f i3))) <|
    some (h, .inr (FP.fdiv d4 (FP.i2f i3)))
  ) else (
    chk (okr h a0 4) <|
    chk (okr h (qR h a0 11) 20) <|
    chk (vp_in i5 (qW h (qR h a0 11))) <|
    chk (vf_n32 (FP.fdiv (FP.i2f (i2 - (qI h (qR h a0 11) (Int32.toNatClampNeg i5)))) (FP.i2f i2))) <|
    chk (vf_n32 (FP.fmul (FP.fdiv (FP.i2f (i2 - (qI h (qR h a0 11) (Int32.toNatClampNeg i5)))) (FP.i2f i2)) (FP.fdiv (FP.i2f (i2 - (qI h (qR h a0 11) (Int32.toNatClampNeg i5)))) (FP.i2f i2)))) <|
    chk (vf_n32 (FP.fadd d4 (FP.fmul (FP.fdiv (FP.i2f (i2 - (qI h (qR h a0 11) (Int32.toNatClampNeg i5)))) (FP.i2f i2)) (FP.fdiv (FP.i2f (i2 - (qI h (qR h a0 11) (Int32.toNatClampNeg i5)))) (FP.i2f i2))))) <|
    k31 h a0 i2 i3 (FP.fadd d4 (FP.fmul (FP.fdiv (FP.i2f (i2 - (qI h (qR h a0 11) (Int32.toNatClampNeg i5)))) (FP.i2f i2)) (FP.fdiv (FP.i2f (i2 - (qI h (qR h a0 11) (Int32.toNatClampNeg i5)))) (FP.i2f i2)))) (i5 + iN 1)
  )
theorem p_X4_raggedness_B31 {l : Launch} {K : Ctx} (hl : l.stackTraces = false) {k31 : Hp → Nat → Int32 → Int32 → UInt32 → Int32 → Option (Rs UInt32)} (hk31 : ∀ (h : Hp) (a0 : Nat) (i2 : Int32) (i3 : Int32) (d4 : UInt32) (i5 : Int32) (t : Rs UInt32), k31 h a0 i2 i3 d4 i5 = some t → X l K mM_X4_raggedness (tgF t) 31 [(0, .ref a0), (2, .int i2), (3, .int i3), (4, .float d4), (5, .int i5)] [] h) {h : Hp} {a0 : Nat} {i2 : Int32} {i3 : Int32} {d4 : UInt32} {i5 : Int32} {t : Rs UInt32} (e : f_X4_raggedness_B31 k31 h a0 i2 i3 d4 i5 = some t) : X l K mM_X4_raggedness (tgF t) 31 [(0, .ref a0), (2, .int i2), (3, .int i3), (4, .float d4), (5, .int i5)] [] h := by
  unfold f_X4_raggedness_B31 at e
  refine x_iload (pc := 31) 4 dX4_raggedness_31 rfl ?_
  refine x_iload_n (pc := 33) 2 dX4_raggedness_33 rfl ?_
  rcases ite_some e with ⟨q1, e⟩ | ⟨q1, e⟩
  · refine x_icmp_ge_t (pc := 34) (t := 68) dX4_raggedness_34 (by decide) q1 ?_
    refine x_fload (pc := 68) 3 dX4_raggedness_68 rfl ?_
    refine x_iload_n (pc := 70) 2 dX4_raggedness_70 rfl ?_
    refine x_i2f (pc := 71) dX4_raggedness_71 ?_
    obtain ⟨q2, e⟩ := chk_some e
    refine x_fdiv (pc := 72) dX4_raggedness_72 q2 ?_
    cases Option.some.inj e
    exact x_fret (pc := 73) rfl dX4_raggedness_73
  · refine x_icmp_ge_f (pc := 34) (t := 68) dX4_raggedness_34 (by decide) q1 ?_
    refine x_iload_n (pc := 37) 1 dX4_raggedness_37 rfl ?_
    refine x_aload_n (pc := 38) 0 dX4_raggedness_38 rfl ?_
    obtain ⟨q3, e⟩ := chk_some e
    obtain ⟨q4, e⟩ := chk_some e
    refine x_getR (pc := 39) gf_X4_28 rfl dX4_raggedness_39 q3 q4.1 ?_
    refine x_iload (pc := 42) 4 dX4_raggedness_42 rfl ?_
    obtain ⟨q5, e⟩ := chk_some e
    refine x_iald (pc := 44) dX4_raggedness_44 q4 q5 ?_
    refine x_isub (pc := 45) dX4_raggedness_45 ?_
    refine x_i2f (pc := 46) dX4_raggedness_46 ?_
    refine x_iload_n (pc := 47) 1 dX4_raggedness_47 rfl ?_
    refine x_i2f (pc := 48) dX4_raggedness_48 ?_
    obtain ⟨q6, e⟩ := chk_some e
    refine x_fdiv (pc := 49) dX4_raggedness_49 q6 ?_
    refine x_fstore (pc := 50) dX4_raggedness_50 (by decide) rfl ?_
    refine x_fload (pc := 52) 4 dX4_raggedness_52 rfl ?_
    refine x_fload (pc := 54) 0 dX4_raggedness_54 rfl ?_
    refine x_fload (pc := 56) 0 dX4_raggedness_56 rfl ?_
    obtain ⟨q7, e⟩ := chk_some e
    refine x_fmul (pc := 58) dX4_raggedness_58 q7 ?_
    obtain ⟨q8, e⟩ := chk_some e
    refine x_fadd (pc := 59) dX4_raggedness_59 q8 ?_
    refine x_fstore (pc := 60) dX4_raggedness_60 (by decide) rfl ?_
    refine x_iinc (pc := 62) 5 dX4_raggedness_62 rfl (by decide) rfl ?_
    refine x_goto (pc := 65) (t := 31) dX4_raggedness_65 (by decide) ?_
    exact x_sub1 (hk31 _ _ _ _ _ _ _ e) [3, 4, 5, 1, 0] rfl
noncomputable def f_X4_raggedness_L31 (n : Nat) : Hp → Nat → Int32 → Int32 → UInt32 → Int32 → Option (Rs UInt32) := Nat.rec (motive := fun _ => Hp → Nat → Int32 → Int32 → UInt32 → Int32 → Option (Rs UInt32)) (fun _ _ _ _ _ _ => none) (fun _ r => f_X4_raggedness_B31 r) n
theorem p_X4_raggedness_L31 {l : Launch} {K : Ctx} (hl : l.stackTraces = false) : ∀ (n : Nat) (h : Hp) (a0 : Nat) (i2 : Int32) (i3 : Int32) (d4 : UInt32) (i5 : Int32) (t : Rs UInt32) (e : f_X4_raggedness_L31 n h a0 i2 i3 d4 i5 = some t), X l K mM_X4_raggedness (tgF t) 31 [(0, .ref a0), (2, .int i2), (3, .int i3), (4, .float d4), (5, .int i5)] [] h := by
  intro n
  induction n with
  | zero => exact fun _ _ _ _ _ _ _ e => nomatch (show (none : Option (Rs UInt32)) = some _ from e)
  | succ n ih => exact fun h a0 i2 i3 d4 i5 t e => p_X4_raggedness_B31 hl (fun h a0 i2 i3 d4 i5 t e => ih h a0 i2 i3 d4 i5 t e) e
noncomputable def f_X4_raggedness (h : Hp) (a0 : Nat) (i1 : Int32) : Option (Rs UInt32) :=
  chk (okr h a0 4) <|
  bnd (f_X4_breakLines h a0 i1) fun h2 r3 =>
  if r3 < (iN 1) then (
    some (h2, .inr (0x00000000 : UInt32))
  ) else (
    if (iN 1) ≤ (i1 - (qI h a0 4)) then (
      f_X4_raggedness_L31 2000 h2 a0 (i1 - (qI h a0 4)) r3 (0x00000000 : UInt32) (iN 0)
    ) else (
      some (h2, .inr (0x00000000 : UInt32))
    )
  )
theorem p_X4_raggedness {l : Launch} {K : Ctx} (hl : l.stackTraces = false) {h : Hp} {a0 : Nat} {i1 : Int32} {t : Rs UInt32} (e : f_X4_raggedness h a0 i1 = some t) : X l K mM_X4_raggedness (tgF t) 0 [(0, .ref a0), (1, .int i1)] [] h := by
  unfold f_X4_raggedness at e
  refine x_iload_n (pc := 0) 1 dX4_raggedness_0 rfl ?_
  refine x_aload_n (pc := 1) 0 dX4_raggedness_1 rfl ?_
  obtain ⟨q1, e⟩ := chk_some e
  refine x_getI (pc := 2) gf_X4_50 rfl dX4_raggedness_2 q1 ?_
  refine x_isub (pc := 5) dX4_raggedness_5 ?_
  refine x_istore_n (pc := 6) dX4_raggedness_6 (by decide) rfl ?_
  refine x_aload_n (pc := 7) 1 dX4_raggedness_7 rfl ?_
  refine x_iload_n (pc := 8) 2 dX4_raggedness_8 rfl ?_
  rcases bnd_some e with ⟨h2, r3, ec, rfl⟩ | ⟨h2, r3, ec, e⟩
  · exact y_callV_x (pc := 9) (c_X4_breakLines hl ec) q1 mf_X4_breakLines tw_3_30 ts_2_10 lf_X4_93 rfl rfl dX4_raggedness_9 (by decide) rfl rfl (leb rfl) (xx_out0 rfl)
  refine y_callV_i (pc := 9) (c_X4_breakLines hl ec) q1 mf_X4_breakLines tw_3_30 ts_2_10 lf_X4_93 rfl rfl dX4_raggedness_9 (by decide) rfl rfl (leb rfl) ?_
  refine x_istore_n (pc := 12) dX4_raggedness_12 (by decide) rfl ?_
  refine x_iload_n (pc := 13) 0 dX4_raggedness_13 rfl ?_
  refine x_iconst (pc := 14) dX4_raggedness_14 ?_
  rcases ite_some e with ⟨q4, e⟩ | ⟨q4, e⟩
  · refine x_icmp_lt_t (pc := 15) (t := 23) dX4_raggedness_15 (by decide) q4 ?_
    refine x_fconst0 (pc := 23) dX4_raggedness_23 ?_
    cases Option.some.inj e
    exact x_fret (pc := 24) rfl dX4_raggedness_24
  · refine x_icmp_lt_f (pc := 15) (t := 23) dX4_raggedness_15 (by decide) q4 ?_
    refine x_iload_n (pc := 18) 1 dX4_raggedness_18 rfl ?_
    refine x_iconst (pc := 19) dX4_raggedness_19 ?_
    rcases ite_some e with ⟨q5, e⟩ | ⟨q5, e⟩
    · refine x_icmp_ge_t (pc := 20) (t := 25) dX4_raggedness_20 (by decide) q5 ?_
      refine x_fconst0 (pc := 25) dX4_raggedness_25 ?_
      refine x_fstore (pc := 26) dX4_raggedness_26 (by decide) rfl ?_
      refine x_iconst (pc := 28) dX4_raggedness_28 ?_
      refine x_istore (pc := 29) dX4_raggedness_29 (by decide) rfl ?_
      exact x_sub1 (p_X4_raggedness_L31 hl 2000 _ _ _ _ _ _ _ e) [4, 3, 2, 1, 0] rfl
    · refine x_icmp_ge_f (pc := 20) (t := 25) dX4_raggedness_20 (by decide) q5 ?_
      refine x_fconst0 (pc := 23) dX4_raggedness_23 ?_
      cases Option.some.inj e
      exact x_fret (pc := 24) rfl dX4_raggedness_24
abbrev w_X4_raggedness : Cond := (Cond.code yX4_raggedness cX4_raggedness 7 (Option.some Jvm.ClassFile.FieldType.float))
theorem mf_X4_raggedness : MF yX4_raggedness w_X4_raggedness cX4_raggedness 7 (Option.some Jvm.ClassFile.FieldType.float) 1 := ⟨⟨rfl, tw_6_61, by decide⟩, tw_1_4, ⟨by decide, by decide⟩, by decide +kernel⟩
theorem c_X4_raggedness {l : Launch} {K : Ctx} (hl : l.stackTraces = false) {h : Hp} {a0 : Nat} {i1 : Int32} {t : Rs UInt32} (e : f_X4_raggedness h a0 i1 = some t) : Ctr l K 9 yX4_raggedness w_X4_raggedness [.ref a0, .int i1] h (tgF t) :=
  Ctr.of hl mf_X4_raggedness false (fun q => nomatch q) rfl (leb rfl) (p_X4_raggedness hl e)
/-! ## TableColumnBalancer$Bits.ofFloat -/
abbrev mM_X0_ofFloat : Mi := (8, yX0_ofFloat.cls, cX0_ofFloat, 4, (Option.some Jvm.ClassFile.FieldType.int), [], false)
noncomputable def f_X0_ofFloat_L40 (h : Hp) (i1 : Int32) (d2 : UInt32) : Option (Rs Int32) :=
  chk (vf_n32 (FP.fsub d2 (0x3f800000 : UInt32))) <|
  chk (vf_n32 (FP.fmul (FP.fsub d2 (0x3f800000 : UInt32)) (1258291200 : UInt32))) <|
  some (h, .inr ((i1 <<< ((iN 23) &&& 31)) + (FP.f2i (FP.fmul (FP.fsub d2 (0x3f800000 : UInt32)) (1258291200 : UInt32)))))
theorem p_X0_ofFloat_L40 {l : Launch} {K : Ctx} (hl : l.stackTraces = false) {h : Hp} {i1 : Int32} {d2 : UInt32} {t : Rs Int32} (e : f_X0_ofFloat_L40 h i1 d2 = some t) : X l K mM_X0_ofFloat (tgI t) 40 [(1, .int i1), (2, .float d2)] [] h := by
  unfold f_X0_ofFloat_L40 at e
  refine x_iload_n (pc := 40) 0 dX0_ofFloat_40 rfl ?_
  refine x_bipush (pc := 41) (v := iN 23) dX0_ofFloat_41 rfl ?_
  refine x_ishl (pc := 43) dX0_ofFloat_43 ?_
  refine x_fload_n (pc := 44) 1 dX0_ofFloat_44 rfl ?_
  refine x_fconst1 (pc := 45) dX0_ofFloat_45 ?_
  obtain ⟨q1, e⟩ := chk_some e
  refine x_fsub (pc := 46) dX0_ofFloat_46 q1 ?_
  refine x_ldcf (pc := 47) tw_6_65 dX0_ofFloat_47 ?_
  obtain ⟨q2, e⟩ := chk_some e
  refine x_fmul (pc := 49) dX0_ofFloat_49 q2 ?_
  refine x_f2i (pc := 50) dX0_ofFloat_50 ?_
  refine x_iadd (pc := 51) dX0_ofFloat_51 ?_
  cases Option.some.inj e
  exact x_iret (pc := 52) rfl dX0_ofFloat_52
noncomputable def f_X0_ofFloat_B15 (k15 : Hp → Int32 → UInt32 → Int32 → Option (Rs Int32)) (h : Hp) (i1 : Int32) (d2 : UInt32) (i3 : Int32) : Option (Rs Int32) :=
  if (iN 126) ≤ i3 then (
    f_X0_ofFloat_L40 h i1 d2
  ) else (
    if 0 ≤ (Op.cmpValue (FP.fcmp d2 (0x3f800000 : UInt32)) .g) then (
      f_X0_ofFloat_L40 h i1 d2
    ) else (
      chk (vf_n32 (FP.fmul d2 (0x40000000 : UInt32))) <|
      k15 h (i1 + iN (-1)) (FP.fmul d2 (0x40000000 : UInt32)) (i3 + iN 1)
    )
  )
theorem p_X0_ofFloat_B15 {l : Launch} {K : Ctx} (hl : l.stackTraces = false) {k15 : Hp → Int32 → UInt32 → Int32 → Option (Rs Int32)} (hk15 : ∀ (h : Hp) (i1 : Int32) (d2 : UInt32) (i3 : Int32) (t : Rs Int32), k15 h i1 d2 i3 = some t → X l K mM_X0_ofFloat (tgI t) 15 [(1, .int i1), (2, .float d2), (3, .int i3)] [] h) {h : Hp} {i1 : Int32} {d2 : UInt32} {i3 : Int32} {t : Rs Int32} (e : f_X0_ofFloat_B15 k15 h i1 d2 i3 = some t) : X l K mM_X0_ofFloat (tgI t) 15 [(1, .int i1), (2, .float d2), (3, .int i3)] [] h := by
  unfold f_X0_ofFloat_B15 at e
  refine x_iload_n (pc := 15) 2 dX0_ofFloat_15 rfl ?_
  refine x_bipush (pc := 16) (v := iN 126) dX0_ofFloat_16 rfl ?_
  rcases ite_some e with ⟨q1, e⟩ | ⟨q1, e⟩
  · refine x_icmp_ge_t (pc := 18) (t := 40) dX0_ofFloat_18 (by decide) q1 ?_
    exact x_sub1 (p_X0_ofFloat_L40 hl e) [0, 1] rfl
  · refine x_icmp_ge_f (pc := 18) (t := 40) dX0_ofFloat_18 (by decide) q1 ?_
    refine x_fload_n (pc := 21) 1 dX0_ofFloat_21 rfl ?_
    refine x_fconst1 (pc := 22) dX0_ofFloat_22 ?_
    refine x_fcmp (pc := 23) dX0_ofFloat_23 ?_
    rcases ite_some e with ⟨q2, e⟩ | ⟨q2, e⟩
    · refine x_if_ge_t (pc := 24) (t := 40) dX0_ofFloat_24 (by decide) q2 ?_
      exact x_sub1 (p_X0_ofFloat_L40 hl e) [0, 1] rfl
    · refine x_if_ge_f (pc := 24) (t := 40) dX0_ofFloat_24 (by decide) q2 ?_
      refine x_fload_n (pc := 27) 1 dX0_ofFloat_27 rfl ?_
      refine x_fconst2 (pc := 28) dX0_ofFloat_28 ?_
      obtain ⟨q3, e⟩ := chk_some e
      refine x_fmul (pc := 29) dX0_ofFloat_29 q3 ?_
      refine x_fstore_n (pc := 30) dX0_ofFloat_30 (by decide) rfl ?_
      refine x_iinc (pc := 31) 1 dX0_ofFloat_31 rfl (by decide) rfl ?_
      refine x_iinc (pc := 34) 2 dX0_ofFloat_34 rfl (by decide) rfl ?_
      refine x_goto (pc := 37) (t := 15) dX0_ofFloat_37 (by decide) ?_
      exact x_sub1 (hk15 _ _ _ _ _ e) [1, 2, 0] rfl
noncomputable def f_X0_ofFloat_L15 (n : Nat) : Hp → Int32 → UInt32 → Int32 → Option (Rs Int32) := Nat.rec (motive := fun _ => Hp → Int32 → UInt32 → Int32 → Option (Rs Int32)) (fun _ _ _ _ => none) (fun _ r => f_X0_ofFloat_B15 r) n
theorem p_X0_ofFloat_L15 {l : Launch} {K : Ctx} (hl : l.stackTraces = false) : ∀ (n : Nat) (h : Hp) (i1 : Int32) (d2 : UInt32) (i3 : Int32) (t : Rs Int32) (e : f_X0_ofFloat_L15 n h i1 d2 i3 = some t), X l K mM_X0_ofFloat (tgI t) 15 [(1, .int i1), (2, .float d2), (3, .int i3)] [] h := by
  intro n
  induction n with
  | zero => exact fun _ _ _ _ _ e => nomatch (show (none : Option (Rs Int32)) = some _ from e)
  | succ n ih => exact fun h i1 d2 i3 t e => p_X0_ofFloat_B15 hl (fun h i1 d2 i3 t e => ih h i1 d2 i3 t e) e
noncomputable def f_X0_ofFloat (h : Hp) (d0 : UInt32) : Option (Rs Int32) :=
  if 0 < (Op.cmpValue (FP.fcmp d0 (0x00000000 : UInt32)) .g) then (
    f_X0_ofFloat_L15 2000 h (iN 127) d0 (iN 0)
  ) else (
    some (h, .inr (iN 0))
  )
theorem p_X0_ofFloat {l : Launch} {K : Ctx} (hl : l.stackTraces = false) {h : Hp} {d0 : UInt32} {t : Rs Int32} (e : f_X0_ofFloat h d0 = some t) : X l K mM_X0_ofFloat (tgI t) 0 [(0, .float d0)] [] h := by
  unfold f_X0_ofFloat at e
  refine x_fload_n (pc := 0) 0 dX0_ofFloat_0 rfl ?_
  refine x_fconst0 (pc := 1) dX0_ofFloat_1 ?_
  refine x_fcmp (pc := 2) dX0_ofFloat_2 ?_
  rcases ite_some e with ⟨q1, e⟩ | ⟨q1, e⟩
  · refine x_if_gt_t (pc := 3) (t := 8) dX0_ofFloat_3 (by decide) q1 ?_
    refine x_bipush (pc := 8) (v := iN 127) dX0_ofFloat_8 rfl ?_
    refine x_istore_n (pc := 10) dX0_ofFloat_10 (by decide) rfl ?_
    refine x_fload_n (pc := 11) 1 dX0_ofFloat_11 rfl ?_
    refine x_fstore_n (pc := 12) dX0_ofFloat_12 (by decide) rfl ?_
    refine x_iconst (pc := 13) dX0_ofFloat_13 ?_
    refine x_istore_n (pc := 14) dX0_ofFloat_14 (by decide) rfl ?_
    exact x_sub1 (p_X0_ofFloat_L15 hl 2000 _ _ _ _ _ e) [2, 1, 0] rfl
  · refine x_if_gt_f (pc := 3) (t := 8) dX0_ofFloat_3 (by decide) q1 ?_
    refine x_iconst (pc := 6) dX0_ofFloat_6 ?_
    cases Option.some.inj e
    exact x_iret (pc := 7) rfl dX0_ofFloat_7
abbrev w_X0_ofFloat : Cond := (Cond.code yX0_ofFloat cX0_ofFloat 4 (Option.some Jvm.ClassFile.FieldType.int))
theorem mf_X0_ofFloat : MF yX0_ofFloat w_X0_ofFloat cX0_ofFloat 4 (Option.some Jvm.ClassFile.FieldType.int) 1 := ⟨⟨rfl, tw_6_64, by decide⟩, tw_1_26, ⟨by decide, by decide⟩, by decide +kernel⟩
theorem c_X0_ofFloat {l : Launch} {K : Ctx} (hl : l.stackTraces = false) {h : Hp} {d0 : UInt32} {t : Rs Int32} (e : f_X0_ofFloat h d0 = some t) : Ctr l K 8 yX0_ofFloat w_X0_ofFloat [.float d0] h (tgI t) :=
  Ctr.of hl mf_X0_ofFloat false (fun q => nomatch q) rfl (leb rfl) (p_X0_ofFloat hl e)
/-! ## TableColumnBalancer.raggednessBits -/
abbrev mM_X8_raggednessBits : Mi := (22, yX8_raggednessBits.cls, cX8_raggednessBits, 4, (Option.some Jvm.ClassFile.FieldType.int), [], false)
noncomputable def f_X8_raggednessBits (h : Hp) (a0 : Nat) (i1 : Int32) : Option (Rs Int32) :=
  chk (okr h a0 8) <|
  bnd (f_X8_textOf h a0 i1) fun h2 r3 =>
  chk (okr h2 a0 8) <|
  chk (okr h2 (qR h2 a0 0) 7) <|
  chk (okr h2 (qR h2 (qR h2 a0 0) 8) 25) <|
  chk (vp_in i1 (qW h2 (qR h2 (qR h2 a0 0) 8))) <|
  chk (okr h2 (qR h2 (qR h2 (qR h2 a0 0) 8) (Int32.toNatClampNeg i1)) 1) <|
  bnd (f_X8_bestWidths h2 a0) fun h9 r10 =>
  chk (okr h9 (qR h2 a0 0) 7) <|
  bnd (f_X7_widthIn h9 (qR h2 a0 0) (qR h2 (qR h2 (qR h2 a0 0) 8) (Int32.toNatClampNeg i1)) r10) fun h12 r13 =>
  chk (okr h12 a0 8) <|
  chk (okr h12 (qR h12 a0 0) 7) <|
  chk (okr h12 r3 4) <|
  bnd (f_X4_raggedness h12 r3 (r13 - ((iN 2) * (qI h12 (qR h12 a0 0) 2)))) fun h17 r18 =>
  bnd (f_X0_ofFloat h17 r18) fun h19 r20 =>
  some (h19, .inr r20)
theorem p_X8_raggednessBits {l : Launch} {K : Ctx} (hl : l.stackTraces = false) {h : Hp} {a0 : Nat} {i1 : Int32} {t : Rs Int32} (e : f_X8_raggednessBits h a0 i1 = some t) : X l K mM_X8_raggednessBits (tgI t) 0 [(0, .ref a0), (1, .int i1)] [] h := by
  unfold f_X8_raggednessBits at e
  refine x_aload_n (pc := 0) 0 dX8_raggednessBits_0 rfl ?_
  refine x_iload_n (pc := 1) 1 dX8_raggednessBits_1 rfl ?_
  obtain ⟨q1, e⟩ := chk_some e
  rcases bnd_some e with ⟨h2, r3, ec, rfl⟩ | ⟨h2, r3, ec, e⟩
  · exact y_callV_x (pc := 2) (c_X8_textOf hl ec) q1 mf_X8_textOf tw_4_83 ts_4_0 lf_X8_145 rfl rfl dX8_raggednessBits_2 (by decide) rfl rfl (leb rfl) (xx_out0 rfl)
  refine y_callV_i (pc := 2) (c_X8_textOf hl ec) q1 mf_X8_textOf tw_4_83 ts_4_0 lf_X8_145 rfl rfl dX8_raggednessBits_2 (by decide) rfl rfl (leb rfl) ?_
  refine x_astore_n (pc := 5) dX8_raggednessBits_5 (by decide) rfl ?_
  refine x_aload_n (pc := 6) 1 dX8_raggednessBits_6 rfl ?_
  obtain ⟨q4, e⟩ := chk_some e
  obtain ⟨q5, e⟩ := chk_some e
  refine x_getR (pc := 7) gf_X8_10 rfl dX8_raggednessBits_7 q4 q5.1 ?_
  refine x_aload_n (pc := 10) 1 dX8_raggednessBits_10 rfl ?_
  refine x_getR (pc := 11) gf_X8_10 rfl dX8_raggednessBits_11 q4 q5.1 ?_
  obtain ⟨q6, e⟩ := chk_some e
  refine x_getR (pc := 14) gf_X8_159 rfl dX8_raggednessBits_14 q5 q6.1 ?_
  refine x_iload_n (pc := 17) 2 dX8_raggednessBits_17 rfl ?_
  obtain ⟨q7, e⟩ := chk_some e
  obtain ⟨q8, e⟩ := chk_some e
  refine x_aald (pc := 18) (t := 1) (by decide) dX8_raggednessBits_18 q6 q7 q8.1 ?_
  refine x_aload_n (pc := 19) 1 dX8_raggednessBits_19 rfl ?_
  rcases bnd_some e with ⟨h9, r10, ec, rfl⟩ | ⟨h9, r10, ec, e⟩
  · exact y_callV_x (pc := 20) (c_X8_bestWidths hl ec) q4 mf_X8_bestWidths tw_5_210 ts_5_15 lf_X8_267 rfl rfl dX8_raggednessBits_20 (by decide) rfl rfl (leb rfl) (xx_out0 rfl)
  refine y_callV_i (pc := 20) (c_X8_bestWidths hl ec) q4 mf_X8_bestWidths tw_5_210 ts_5_15 lf_X8_267 rfl rfl dX8_raggednessBits_20 (by decide) rfl rfl (leb rfl) ?_
  obtain ⟨q11, e⟩ := chk_some e
  rcases bnd_some e with ⟨h12, r13, ec, rfl⟩ | ⟨h12, r13, ec, e⟩
  · exact y_callV_x (pc := 23) (c_X7_widthIn hl ec) q11 mf_X7_widthIn tw_2_148 ts_1_10 lf_X8_293 rfl rfl dX8_raggednessBits_23 (by decide) rfl rfl (leb rfl) (xx_out0 rfl)
  refine y_callV_i (pc := 23) (c_X7_widthIn hl ec) q11 mf_X7_widthIn tw_2_148 ts_1_10 lf_X8_293 rfl rfl dX8_raggednessBits_23 (by decide) rfl rfl (leb rfl) ?_
  refine x_iconst (pc := 26) dX8_raggednessBits_26 ?_
  refine x_aload_n (pc := 27) 1 dX8_raggednessBits_27 rfl ?_
  obtain ⟨q14, e⟩ := chk_some e
  obtain ⟨q15, e⟩ := chk_some e
  refine x_getR (pc := 28) gf_X8_10 rfl dX8_raggednessBits_28 q14 q15.1 ?_
  refine x_getI (pc := 31) gf_X8_105 rfl dX8_raggednessBits_31 q15 ?_
  refine x_imul (pc := 34) dX8_raggednessBits_34 ?_
  refine x_isub (pc := 35) dX8_raggednessBits_35 ?_
  refine x_istore_n (pc := 36) dX8_raggednessBits_36 (by decide) rfl ?_
  refine x_aload_n (pc := 37) 1 dX8_raggednessBits_37 rfl ?_
  refine x_iload_n (pc := 38) 0 dX8_raggednessBits_38 rfl ?_
  obtain ⟨q16, e⟩ := chk_some e
  rcases bnd_some e with ⟨h17, r18, ec, rfl⟩ | ⟨h17, r18, ec, e⟩
  · exact y_callV_x (pc := 39) (c_X4_raggedness hl ec) q16 mf_X4_raggedness tw_6_60 ts_6_3 lf_X8_296 rfl rfl dX8_raggednessBits_39 (by decide) rfl rfl (leb rfl) (xx_out0 rfl)
  refine y_callV_i (pc := 39) (c_X4_raggedness hl ec) q16 mf_X4_raggedness tw_6_60 ts_6_3 lf_X8_296 rfl rfl dX8_raggednessBits_39 (by decide) rfl rfl (leb rfl) ?_
  rcases bnd_some e with ⟨h19, r20, ec, rfl⟩ | ⟨h19, r20, ec, e⟩
  · exact y_callS_x (pc := 42) (c_X0_ofFloat hl ec) mf_X0_ofFloat tw_6_63 lf_X8_300 dX8_raggednessBits_42 (by decide) rfl rfl (leb rfl) (xx_out0 rfl)
  refine y_callS_i (pc := 42) (c_X0_ofFloat hl ec) mf_X0_ofFloat tw_6_63 lf_X8_300 dX8_raggednessBits_42 (by decide) rfl rfl (leb rfl) ?_
  cases Option.some.inj e
  exact x_iret (pc := 45) rfl dX8_raggednessBits_45
abbrev w_X8_raggednessBits : Cond := (Cond.code yX8_raggednessBits cX8_raggednessBits 4 (Option.some Jvm.ClassFile.FieldType.int))
theorem mf_X8_raggednessBits : MF yX8_raggednessBits w_X8_raggednessBits cX8_raggednessBits 4 (Option.some Jvm.ClassFile.FieldType.int) 1 := ⟨⟨rfl, tw_6_56, by decide⟩, tw_1_1, ⟨by decide, by decide⟩, by decide +kernel⟩
theorem c_X8_raggednessBits {l : Launch} {K : Ctx} (hl : l.stackTraces = false) {h : Hp} {a0 : Nat} {i1 : Int32} {t : Rs Int32} (e : f_X8_raggednessBits h a0 i1 = some t) : Ctr l K 22 yX8_raggednessBits w_X8_raggednessBits [.ref a0, .int i1] h (tgI t) :=
  Ctr.of hl mf_X8_raggednessBits false (fun q => nomatch q) rfl (leb rfl) (p_X8_raggednessBits hl e)
/-! ## TableColumnBalancerLaw.raggednessBits -/
abbrev mM_L_raggednessBits : Mi := (23, yL_raggednessBits.cls, cL_raggednessBits, 4, (Option.some Jvm.ClassFile.FieldType.int), [((0 : Nat), (9 : Nat), (12 : Nat), (21 : Nat)), ((0 : Nat), (9 : Nat), (15 : Nat), (41 : Nat)), ((0 : Nat), (9 : Nat), (18 : Nat), (15 : Nat))], false)
noncomputable def f_L_raggednessBits (h : Hp) (a0 : Nat) (i1 : Int32) (a2 : Nat) : Option (Rs Int32) :=
  chk (okr h a0 8) <|
  bndX (f_X8_raggednessBits h a0 i1) (fun h2 r3 => (
    chk (okr h2 a2 21) <|
    chk (vp_in (iN 0) (qW h2 a2)) <|
    lt (putL h2 a2 (Int32.toNatClampNeg (iN 0)) (Int32.toInt64 r3)) fun h6 =>
    some (h6, .inr (iN 0))
  )) fun h2 k =>
  if k = 2 then (
    some (h2, .inr (iN 1))
  ) else
  if k = 4 then (
    some (h2, .inr (iN 2))
  ) else
  if k = 0 then (
    some (h2, .inr (iN 3))
  ) else
  none
theorem p_L_raggednessBits {l : Launch} {K : Ctx} (hl : l.stackTraces = false) {h : Hp} {a0 : Nat} {i1 : Int32} {a2 : Nat} {t : Rs Int32} (e : f_L_raggednessBits h a0 i1 a2 = some t) : X l K mM_L_raggednessBits (tgI t) 0 [(0, .ref a0), (1, .int i1), (2, .ref a2)] [] h := by
  unfold f_L_raggednessBits at e
  refine x_aload_n (pc := 0) 2 dL_raggednessBits_0 rfl ?_
  refine x_iconst (pc := 1) dL_raggednessBits_1 ?_
  refine x_aload_n (pc := 2) 0 dL_raggednessBits_2 rfl ?_
  refine x_iload_n (pc := 3) 1 dL_raggednessBits_3 rfl ?_
  obtain ⟨q1, e⟩ := chk_some e
  rcases bndX_some e with ⟨h2, k, ec, e⟩ | ⟨h2, r3, ec, e⟩
  · rcases ite_some e with ⟨q7, e⟩ | ⟨q7, e⟩
    · subst q7
      refine y_callV_x (pc := 4) (c_X8_raggednessBits hl ec) q1 mf_X8_raggednessBits tw_6_54 tw_6_55 lf_L_124 rfl rfl dL_raggednessBits_4 (by decide) rfl rfl (leb rfl) (xx_catch (pc := 4) [] [(0, 9, 15, 41), (0, 9, 18, 15)] (0, 9, 12, 21) rfl (by decide) (fun _ hz => absurd hz List.not_mem_nil) (by decide) (by decide) tw_3_187 tw_3_229 dL_raggednessBits_12 (by decide) rfl ?_)
      refine x_iconst (pc := 13) dL_raggednessBits_13 ?_
      cases Option.some.inj e
      exact x_iret (pc := 14) rfl dL_raggednessBits_14
    rcases ite_some e with ⟨q8, e⟩ | ⟨q8, e⟩
    · subst q8
      refine y_callV_x (pc := 4) (c_X8_raggednessBits hl ec) q1 mf_X8_raggednessBits tw_6_54 tw_6_55 lf_L_124 rfl rfl dL_raggednessBits_4 (by decide) rfl rfl (leb rfl) (xx_catch (pc := 4) [(0, 9, 12, 21)] [(0, 9, 18, 15)] (0, 9, 15, 41) rfl (by decide) (List.forall_mem_cons.mpr ⟨⟨by decide, 2, by decide, by decide, tw_3_187⟩, fun _ hz => absurd hz List.not_mem_nil⟩) (by decide) (by decide) tw_4_76 tw_4_91 dL_raggednessBits_15 (by decide) rfl ?_)
      refine x_iconst (pc := 16) dL_raggednessBits_16 ?_
      cases Option.some.inj e
      exact x_iret (pc := 17) rfl dL_raggednessBits_17
    rcases ite_some e with ⟨q9, e⟩ | ⟨q9, e⟩
    · subst q9
      refine y_callV_x (pc := 4) (c_X8_raggednessBits hl ec) q1 mf_X8_raggednessBits tw_6_54 tw_6_55 lf_L_124 rfl rfl dL_raggednessBits_4 (by decide) rfl rfl (leb rfl) (xx_catch (pc := 4) [(0, 9, 12, 21), (0, 9, 15, 41)] [] (0, 9, 18, 15) rfl (by decide) (List.forall_mem_cons.mpr ⟨⟨by decide, 2, by decide, by decide, tw_3_187⟩, List.forall_mem_cons.mpr ⟨⟨by decide, 4, by decide, by decide, tw_4_76⟩, fun _ hz => absurd hz List.not_mem_nil⟩⟩) (by decide) (by decide) tw_3_77 tw_3_159 dL_raggednessBits_18 (by decide) rfl ?_)
      refine x_iconst (pc := 19) dL_raggednessBits_19 ?_
      cases Option.some.inj e
      exact x_iret (pc := 20) rfl dL_raggednessBits_20
    cases e
  refine y_callV_i (pc := 4) (c_X8_raggednessBits hl ec) q1 mf_X8_raggednessBits tw_6_54 tw_6_55 lf_L_124 rfl rfl dL_raggednessBits_4 (by decide) rfl rfl (leb rfl) ?_
  refine x_i2l (pc := 7) dL_raggednessBits_7 ?_
  obtain ⟨q4, e⟩ := chk_some e
  obtain ⟨q5, e⟩ := chk_some e
  replace e := lt_go e
  refine x_last (pc := 8) dL_raggednessBits_8 q4 q5 ?_
  refine x_goto (pc := 9) (t := 21) dL_raggednessBits_9 (by decide) ?_
  refine x_iconst (pc := 21) dL_raggednessBits_21 ?_
  cases Option.some.inj e
  exact x_iret (pc := 22) rfl dL_raggednessBits_22
abbrev w_L_raggednessBits : Cond := (Cond.codeWith yL_raggednessBits cL_raggednessBits 4 (Option.some Jvm.ClassFile.FieldType.int) [((0 : Nat), (9 : Nat), (12 : Nat), (21 : Nat)), ((0 : Nat), (9 : Nat), (15 : Nat), (41 : Nat)), ((0 : Nat), (9 : Nat), (18 : Nat), (15 : Nat))])
theorem mf_L_raggednessBits : MFX yL_raggednessBits w_L_raggednessBits cL_raggednessBits 4 (Option.some Jvm.ClassFile.FieldType.int) 3 [((0 : Nat), (9 : Nat), (12 : Nat), (21 : Nat)), ((0 : Nat), (9 : Nat), (15 : Nat), (41 : Nat)), ((0 : Nat), (9 : Nat), (18 : Nat), (15 : Nat))] := ⟨⟨rfl, tw_6_52, by decide⟩, tw_1_0, ⟨by decide, by decide⟩, by decide +kernel⟩
theorem c_L_raggednessBits {l : Launch} {K : Ctx} (hl : l.stackTraces = false) {h : Hp} {a0 : Nat} {i1 : Int32} {a2 : Nat} {t : Rs Int32} (e : f_L_raggednessBits h a0 i1 a2 = some t) : Ctr l K 23 yL_raggednessBits w_L_raggednessBits [.ref a0, .int i1, .ref a2] h (tgI t) :=
  Ctr.ofX hl mf_L_raggednessBits rfl (leb rfl) (p_L_raggednessBits hl e)
/-! ## Float.isNaN -/
abbrev mM_Jxf58ca_isNaN_12338 : Mi := (8, yJxf58ca_isNaN_12338.cls, cJxf58ca_isNaN_12338, 1, (Option.some Jvm.ClassFile.FieldType.boolean), [], false)
noncomputable def f_Jxf58ca_isNaN_12338 (h : Hp) (d0 : UInt32) : Option (Rs Int32) :=
  if (Op.cmpValue (FP.fcmp d0 d0) .l) = 0 then (
    some (h, .inr (iN 0))
  ) else (
    some (h, .inr (iN 1))
  )
theorem p_Jxf58ca_isNaN_12338 {l : Launch} {K : Ctx} (hl : l.stackTraces = false) {h : Hp} {d0 : UInt32} {t : Rs Int32} (e : f_Jxf58ca_isNaN_12338 h d0 = some t) : X l K mM_Jxf58ca_isNaN_12338 (tgI t) 0 [(0, .float d0)] [] h := by
  unfold f_Jxf58ca_isNaN_12338 at e
  refine x_fload_n (pc := 0) 0 dJxf58ca_isNaN_12338_0 rfl ?_
  refine x_fload_n (pc := 1) 0 dJxf58ca_isNaN_12338_1 rfl ?_
  refine x_fcmp (pc := 2) dJxf58ca_isNaN_12338_2 ?_
  rcases ite_some e with ⟨q1, e⟩ | ⟨q1, e⟩
  · refine x_if_eq_t (pc := 3) (t := 10) dJxf58ca_isNaN_12338_3 (by decide) q1 ?_
    refine x_iconst (pc := 10) dJxf58ca_isNaN_12338_10 ?_
    cases Option.some.inj e
    exact x_zret (pc := 11) rfl (Or.inl rfl) dJxf58ca_isNaN_12338_11
  · refine x_if_eq_f (pc := 3) (t := 10) dJxf58ca_isNaN_12338_3 (by decide) q1 ?_
    refine x_iconst (pc := 6) dJxf58ca_isNaN_12338_6 ?_
    refine x_goto (pc := 7) (t := 11) dJxf58ca_isNaN_12338_7 (by decide) ?_
    cases Option.some.inj e
    exact x_zret (pc := 11) rfl (Or.inr rfl) dJxf58ca_isNaN_12338_11
abbrev w_Jxf58ca_isNaN_12338 : Cond := (Cond.code yJxf58ca_isNaN_12338 cJxf58ca_isNaN_12338 1 (Option.some Jvm.ClassFile.FieldType.boolean))
theorem mf_Jxf58ca_isNaN_12338 : MF yJxf58ca_isNaN_12338 w_Jxf58ca_isNaN_12338 cJxf58ca_isNaN_12338 1 (Option.some Jvm.ClassFile.FieldType.boolean) 1 := ⟨⟨rfl, tw_8_221, by decide⟩, tw_1_28, ⟨by decide, by decide⟩, by decide +kernel⟩
theorem c_Jxf58ca_isNaN_12338 {l : Launch} {K : Ctx} (hl : l.stackTraces = false) {h : Hp} {d0 : UInt32} {t : Rs Int32} (e : f_Jxf58ca_isNaN_12338 h d0 = some t) : Ctr l K 8 yJxf58ca_isNaN_12338 w_Jxf58ca_isNaN_12338 [.float d0] h (tgI t) :=
  Ctr.ofF hl mf_Jxf58ca_isNaN_12338 false (fun q => nomatch q) (by decide +kernel) (leb rfl) (p_Jxf58ca_isNaN_12338 hl e)
/-! ## Float.floatToIntBits -/
abbrev mM_Jxf58ca_floatToIntBits_5c35a : Mi := (9, yJxf58ca_floatToIntBits_5c35a.cls, cJxf58ca_floatToIntBits_5c35a, 1, (Option.some Jvm.ClassFile.FieldType.int), [], false)
noncomputable def f_Jxf58ca_floatToIntBits_5c35a (h : Hp) (d0 : UInt32) : Option (Rs Int32) :=
  bnd (f_Jxf58ca_isNaN_12338 h d0) fun h1 r2 =>
  if r2 = 0 then (
    some (h1, .inr (UInt32.toInt32 d0))
  ) else (
    some (h1, .inr (2143289344 : Int32))
  )
theorem p_Jxf58ca_floatToIntBits_5c35a {l : Launch} {K : Ctx} (hl : l.stackTraces = false) {h : Hp} {d0 : UInt32} {t : Rs Int32} (e : f_Jxf58ca_floatToIntBits_5c35a h d0 = some t) : X l K mM_Jxf58ca_floatToIntBits_5c35a (tgI t) 0 [(0, .float d0)] [] h := by
  unfold f_Jxf58ca_floatToIntBits_5c35a at e
  refine x_fload_n (pc := 0) 0 dJxf58ca_floatToIntBits_5c35a_0 rfl ?_
  rcases bnd_some e with ⟨h1, r2, ec, rfl⟩ | ⟨h1, r2, ec, e⟩
  · exact y_callS_x (pc := 1) (c_Jxf58ca_isNaN_12338 hl ec) mf_Jxf58ca_isNaN_12338 tw_8_220 lf_Jxf58ca_59 dJxf58ca_floatToIntBits_5c35a_1 (by decide) rfl rfl (leb rfl) (xx_out0 rfl)
  refine y_callS_i (pc := 1) (c_Jxf58ca_isNaN_12338 hl ec) mf_Jxf58ca_isNaN_12338 tw_8_220 lf_Jxf58ca_59 dJxf58ca_floatToIntBits_5c35a_1 (by decide) rfl rfl (leb rfl) ?_
  rcases ite_some e with ⟨q3, e⟩ | ⟨q3, e⟩
  · refine x_if_ne_f (pc := 4) (t := 12) dJxf58ca_floatToIntBits_5c35a_4 (by decide) q3 ?_
    refine x_fload_n (pc := 7) 0 dJxf58ca_floatToIntBits_5c35a_7 rfl ?_
    refine x_rawF (pc := 8) tw_8_222 tw_8_224 tw_8_223 tw_1_28 (by decide) (leb rfl) dJxf58ca_floatToIntBits_5c35a_8 ?_
    cases Option.some.inj e
    exact x_iret (pc := 11) rfl dJxf58ca_floatToIntBits_5c35a_11
  · refine x_if_ne_t (pc := 4) (t := 12) dJxf58ca_floatToIntBits_5c35a_4 (by decide) q3 ?_
    refine x_ldc (pc := 12) tw_8_225 dJxf58ca_floatToIntBits_5c35a_12 ?_
    cases Option.some.inj e
    exact x_iret (pc := 14) rfl dJxf58ca_floatToIntBits_5c35a_14
abbrev w_Jxf58ca_floatToIntBits_5c35a : Cond := (Cond.code yJxf58ca_floatToIntBits_5c35a cJxf58ca_floatToIntBits_5c35a 1 (Option.some Jvm.ClassFile.FieldType.int))
theorem mf_Jxf58ca_floatToIntBits_5c35a : MF yJxf58ca_floatToIntBits_5c35a w_Jxf58ca_floatToIntBits_5c35a cJxf58ca_floatToIntBits_5c35a 1 (Option.some Jvm.ClassFile.FieldType.int) 1 := ⟨⟨rfl, tw_8_218, by decide⟩, tw_1_28, ⟨by decide, by decide⟩, by decide +kernel⟩
theorem c_Jxf58ca_floatToIntBits_5c35a {l : Launch} {K : Ctx} (hl : l.stackTraces = false) {h : Hp} {d0 : UInt32} {t : Rs Int32} (e : f_Jxf58ca_floatToIntBits_5c35a h d0 = some t) : Ctr l K 9 yJxf58ca_floatToIntBits_5c35a w_Jxf58ca_floatToIntBits_5c35a [.float d0] h (tgI t) :=
  Ctr.ofF hl mf_Jxf58ca_floatToIntBits_5c35a false (fun q => nomatch q) (by decide +kernel) (leb rfl) (p_Jxf58ca_floatToIntBits_5c35a hl e)
/-! ## TableColumnBalancerModel.raggednessBits -/
abbrev mM_X9_raggednessBits : Mi := (22, yX9_raggednessBits.cls, cX9_raggednessBits, 7, (Option.some Jvm.ClassFile.FieldType.int), [], false)
noncomputable def f_X9_raggednessBits_L144 (h : Hp) (s0 : UInt32) : Option (Rs Int32) :=
  bnd (f_Jxf58ca_floatToIntBits_5c35a h s0) fun h1 r2 =>
  some (h1, .inr r2)
theorem p_X9_raggednessBits_L144 {l : Launch} {K : Ctx} (hl : l.stackTraces = false) {h : Hp} {s0 : UInt32} {t : Rs Int32} (e : f_X9_raggednessBits_L144 h s0 = some t) : X l K mM_X9_raggednessBits (tgI t) 144 [] [.float s0] h := by
  unfold f_X9_raggednessBits_L144 at e
  rcases bnd_some e with ⟨h1, r2, ec, rfl⟩ | ⟨h1, r2, ec, e⟩
  · exact y_callS_x (pc := 144) (c_Jxf58ca_floatToIntBits_5c35a hl ec) mf_Jxf58ca_floatToIntBits_5c35a tw_8_217 lf_X9_376 dX9_raggednessBits_144 (by decide) rfl rfl (leb rfl) (xx_out0 rfl)
  refine y_callS_i (pc := 144) (c_Jxf58ca_floatToIntBits_5c35a hl ec) mf_Jxf58ca_floatToIntBits_5c35a tw_8_217 lf_X9_376 dX9_raggednessBits_144 (by decide) rfl rfl (leb rfl) ?_
  cases Option.some.inj e
  exact x_iret (pc := 147) rfl dX9_raggednessBits_147
noncomputable def f_X9_raggednessBits_B85 (k85 : Hp → Nat → Int32 → UInt32 → Int32 → Option (Rs Int32)) (h : Hp) (a0 : Nat) (i3 : Int32) (d4 : UInt32) (i5 : Int32) : Option (Rs Int32) :=
  chk (okr h a0 9) <|
  if (qI h a0 20) ≤ i5 then (
    if (qI h a0 20) = 0 then (
      f_X9_raggednessBits_L144 h (0x00000000 : UInt32)
    ) else (
      chk (vf_n32 (FP.fdiv d4 (FP.i2f (qI h a0 20)))) <|
      f_X9_raggednessBits_L144 h (FP.fdiv d4 (FP.i2f (qI h a0 20)))
    )
  ) else (
    chk (okr h (qR h a0 19) 20) <|
    chk (vp_in i5 (qW h (qR h a0 19))) <|
    chk (vf_n32 (FP.fdiv (FP.i2f (i3 - (qI h (qR h a0 19) (Int32.toNatClampNeg i5)))) (FP.i2f i3))) <|
    chk (vf_n32 (FP.fmul (FP.fdiv (FP.i2f (i3 - (qI h (qR h a0 19) (Int32.toNatClampNeg i5)))) (FP.i2f i3)) (FP.fdiv (FP.i2f (i3 - (qI h (qR h a0 19) (Int32.toNatClampNeg i5)))) (FP.i2f i3)))) <|
    chk (vf_n32 (FP.fadd d4 (FP.fmul (FP.fdiv (FP.i2f (i3 - (qI h (qR h a0 19) (Int32.toNatClampNeg i5)))) (FP.i2f i3)) (FP.fdiv (FP.i2f (i3 - (qI h (qR h a0 19) (Int32.toNatClampNeg i5)))) (FP.i2f i3))))) <|
    k85 h a0 i3 (FP.fadd d4 (FP.fmul (FP.fdiv (FP.i2f (i3 - (qI h (qR h a0 19) (Int32.toNatClampNeg i5)))) (FP.i2f i3)) (FP.fdiv (FP.i2f (i3 - (qI h (qR h a0 19) (Int32.toNatClampNeg i5)))) (FP.i2f i3)))) (i5 + iN 1)
  )
theorem p_X9_raggednessBits_B85 {l : Launch} {K : Ctx} (hl : l.stackTraces = false) {k85 : Hp → Nat → Int32 → UInt32 → Int32 → Option (Rs Int32)} (hk85 : ∀ (h : Hp) (a0 : Nat) (i3 : Int32) (d4 : UInt32) (i5 : Int32) (t : Rs Int32), k85 h a0 i3 d4 i5 = some t → X l K mM_X9_raggednessBits (tgI t) 85 [(0, .ref a0), (3, .int i3), (4, .float d4), (5, .int i5)] [] h) {h : Hp} {a0 : Nat} {i3 : Int32} {d4 : UInt32} {i5 : Int32} {t : Rs Int32} (e : f_X9_raggednessBits_B85 k85 h a0 i3 d4 i5 = some t) : X l K mM_X9_raggednessBits (tgI t) 85 [(0, .ref a0), (3, .int i3), (4, .float d4), (5, .int i5)] [] h := by
  unfold f_X9_raggednessBits_B85 at e
  refine x_iload (pc := 85) 3 dX9_raggednessBits_85 rfl ?_
  refine x_aload_n (pc := 87) 0 dX9_raggednessBits_87 rfl ?_
  obtain ⟨q1, e⟩ := chk_some e
  refine x_getI (pc := 88) gf_X9_268 rfl dX9_raggednessBits_88 q1 ?_
  rcases ite_some e with ⟨q2, e⟩ | ⟨q2, e⟩
  · refine x_icmp_ge_t (pc := 91) (t := 125) dX9_raggednessBits_91 (by decide) q2 ?_
    refine x_aload_n (pc := 125) 0 dX9_raggednessBits_125 rfl ?_
    refine x_getI (pc := 126) gf_X9_268 rfl dX9_raggednessBits_126 q1 ?_
    rcases ite_some e with ⟨q3, e⟩ | ⟨q3, e⟩
    · refine x_if_ne_f (pc := 129) (t := 136) dX9_raggednessBits_129 (by decide) q3 ?_
      refine x_fconst0 (pc := 132) dX9_raggednessBits_132 ?_
      refine x_goto (pc := 133) (t := 144) dX9_raggednessBits_133 (by decide) ?_
      exact x_sub1 (p_X9_raggednessBits_L144 hl e) [] rfl
    · refine x_if_ne_t (pc := 129) (t := 136) dX9_raggednessBits_129 (by decide) q3 ?_
      refine x_fload (pc := 136) 2 dX9_raggednessBits_136 rfl ?_
      refine x_aload_n (pc := 138) 0 dX9_raggednessBits_138 rfl ?_
      refine x_getI (pc := 139) gf_X9_268 rfl dX9_raggednessBits_139 q1 ?_
      refine x_i2f (pc := 142) dX9_raggednessBits_142 ?_
      obtain ⟨q4, e⟩ := chk_some e
      refine x_fdiv (pc := 143) dX9_raggednessBits_143 q4 ?_
      exact x_sub1 (p_X9_raggednessBits_L144 hl e) [] rfl
  · refine x_icmp_ge_f (pc := 91) (t := 125) dX9_raggednessBits_91 (by decide) q2 ?_
    refine x_iload_n (pc := 94) 1 dX9_raggednessBits_94 rfl ?_
    refine x_aload_n (pc := 95) 0 dX9_raggednessBits_95 rfl ?_
    obtain ⟨q5, e⟩ := chk_some e
    refine x_getR (pc := 96) gf_X9_45 rfl dX9_raggednessBits_96 q1 q5.1 ?_
    refine x_iload (pc := 99) 3 dX9_raggednessBits_99 rfl ?_
    obtain ⟨q6, e⟩ := chk_some e
    refine x_iald (pc := 101) dX9_raggednessBits_101 q5 q6 ?_
    refine x_isub (pc := 102) dX9_raggednessBits_102 ?_
    refine x_i2f (pc := 103) dX9_raggednessBits_103 ?_
    refine x_iload_n (pc := 104) 1 dX9_raggednessBits_104 rfl ?_
    refine x_i2f (pc := 105) dX9_raggednessBits_105 ?_
    obtain ⟨q7, e⟩ := chk_some e
    refine x_fdiv (pc := 106) dX9_raggednessBits_106 q7 ?_
    refine x_fstore (pc := 107) dX9_raggednessBits_107 (by decide) rfl ?_
    refine x_fload (pc := 109) 3 dX9_raggednessBits_109 rfl ?_
    refine x_fload (pc := 111) 0 dX9_raggednessBits_111 rfl ?_
    refine x_fload (pc := 113) 0 dX9_raggednessBits_113 rfl ?_
    obtain ⟨q8, e⟩ := chk_some e
    refine x_fmul (pc := 115) dX9_raggednessBits_115 q8 ?_
    obtain ⟨q9, e⟩ := chk_some e
    refine x_fadd (pc := 116) dX9_raggednessBits_116 q9 ?_
    refine x_fstore (pc := 117) dX9_raggednessBits_117 (by decide) rfl ?_
    refine x_iinc (pc := 119) 4 dX9_raggednessBits_119 rfl (by decide) rfl ?_
    refine x_goto (pc := 122) (t := 85) dX9_raggednessBits_122 (by decide) ?_
    exact x_sub1 (hk85 _ _ _ _ _ _ e) [3, 4, 1, 0] rfl
noncomputable def f_X9_raggednessBits_L85 (n : Nat) : Hp → Nat → Int32 → UInt32 → Int32 → Option (Rs Int32) := Nat.rec (motive := fun _ => Hp → Nat → Int32 → UInt32 → Int32 → Option (Rs Int32)) (fun _ _ _ _ _ => none) (fun _ r => f_X9_raggednessBits_B85 r) n
theorem p_X9_raggednessBits_L85 {l : Launch} {K : Ctx} (hl : l.stackTraces = false) : ∀ (n : Nat) (h : Hp) (a0 : Nat) (i3 : Int32) (d4 : UInt32) (i5 : Int32) (t : Rs Int32) (e : f_X9_raggednessBits_L85 n h a0 i3 d4 i5 = some t), X l K mM_X9_raggednessBits (tgI t) 85 [(0, .ref a0), (3, .int i3), (4, .float d4), (5, .int i5)] [] h := by
  intro n
  induction n with
  | zero => exact fun _ _ _ _ _ _ e => nomatch (show (none : Option (Rs Int32)) = some _ from e)
  | succ n ih => exact fun h a0 i3 d4 i5 t e => p_X9_raggednessBits_B85 hl (fun h a0 i3 d4 i5 t e => ih h a0 i3 d4 i5 t e) e
noncomputable def f_X9_raggednessBits (h : Hp) (a0 : Nat) (i1 : Int32) : Option (Rs Int32) :=
  chk (okr h a0 9) <|
  lt (putI h a0 0 (iN 0)) fun h2 =>
  bnd (f_X9_isCell h2 a0 i1) fun h3 r4 =>
  if r4 = 0 then (
    chk (okr h3 a0 9) <|
    bnd (f_X9_fails h3 a0 (iN 1)) fun h7 r8 =>
    some (h7, .inr r8)
  ) else (
    chk (okr h3 a0 9) <|
    bnd (f_X9_isText h3 a0 i1) fun h10 r11 =>
    if r11 = 0 then (
      chk (okr h10 a0 9) <|
      bnd (f_X9_fails h10 a0 (iN 2)) fun h14 r15 =>
      some (h14, .inr r15)
    ) else (
      chk (okr h10 a0 9) <|
      bnd (f_X9_isBest h10 a0) fun h17 r18 =>
      if r18 = 0 then (
        chk (okr h17 a0 9) <|
        bnd (f_X9_fails h17 a0 (iN 3)) fun h21 r22 =>
        some (h21, .inr r22)
      ) else (
        chk (okr h17 a0 9) <|
        chk (okr h17 (qR h17 a0 31) 20) <|
        bnd (f_X9_widthOf h17 a0 i1 (qR h17 a0 31)) fun h25 r26 =>
        chk (okr h25 a0 9) <|
        chk (okr h25 (qR h25 a0 1) 20) <|
        chk (vp_in (iN 3) (qW h25 (qR h25 a0 1))) <|
        bnd (f_X9_indentOf h25 a0 i1) fun h30 r31 =>
        chk (okr h30 a0 9) <|
        bnd (f_X9_breaksLines h30 a0 i1 (r26 - ((iN 2) * (qI h25 (qR h25 a0 1) (Int32.toNatClampNeg (iN 3)))))) fun h33 _ =>
        f_X9_raggednessBits_L85 2000 h33 a0 ((r26 - ((iN 2) * (qI h25 (qR h25 a0 1) (Int32.toNatClampNeg (iN 3))))) - r31) (0x00000000 : UInt32) (iN 0)
      )
    )
  )
theorem p_X9_raggednessBits {l : Launch} {K : Ctx} (hl : l.stackTraces = false) {h : Hp} {a0 : Nat} {i1 : Int32} {t : Rs Int32} (e : f_X9_raggednessBits h a0 i1 = some t) : X l K mM_X9_raggednessBits (tgI t) 0 [(0, .ref a0), (1, .int i1)] [] h := by
  unfold f_X9_raggednessBits at e
  refine x_aload_n (pc := 0) 0 dX9_raggednessBits_0 rfl ?_
  refine x_iconst (pc := 1) dX9_raggednessBits_1 ?_
  obtain ⟨q1, e⟩ := chk_some e
  replace e := lt_go e
  refine x_putI (pc := 2) pf_X9_84 rfl rfl rfl dX9_raggednessBits_2 q1 ?_
  refine x_aload_n (pc := 5) 0 dX9_raggednessBits_5 rfl ?_
  refine x_iload_n (pc := 6) 1 dX9_raggednessBits_6 rfl ?_
  rcases bnd_some e with ⟨h3, r4, ec, rfl⟩ | ⟨h3, r4, ec, e⟩
  · exact y_callV_x (pc := 7) (c_X9_isCell hl ec) (okr_pI q1) mf_X9_isCell tw_7_75 ts_6_14 lf_X9_120 rfl rfl dX9_raggednessBits_7 (by decide) rfl rfl (leb rfl) (xx_out0 rfl)
  refine y_callV_i (pc := 7) (c_X9_isCell hl ec) (okr_pI q1) mf_X9_isCell tw_7_75 ts_6_14 lf_X9_120 rfl rfl dX9_raggednessBits_7 (by decide) rfl rfl (leb rfl) ?_
  rcases ite_some e with ⟨q5, e⟩ | ⟨q5, e⟩
  · refine x_if_ne_f (pc := 10) (t := 19) dX9_raggednessBits_10 (by decide) q5 ?_
    refine x_aload_n (pc := 13) 0 dX9_raggednessBits_13 rfl ?_
    refine x_iconst (pc := 14) dX9_raggednessBits_14 ?_
    obtain ⟨q6, e⟩ := chk_some e
    rcases bnd_some e with ⟨h7, r8, ec, rfl⟩ | ⟨h7, r8, ec, e⟩
    · exact y_callV_x (pc := 15) (c_X9_fails hl ec) q6 mf_X9_fails tw_7_24 ts_6_7 lf_X9_95 rfl rfl dX9_raggednessBits_15 (by decide) rfl rfl (leb rfl) (xx_out0 rfl)
    refine y_callV_i (pc := 15) (c_X9_fails hl ec) q6 mf_X9_fails tw_7_24 ts_6_7 lf_X9_95 rfl rfl dX9_raggednessBits_15 (by decide) rfl rfl (leb rfl) ?_
    cases Option.some.inj e
    exact x_iret (pc := 18) rfl dX9_raggednessBits_18
  · refine x_if_ne_t (pc := 10) (t := 19) dX9_raggednessBits_10 (by decide) q5 ?_
    refine x_aload_n (pc := 19) 0 dX9_raggednessBits_19 rfl ?_
    refine x_iload_n (pc := 20) 1 dX9_raggednessBits_20 rfl ?_
    obtain ⟨q9, e⟩ := chk_some e
    rcases bnd_some e with ⟨h10, r11, ec, rfl⟩ | ⟨h10, r11, ec, e⟩
    · exact y_callV_x (pc := 21) (c_X9_isText hl ec) q9 mf_X9_isText tw_7_87 ts_7_0 lf_X9_127 rfl rfl dX9_raggednessBits_21 (by decide) rfl rfl (leb rfl) (xx_out0 rfl)
    refine y_callV_i (pc := 21) (c_X9_isText hl ec) q9 mf_X9_isText tw_7_87 ts_7_0 lf_X9_127 rfl rfl dX9_raggednessBits_21 (by decide) rfl rfl (leb rfl) ?_
    rcases ite_some e with ⟨q12, e⟩ | ⟨q12, e⟩
    · refine x_if_ne_f (pc := 24) (t := 33) dX9_raggednessBits_24 (by decide) q12 ?_
      refine x_aload_n (pc := 27) 0 dX9_raggednessBits_27 rfl ?_
      refine x_iconst (pc := 28) dX9_raggednessBits_28 ?_
      obtain ⟨q13, e⟩ := chk_some e
      rcases bnd_some e with ⟨h14, r15, ec, rfl⟩ | ⟨h14, r15, ec, e⟩
      · exact y_callV_x (pc := 29) (c_X9_fails hl ec) q13 mf_X9_fails tw_7_24 ts_6_7 lf_X9_95 rfl rfl dX9_raggednessBits_29 (by decide) rfl rfl (leb rfl) (xx_out0 rfl)
      refine y_callV_i (pc := 29) (c_X9_fails hl ec) q13 mf_X9_fails tw_7_24 ts_6_7 lf_X9_95 rfl rfl dX9_raggednessBits_29 (by decide) rfl rfl (leb rfl) ?_
      cases Option.some.inj e
      exact x_iret (pc := 32) rfl dX9_raggednessBits_32
    · refine x_if_ne_t (pc := 24) (t := 33) dX9_raggednessBits_24 (by decide) q12 ?_
      refine x_aload_n (pc := 33) 0 dX9_raggednessBits_33 rfl ?_
      obtain ⟨q16, e⟩ := chk_some e
      rcases bnd_some e with ⟨h17, r18, ec, rfl⟩ | ⟨h17, r18, ec, e⟩
      · exact y_callV_x (pc := 34) (c_X9_isBest hl ec) q16 mf_X9_isBest tw_8_146 ts_10_2 lf_X9_367 rfl rfl dX9_raggednessBits_34 (by decide) rfl rfl (leb rfl) (xx_out0 rfl)
      refine y_callV_i (pc := 34) (c_X9_isBest hl ec) q16 mf_X9_isBest tw_8_146 ts_10_2 lf_X9_367 rfl rfl dX9_raggednessBits_34 (by decide) rfl rfl (leb rfl) ?_
      rcases ite_some e with ⟨q19, e⟩ | ⟨q19, e⟩
      · refine x_if_ne_f (pc := 37) (t := 46) dX9_raggednessBits_37 (by decide) q19 ?_
        refine x_aload_n (pc := 40) 0 dX9_raggednessBits_40 rfl ?_
        refine x_iconst (pc := 41) dX9_raggednessBits_41 ?_
        obtain ⟨q20, e⟩ := chk_some e
        rcases bnd_some e with ⟨h21, r22, ec, rfl⟩ | ⟨h21, r22, ec, e⟩
        · exact y_callV_x (pc := 42) (c_X9_fails hl ec) q20 mf_X9_fails tw_7_24 ts_6_7 lf_X9_95 rfl rfl dX9_raggednessBits_42 (by decide) rfl rfl (leb rfl) (xx_out0 rfl)
        refine y_callV_i (pc := 42) (c_X9_fails hl ec) q20 mf_X9_fails tw_7_24 ts_6_7 lf_X9_95 rfl rfl dX9_raggednessBits_42 (by decide) rfl rfl (leb rfl) ?_
        cases Option.some.inj e
        exact x_iret (pc := 45) rfl dX9_raggednessBits_45
      · refine x_if_ne_t (pc := 37) (t := 46) dX9_raggednessBits_37 (by decide) q19 ?_
        refine x_aload_n (pc := 46) 0 dX9_raggednessBits_46 rfl ?_
        refine x_iload_n (pc := 47) 1 dX9_raggednessBits_47 rfl ?_
        refine x_aload_n (pc := 48) 0 dX9_raggednessBits_48 rfl ?_
        obtain ⟨q23, e⟩ := chk_some e
        obtain ⟨q24, e⟩ := chk_some e
        refine x_getR (pc := 49) gf_X9_78 rfl dX9_raggednessBits_49 q23 q24.1 ?_
        rcases bnd_some e with ⟨h25, r26, ec, rfl⟩ | ⟨h25, r26, ec, e⟩
        · exact y_callV_x (pc := 52) (c_X9_widthOf hl ec) q23 mf_X9_widthOf tw_8_138 ts_10_1 lf_X9_341 rfl rfl dX9_raggednessBits_52 (by decide) rfl rfl (leb rfl) (xx_out0 rfl)
        refine y_callV_i (pc := 52) (c_X9_widthOf hl ec) q23 mf_X9_widthOf tw_8_138 ts_10_1 lf_X9_341 rfl rfl dX9_raggednessBits_52 (by decide) rfl rfl (leb rfl) ?_
        refine x_iconst (pc := 55) dX9_raggednessBits_55 ?_
        refine x_aload_n (pc := 56) 0 dX9_raggednessBits_56 rfl ?_
        obtain ⟨q27, e⟩ := chk_some e
        obtain ⟨q28, e⟩ := chk_some e
        refine x_getR (pc := 57) gf_X9_9 rfl dX9_raggednessBits_57 q27 q28.1 ?_
        refine x_iconst (pc := 60) dX9_raggednessBits_60 ?_
        obtain ⟨q29, e⟩ := chk_some e
        refine x_iald (pc := 61) dX9_raggednessBits_61 q28 q29 ?_
        refine x_imul (pc := 62) dX9_raggednessBits_62 ?_
        refine x_isub (pc := 63) dX9_raggednessBits_63 ?_
        refine x_istore_n (pc := 64) dX9_raggednessBits_64 (by decide) rfl ?_
        refine x_iload_n (pc := 65) 0 dX9_raggednessBits_65 rfl ?_
        refine x_aload_n (pc := 66) 1 dX9_raggednessBits_66 rfl ?_
        refine x_iload_n (pc := 67) 2 dX9_raggednessBits_67 rfl ?_
        rcases bnd_some e with ⟨h30, r31, ec, rfl⟩ | ⟨h30, r31, ec, e⟩
        · exact y_callV_x (pc := 68) (c_X9_indentOf hl ec) q27 mf_X9_indentOf tw_8_14 ts_8_12 lf_X9_271 rfl rfl dX9_raggednessBits_68 (by decide) rfl rfl (leb rfl) (xx_out0 rfl)
        refine y_callV_i (pc := 68) (c_X9_indentOf hl ec) q27 mf_X9_indentOf tw_8_14 ts_8_12 lf_X9_271 rfl rfl dX9_raggednessBits_68 (by decide) rfl rfl (leb rfl) ?_
        refine x_isub (pc := 71) dX9_raggednessBits_71 ?_
        refine x_istore_n (pc := 72) dX9_raggednessBits_72 (by decide) rfl ?_
        refine x_aload_n (pc := 73) 2 dX9_raggednessBits_73 rfl ?_
        refine x_iload_n (pc := 74) 3 dX9_raggednessBits_74 rfl ?_
        refine x_iload_n (pc := 75) 1 dX9_raggednessBits_75 rfl ?_
        obtain ⟨q32, e⟩ := chk_some e
        rcases bnd_some e with ⟨h33, r34, ec, rfl⟩ | ⟨h33, r34, ec, e⟩
        · exact y_callV_x (pc := 76) (c_X9_breaksLines hl ec) q32 mf_X9_breaksLines tw_8_34 ts_8_15 lf_X9_280 rfl rfl dX9_raggednessBits_76 (by decide) rfl rfl (leb rfl) (xx_out0 rfl)
        refine y_callV_v (pc := 76) (c_X9_breaksLines hl ec) q32 mf_X9_breaksLines tw_8_34 ts_8_15 lf_X9_280 rfl rfl dX9_raggednessBits_76 (by decide) rfl rfl (leb rfl) ?_
        refine x_fconst0 (pc := 79) dX9_raggednessBits_79 ?_
        refine x_fstore (pc := 80) dX9_raggednessBits_80 (by decide) rfl ?_
        refine x_iconst (pc := 82) dX9_raggednessBits_82 ?_
        refine x_istore (pc := 83) dX9_raggednessBits_83 (by decide) rfl ?_
        exact x_sub1 (p_X9_raggednessBits_L85 hl 2000 _ _ _ _ _ _ e) [4, 2, 1, 0] rfl
abbrev w_X9_raggednessBits : Cond := (Cond.code yX9_raggednessBits cX9_raggednessBits 7 (Option.some Jvm.ClassFile.FieldType.int))
theorem mf_X9_raggednessBits : MF yX9_raggednessBits w_X9_raggednessBits cX9_raggednessBits 7 (Option.some Jvm.ClassFile.FieldType.int) 1 := ⟨⟨rfl, tw_8_215, by decide⟩, tw_1_11, ⟨by decide, by decide⟩, by decide +kernel⟩
theorem c_X9_raggednessBits {l : Launch} {K : Ctx} (hl : l.stackTraces = false) {h : Hp} {a0 : Nat} {i1 : Int32} {t : Rs Int32} (e : f_X9_raggednessBits h a0 i1 = some t) : Ctr l K 22 yX9_raggednessBits w_X9_raggednessBits [.ref a0, .int i1] h (tgI t) :=
  Ctr.of hl mf_X9_raggednessBits false (fun q => nomatch q) rfl (leb rfl) (p_X9_raggednessBits hl e)
/-! ## TableColumnBalancer$Content.inkWithin -/
abbrev mM_X4_inkWithin : Mi := (10, yX4_inkWithin.cls, cX4_inkWithin, 4, (Option.some Jvm.ClassFile.FieldType.int), [], false)
noncomputable def f_X4_inkWithin_B26 (k26 : Hp → Nat → Int32 → Int32 → Option (Rs Int32)) (h : Hp) (a0 : Nat) (i2 : Int32) (i3 : Int32) : Option (Rs Int32) :=
  chk (okr h a0 4) <|
  if (qI h a0 3) ≤ i3 then (
    some (h, .inr i2)
  ) else (
    chk (okr h (qR h a0 5) 20) <|
    chk (vp_in i3 (qW h (qR h a0 5))) <|
    k26 h a0 (i2 + (qI h (qR h a0 5) (Int32.toNatClampNeg i3))) (i3 + iN 1)
  )
theorem p_X4_inkWithin_B26 {l : Launch} {K : Ctx} (hl : l.stackTraces = false) {k26 : Hp → Nat → Int32 → Int32 → Option (Rs Int32)} (hk26 : ∀ (h : Hp) (a0 : Nat) (i2 : Int32) (i3 : Int32) (t : Rs Int32), k26 h a0 i2 i3 = some t → X l K mM_X4_inkWithin (tgI t) 26 [(0, .ref a0), (2, .int i2), (3, .int i3)] [] h) {h : Hp} {a0 : Nat} {i2 : Int32} {i3 : Int32} {t : Rs Int32} (e : f_X4_inkWithin_B26 k26 h a0 i2 i3 = some t) : X l K mM_X4_inkWithin (tgI t) 26 [(0, .ref a0), (2, .int i2), (3, .int i3)] [] h := by
  unfold f_X4_inkWithin_B26 at e
  refine x_iload_n (pc := 26) 2 dX4_inkWithin_26 rfl ?_
  refine x_aload_n (pc := 27) 0 dX4_inkWithin_27 rfl ?_
  obtain ⟨q1, e⟩ := chk_some e
  refine x_getI (pc := 28) gf_X4_44 rfl dX4_inkWithin_28 q1 ?_
  rcases ite_some e with ⟨q2, e⟩ | ⟨q2, e⟩
  · refine x_icmp_ge_t (pc := 31) (t := 49) dX4_inkWithin_31 (by decide) q2 ?_
    refine x_iload_n (pc := 49) 1 dX4_inkWithin_49 rfl ?_
    cases Option.some.inj e
    exact x_iret (pc := 50) rfl dX4_inkWithin_50
  · refine x_icmp_ge_f (pc := 31) (t := 49) dX4_inkWithin_31 (by decide) q2 ?_
    refine x_iload_n (pc := 34) 1 dX4_inkWithin_34 rfl ?_
    refine x_aload_n (pc := 35) 0 dX4_inkWithin_35 rfl ?_
    obtain ⟨q3, e⟩ := chk_some e
    refine x_getR (pc := 36) gf_X4_9 rfl dX4_inkWithin_36 q1 q3.1 ?_
    refine x_iload_n (pc := 39) 2 dX4_inkWithin_39 rfl ?_
    obtain ⟨q4, e⟩ := chk_some e
    refine x_iald (pc := 40) dX4_inkWithin_40 q3 q4 ?_
    refine x_iadd (pc := 41) dX4_inkWithin_41 ?_
    refine x_istore_n (pc := 42) dX4_inkWithin_42 (by decide) rfl ?_
    refine x_iinc (pc := 43) 2 dX4_inkWithin_43 rfl (by decide) rfl ?_
    refine x_goto (pc := 46) (t := 26) dX4_inkWithin_46 (by decide) ?_
    exact x_sub1 (hk26 _ _ _ _ _ e) [2, 1, 0] rfl
noncomputable def f_X4_inkWithin_L26 (n : Nat) : Hp → Nat → Int32 → Int32 → Option (Rs Int32) := Nat.rec (motive := fun _ => Hp → Nat → Int32 → Int32 → Option (Rs Int32)) (fun _ _ _ _ => none) (fun _ r => f_X4_inkWithin_B26 r) n
theorem p_X4_inkWithin_L26 {l : Launch} {K : Ctx} (hl : l.stackTraces = false) : ∀ (n : Nat) (h : Hp) (a0 : Nat) (i2 : Int32) (i3 : Int32) (t : Rs Int32) (e : f_X4_inkWithin_L26 n h a0 i2 i3 = some t), X l K mM_X4_inkWithin (tgI t) 26 [(0, .ref a0), (2, .int i2), (3, .int i3)] [] h := by
  intro n
  induction n with
  | zero => exact fun _ _ _ _ _ e => nomatch (show (none : Option (Rs Int32)) = some _ from e)
  | succ n ih => exact fun h a0 i2 i3 t e => p_X4_inkWithin_B26 hl (fun h a0 i2 i3 t e => ih h a0 i2 i3 t e) e
noncomputable def f_X4_inkWithin (h : Hp) (a0 : Nat) (i1 : Int32) : Option (Rs Int32) :=
  chk (okr h a0 4) <|
  bnd (f_X4_isText h a0) fun h2 r3 =>
  if r3 = 0 then (
    chk (okr h2 a0 4) <|
    bnd (f_X4_heightWithin h2 a0 i1) fun h6 r7 =>
    some (h6, .inr ((jmin (qI h2 a0 1) i1) * r7))
  ) else (
    f_X4_inkWithin_L26 2000 h2 a0 (iN 0) (iN 0)
  )
theorem p_X4_inkWithin {l : Launch} {K : Ctx} (hl : l.stackTraces = false) {h : Hp} {a0 : Nat} {i1 : Int32} {t : Rs Int32} (e : f_X4_inkWithin h a0 i1 = some t) : X l K mM_X4_inkWithin (tgI t) 0 [(0, .ref a0), (1, .int i1)] [] h := by
  unfold f_X4_inkWithin at e
  refine x_aload_n (pc := 0) 0 dX4_inkWithin_0 rfl ?_
  obtain ⟨q1, e⟩ := chk_some e
  rcases bnd_some e with ⟨h2, r3, ec, rfl⟩ | ⟨h2, r3, ec, e⟩
  · exact y_callV_x (pc := 1) (c_X4_isText hl ec) q1 mf_X4_isText tw_2_120 ts_1_4 lf_X4_79 rfl rfl dX4_inkWithin_1 (by decide) rfl rfl (leb rfl) (xx_out0 rfl)
  refine y_callV_i (pc := 1) (c_X4_isText hl ec) q1 mf_X4_isText tw_2_120 ts_1_4 lf_X4_79 rfl rfl dX4_inkWithin_1 (by decide) rfl rfl (leb rfl) ?_
  rcases ite_some e with ⟨q4, e⟩ | ⟨q4, e⟩
  · refine x_if_ne_f (pc := 4) (t := 22) dX4_inkWithin_4 (by decide) q4 ?_
    refine x_aload_n (pc := 7) 0 dX4_inkWithin_7 rfl ?_
    obtain ⟨q5, e⟩ := chk_some e
    refine x_getI (pc := 8) gf_X4_38 rfl dX4_inkWithin_8 q5 ?_
    refine x_iload_n (pc := 11) 1 dX4_inkWithin_11 rfl ?_
    refine x_mmin (pc := 12) tw_6_96 tw_2_167 tw_1_9 tw_2_168 (by decide) (leb rfl) dX4_inkWithin_12 ?_
    refine x_aload_n (pc := 15) 0 dX4_inkWithin_15 rfl ?_
    refine x_iload_n (pc := 16) 1 dX4_inkWithin_16 rfl ?_
    rcases bnd_some e with ⟨h6, r7, ec, rfl⟩ | ⟨h6, r7, ec, e⟩
    · exact y_callV_x (pc := 17) (c_X4_heightWithin hl ec) q5 mf_X4_heightWithin tw_3_23 ts_2_9 lf_X4_103 rfl rfl dX4_inkWithin_17 (by decide) rfl rfl (leb rfl) (xx_out0 rfl)
    refine y_callV_i (pc := 17) (c_X4_heightWithin hl ec) q5 mf_X4_heightWithin tw_3_23 ts_2_9 lf_X4_103 rfl rfl dX4_inkWithin_17 (by decide) rfl rfl (leb rfl) ?_
    refine x_imul (pc := 20) dX4_inkWithin_20 ?_
    cases Option.some.inj e
    exact x_iret (pc := 21) rfl dX4_inkWithin_21
  · refine x_if_ne_t (pc := 4) (t := 22) dX4_inkWithin_4 (by decide) q4 ?_
    refine x_iconst (pc := 22) dX4_inkWithin_22 ?_
    refine x_istore_n (pc := 23) dX4_inkWithin_23 (by decide) rfl ?_
    refine x_iconst (pc := 24) dX4_inkWithin_24 ?_
    refine x_istore_n (pc := 25) dX4_inkWithin_25 (by decide) rfl ?_
    exact x_sub1 (p_X4_inkWithin_L26 hl 2000 _ _ _ _ _ e) [2, 1, 0] rfl
abbrev w_X4_inkWithin : Cond := (Cond.code yX4_inkWithin cX4_inkWithin 4 (Option.some Jvm.ClassFile.FieldType.int))
theorem mf_X4_inkWithin : MF yX4_inkWithin w_X4_inkWithin cX4_inkWithin 4 (Option.some Jvm.ClassFile.FieldType.int) 1 := ⟨⟨rfl, tw_6_95, by decide⟩, tw_1_4, ⟨by decide, by decide⟩, by decide +kernel⟩
theorem c_X4_inkWithin {l : Launch} {K : Ctx} (hl : l.stackTraces = false) {h : Hp} {a0 : Nat} {i1 : Int32} {t : Rs Int32} (e : f_X4_inkWithin h a0 i1 = some t) : Ctr l K 10 yX4_inkWithin w_X4_inkWithin [.ref a0, .int i1] h (tgI t) :=
  Ctr.of hl mf_X4_inkWithin false (fun q => nomatch q) rfl (leb rfl) (p_X4_inkWithin hl e)
/-! ## TableColumnBalancer$Bits.ofDouble -/
abbrev mM_X0_ofDouble : Mi := (8, yX0_ofDouble.cls, cX0_ofDouble, 7, (Option.some Jvm.ClassFile.FieldType.long), [], false)
noncomputable def f_X0_ofDouble_L51 (h : Hp) (j2 : Int64) (d4 : UInt64) : Option (Rs Int64) :=
  chk (vf_n64 (FP.dsub d4 (0x3ff0000000000000 : UInt64))) <|
  chk (vf_n64 (FP.dmul (FP.dsub d4 (0x3ff0000000000000 : UInt64)) (4841369599423283200 : UInt64))) <|
  some (h, .inr ((j2 <<< (Int32.toInt64 (iN 52) &&& 63)) + (FP.d2l (FP.dmul (FP.dsub d4 (0x3ff0000000000000 : UInt64)) (4841369599423283200 : UInt64)))))
theorem p_X0_ofDouble_L51 {l : Launch} {K : Ctx} (hl : l.stackTraces = false) {h : Hp} {j2 : Int64} {d4 : UInt64} {t : Rs Int64} (e : f_X0_ofDouble_L51 h j2 d4 = some t) : X l K mM_X0_ofDouble (tgL t) 51 [(2, .long j2), (4, .double d4)] [] h := by
  unfold f_X0_ofDouble_L51 at e
  refine x_lload_n (pc := 51) 0 dX0_ofDouble_51 rfl ?_
  refine x_bipush (pc := 52) (v := iN 52) dX0_ofDouble_52 rfl ?_
  refine x_lshl (pc := 54) dX0_ofDouble_54 ?_
  refine x_dload (pc := 55) 1 dX0_ofDouble_55 rfl ?_
  refine x_dconst1 (pc := 57) dX0_ofDouble_57 ?_
  obtain ⟨q1, e⟩ := chk_some e
  refine x_dsub (pc := 58) dX0_ofDouble_58 q1 ?_
  refine x_ldc2d (pc := 59) tw_6_103 dX0_ofDouble_59 ?_
  obtain ⟨q2, e⟩ := chk_some e
  refine x_dmul (pc := 62) dX0_ofDouble_62 q2 ?_
  refine x_d2l (pc := 63) dX0_ofDouble_63 ?_
  refine x_ladd (pc := 64) dX0_ofDouble_64 ?_
  cases Option.some.inj e
  exact x_lret (pc := 65) rfl dX0_ofDouble_65
noncomputable def f_X0_ofDouble_B18 (k18 : Hp → Int64 → UInt64 → Int32 → Option (Rs Int64)) (h : Hp) (j2 : Int64) (d4 : UInt64) (i6 : Int32) : Option (Rs Int64) :=
  if (iN 1022) ≤ i6 then (
    f_X0_ofDouble_L51 h j2 d4
  ) else (
    if 0 ≤ (Op.cmpValue (FP.dcmp d4 (0x3ff0000000000000 : UInt64)) .g) then (
      f_X0_ofDouble_L51 h j2 d4
    ) else (
      chk (vf_n64 (FP.dmul d4 (4611686018427387904 : UInt64))) <|
      k18 h (j2 - (Int64.ofNat 1)) (FP.dmul d4 (4611686018427387904 : UInt64)) (i6 + iN 1)
    )
  )
theorem p_X0_ofDouble_B18 {l : Launch} {K : Ctx} (hl : l.stackTraces = false) {k18 : Hp → Int64 → UInt64 → Int32 → Option (Rs Int64)} (hk18 : ∀ (h : Hp) (j2 : Int64) (d4 : UInt64) (i6 : Int32) (t : Rs Int64), k18 h j2 d4 i6 = some t → X l K mM_X0_ofDouble (tgL t) 18 [(2, .long j2), (4, .double d4), (6, .int i6)] [] h) {h : Hp} {j2 : Int64} {d4 : UInt64} {i6 : Int32} {t : Rs Int64} (e : f_X0_ofDouble_B18 k18 h j2 d4 i6 = some t) : X l K mM_X0_ofDouble (tgL t) 18 [(2, .long j2), (4, .double d4), (6, .int i6)] [] h := by
  unfold f_X0_ofDouble_B18 at e
  refine x_iload (pc := 18) 2 dX0_ofDouble_18 rfl ?_
  refine x_sipush (pc := 20) (v := iN 1022) dX0_ofDouble_20 rfl ?_
  rcases ite_some e with ⟨q1, e⟩ | ⟨q1, e⟩
  · refine x_icmp_ge_t (pc := 23) (t := 51) dX0_ofDouble_23 (by decide) q1 ?_
    exact x_sub1 (p_X0_ofDouble_L51 hl e) [0, 1] rfl
  · refine x_icmp_ge_f (pc := 23) (t := 51) dX0_ofDouble_23 (by decide) q1 ?_
    refine x_dload (pc := 26) 1 dX0_ofDouble_26 rfl ?_
    refine x_dconst1 (pc := 28) dX0_ofDouble_28 ?_
    refine x_dcmp (pc := 29) dX0_ofDouble_29 ?_
    rcases ite_some e with ⟨q2, e⟩ | ⟨q2, e⟩
    · refine x_if_ge_t (pc := 30) (t := 51) dX0_ofDouble_30 (by decide) q2 ?_
      exact x_sub1 (p_X0_ofDouble_L51 hl e) [0, 1] rfl
    · refine x_if_ge_f (pc := 30) (t := 51) dX0_ofDouble_30 (by decide) q2 ?_
      refine x_dload (pc := 33) 1 dX0_ofDouble_33 rfl ?_
      refine x_ldc2d (pc := 35) tw_6_102 dX0_ofDouble_35 ?_
      obtain ⟨q3, e⟩ := chk_some e
      refine x_dmul (pc := 38) dX0_ofDouble_38 q3 ?_
      refine x_dstore (pc := 39) dX0_ofDouble_39 (by decide) rfl ?_
      refine x_lload_n (pc := 41) 1 dX0_ofDouble_41 rfl ?_
      refine x_lconst (pc := 42) (v := Int64.ofNat 1) dX0_ofDouble_42 rfl ?_
      refine x_lsub (pc := 43) dX0_ofDouble_43 ?_
      refine x_lstore_n (pc := 44) dX0_ofDouble_44 (by decide) rfl ?_
      refine x_iinc (pc := 45) 2 dX0_ofDouble_45 rfl (by decide) rfl ?_
      refine x_goto (pc := 48) (t := 18) dX0_ofDouble_48 (by decide) ?_
      exact x_sub1 (hk18 _ _ _ _ _ e) [1, 2, 0] rfl
noncomputable def f_X0_ofDouble_L18 (n : Nat) : Hp → Int64 → UInt64 → Int32 → Option (Rs Int64) := Nat.rec (motive := fun _ => Hp → Int64 → UInt64 → Int32 → Option (Rs Int64)) (fun _ _ _ _ => none) (fun _ r => f_X0_ofDouble_B18 r) n
theorem p_X0_ofDouble_L18 {l : Launch} {K : Ctx} (hl : l.stackTraces = false) : ∀ (n : Nat) (h : Hp) (j2 : Int64) (d4 : UInt64) (i6 : Int32) (t : Rs Int64) (e : f_X0_ofDouble_L18 n h j2 d4 i6 = some t), X l K mM_X0_ofDouble (tgL t) 18 [(2, .long j2), (4, .double d4), (6, .int i6)] [] h := by
  intro n
  induction n with
  | zero => exact fun _ _ _ _ _ e => nomatch (show (none : Option (Rs Int64)) = some _ from e)
  | succ n ih => exact fun h j2 d4 i6 t e => p_X0_ofDouble_B18 hl (fun h j2 d4 i6 t e => ih h j2 d4 i6 t e) e
noncomputable def f_X0_ofDouble (h : Hp) (d0 : UInt64) : Option (Rs Int64) :=
  if 0 < (Op.cmpValue (FP.dcmp d0 (0x0000000000000000 : UInt64)) .g) then (
    f_X0_ofDouble_L18 2000 h (1023 : Int64) d0 (iN 0)
  ) else (
    some (h, .inr (Int64.ofNat 0))
  )
theorem p_X0_ofDouble {l : Launch} {K : Ctx} (hl : l.stackTraces = false) {h : Hp} {d0 : UInt64} {t : Rs Int64} (e : f_X0_ofDouble h d0 = some t) : X l K mM_X0_ofDouble (tgL t) 0 [(0, .double d0)] [] h := by
  unfold f_X0_ofDouble at e
  refine x_dload_n (pc := 0) 0 dX0_ofDouble_0 rfl ?_
  refine x_dconst0 (pc := 1) dX0_ofDouble_1 ?_
  refine x_dcmp (pc := 2) dX0_ofDouble_2 ?_
  rcases ite_some e with ⟨q1, e⟩ | ⟨q1, e⟩
  · refine x_if_gt_t (pc := 3) (t := 8) dX0_ofDouble_3 (by decide) q1 ?_
    refine x_ldc2 (pc := 8) tw_6_101 dX0_ofDouble_8 ?_
    refine x_lstore_n (pc := 11) dX0_ofDouble_11 (by decide) rfl ?_
    refine x_dload_n (pc := 12) 1 dX0_ofDouble_12 rfl ?_
    refine x_dstore (pc := 13) dX0_ofDouble_13 (by decide) rfl ?_
    refine x_iconst (pc := 15) dX0_ofDouble_15 ?_
    refine x_istore (pc := 16) dX0_ofDouble_16 (by decide) rfl ?_
    exact x_sub1 (p_X0_ofDouble_L18 hl 2000 _ _ _ _ _ e) [2, 1, 0] rfl
  · refine x_if_gt_f (pc := 3) (t := 8) dX0_ofDouble_3 (by decide) q1 ?_
    refine x_lconst (pc := 6) (v := Int64.ofNat 0) dX0_ofDouble_6 rfl ?_
    cases Option.some.inj e
    exact x_lret (pc := 7) rfl dX0_ofDouble_7
abbrev w_X0_ofDouble : Cond := (Cond.code yX0_ofDouble cX0_ofDouble 7 (Option.some Jvm.ClassFile.FieldType.long))
theorem mf_X0_ofDouble : MF yX0_ofDouble w_X0_ofDouble cX0_ofDouble 7 (Option.some Jvm.ClassFile.FieldType.long) 1 := ⟨⟨rfl, tw_6_100, by decide⟩, tw_1_26, ⟨by decide, by decide⟩, by decide +kernel⟩
theorem c_X0_ofDouble {l : Launch} {K : Ctx} (hl : l.stackTraces = false) {h : Hp} {d0 : UInt64} {t : Rs Int64} (e : f_X0_ofDouble h d0 = some t) : Ctr l K 8 yX0_ofDouble w_X0_ofDouble [.double d0] h (tgL t) :=
  Ctr.of hl mf_X0_ofDouble false (fun q => nomatch q) rfl (leb rfl) (p_X0_ofDouble hl e)
/-! ## TableColumnBalancer.densityBits -/
abbrev mM_X8_densityBits : Mi := (14, yX8_densityBits.cls, cX8_densityBits, 6, (Option.some Jvm.ClassFile.FieldType.long), [], false)
noncomputable def f_X8_densityBits_B39 (k39 : Hp → Nat → Nat → Int32 → Int32 → Int32 → Option (Rs Int64)) (h : Hp) (a0 : Nat) (a1 : Nat) (i2 : Int32) (i3 : Int32) (i4 : Int32) : Option (Rs Int64) :=
  chk (okr h a0 8) <|
  chk (okr h (qR h a0 0) 7) <|
  if (qI h (qR h a0 0) 5) ≤ i4 then (
    chk (vf_n64 (FP.ddiv (FP.i2d i3) (FP.i2d i2))) <|
    bnd (f_X0_ofDouble h (FP.ddiv (FP.i2d i3) (FP.i2d i2))) fun h5 r6 =>
    some (h5, .inr r6)
  ) else (
    chk (okr h (qR h (qR h a0 0) 8) 25) <|
    chk (vp_in i4 (qW h (qR h (qR h a0 0) 8))) <|
    chk (okr h (qR h (qR h (qR h a0 0) 8) (Int32.toNatClampNeg i4)) 1) <|
    chk (okr h (qR h (qR h (qR h (qR h a0 0) 8) (Int32.toNatClampNeg i4)) 3) 4) <|
    bnd (f_X7_widthIn h (qR h a0 0) (qR h (qR h (qR h a0 0) 8) (Int32.toNatClampNeg i4)) a1) fun h11 r12 =>
    chk (okr h11 a0 8) <|
    chk (okr h11 (qR h11 a0 0) 7) <|
    chk (okr h11 (qR h (qR h (qR h (qR h a0 0) 8) (Int32.toNatClampNeg i4)) 3) 4) <|
    bnd (f_X4_inkWithin h11 (qR h (qR h (qR h (qR h a0 0) 8) (Int32.toNatClampNeg i4)) 3) (r12 - ((iN 2) * (qI h11 (qR h11 a0 0) 2)))) fun h16 r17 =>
    k39 h16 a0 a1 i2 (i3 + r17) (i4 + iN 1)
  )
theorem p_X8_densityBits_B39 {l : Launch} {K : Ctx} (hl : l.stackTraces = false) {k39 : Hp → Nat → Nat → Int32 → Int32 → Int32 → Option (Rs Int64)} (hk39 : ∀ (h : Hp) (a0 : Nat) (a1 : Nat) (i2 : Int32) (i3 : Int32) (i4 : Int32) (t : Rs Int64), k39 h a0 a1 i2 i3 i4 = some t → X l K mM_X8_densityBits (tgL t) 39 [(0, .ref a0), (1, .ref a1), (2, .int i2), (3, .int i3), (4, .int i4)] [] h) {h : Hp} {a0 : Nat} {a1 : Nat} {i2 : Int32} {i3 : Int32} {i4 : Int32} {t : Rs Int64} (e : f_X8_densityBits_B39 k39 h a0 a1 i2 i3 i4 = some t) : X l K mM_X8_densityBits (tgL t) 39 [(0, .ref a0), (1, .ref a1), (2, .int i2), (3, .int i3), (4, .int i4)] [] h := by
  unfold f_X8_densityBits_B39 at e
  refine x_iload (pc := 39) 4 dX8_densityBits_39 rfl ?_
  refine x_aload_n (pc := 41) 0 dX8_densityBits_41 rfl ?_
  obtain ⟨q1, e⟩ := chk_some e
  obtain ⟨q2, e⟩ := chk_some e
  refine x_getR (pc := 42) gf_X8_10 rfl dX8_densityBits_42 q1 q2.1 ?_
  refine x_getI (pc := 45) gf_X8_80 rfl dX8_densityBits_45 q2 ?_
  rcases ite_some e with ⟨q3, e⟩ | ⟨q3, e⟩
  · refine x_icmp_ge_t (pc := 48) (t := 100) dX8_densityBits_48 (by decide) q3 ?_
    refine x_iload_n (pc := 100) 3 dX8_densityBits_100 rfl ?_
    refine x_i2d (pc := 101) dX8_densityBits_101 ?_
    refine x_iload_n (pc := 102) 2 dX8_densityBits_102 rfl ?_
    refine x_i2d (pc := 103) dX8_densityBits_103 ?_
    obtain ⟨q4, e⟩ := chk_some e
    refine x_ddiv (pc := 104) dX8_densityBits_104 q4 ?_
    rcases bnd_some e with ⟨h5, r6, ec, rfl⟩ | ⟨h5, r6, ec, e⟩
    · exact y_callS_x (pc := 105) (c_X0_ofDouble hl ec) mf_X0_ofDouble tw_6_99 lf_X8_312 dX8_densityBits_105 (by decide) rfl rfl (leb rfl) (xx_out0 rfl)
    refine y_callS_i (pc := 105) (c_X0_ofDouble hl ec) mf_X0_ofDouble tw_6_99 lf_X8_312 dX8_densityBits_105 (by decide) rfl rfl (leb rfl) ?_
    cases Option.some.inj e
    exact x_lret (pc := 108) rfl dX8_densityBits_108
  · refine x_icmp_ge_f (pc := 48) (t := 100) dX8_densityBits_48 (by decide) q3 ?_
    refine x_aload_n (pc := 51) 0 dX8_densityBits_51 rfl ?_
    refine x_getR (pc := 52) gf_X8_10 rfl dX8_densityBits_52 q1 q2.1 ?_
    obtain ⟨q7, e⟩ := chk_some e
    refine x_getR (pc := 55) gf_X8_159 rfl dX8_densityBits_55 q2 q7.1 ?_
    refine x_iload (pc := 58) 4 dX8_densityBits_58 rfl ?_
    obtain ⟨q8, e⟩ := chk_some e
    obtain ⟨q9, e⟩ := chk_some e
    refine x_aald (pc := 60) (t := 1) (by decide) dX8_densityBits_60 q7 q8 q9.1 ?_
    refine x_astore (pc := 61) dX8_densityBits_61 (by decide) rfl ?_
    refine x_iload_n (pc := 63) 4 dX8_densityBits_63 rfl ?_
    refine x_aload (pc := 64) 0 dX8_densityBits_64 rfl ?_
    obtain ⟨q10, e⟩ := chk_some e
    refine x_getR (pc := 66) gf_X8_163 rfl dX8_densityBits_66 q9 q10.1 ?_
    refine x_aload_n (pc := 69) 1 dX8_densityBits_69 rfl ?_
    refine x_getR (pc := 70) gf_X8_10 rfl dX8_densityBits_70 q1 q2.1 ?_
    refine x_aload (pc := 73) 0 dX8_densityBits_73 rfl ?_
    refine x_aload_n (pc := 75) 2 dX8_densityBits_75 rfl ?_
    rcases bnd_some e with ⟨h11, r12, ec, rfl⟩ | ⟨h11, r12, ec, e⟩
    · exact y_callV_x (pc := 76) (c_X7_widthIn hl ec) q2 mf_X7_widthIn tw_2_148 ts_1_10 lf_X8_293 rfl rfl dX8_densityBits_76 (by decide) rfl rfl (leb rfl) (xx_out0 rfl)
    refine y_callV_i (pc := 76) (c_X7_widthIn hl ec) q2 mf_X7_widthIn tw_2_148 ts_1_10 lf_X8_293 rfl rfl dX8_densityBits_76 (by decide) rfl rfl (leb rfl) ?_
    refine x_iconst (pc := 79) dX8_densityBits_79 ?_
    refine x_aload_n (pc := 80) 1 dX8_densityBits_80 rfl ?_
    obtain ⟨q13, e⟩ := chk_some e
    obtain ⟨q14, e⟩ := chk_some e
    refine x_getR (pc := 81) gf_X8_10 rfl dX8_densityBits_81 q13 q14.1 ?_
    refine x_getI (pc := 84) gf_X8_105 rfl dX8_densityBits_84 q14 ?_
    refine x_imul (pc := 87) dX8_densityBits_87 ?_
    refine x_isub (pc := 88) dX8_densityBits_88 ?_
    obtain ⟨q15, e⟩ := chk_some e
    rcases bnd_some e with ⟨h16, r17, ec, rfl⟩ | ⟨h16, r17, ec, e⟩
    · exact y_callV_x (pc := 89) (c_X4_inkWithin hl ec) q15 mf_X4_inkWithin tw_6_94 ts_6_4 lf_X8_309 rfl rfl dX8_densityBits_89 (by decide) rfl rfl (leb rfl) (xx_out0 rfl)
    refine y_callV_i (pc := 89) (c_X4_inkWithin hl ec) q15 mf_X4_inkWithin tw_6_94 ts_6_4 lf_X8_309 rfl rfl dX8_densityBits_89 (by decide) rfl rfl (leb rfl) ?_
    refine x_iadd (pc := 92) dX8_densityBits_92 ?_
    refine x_istore_n (pc := 93) dX8_densityBits_93 (by decide) rfl ?_
    refine x_iinc (pc := 94) 5 dX8_densityBits_94 rfl (by decide) rfl ?_
    refine x_goto (pc := 97) (t := 39) dX8_densityBits_97 (by decide) ?_
    exact x_sub1 (hk39 _ _ _ _ _ _ _ e) [3, 4, 5, 1, 0] rfl
noncomputable def f_X8_densityBits_L39 (n : Nat) : Hp → Nat → Nat → Int32 → Int32 → Int32 → Option (Rs Int64) := Nat.rec (motive := fun _ => Hp → Nat → Nat → Int32 → Int32 → Int32 → Option (Rs Int64)) (fun _ _ _ _ _ _ => none) (fun _ r => f_X8_densityBits_B39 r) n
theorem p_X8_densityBits_L39 {l : Launch} {K : Ctx} (hl : l.stackTraces = false) : ∀ (n : Nat) (h : Hp) (a0 : Nat) (a1 : Nat) (i2 : Int32) (i3 : Int32) (i4 : Int32) (t : Rs Int64) (e : f_X8_densityBits_L39 n h a0 a1 i2 i3 i4 = some t), X l K mM_X8_densityBits (tgL t) 39 [(0, .ref a0), (1, .ref a1), (2, .int i2), (3, .int i3), (4, .int i4)] [] h := by
  intro n
  induction n with
  | zero => exact fun _ _ _ _ _ _ _ e => nomatch (show (none : Option (Rs Int64)) = some _ from e)
  | succ n ih => exact fun h a0 a1 i2 i3 i4 t e => p_X8_densityBits_B39 hl (fun h a0 a1 i2 i3 i4 t e => ih h a0 a1 i2 i3 i4 t e) e
noncomputable def f_X8_densityBits (h : Hp) (a0 : Nat) : Option (Rs Int64) :=
  chk (okr h a0 8) <|
  bnd (f_X8_automaticWidths h a0) fun h2 r3 =>
  chk (okr h2 a0 8) <|
  chk (okr h2 (qR h2 a0 0) 7) <|
  bnd (f_X7_heightOfAll h2 (qR h2 a0 0) r3) fun h6 r7 =>
  if ((qI h2 (qR h2 a0 0) 0) * r7) = 0 then (
    some (bump h6, .inl 3)
  ) else (
    f_X8_densityBits_L39 2000 h6 a0 r3 ((qI h2 (qR h2 a0 0) 0) * r7) (iN 0) (iN 0)
  )
theorem p_X8_densityBits {l : Launch} {K : Ctx} (hl : l.stackTraces = false) {h : Hp} {a0 : Nat} {t : Rs Int64} (e : f_X8_densityBits h a0 = some t) : X l K mM_X8_densityBits (tgL t) 0 [(0, .ref a0)] [] h := by
  unfold f_X8_densityBits at e
  refine x_aload_n (pc := 0) 0 dX8_densityBits_0 rfl ?_
  obtain ⟨q1, e⟩ := chk_some e
  rcases bnd_some e with ⟨h2, r3, ec, rfl⟩ | ⟨h2, r3, ec, e⟩
  · exact y_callV_x (pc := 1) (c_X8_automaticWidths hl ec) q1 mf_X8_automaticWidths tw_5_177 ts_5_11 lf_X8_259 rfl rfl dX8_densityBits_1 (by decide) rfl rfl (leb rfl) (xx_out0 rfl)
  refine y_callV_i (pc := 1) (c_X8_automaticWidths hl ec) q1 mf_X8_automaticWidths tw_5_177 ts_5_11 lf_X8_259 rfl rfl dX8_densityBits_1 (by decide) rfl rfl (leb rfl) ?_
  refine x_astore_n (pc := 4) dX8_densityBits_4 (by decide) rfl ?_
  refine x_aload_n (pc := 5) 1 dX8_densityBits_5 rfl ?_
  obtain ⟨q4, e⟩ := chk_some e
  obtain ⟨q5, e⟩ := chk_some e
  refine x_getR (pc := 6) gf_X8_10 rfl dX8_densityBits_6 q4 q5.1 ?_
  refine x_getI (pc := 9) gf_X8_99 rfl dX8_densityBits_9 q5 ?_
  refine x_aload_n (pc := 12) 1 dX8_densityBits_12 rfl ?_
  refine x_getR (pc := 13) gf_X8_10 rfl dX8_densityBits_13 q4 q5.1 ?_
  refine x_aload_n (pc := 16) 0 dX8_densityBits_16 rfl ?_
  rcases bnd_some e with ⟨h6, r7, ec, rfl⟩ | ⟨h6, r7, ec, e⟩
  · exact y_callV_x (pc := 17) (c_X7_heightOfAll hl ec) q5 mf_X7_heightOfAll tw_5_188 ts_5_12 lf_X8_263 rfl rfl dX8_densityBits_17 (by decide) rfl rfl (leb rfl) (xx_out0 rfl)
  refine y_callV_i (pc := 17) (c_X7_heightOfAll hl ec) q5 mf_X7_heightOfAll tw_5_188 ts_5_12 lf_X8_263 rfl rfl dX8_densityBits_17 (by decide) rfl rfl (leb rfl) ?_
  refine x_imul (pc := 20) dX8_densityBits_20 ?_
  refine x_istore_n (pc := 21) dX8_densityBits_21 (by decide) rfl ?_
  refine x_iload_n (pc := 22) 0 dX8_densityBits_22 rfl ?_
  rcases ite_some e with ⟨q8, e⟩ | ⟨q8, e⟩
  · refine x_if_ne_f (pc := 23) (t := 34) dX8_densityBits_23 (by decide) q8 ?_
    cases Option.some.inj e
    exact x_throw (pc := 26) (ic := 308) rfl tw_6_87 tw_1_29 th_X8_308 (by decide) tg_X8_308 dX8_densityBits_26 dX8_densityBits_29 dX8_densityBits_30 dX8_densityBits_33 (by decide) (leb rfl)
  · refine x_if_ne_t (pc := 23) (t := 34) dX8_densityBits_23 (by decide) q8 ?_
    refine x_iconst (pc := 34) dX8_densityBits_34 ?_
    refine x_istore_n (pc := 35) dX8_densityBits_35 (by decide) rfl ?_
    refine x_iconst (pc := 36) dX8_densityBits_36 ?_
    refine x_istore (pc := 37) dX8_densityBits_37 (by decide) rfl ?_
    exact x_sub1 (p_X8_densityBits_L39 hl 2000 _ _ _ _ _ _ _ e) [4, 3, 2, 1, 0] rfl
abbrev w_X8_densityBits : Cond := (Cond.code yX8_densityBits cX8_densityBits 6 (Option.some Jvm.ClassFile.FieldType.long))
theorem mf_X8_densityBits : MF yX8_densityBits w_X8_densityBits cX8_densityBits 6 (Option.some Jvm.ClassFile.FieldType.long) 0 := ⟨⟨rfl, tw_6_86, by decide⟩, tw_1_1, ⟨by decide, by decide⟩, by decide +kernel⟩
theorem c_X8_densityBits {l : Launch} {K : Ctx} (hl : l.stackTraces = false) {h : Hp} {a0 : Nat} {t : Rs Int64} (e : f_X8_densityBits h a0 = some t) : Ctr l K 14 yX8_densityBits w_X8_densityBits [.ref a0] h (tgL t) :=
  Ctr.of hl mf_X8_densityBits false (fun q => nomatch q) rfl (leb rfl) (p_X8_densityBits hl e)
/-! ## TableColumnBalancerLaw.densityBits -/
abbrev mM_L_densityBits : Mi := (15, yL_densityBits.cls, cL_densityBits, 3, (Option.some Jvm.ClassFile.FieldType.int), [((0 : Nat), (7 : Nat), (10 : Nat), (15 : Nat)), ((0 : Nat), (7 : Nat), (13 : Nat), (131 : Nat))], false)
noncomputable def f_L_densityBits (h : Hp) (a0 : Nat) (a1 : Nat) : Option (Rs Int32) :=
  chk (okr h a0 8) <|
  bndX (f_X8_densityBits h a0) (fun h2 r3 => (
    chk (okr h2 a1 21) <|
    chk (vp_in (iN 0) (qW h2 a1)) <|
    lt (putL h2 a1 (Int32.toNatClampNeg (iN 0)) r3) fun h6 =>
    some (h6, .inr (iN 0))
  )) fun h2 k =>
  if k = 0 then (
    some (h2, .inr (iN 1))
  ) else
  if k = 3 then (
    some (h2, .inr (iN 2))
  ) else
  none
theorem p_L_densityBits {l : Launch} {K : Ctx} (hl : l.stackTraces = false) {h : Hp} {a0 : Nat} {a1 : Nat} {t : Rs Int32} (e : f_L_densityBits h a0 a1 = some t) : X l K mM_L_densityBits (tgI t) 0 [(0, .ref a0), (1, .ref a1)] [] h := by
  unfold f_L_densityBits at e
  refine x_aload_n (pc := 0) 1 dL_densityBits_0 rfl ?_
  refine x_iconst (pc := 1) dL_densityBits_1 ?_
  refine x_aload_n (pc := 2) 0 dL_densityBits_2 rfl ?_
  obtain ⟨q1, e⟩ := chk_some e
  rcases bndX_some e with ⟨h2, k, ec, e⟩ | ⟨h2, r3, ec, e⟩
  · rcases ite_some e with ⟨q7, e⟩ | ⟨q7, e⟩
    · subst q7
      refine y_callV_x (pc := 3) (c_X8_densityBits hl ec) q1 mf_X8_densityBits tw_6_84 tw_6_85 lf_L_127 rfl rfl dL_densityBits_3 (by decide) rfl rfl (leb rfl) (xx_catch (pc := 3) [] [(0, 7, 13, 131)] (0, 7, 10, 15) rfl (by decide) (fun _ hz => absurd hz List.not_mem_nil) (by decide) (by decide) tw_3_77 tw_3_159 dL_densityBits_10 (by decide) rfl ?_)
      refine x_iconst (pc := 11) dL_densityBits_11 ?_
      cases Option.some.inj e
      exact x_iret (pc := 12) rfl dL_densityBits_12
    rcases ite_some e with ⟨q8, e⟩ | ⟨q8, e⟩
    · subst q8
      refine y_callV_x (pc := 3) (c_X8_densityBits hl ec) q1 mf_X8_densityBits tw_6_84 tw_6_85 lf_L_127 rfl rfl dL_densityBits_3 (by decide) rfl rfl (leb rfl) (xx_catch (pc := 3) [(0, 7, 10, 15)] [] (0, 7, 13, 131) rfl (by decide) (List.forall_mem_cons.mpr ⟨⟨by decide, 0, by decide, by decide, tw_3_77⟩, fun _ hz => absurd hz List.not_mem_nil⟩) (by decide) (by decide) tw_6_69 tw_6_81 dL_densityBits_13 (by decide) rfl ?_)
      refine x_iconst (pc := 14) dL_densityBits_14 ?_
      cases Option.some.inj e
      exact x_iret (pc := 15) rfl dL_densityBits_15
    cases e
  refine y_callV_i (pc := 3) (c_X8_densityBits hl ec) q1 mf_X8_densityBits tw_6_84 tw_6_85 lf_L_127 rfl rfl dL_densityBits_3 (by decide) rfl rfl (leb rfl) ?_
  obtain ⟨q4, e⟩ := chk_some e
  obtain ⟨q5, e⟩ := chk_some e
  replace e := lt_go e
  refine x_last (pc := 6) dL_densityBits_6 q4 q5 ?_
  refine x_goto (pc := 7) (t := 16) dL_densityBits_7 (by decide) ?_
  refine x_iconst (pc := 16) dL_densityBits_16 ?_
  cases Option.some.inj e
  exact x_iret (pc := 17) rfl dL_densityBits_17
abbrev w_L_densityBits : Cond := (Cond.codeWith yL_densityBits cL_densityBits 3 (Option.some Jvm.ClassFile.FieldType.int) [((0 : Nat), (7 : Nat), (10 : Nat), (15 : Nat)), ((0 : Nat), (7 : Nat), (13 : Nat), (131 : Nat))])
theorem mf_L_densityBits : MFX yL_densityBits w_L_densityBits cL_densityBits 3 (Option.some Jvm.ClassFile.FieldType.int) 2 [((0 : Nat), (7 : Nat), (10 : Nat), (15 : Nat)), ((0 : Nat), (7 : Nat), (13 : Nat), (131 : Nat))] := ⟨⟨rfl, tw_6_68, by decide⟩, tw_1_0, ⟨by decide, by decide⟩, by decide +kernel⟩
theorem c_L_densityBits {l : Launch} {K : Ctx} (hl : l.stackTraces = false) {h : Hp} {a0 : Nat} {a1 : Nat} {t : Rs Int32} (e : f_L_densityBits h a0 a1 = some t) : Ctr l K 15 yL_densityBits w_L_densityBits [.ref a0, .ref a1] h (tgI t) :=
  Ctr.ofX hl mf_L_densityBits rfl (leb rfl) (p_L_densityBits hl e)
/-! ## TableColumnBalancerModel.inkOf -/
abbrev mM_X9_inkOf : Mi := (12, yX9_inkOf.cls, cX9_inkOf, 4, (Option.some Jvm.ClassFile.FieldType.int), [], false)
noncomputable def f_X9_inkOf_L89 (h : Hp) (a0 : Nat) (i1 : Int32) (i3 : Int32) (s0 : Int32) : Option (Rs Int32) :=
  chk (okr h a0 9) <|
  bnd (f_X9_contentHeight h a0 i1 i3) fun h2 r3 =>
  some (h2, .inr (s0 * r3))
theorem p_X9_inkOf_L89 {l : Launch} {K : Ctx} (hl : l.stackTraces = false) {h : Hp} {a0 : Nat} {i1 : Int32} {i3 : Int32} {s0 : Int32} {t : Rs Int32} (e : f_X9_inkOf_L89 h a0 i1 i3 s0 = some t) : X l K mM_X9_inkOf (tgI t) 89 [(0, .ref a0), (1, .int i1), (3, .int i3)] [.int s0] h := by
  unfold f_X9_inkOf_L89 at e
  refine x_aload_n (pc := 89) 0 dX9_inkOf_89 rfl ?_
  refine x_iload_n (pc := 90) 1 dX9_inkOf_90 rfl ?_
  refine x_iload_n (pc := 91) 2 dX9_inkOf_91 rfl ?_
  obtain ⟨q1, e⟩ := chk_some e
  rcases bnd_some e with ⟨h2, r3, ec, rfl⟩ | ⟨h2, r3, ec, e⟩
  · exact y_callV_x (pc := 92) (c_X9_contentHeight hl ec) q1 mf_X9_contentHeight tw_8_50 ts_9_1 lf_X9_290 rfl rfl dX9_inkOf_92 (by decide) rfl rfl (leb rfl) (xx_out0 rfl)
  refine y_callV_i (pc := 92) (c_X9_contentHeight hl ec) q1 mf_X9_contentHeight tw_8_50 ts_9_1 lf_X9_290 rfl rfl dX9_inkOf_92 (by decide) rfl rfl (leb rfl) ?_
  refine x_imul (pc := 95) dX9_inkOf_95 ?_
  cases Option.some.inj e
  exact x_iret (pc := 96) rfl dX9_inkOf_96
noncomputable def f_X9_inkOf_L40 (h : Hp) (a0 : Nat) (i1 : Int32) (i2 : Int32) : Option (Rs Int32) :=
  chk (okr h a0 9) <|
  bnd (f_X9_isText h a0 i1) fun h2 r3 =>
  if r3 = 0 then (
    chk (okr h2 a0 9) <|
    chk (okr h2 (qR h2 a0 27) 20) <|
    bnd (f_X9_widthOf h2 a0 i1 (qR h2 a0 27)) fun h7 r8 =>
    chk (okr h7 a0 9) <|
    chk (okr h7 (qR h7 a0 1) 20) <|
    chk (vp_in (iN 3) (qW h7 (qR h7 a0 1))) <|
    bnd (f_X9_of h7 a0 i1 (iN 5)) fun h12 r13 =>
    if r13 ≤ (r8 - ((iN 2) * (qI h7 (qR h7 a0 1) (Int32.toNatClampNeg (iN 3))))) then (
      chk (okr h12 a0 9) <|
      bnd (f_X9_of h12 a0 i1 (iN 5)) fun h16 r17 =>
      f_X9_inkOf_L89 h16 a0 i1 (r8 - ((iN 2) * (qI h7 (qR h7 a0 1) (Int32.toNatClampNeg (iN 3))))) r17
    ) else (
      f_X9_inkOf_L89 h12 a0 i1 (r8 - ((iN 2) * (qI h7 (qR h7 a0 1) (Int32.toNatClampNeg (iN 3))))) (r8 - ((iN 2) * (qI h7 (qR h7 a0 1) (Int32.toNatClampNeg (iN 3)))))
    )
  ) else (
    some (h2, .inr i2)
  )
theorem p_X9_inkOf_L40 {l : Launch} {K : Ctx} (hl : l.stackTraces = false) {h : Hp} {a0 : Nat} {i1 : Int32} {i2 : Int32} {t : Rs Int32} (e : f_X9_inkOf_L40 h a0 i1 i2 = some t) : X l K mM_X9_inkOf (tgI t) 40 [(0, .ref a0), (1, .int i1), (2, .int i2)] [] h := by
  unfold f_X9_inkOf_L40 at e
  refine x_aload_n (pc := 40) 0 dX9_inkOf_40 rfl ?_
  refine x_iload_n (pc := 41) 1 dX9_inkOf_41 rfl ?_
  obtain ⟨q1, e⟩ := chk_some e
  rcases bnd_some e with ⟨h2, r3, ec, rfl⟩ | ⟨h2, r3, ec, e⟩
  · exact y_callV_x (pc := 42) (c_X9_isText hl ec) q1 mf_X9_isText tw_7_87 ts_7_0 lf_X9_127 rfl rfl dX9_inkOf_42 (by decide) rfl rfl (leb rfl) (xx_out0 rfl)
  refine y_callV_i (pc := 42) (c_X9_isText hl ec) q1 mf_X9_isText tw_7_87 ts_7_0 lf_X9_127 rfl rfl dX9_inkOf_42 (by decide) rfl rfl (leb rfl) ?_
  rcases ite_some e with ⟨q4, e⟩ | ⟨q4, e⟩
  · refine x_if_eq_t (pc := 45) (t := 50) dX9_inkOf_45 (by decide) q4 ?_
    refine x_aload_n (pc := 50) 0 dX9_inkOf_50 rfl ?_
    refine x_iload_n (pc := 51) 1 dX9_inkOf_51 rfl ?_
    refine x_aload_n (pc := 52) 0 dX9_inkOf_52 rfl ?_
    obtain ⟨q5, e⟩ := chk_some e
    obtain ⟨q6, e⟩ := chk_some e
    refine x_getR (pc := 53) gf_X9_66 rfl dX9_inkOf_53 q5 q6.1 ?_
    rcases bnd_some e with ⟨h7, r8, ec, rfl⟩ | ⟨h7, r8, ec, e⟩
    · exact y_callV_x (pc := 56) (c_X9_widthOf hl ec) q5 mf_X9_widthOf tw_8_138 ts_10_1 lf_X9_341 rfl rfl dX9_inkOf_56 (by decide) rfl rfl (leb rfl) (xx_out0 rfl)
    refine y_callV_i (pc := 56) (c_X9_widthOf hl ec) q5 mf_X9_widthOf tw_8_138 ts_10_1 lf_X9_341 rfl rfl dX9_inkOf_56 (by decide) rfl rfl (leb rfl) ?_
    refine x_iconst (pc := 59) dX9_inkOf_59 ?_
    refine x_aload_n (pc := 60) 0 dX9_inkOf_60 rfl ?_
    obtain ⟨q9, e⟩ := chk_some e
    obtain ⟨q10, e⟩ := chk_some e
    refine x_getR (pc := 61) gf_X9_9 rfl dX9_inkOf_61 q9 q10.1 ?_
    refine x_iconst (pc := 64) dX9_inkOf_64 ?_
    obtain ⟨q11, e⟩ := chk_some e
    refine x_iald (pc := 65) dX9_inkOf_65 q10 q11 ?_
    refine x_imul (pc := 66) dX9_inkOf_66 ?_
    refine x_isub (pc := 67) dX9_inkOf_67 ?_
    refine x_istore_n (pc := 68) dX9_inkOf_68 (by decide) rfl ?_
    refine x_iload_n (pc := 69) 0 dX9_inkOf_69 rfl ?_
    refine x_aload_n (pc := 70) 1 dX9_inkOf_70 rfl ?_
    refine x_iload_n (pc := 71) 2 dX9_inkOf_71 rfl ?_
    refine x_iconst (pc := 72) dX9_inkOf_72 ?_
    rcases bnd_some e with ⟨h12, r13, ec, rfl⟩ | ⟨h12, r13, ec, e⟩
    · exact y_callV_x (pc := 73) (c_X9_of hl ec) q9 mf_X9_of tw_7_63 ts_6_12 lf_X9_91 rfl rfl dX9_inkOf_73 (by decide) rfl rfl (leb rfl) (xx_out0 rfl)
    refine y_callV_i (pc := 73) (c_X9_of hl ec) q9 mf_X9_of tw_7_63 ts_6_12 lf_X9_91 rfl rfl dX9_inkOf_73 (by decide) rfl rfl (leb rfl) ?_
    rcases ite_some e with ⟨q14, e⟩ | ⟨q14, e⟩
    · refine x_icmp_ge_t (pc := 76) (t := 83) dX9_inkOf_76 (by decide) q14 ?_
      refine x_aload_n (pc := 83) 1 dX9_inkOf_83 rfl ?_
      refine x_iload_n (pc := 84) 2 dX9_inkOf_84 rfl ?_
      refine x_iconst (pc := 85) dX9_inkOf_85 ?_
      obtain ⟨q15, e⟩ := chk_some e
      rcases bnd_some e with ⟨h16, r17, ec, rfl⟩ | ⟨h16, r17, ec, e⟩
      · exact y_callV_x (pc := 86) (c_X9_of hl ec) q15 mf_X9_of tw_7_63 ts_6_12 lf_X9_91 rfl rfl dX9_inkOf_86 (by decide) rfl rfl (leb rfl) (xx_out0 rfl)
      refine y_callV_i (pc := 86) (c_X9_of hl ec) q15 mf_X9_of tw_7_63 ts_6_12 lf_X9_91 rfl rfl dX9_inkOf_86 (by decide) rfl rfl (leb rfl) ?_
      exact x_sub1 (p_X9_inkOf_L89 hl e) [1, 2, 0] rfl
    · refine x_icmp_ge_f (pc := 76) (t := 83) dX9_inkOf_76 (by decide) q14 ?_
      refine x_iload_n (pc := 79) 0 dX9_inkOf_79 rfl ?_
      refine x_goto (pc := 80) (t := 89) dX9_inkOf_80 (by decide) ?_
      exact x_sub1 (p_X9_inkOf_L89 hl e) [1, 2, 0] rfl
  · refine x_if_eq_f (pc := 45) (t := 50) dX9_inkOf_45 (by decide) q4 ?_
    refine x_iload_n (pc := 48) 2 dX9_inkOf_48 rfl ?_
    cases Option.some.inj e
    exact x_iret (pc := 49) rfl dX9_inkOf_49
noncomputable def f_X9_inkOf_B4 (k4 : Hp → Nat → Int32 → Int32 → Int32 → Option (Rs Int32)) (h : Hp) (a0 : Nat) (i1 : Int32) (i2 : Int32) (i3 : Int32) : Option (Rs Int32) :=
  chk (okr h a0 9) <|
  bnd (f_X9_of h a0 i1 (iN 4)) fun h2 r3 =>
  if r3 ≤ i3 then (
    f_X9_inkOf_L40 h2 a0 i1 i2
  ) else (
    chk (okr h2 a0 9) <|
    bnd (f_X9_isText h2 a0 i1) fun h6 r7 =>
    if r7 = 0 then (
      f_X9_inkOf_L40 h6 a0 i1 i2
    ) else (
      chk (okr h6 a0 9) <|
      bnd (f_X9_of h6 a0 i1 ((iN 7) + i3)) fun h10 r11 =>
      k4 h10 a0 i1 (i2 + r11) (i3 + iN 1)
    )
  )
theorem p_X9_inkOf_B4 {l : Launch} {K : Ctx} (hl : l.stackTraces = false) {k4 : Hp → Nat → Int32 → Int32 → Int32 → Option (Rs Int32)} (hk4 : ∀ (h : Hp) (a0 : Nat) (i1 : Int32) (i2 : Int32) (i3 : Int32) (t : Rs Int32), k4 h a0 i1 i2 i3 = some t → X l K mM_X9_inkOf (tgI t) 4 [(0, .ref a0), (1, .int i1), (2, .int i2), (3, .int i3)] [] h) {h : Hp} {a0 : Nat} {i1 : Int32} {i2 : Int32} {i3 : Int32} {t : Rs Int32} (e : f_X9_inkOf_B4 k4 h a0 i1 i2 i3 = some t) : X l K mM_X9_inkOf (tgI t) 4 [(0, .ref a0), (1, .int i1), (2, .int i2), (3, .int i3)] [] h := by
  unfold f_X9_inkOf_B4 at e
  refine x_iload_n (pc := 4) 3 dX9_inkOf_4 rfl ?_
  refine x_aload_n (pc := 5) 0 dX9_inkOf_5 rfl ?_
  refine x_iload_n (pc := 6) 1 dX9_inkOf_6 rfl ?_
  refine x_iconst (pc := 7) dX9_inkOf_7 ?_
  obtain ⟨q1, e⟩ := chk_some e
  rcases bnd_some e with ⟨h2, r3, ec, rfl⟩ | ⟨h2, r3, ec, e⟩
  · exact y_callV_x (pc := 8) (c_X9_of hl ec) q1 mf_X9_of tw_7_63 ts_6_12 lf_X9_91 rfl rfl dX9_inkOf_8 (by decide) rfl rfl (leb rfl) (xx_out0 rfl)
  refine y_callV_i (pc := 8) (c_X9_of hl ec) q1 mf_X9_of tw_7_63 ts_6_12 lf_X9_91 rfl rfl dX9_inkOf_8 (by decide) rfl rfl (leb rfl) ?_
  rcases ite_some e with ⟨q4, e⟩ | ⟨q4, e⟩
  · refine x_icmp_ge_t (pc := 11) (t := 40) dX9_inkOf_11 (by decide) q4 ?_
    exact x_sub1 (p_X9_inkOf_L40 hl e) [0, 1, 2] rfl
  · refine x_icmp_ge_f (pc := 11) (t := 40) dX9_inkOf_11 (by decide) q4 ?_
    refine x_aload_n (pc := 14) 0 dX9_inkOf_14 rfl ?_
    refine x_iload_n (pc := 15) 1 dX9_inkOf_15 rfl ?_
    obtain ⟨q5, e⟩ := chk_some e
    rcases bnd_some e with ⟨h6, r7, ec, rfl⟩ | ⟨h6, r7, ec, e⟩
    · exact y_callV_x (pc := 16) (c_X9_isText hl ec) q5 mf_X9_isText tw_7_87 ts_7_0 lf_X9_127 rfl rfl dX9_inkOf_16 (by decide) rfl rfl (leb rfl) (xx_out0 rfl)
    refine y_callV_i (pc := 16) (c_X9_isText hl ec) q5 mf_X9_isText tw_7_87 ts_7_0 lf_X9_127 rfl rfl dX9_inkOf_16 (by decide) rfl rfl (leb rfl) ?_
    rcases ite_some e with ⟨q8, e⟩ | ⟨q8, e⟩
    · refine x_if_eq_t (pc := 19) (t := 40) dX9_inkOf_19 (by decide) q8 ?_
      exact x_sub1 (p_X9_inkOf_L40 hl e) [0, 1, 2] rfl
    · refine x_if_eq_f (pc := 19) (t := 40) dX9_inkOf_19 (by decide) q8 ?_
      refine x_iload_n (pc := 22) 2 dX9_inkOf_22 rfl ?_
      refine x_aload_n (pc := 23) 0 dX9_inkOf_23 rfl ?_
      refine x_iload_n (pc := 24) 1 dX9_inkOf_24 rfl ?_
      refine x_bipush (pc := 25) (v := iN 7) dX9_inkOf_25 rfl ?_
      refine x_iload_n (pc := 27) 3 dX9_inkOf_27 rfl ?_
      refine x_iadd (pc := 28) dX9_inkOf_28 ?_
      obtain ⟨q9, e⟩ := chk_some e
      rcases bnd_some e with ⟨h10, r11, ec, rfl⟩ | ⟨h10, r11, ec, e⟩
      · exact y_callV_x (pc := 29) (c_X9_of hl ec) q9 mf_X9_of tw_7_63 ts_6_12 lf_X9_91 rfl rfl dX9_inkOf_29 (by decide) rfl rfl (leb rfl) (xx_out0 rfl)
      refine y_callV_i (pc := 29) (c_X9_of hl ec) q9 mf_X9_of tw_7_63 ts_6_12 lf_X9_91 rfl rfl dX9_inkOf_29 (by decide) rfl rfl (leb rfl) ?_
      refine x_iadd (pc := 32) dX9_inkOf_32 ?_
      refine x_istore_n (pc := 33) dX9_inkOf_33 (by decide) rfl ?_
      refine x_iinc (pc := 34) 3 dX9_inkOf_34 rfl (by decide) rfl ?_
      refine x_goto (pc := 37) (t := 4) dX9_inkOf_37 (by decide) ?_
      exact x_sub1 (hk4 _ _ _ _ _ _ e) [2, 3, 1, 0] rfl
noncomputable def f_X9_inkOf_L4 (n : Nat) : Hp → Nat → Int32 → Int32 → Int32 → Option (Rs Int32) := Nat.rec (motive := fun _ => Hp → Nat → Int32 → Int32 → Int32 → Option (Rs Int32)) (fun _ _ _ _ _ => none) (fun _ r => f_X9_inkOf_B4 r) n
theorem p_X9_inkOf_L4 {l : Launch} {K : Ctx} (hl : l.stackTraces = false) : ∀ (n : Nat) (h : Hp) (a0 : Nat) (i1 : Int32) (i2 : Int32) (i3 : Int32) (t : Rs Int32) (e : f_X9_inkOf_L4 n h a0 i1 i2 i3 = some t), X l K mM_X9_inkOf (tgI t) 4 [(0, .ref a0), (1, .int i1), (2, .int i2), (3, .int i3)] [] h := by
  intro n
  induction n with
  | zero => exact fun _ _ _ _ _ _ e => nomatch (show (none : Option (Rs Int32)) = some _ from e)
  | succ n ih => exact fun h a0 i1 i2 i3 t e => p_X9_inkOf_B4 hl (fun h a0 i1 i2 i3 t e => ih h a0 i1 i2 i3 t e) e
noncomputable def f_X9_inkOf (h : Hp) (a0 : Nat) (i1 : Int32) : Option (Rs Int32) :=
  f_X9_inkOf_L4 2000 h a0 i1 (iN 0) (iN 0)
theorem p_X9_inkOf {l : Launch} {K : Ctx} (hl : l.stackTraces = false) {h : Hp} {a0 : Nat} {i1 : Int32} {t : Rs Int32} (e : f_X9_inkOf h a0 i1 = some t) : X l K mM_X9_inkOf (tgI t) 0 [(0, .ref a0), (1, .int i1)] [] h := by
  unfold f_X9_inkOf at e
  refine x_iconst (pc := 0) dX9_inkOf_0 ?_
  refine x_istore_n (pc := 1) dX9_inkOf_1 (by decide) rfl ?_
  refine x_iconst (pc := 2) dX9_inkOf_2 ?_
  refine x_istore_n (pc := 3) dX9_inkOf_3 (by decide) rfl ?_
  exact x_sub1 (p_X9_inkOf_L4 hl 2000 _ _ _ _ _ _ e) [2, 3, 1, 0] rfl
abbrev w_X9_inkOf : Cond := (Cond.code yX9_inkOf cX9_inkOf 4 (Option.some Jvm.ClassFile.FieldType.int))
theorem mf_X9_inkOf : MF yX9_inkOf w_X9_inkOf cX9_inkOf 4 (Option.some Jvm.ClassFile.FieldType.int) 1 := ⟨⟨rfl, tw_8_233, by decide⟩, tw_1_11, ⟨by decide, by decide⟩, by decide +kernel⟩
theorem c_X9_inkOf {l : Launch} {K : Ctx} (hl : l.stackTraces = false) {h : Hp} {a0 : Nat} {i1 : Int32} {t : Rs Int32} (e : f_X9_inkOf h a0 i1 = some t) : Ctr l K 12 yX9_inkOf w_X9_inkOf [.ref a0, .int i1] h (tgI t) :=
  Ctr.of hl mf_X9_inkOf false (fun q => nomatch q) rfl (leb rfl) (p_X9_inkOf hl e)
/-! ## Double.isNaN -/
abbrev mM_Jxe99ae_isNaN_b9ae7 : Mi := (8, yJxe99ae_isNaN_b9ae7.cls, cJxe99ae_isNaN_b9ae7, 2, (Option.some Jvm.ClassFile.FieldType.boolean), [], false)
noncomputable def f_Jxe99ae_isNaN_b9ae7 (h : Hp) (d0 : UInt64) : Option (Rs Int32) :=
  if (Op.cmpValue (FP.dcmp d0 d0) .l) = 0 then (
    some (h, .inr (iN 0))
  ) else (
    some (h, .inr (iN 1))
  )
theorem p_Jxe99ae_isNaN_b9ae7 {l : Launch} {K : Ctx} (hl : l.stackTraces = false) {h : Hp} {d0 : UInt64} {t : Rs Int32} (e : f_Jxe99ae_isNaN_b9ae7 h d0 = some t) : X l K mM_Jxe99ae_isNaN_b9ae7 (tgI t) 0 [(0, .double d0)] [] h := by
  unfold f_Jxe99ae_isNaN_b9ae7 at e
  refine x_dload_n (pc := 0) 0 dJxe99ae_isNaN_b9ae7_0 rfl ?_
  refine x_dload_n (pc := 1) 0 dJxe99ae_isNaN_b9ae7_1 rfl ?_
  refine x_dcmp (pc := 2) dJxe99ae_isNaN_b9ae7_2 ?_
  rcases ite_some e with ⟨q1, e⟩ | ⟨q1, e⟩
  · refine x_if_eq_t (pc := 3) (t := 10) dJxe99ae_isNaN_b9ae7_3 (by decide) q1 ?_
    refine x_iconst (pc := 10) dJxe99ae_isNaN_b9ae7_10 ?_
    cases Option.some.inj e
    exact x_zret (pc := 11) rfl (Or.inl rfl) dJxe99ae_isNaN_b9ae7_11
  · refine x_if_eq_f (pc := 3) (t := 10) dJxe99ae_isNaN_b9ae7_3 (by decide) q1 ?_
    refine x_iconst (pc := 6) dJxe99ae_isNaN_b9ae7_6 ?_
    refine x_goto (pc := 7) (t := 11) dJxe99ae_isNaN_b9ae7_7 (by decide) ?_
    cases Option.some.inj e
    exact x_zret (pc := 11) rfl (Or.inr rfl) dJxe99ae_isNaN_b9ae7_11
abbrev w_Jxe99ae_isNaN_b9ae7 : Cond := (Cond.code yJxe99ae_isNaN_b9ae7 cJxe99ae_isNaN_b9ae7 2 (Option.some Jvm.ClassFile.FieldType.boolean))
theorem mf_Jxe99ae_isNaN_b9ae7 : MF yJxe99ae_isNaN_b9ae7 w_Jxe99ae_isNaN_b9ae7 cJxe99ae_isNaN_b9ae7 2 (Option.some Jvm.ClassFile.FieldType.boolean) 1 := ⟨⟨rfl, tw_8_239, by decide⟩, tw_1_30, ⟨by decide, by decide⟩, by decide +kernel⟩
theorem c_Jxe99ae_isNaN_b9ae7 {l : Launch} {K : Ctx} (hl : l.stackTraces = false) {h : Hp} {d0 : UInt64} {t : Rs Int32} (e : f_Jxe99ae_isNaN_b9ae7 h d0 = some t) : Ctr l K 8 yJxe99ae_isNaN_b9ae7 w_Jxe99ae_isNaN_b9ae7 [.double d0] h (tgI t) :=
  Ctr.of hl mf_Jxe99ae_isNaN_b9ae7 false (fun q => nomatch q) rfl (leb rfl) (p_Jxe99ae_isNaN_b9ae7 hl e)
/-! ## Double.doubleToLongBits -/
abbrev mM_Jxe99ae_doubleToLongBits_ccdee : Mi := (9, yJxe99ae_doubleToLongBits_ccdee.cls, cJxe99ae_doubleToLongBits_ccdee, 2, (Option.some Jvm.ClassFile.FieldType.long), [], false)
noncomputable def f_Jxe99ae_doubleToLongBits_ccdee (h : Hp) (d0 : UInt64) : Option (Rs Int64) :=
  bnd (f_Jxe99ae_isNaN_b9ae7 h d0) fun h1 r2 =>
  if r2 = 0 then (
    some (h1, .inr (UInt64.toInt64 d0))
  ) else (
    some (h1, .inr (9221120237041090560 : Int64))
  )
theorem p_Jxe99ae_doubleToLongBits_ccdee {l : Launch} {K : Ctx} (hl : l.stackTraces = false) {h : Hp} {d0 : UInt64} {t : Rs Int64} (e : f_Jxe99ae_doubleToLongBits_ccdee h d0 = some t) : X l K mM_Jxe99ae_doubleToLongBits_ccdee (tgL t) 0 [(0, .double d0)] [] h := by
  unfold f_Jxe99ae_doubleToLongBits_ccdee at e
  refine x_dload_n (pc := 0) 0 dJxe99ae_doubleToLongBits_ccdee_0 rfl ?_
  rcases bnd_some e with ⟨h1, r2, ec, rfl⟩ | ⟨h1, r2, ec, e⟩
  · exact y_callS_x (pc := 1) (c_Jxe99ae_isNaN_b9ae7 hl ec) mf_Jxe99ae_isNaN_b9ae7 tw_8_238 lf_Jxe99ae_122 dJxe99ae_doubleToLongBits_ccdee_1 (by decide) rfl rfl (leb rfl) (xx_out0 rfl)
  refine y_callS_i (pc := 1) (c_Jxe99ae_isNaN_b9ae7 hl ec) mf_Jxe99ae_isNaN_b9ae7 tw_8_238 lf_Jxe99ae_122 dJxe99ae_doubleToLongBits_ccdee_1 (by decide) rfl rfl (leb rfl) ?_
  rcases ite_some e with ⟨q3, e⟩ | ⟨q3, e⟩
  · refine x_if_ne_f (pc := 4) (t := 12) dJxe99ae_doubleToLongBits_ccdee_4 (by decide) q3 ?_
    refine x_dload_n (pc := 7) 0 dJxe99ae_doubleToLongBits_ccdee_7 rfl ?_
    refine x_rawD (pc := 8) tw_9_0 tw_9_2 tw_9_1 tw_1_30 (by decide) (leb rfl) dJxe99ae_doubleToLongBits_ccdee_8 ?_
    cases Option.some.inj e
    exact x_lret (pc := 11) rfl dJxe99ae_doubleToLongBits_ccdee_11
  · refine x_if_ne_t (pc := 4) (t := 12) dJxe99ae_doubleToLongBits_ccdee_4 (by decide) q3 ?_
    refine x_ldc2 (pc := 12) tw_9_3 dJxe99ae_doubleToLongBits_ccdee_12 ?_
    cases Option.some.inj e
    exact x_lret (pc := 15) rfl dJxe99ae_doubleToLongBits_ccdee_15
abbrev w_Jxe99ae_doubleToLongBits_ccdee : Cond := (Cond.code yJxe99ae_doubleToLongBits_ccdee cJxe99ae_doubleToLongBits_ccdee 2 (Option.some Jvm.ClassFile.FieldType.long))
theorem mf_Jxe99ae_doubleToLongBits_ccdee : MF yJxe99ae_doubleToLongBits_ccdee w_Jxe99ae_doubleToLongBits_ccdee cJxe99ae_doubleToLongBits_ccdee 2 (Option.some Jvm.ClassFile.FieldType.long) 1 := ⟨⟨rfl, tw_8_236, by decide⟩, tw_1_30, ⟨by decide, by decide⟩, by decide +kernel⟩
theorem c_Jxe99ae_doubleToLongBits_ccdee {l : Launch} {K : Ctx} (hl : l.stackTraces = false) {h : Hp} {d0 : UInt64} {t : Rs Int64} (e : f_Jxe99ae_doubleToLongBits_ccdee h d0 = some t) : Ctr l K 9 yJxe99ae_doubleToLongBits_ccdee w_Jxe99ae_doubleToLongBits_ccdee [.double d0] h (tgL t) :=
  Ctr.of hl mf_Jxe99ae_doubleToLongBits_ccdee false (fun q => nomatch q) rfl (leb rfl) (p_Jxe99ae_doubleToLongBits_ccdee hl e)
/-! ## TableColumnBalancerModel.densityBits -/
abbrev mM_X9_densityBits : Mi := (16, yX9_densityBits.cls, cX9_densityBits, 4, (Option.some Jvm.ClassFile.FieldType.long), [], false)
noncomputable def f_X9_densityBits_B43 (k43 : Hp → Nat → Int32 → Int32 → Int32 → Option (Rs Int64)) (h : Hp) (a0 : Nat) (i1 : Int32) (i2 : Int32) (i3 : Int32) : Option (Rs Int64) :=
  chk (okr h a0 9) <|
  chk (okr h (qR h a0 1) 20) <|
  chk (vp_in (iN 5) (qW h (qR h a0 1))) <|
  if (qI h (qR h a0 1) (Int32.toNatClampNeg (iN 5))) ≤ i3 then (
    chk (vp_in (iN 1) (qW h (qR h a0 1))) <|
    chk (vf_n64 (FP.ddiv (FP.i2d i2) (FP.i2d ((qI h (qR h a0 1) (Int32.toNatClampNeg (iN 1))) * i1)))) <|
    bnd (f_Jxe99ae_doubleToLongBits_ccdee h (FP.ddiv (FP.i2d i2) (FP.i2d ((qI h (qR h a0 1) (Int32.toNatClampNeg (iN 1))) * i1)))) fun h7 r8 =>
    some (h7, .inr r8)
  ) else (
    bnd (f_X9_inkOf h a0 i3) fun h9 r10 =>
    k43 h9 a0 i1 (i2 + r10) (i3 + iN 1)
  )
theorem p_X9_densityBits_B43 {l : Launch} {K : Ctx} (hl : l.stackTraces = false) {k43 : Hp → Nat → Int32 → Int32 → Int32 → Option (Rs Int64)} (hk43 : ∀ (h : Hp) (a0 : Nat) (i1 : Int32) (i2 : Int32) (i3 : Int32) (t : Rs Int64), k43 h a0 i1 i2 i3 = some t → X l K mM_X9_densityBits (tgL t) 43 [(0, .ref a0), (1, .int i1), (2, .int i2), (3, .int i3)] [] h) {h : Hp} {a0 : Nat} {i1 : Int32} {i2 : Int32} {i3 : Int32} {t : Rs Int64} (e : f_X9_densityBits_B43 k43 h a0 i1 i2 i3 = some t) : X l K mM_X9_densityBits (tgL t) 43 [(0, .ref a0), (1, .int i1), (2, .int i2), (3, .int i3)] [] h := by
  unfold f_X9_densityBits_B43 at e
  refine x_iload_n (pc := 43) 3 dX9_densityBits_43 rfl ?_
  refine x_aload_n (pc := 44) 0 dX9_densityBits_44 rfl ?_
  obtain ⟨q1, e⟩ := chk_some e
  obtain ⟨q2, e⟩ := chk_some e
  refine x_getR (pc := 45) gf_X9_9 rfl dX9_densityBits_45 q1 q2.1 ?_
  refine x_iconst (pc := 48) dX9_densityBits_48 ?_
  obtain ⟨q3, e⟩ := chk_some e
  refine x_iald (pc := 49) dX9_densityBits_49 q2 q3 ?_
  rcases ite_some e with ⟨q4, e⟩ | ⟨q4, e⟩
  · refine x_icmp_ge_t (pc := 50) (t := 67) dX9_densityBits_50 (by decide) q4 ?_
    refine x_iload_n (pc := 67) 2 dX9_densityBits_67 rfl ?_
    refine x_i2d (pc := 68) dX9_densityBits_68 ?_
    refine x_aload_n (pc := 69) 0 dX9_densityBits_69 rfl ?_
    refine x_getR (pc := 70) gf_X9_9 rfl dX9_densityBits_70 q1 q2.1 ?_
    refine x_iconst (pc := 73) dX9_densityBits_73 ?_
    obtain ⟨q5, e⟩ := chk_some e
    refine x_iald (pc := 74) dX9_densityBits_74 q2 q5 ?_
    refine x_iload_n (pc := 75) 1 dX9_densityBits_75 rfl ?_
    refine x_imul (pc := 76) dX9_densityBits_76 ?_
    refine x_i2d (pc := 77) dX9_densityBits_77 ?_
    obtain ⟨q6, e⟩ := chk_some e
    refine x_ddiv (pc := 78) dX9_densityBits_78 q6 ?_
    rcases bnd_some e with ⟨h7, r8, ec, rfl⟩ | ⟨h7, r8, ec, e⟩
    · exact y_callS_x (pc := 79) (c_Jxe99ae_doubleToLongBits_ccdee hl ec) mf_Jxe99ae_doubleToLongBits_ccdee tw_8_235 lf_X9_385 dX9_densityBits_79 (by decide) rfl rfl (leb rfl) (xx_out0 rfl)
    refine y_callS_i (pc := 79) (c_Jxe99ae_doubleToLongBits_ccdee hl ec) mf_Jxe99ae_doubleToLongBits_ccdee tw_8_235 lf_X9_385 dX9_densityBits_79 (by decide) rfl rfl (leb rfl) ?_
    cases Option.some.inj e
    exact x_lret (pc := 82) rfl dX9_densityBits_82
  · refine x_icmp_ge_f (pc := 50) (t := 67) dX9_densityBits_50 (by decide) q4 ?_
    refine x_iload_n (pc := 53) 2 dX9_densityBits_53 rfl ?_
    refine x_aload_n (pc := 54) 0 dX9_densityBits_54 rfl ?_
    refine x_iload_n (pc := 55) 3 dX9_densityBits_55 rfl ?_
    rcases bnd_some e with ⟨h9, r10, ec, rfl⟩ | ⟨h9, r10, ec, e⟩
    · exact y_callV_x (pc := 56) (c_X9_inkOf hl ec) q1 mf_X9_inkOf tw_8_232 ts_10_9 lf_X9_382 rfl rfl dX9_densityBits_56 (by decide) rfl rfl (leb rfl) (xx_out0 rfl)
    refine y_callV_i (pc := 56) (c_X9_inkOf hl ec) q1 mf_X9_inkOf tw_8_232 ts_10_9 lf_X9_382 rfl rfl dX9_densityBits_56 (by decide) rfl rfl (leb rfl) ?_
    refine x_iadd (pc := 59) dX9_densityBits_59 ?_
    refine x_istore_n (pc := 60) dX9_densityBits_60 (by decide) rfl ?_
    refine x_iinc (pc := 61) 3 dX9_densityBits_61 rfl (by decide) rfl ?_
    refine x_goto (pc := 64) (t := 43) dX9_densityBits_64 (by decide) ?_
    exact x_sub1 (hk43 _ _ _ _ _ _ e) [2, 3, 1, 0] rfl
noncomputable def f_X9_densityBits_L43 (n : Nat) : Hp → Nat → Int32 → Int32 → Int32 → Option (Rs Int64) := Nat.rec (motive := fun _ => Hp → Nat → Int32 → Int32 → Int32 → Option (Rs Int64)) (fun _ _ _ _ _ => none) (fun _ r => f_X9_densityBits_B43 r) n
theorem p_X9_densityBits_L43 {l : Launch} {K : Ctx} (hl : l.stackTraces = false) : ∀ (n : Nat) (h : Hp) (a0 : Nat) (i1 : Int32) (i2 : Int32) (i3 : Int32) (t : Rs Int64) (e : f_X9_densityBits_L43 n h a0 i1 i2 i3 = some t), X l K mM_X9_densityBits (tgL t) 43 [(0, .ref a0), (1, .int i1), (2, .int i2), (3, .int i3)] [] h := by
  intro n
  induction n with
  | zero => exact fun _ _ _ _ _ _ e => nomatch (show (none : Option (Rs Int64)) = some _ from e)
  | succ n ih => exact fun h a0 i1 i2 i3 t e => p_X9_densityBits_B43 hl (fun h a0 i1 i2 i3 t e => ih h a0 i1 i2 i3 t e) e
noncomputable def f_X9_densityBits (h : Hp) (a0 : Nat) : Option (Rs Int64) :=
  chk (okr h a0 9) <|
  lt (putI h a0 0 (iN 0)) fun h2 =>
  bnd (f_X9_laysOut h2 a0) fun h3 r4 =>
  if r4 = 0 then (
    chk (okr h3 a0 9) <|
    lt (putI h3 a0 0 (iN 1)) fun h7 =>
    some (h7, .inr (Int64.ofNat 0))
  ) else (
    chk (okr h3 a0 9) <|
    chk (okr h3 (qR h3 a0 27) 20) <|
    bnd (f_X9_tableHigh h3 a0 (qR h3 a0 27)) fun h10 r11 =>
    if r11 = 0 then (
      chk (okr h10 a0 9) <|
      lt (putI h10 a0 0 (iN 2)) fun h14 =>
      some (h14, .inr (Int64.ofNat 0))
    ) else (
      f_X9_densityBits_L43 2000 h10 a0 r11 (iN 0) (iN 0)
    )
  )
theorem p_X9_densityBits {l : Launch} {K : Ctx} (hl : l.stackTraces = false) {h : Hp} {a0 : Nat} {t : Rs Int64} (e : f_X9_densityBits h a0 = some t) : X l K mM_X9_densityBits (tgL t) 0 [(0, .ref a0)] [] h := by
  unfold f_X9_densityBits at e
  refine x_aload_n (pc := 0) 0 dX9_densityBits_0 rfl ?_
  refine x_iconst (pc := 1) dX9_densityBits_1 ?_
  obtain ⟨q1, e⟩ := chk_some e
  replace e := lt_go e
  refine x_putI (pc := 2) pf_X9_84 rfl rfl rfl dX9_densityBits_2 q1 ?_
  refine x_aload_n (pc := 5) 0 dX9_densityBits_5 rfl ?_
  rcases bnd_some e with ⟨h3, r4, ec, rfl⟩ | ⟨h3, r4, ec, e⟩
  · exact y_callV_x (pc := 6) (c_X9_laysOut hl ec) (okr_pI q1) mf_X9_laysOut tw_8_118 ts_9_13 lf_X9_338 rfl rfl dX9_densityBits_6 (by decide) rfl rfl (leb rfl) (xx_out0 rfl)
  refine y_callV_i (pc := 6) (c_X9_laysOut hl ec) (okr_pI q1) mf_X9_laysOut tw_8_118 ts_9_13 lf_X9_338 rfl rfl dX9_densityBits_6 (by decide) rfl rfl (leb rfl) ?_
  rcases ite_some e with ⟨q5, e⟩ | ⟨q5, e⟩
  · refine x_if_ne_f (pc := 9) (t := 19) dX9_densityBits_9 (by decide) q5 ?_
    refine x_aload_n (pc := 12) 0 dX9_densityBits_12 rfl ?_
    refine x_iconst (pc := 13) dX9_densityBits_13 ?_
    obtain ⟨q6, e⟩ := chk_some e
    replace e := lt_go e
    refine x_putI (pc := 14) pf_X9_84 rfl rfl rfl dX9_densityBits_14 q6 ?_
    refine x_lconst (pc := 17) (v := Int64.ofNat 0) dX9_densityBits_17 rfl ?_
    cases Option.some.inj e
    exact x_lret (pc := 18) rfl dX9_densityBits_18
  · refine x_if_ne_t (pc := 9) (t := 19) dX9_densityBits_9 (by decide) q5 ?_
    refine x_aload_n (pc := 19) 0 dX9_densityBits_19 rfl ?_
    refine x_aload_n (pc := 20) 0 dX9_densityBits_20 rfl ?_
    obtain ⟨q8, e⟩ := chk_some e
    obtain ⟨q9, e⟩ := chk_some e
    refine x_getR (pc := 21) gf_X9_66 rfl dX9_densityBits_21 q8 q9.1 ?_
    rcases bnd_some e with ⟨h10, r11, ec, rfl⟩ | ⟨h10, r11, ec, e⟩
    · exact y_callV_x (pc := 24) (c_X9_tableHigh hl ec) q8 mf_X9_tableHigh tw_8_130 ts_9_15 lf_X9_348 rfl rfl dX9_densityBits_24 (by decide) rfl rfl (leb rfl) (xx_out0 rfl)
    refine y_callV_i (pc := 24) (c_X9_tableHigh hl ec) q8 mf_X9_tableHigh tw_8_130 ts_9_15 lf_X9_348 rfl rfl dX9_densityBits_24 (by decide) rfl rfl (leb rfl) ?_
    refine x_istore_n (pc := 27) dX9_densityBits_27 (by decide) rfl ?_
    refine x_iload_n (pc := 28) 0 dX9_densityBits_28 rfl ?_
    rcases ite_some e with ⟨q12, e⟩ | ⟨q12, e⟩
    · refine x_if_ne_f (pc := 29) (t := 39) dX9_densityBits_29 (by decide) q12 ?_
      refine x_aload_n (pc := 32) 1 dX9_densityBits_32 rfl ?_
      refine x_iconst (pc := 33) dX9_densityBits_33 ?_
      obtain ⟨q13, e⟩ := chk_some e
      replace e := lt_go e
      refine x_putI (pc := 34) pf_X9_84 rfl rfl rfl dX9_densityBits_34 q13 ?_
      refine x_lconst (pc := 37) (v := Int64.ofNat 0) dX9_densityBits_37 rfl ?_
      cases Option.some.inj e
      exact x_lret (pc := 38) rfl dX9_densityBits_38
    · refine x_if_ne_t (pc := 29) (t := 39) dX9_densityBits_29 (by decide) q12 ?_
      refine x_iconst (pc := 39) dX9_densityBits_39 ?_
      refine x_istore_n (pc := 40) dX9_densityBits_40 (by decide) rfl ?_
      refine x_iconst (pc := 41) dX9_densityBits_41 ?_
      refine x_istore_n (pc := 42) dX9_densityBits_42 (by decide) rfl ?_
      exact x_sub1 (p_X9_densityBits_L43 hl 2000 _ _ _ _ _ _ e) [3, 2, 1, 0] rfl
abbrev w_X9_densityBits : Cond := (Cond.code yX9_densityBits cX9_densityBits 4 (Option.some Jvm.ClassFile.FieldType.long))
theorem mf_X9_densityBits : MF yX9_densityBits w_X9_densityBits cX9_densityBits 4 (Option.some Jvm.ClassFile.FieldType.long) 0 := ⟨⟨rfl, tw_8_229, by decide⟩, tw_1_11, ⟨by decide, by decide⟩, by decide +kernel⟩
theorem c_X9_densityBits {l : Launch} {K : Ctx} (hl : l.stackTraces = false) {h : Hp} {a0 : Nat} {t : Rs Int64} (e : f_X9_densityBits h a0 = some t) : Ctr l K 16 yX9_densityBits w_X9_densityBits [.ref a0] h (tgL t) :=
  Ctr.of hl mf_X9_densityBits false (fun q => nomatch q) rfl (leb rfl) (p_X9_densityBits hl e)
/-! ## TableColumnBalancer$Clip.remake -/
abbrev mM_X2_remake : Mi := (8, yX2_remake.cls, cX2_remake, 4, (Option.none : Option Jvm.ClassFile.FieldType), [], false)
noncomputable def f_X2_remake_B17 (k17 : Hp → Nat → Int32 → Option (Rs Unit)) (h : Hp) (a0 : Nat) (i3 : Int32) : Option (Rs Unit) :=
  if (iN 3) ≤ i3 then (
    some (h, .inr ())
  ) else (
    chk (okr h a0 2) <|
    chk (okr h (qR h a0 3) 22) <|
    chk (vp_in i3 (qW h (qR h a0 3))) <|
    lt (putI h (qR h a0 3) (Int32.toNatClampNeg i3) (iN 0)) fun h5 =>
    k17 h5 a0 (i3 + iN 1)
  )
theorem p_X2_remake_B17 {l : Launch} {K : Ctx} (hl : l.stackTraces = false) {k17 : Hp → Nat → Int32 → Option (Rs Unit)} (hk17 : ∀ (h : Hp) (a0 : Nat) (i3 : Int32) (t : Rs Unit), k17 h a0 i3 = some t → X l K mM_X2_remake (tgV t) 17 [(0, .ref a0), (3, .int i3)] [] h) {h : Hp} {a0 : Nat} {i3 : Int32} {t : Rs Unit} (e : f_X2_remake_B17 k17 h a0 i3 = some t) : X l K mM_X2_remake (tgV t) 17 [(0, .ref a0), (3, .int i3)] [] h := by
  unfold f_X2_remake_B17 at e
  refine x_iload_n (pc := 17) 1 dX2_remake_17 rfl ?_
  refine x_iconst (pc := 18) dX2_remake_18 ?_
  rcases ite_some e with ⟨q1, e⟩ | ⟨q1, e⟩
  · refine x_icmp_ge_t (pc := 19) (t := 35) dX2_remake_19 (by decide) q1 ?_
    cases Option.some.inj e
    exact x_vret (pc := 35) rfl dX2_remake_35
  · refine x_icmp_ge_f (pc := 19) (t := 35) dX2_remake_19 (by decide) q1 ?_
    refine x_aload_n (pc := 22) 0 dX2_remake_22 rfl ?_
    obtain ⟨q2, e⟩ := chk_some e
    obtain ⟨q3, e⟩ := chk_some e
    refine x_getR (pc := 23) gf_X2_9 rfl dX2_remake_23 q2 q3.1 ?_
    refine x_iload_n (pc := 26) 1 dX2_remake_26 rfl ?_
    refine x_iconst (pc := 27) dX2_remake_27 ?_
    obtain ⟨q4, e⟩ := chk_some e
    replace e := lt_go e
    refine x_zast (pc := 28) dX2_remake_28 (Or.inl rfl) q3 q4 ?_
    refine x_iinc (pc := 29) 1 dX2_remake_29 rfl (by decide) rfl ?_
    refine x_goto (pc := 32) (t := 17) dX2_remake_32 (by decide) ?_
    exact x_sub1 (hk17 _ _ _ _ e) [1, 0] rfl
noncomputable def f_X2_remake_L17 (n : Nat) : Hp → Nat → Int32 → Option (Rs Unit) := Nat.rec (motive := fun _ => Hp → Nat → Int32 → Option (Rs Unit)) (fun _ _ _ => none) (fun _ r => f_X2_remake_B17 r) n
theorem p_X2_remake_L17 {l : Launch} {K : Ctx} (hl : l.stackTraces = false) : ∀ (n : Nat) (h : Hp) (a0 : Nat) (i3 : Int32) (t : Rs Unit) (e : f_X2_remake_L17 n h a0 i3 = some t), X l K mM_X2_remake (tgV t) 17 [(0, .ref a0), (3, .int i3)] [] h := by
  intro n
  induction n with
  | zero => exact fun _ _ _ _ e => nomatch (show (none : Option (Rs Unit)) = some _ from e)
  | succ n ih => exact fun h a0 i3 t e => p_X2_remake_B17 hl (fun h a0 i3 t e => ih h a0 i3 t e) e
noncomputable def f_X2_remake (h : Hp) (a0 : Nat) (i1 : Int32) (i2 : Int32) : Option (Rs Unit) :=
  chk (okr h a0 2) <|
  lt (putI h a0 0 (iN 1)) fun h2 =>
  lt (putI h2 a0 1 i1) fun h3 =>
  lt (putI h3 a0 2 i2) fun h4 =>
  f_X2_remake_L17 2000 h4 a0 (iN 0)
theorem p_X2_remake {l : Launch} {K : Ctx} (hl : l.stackTraces = false) {h : Hp} {a0 : Nat} {i1 : Int32} {i2 : Int32} {t : Rs Unit} (e : f_X2_remake h a0 i1 i2 = some t) : X l K mM_X2_remake (tgV t) 0 [(0, .ref a0), (1, .int i1), (2, .int i2)] [] h := by
  unfold f_X2_remake at e
  refine x_aload_n (pc := 0) 0 dX2_remake_0 rfl ?_
  refine x_iconst (pc := 1) dX2_remake_1 ?_
  obtain ⟨q1, e⟩ := chk_some e
  replace e := lt_go e
  refine x_putI (pc := 2) pf_X2_22 rfl (nar_z (Or.inr rfl)) (fit_z (Or.inr rfl)) dX2_remake_2 q1 ?_
  refine x_aload_n (pc := 5) 0 dX2_remake_5 rfl ?_
  refine x_iload_n (pc := 6) 1 dX2_remake_6 rfl ?_
  replace e := lt_go e
  refine x_putI (pc := 7) pf_X2_26 rfl rfl rfl dX2_remake_7 (okr_pI q1) ?_
  refine x_aload_n (pc := 10) 0 dX2_remake_10 rfl ?_
  refine x_iload_n (pc := 11) 2 dX2_remake_11 rfl ?_
  replace e := lt_go e
  refine x_putI (pc := 12) pf_X2_30 rfl rfl rfl dX2_remake_12 (okr_pI (okr_pI q1)) ?_
  refine x_iconst (pc := 15) dX2_remake_15 ?_
  refine x_istore_n (pc := 16) dX2_remake_16 (by decide) rfl ?_
  exact x_sub1 (p_X2_remake_L17 hl 2000 _ _ _ _ e) [1, 0] rfl
abbrev w_X2_remake : Cond := (Cond.code yX2_remake cX2_remake 4 (Option.none : Option Jvm.ClassFile.FieldType))
theorem mf_X2_remake : MF yX2_remake w_X2_remake cX2_remake 4 (Option.none : Option Jvm.ClassFile.FieldType) 2 := ⟨⟨rfl, tw_6_114, by decide⟩, tw_1_8, ⟨by decide, by decide⟩, by decide +kernel⟩
theorem c_X2_remake {l : Launch} {K : Ctx} (hl : l.stackTraces = false) {h : Hp} {a0 : Nat} {i1 : Int32} {i2 : Int32} {t : Rs Unit} (e : f_X2_remake h a0 i1 i2 = some t) : Ctr l K 8 yX2_remake w_X2_remake [.ref a0, .int i1, .int i2] h (tgV t) :=
  Ctr.of hl mf_X2_remake false (fun q => nomatch q) rfl (leb rfl) (p_X2_remake hl e)
/-! ## TableColumnBalancer.makeClip -/
abbrev mM_X8_makeClip : Mi := (9, yX8_makeClip.cls, cX8_makeClip, 4, (Option.some Jvm.ClassFile.FieldType.int), [], false)
noncomputable def f_X8_makeClip (h : Hp) (a0 : Nat) (i1 : Int32) (i2 : Int32) (i3 : Int32) : Option (Rs Int32) :=
  bnd (f_X8_isWithin h i1 (iN 0) (iN 1)) fun h1 r2 =>
  bnd (f_X8_requireIndex h1 r2) fun h3 _ =>
  bnd (f_X8_isWithin h3 i2 (iN 0) (iN 5)) fun h5 r6 =>
  bnd (f_X8_requireArgument h5 r6) fun h7 _ =>
  bnd (f_X8_isWithin h7 i3 (iN 0) (iN 3)) fun h9 r10 =>
  bnd (f_X8_requireArgument h9 r10) fun h11 _ =>
  chk (okr h11 a0 8) <|
  chk (okr h11 (qR h11 a0 9) 26) <|
  chk (vp_in i1 (qW h11 (qR h11 a0 9))) <|
  chk (okr h11 (qR h11 (qR h11 a0 9) (Int32.toNatClampNeg i1)) 2) <|
  bnd (f_X2_remake h11 (qR h11 (qR h11 a0 9) (Int32.toNatClampNeg i1)) i2 i3) fun h17 _ =>
  some (h17, .inr i3)
theorem p_X8_makeClip {l : Launch} {K : Ctx} (hl : l.stackTraces = false) {h : Hp} {a0 : Nat} {i1 : Int32} {i2 : Int32} {i3 : Int32} {t : Rs Int32} (e : f_X8_makeClip h a0 i1 i2 i3 = some t) : X l K mM_X8_makeClip (tgI t) 0 [(0, .ref a0), (1, .int i1), (2, .int i2), (3, .int i3)] [] h := by
  unfold f_X8_makeClip at e
  refine x_iload_n (pc := 0) 1 dX8_makeClip_0 rfl ?_
  refine x_iconst (pc := 1) dX8_makeClip_1 ?_
  refine x_iconst (pc := 2) dX8_makeClip_2 ?_
  rcases bnd_some e with ⟨h1, r2, ec, rfl⟩ | ⟨h1, r2, ec, e⟩
  · exact y_callS_x (pc := 3) (c_X8_isWithin hl ec) mf_X8_isWithin tw_3_26 lf_X8_72 dX8_makeClip_3 (by decide) rfl rfl (leb rfl) (xx_out0 rfl)
  refine y_callS_i (pc := 3) (c_X8_isWithin hl ec) mf_X8_isWithin tw_3_26 lf_X8_72 dX8_makeClip_3 (by decide) rfl rfl (leb rfl) ?_
  rcases bnd_some e with ⟨h3, r4, ec, rfl⟩ | ⟨h3, r4, ec, e⟩
  · exact y_callS_x (pc := 6) (c_X8_requireIndex hl ec) mf_X8_requireIndex tw_3_225 lf_X8_96 dX8_makeClip_6 (by decide) rfl rfl (leb rfl) (xx_out0 rfl)
  refine y_callS_v (pc := 6) (c_X8_requireIndex hl ec) mf_X8_requireIndex tw_3_225 lf_X8_96 dX8_makeClip_6 (by decide) rfl rfl (leb rfl) ?_
  refine x_iload_n (pc := 9) 2 dX8_makeClip_9 rfl ?_
  refine x_iconst (pc := 10) dX8_makeClip_10 ?_
  refine x_iconst (pc := 11) dX8_makeClip_11 ?_
  rcases bnd_some e with ⟨h5, r6, ec, rfl⟩ | ⟨h5, r6, ec, e⟩
  · exact y_callS_x (pc := 12) (c_X8_isWithin hl ec) mf_X8_isWithin tw_3_26 lf_X8_72 dX8_makeClip_12 (by decide) rfl rfl (leb rfl) (xx_out0 rfl)
  refine y_callS_i (pc := 12) (c_X8_isWithin hl ec) mf_X8_isWithin tw_3_26 lf_X8_72 dX8_makeClip_12 (by decide) rfl rfl (leb rfl) ?_
  rcases bnd_some e with ⟨h7, r8, ec, rfl⟩ | ⟨h7, r8, ec, e⟩
  · exact y_callS_x (pc := 15) (c_X8_requireArgument hl ec) mf_X8_requireArgument tw_3_84 lf_X8_76 dX8_makeClip_15 (by decide) rfl rfl (leb rfl) (xx_out0 rfl)
  refine y_callS_v (pc := 15) (c_X8_requireArgument hl ec) mf_X8_requireArgument tw_3_84 lf_X8_76 dX8_makeClip_15 (by decide) rfl rfl (leb rfl) ?_
  refine x_iload_n (pc := 18) 3 dX8_makeClip_18 rfl ?_
  refine x_iconst (pc := 19) dX8_makeClip_19 ?_
  refine x_iconst (pc := 20) dX8_makeClip_20 ?_
  rcases bnd_some e with ⟨h9, r10, ec, rfl⟩ | ⟨h9, r10, ec, e⟩
  · exact y_callS_x (pc := 21) (c_X8_isWithin hl ec) mf_X8_isWithin tw_3_26 lf_X8_72 dX8_makeClip_21 (by decide) rfl rfl (leb rfl) (xx_out0 rfl)
  refine y_callS_i (pc := 21) (c_X8_isWithin hl ec) mf_X8_isWithin tw_3_26 lf_X8_72 dX8_makeClip_21 (by decide) rfl rfl (leb rfl) ?_
  rcases bnd_some e with ⟨h11, r12, ec, rfl⟩ | ⟨h11, r12, ec, e⟩
  · exact y_callS_x (pc := 24) (c_X8_requireArgument hl ec) mf_X8_requireArgument tw_3_84 lf_X8_76 dX8_makeClip_24 (by decide) rfl rfl (leb rfl) (xx_out0 rfl)
  refine y_callS_v (pc := 24) (c_X8_requireArgument hl ec) mf_X8_requireArgument tw_3_84 lf_X8_76 dX8_makeClip_24 (by decide) rfl rfl (leb rfl) ?_
  refine x_aload_n (pc := 27) 0 dX8_makeClip_27 rfl ?_
  obtain ⟨q13, e⟩ := chk_some e
  obtain ⟨q14, e⟩ := chk_some e
  refine x_getR (pc := 28) gf_X8_55 rfl dX8_makeClip_28 q13 q14.1 ?_
  refine x_iload_n (pc := 31) 1 dX8_makeClip_31 rfl ?_
  obtain ⟨q15, e⟩ := chk_some e
  obtain ⟨q16, e⟩ := chk_some e
  refine x_aald (pc := 32) (t := 2) (by decide) dX8_makeClip_32 q14 q15 q16.1 ?_
  refine x_iload_n (pc := 33) 2 dX8_makeClip_33 rfl ?_
  refine x_iload_n (pc := 34) 3 dX8_makeClip_34 rfl ?_
  rcases bnd_some e with ⟨h17, r18, ec, rfl⟩ | ⟨h17, r18, ec, e⟩
  · exact y_callV_x (pc := 35) (c_X2_remake hl ec) q16 mf_X2_remake tw_6_113 ts_6_5 lf_X8_316 rfl rfl dX8_makeClip_35 (by decide) rfl rfl (leb rfl) (xx_out0 rfl)
  refine y_callV_v (pc := 35) (c_X2_remake hl ec) q16 mf_X2_remake tw_6_113 ts_6_5 lf_X8_316 rfl rfl dX8_makeClip_35 (by decide) rfl rfl (leb rfl) ?_
  refine x_iload_n (pc := 38) 3 dX8_makeClip_38 rfl ?_
  cases Option.some.inj e
  exact x_iret (pc := 39) rfl dX8_makeClip_39
abbrev w_X8_makeClip : Cond := (Cond.code yX8_makeClip cX8_makeClip 4 (Option.some Jvm.ClassFile.FieldType.int))
theorem mf_X8_makeClip : MF yX8_makeClip w_X8_makeClip cX8_makeClip 4 (Option.some Jvm.ClassFile.FieldType.int) 3 := ⟨⟨rfl, tw_6_110, by decide⟩, tw_1_1, ⟨by decide, by decide⟩, by decide +kernel⟩
theorem c_X8_makeClip {l : Launch} {K : Ctx} (hl : l.stackTraces = false) {h : Hp} {a0 : Nat} {i1 : Int32} {i2 : Int32} {i3 : Int32} {t : Rs Int32} (e : f_X8_makeClip h a0 i1 i2 i3 = some t) : Ctr l K 9 yX8_makeClip w_X8_makeClip [.ref a0, .int i1, .int i2, .int i3] h (tgI t) :=
  Ctr.of hl mf_X8_makeClip false (fun q => nomatch q) rfl (leb rfl) (p_X8_makeClip hl e)
/-! ## TableColumnBalancerLaw.makeClip -/
abbrev mM_L_makeClip : Mi := (10, yL_makeClip.cls, cL_makeClip, 6, (Option.some Jvm.ClassFile.FieldType.int), [((0 : Nat), (12 : Nat), (15 : Nat), (21 : Nat)), ((0 : Nat), (12 : Nat), (19 : Nat), (13 : Nat))], false)
noncomputable def f_L_makeClip (h : Hp) (a0 : Nat) (i1 : Int32) (i2 : Int32) (i3 : Int32) (a4 : Nat) : Option (Rs Int32) :=
  chk (okr h a0 8) <|
  bndX (f_X8_makeClip h a0 i1 i2 i3) (fun h2 r3 => (
    chk (okr h2 a4 21) <|
    chk (vp_in (iN 0) (qW h2 a4)) <|
    lt (putL h2 a4 (Int32.toNatClampNeg (iN 0)) (Int32.toInt64 r3)) fun h6 =>
    some (h6, .inr (iN 0))
  )) fun h2 k =>
  if k = 2 then (
    some (h2, .inr (iN 1))
  ) else
  if k = 1 then (
    some (h2, .inr (iN 2))
  ) else
  none
theorem p_L_makeClip {l : Launch} {K : Ctx} (hl : l.stackTraces = false) {h : Hp} {a0 : Nat} {i1 : Int32} {i2 : Int32} {i3 : Int32} {a4 : Nat} {t : Rs Int32} (e : f_L_makeClip h a0 i1 i2 i3 a4 = some t) : X l K mM_L_makeClip (tgI t) 0 [(0, .ref a0), (1, .int i1), (2, .int i2), (3, .int i3), (4, .ref a4)] [] h := by
  unfold f_L_makeClip at e
  refine x_aload (pc := 0) 4 dL_makeClip_0 rfl ?_
  refine x_iconst (pc := 2) dL_makeClip_2 ?_
  refine x_aload_n (pc := 3) 0 dL_makeClip_3 rfl ?_
  refine x_iload_n (pc := 4) 1 dL_makeClip_4 rfl ?_
  refine x_iload_n (pc := 5) 2 dL_makeClip_5 rfl ?_
  refine x_iload_n (pc := 6) 3 dL_makeClip_6 rfl ?_
  obtain ⟨q1, e⟩ := chk_some e
  rcases bndX_some e with ⟨h2, k, ec, e⟩ | ⟨h2, r3, ec, e⟩
  · rcases ite_some e with ⟨q7, e⟩ | ⟨q7, e⟩
    · subst q7
      refine y_callV_x (pc := 7) (c_X8_makeClip hl ec) q1 mf_X8_makeClip tw_6_108 tw_6_109 lf_L_133 rfl rfl dL_makeClip_7 (by decide) rfl rfl (leb rfl) (xx_catchA (pc := 7) [] [(0, 12, 19, 13)] (0, 12, 15, 21) rfl (by decide) (fun _ hz => absurd hz List.not_mem_nil) (by decide) (by decide) tw_3_187 tw_3_229 dL_makeClip_15 (by decide) rfl ?_)
      refine x_iconst (pc := 17) dL_makeClip_17 ?_
      cases Option.some.inj e
      exact x_iret (pc := 18) rfl dL_makeClip_18
    rcases ite_some e with ⟨q8, e⟩ | ⟨q8, e⟩
    · subst q8
      refine y_callV_x (pc := 7) (c_X8_makeClip hl ec) q1 mf_X8_makeClip tw_6_108 tw_6_109 lf_L_133 rfl rfl dL_makeClip_7 (by decide) rfl rfl (leb rfl) (xx_catchA (pc := 7) [(0, 12, 15, 21)] [] (0, 12, 19, 13) rfl (by decide) (List.forall_mem_cons.mpr ⟨⟨by decide, 2, by decide, by decide, tw_3_187⟩, fun _ hz => absurd hz List.not_mem_nil⟩) (by decide) (by decide) tw_3_76 tw_3_88 dL_makeClip_19 (by decide) rfl ?_)
      refine x_iconst (pc := 21) dL_makeClip_21 ?_
      cases Option.some.inj e
      exact x_iret (pc := 22) rfl dL_makeClip_22
    cases e
  refine y_callV_i (pc := 7) (c_X8_makeClip hl ec) q1 mf_X8_makeClip tw_6_108 tw_6_109 lf_L_133 rfl rfl dL_makeClip_7 (by decide) rfl rfl (leb rfl) ?_
  refine x_i2l (pc := 10) dL_makeClip_10 ?_
  obtain ⟨q4, e⟩ := chk_some e
  obtain ⟨q5, e⟩ := chk_some e
  replace e := lt_go e
  refine x_last (pc := 11) dL_makeClip_11 q4 q5 ?_
  refine x_goto (pc := 12) (t := 23) dL_makeClip_12 (by decide) ?_
  refine x_iconst (pc := 23) dL_makeClip_23 ?_
  cases Option.some.inj e
  exact x_iret (pc := 24) rfl dL_makeClip_24
abbrev w_L_makeClip : Cond := (Cond.codeWith yL_makeClip cL_makeClip 6 (Option.some Jvm.ClassFile.FieldType.int) [((0 : Nat), (12 : Nat), (15 : Nat), (21 : Nat)), ((0 : Nat), (12 : Nat), (19 : Nat), (13 : Nat))])
theorem mf_L_makeClip : MFX yL_makeClip w_L_makeClip cL_makeClip 6 (Option.some Jvm.ClassFile.FieldType.int) 5 [((0 : Nat), (12 : Nat), (15 : Nat), (21 : Nat)), ((0 : Nat), (12 : Nat), (19 : Nat), (13 : Nat))] := ⟨⟨rfl, tw_6_106, by decide⟩, tw_1_0, ⟨by decide, by decide⟩, by decide +kernel⟩
theorem c_L_makeClip {l : Launch} {K : Ctx} (hl : l.stackTraces = false) {h : Hp} {a0 : Nat} {i1 : Int32} {i2 : Int32} {i3 : Int32} {a4 : Nat} {t : Rs Int32} (e : f_L_makeClip h a0 i1 i2 i3 a4 = some t) : Ctr l K 10 yL_makeClip w_L_makeClip [.ref a0, .int i1, .int i2, .int i3, .ref a4] h (tgI t) :=
  Ctr.ofX hl mf_L_makeClip rfl (leb rfl) (p_L_makeClip hl e)
/-! ## TableColumnBalancerModel.isClip -/
abbrev mM_X9_isClip : Mi := (9, yX9_isClip.cls, cX9_isClip, 1, (Option.some Jvm.ClassFile.FieldType.boolean), [], false)
noncomputable def f_X9_isClip (h : Hp) (i0 : Int32) : Option (Rs Int32) :=
  bnd (f_X9_in h i0 (iN 0) (iN 1)) fun h1 r2 =>
  chk (r2 = 0 ∨ r2 = 1) <|
  some (h1, .inr r2)
theorem p_X9_isClip {l : Launch} {K : Ctx} (hl : l.stackTraces = false) {h : Hp} {i0 : Int32} {t : Rs Int32} (e : f_X9_isClip h i0 = some t) : X l K mM_X9_isClip (tgI t) 0 [(0, .int i0)] [] h := by
  unfold f_X9_isClip at e
  refine x_iload_n (pc := 0) 0 dX9_isClip_0 rfl ?_
  refine x_iconst (pc := 1) dX9_isClip_1 ?_
  refine x_iconst (pc := 2) dX9_isClip_2 ?_
  rcases bnd_some e with ⟨h1, r2, ec, rfl⟩ | ⟨h1, r2, ec, e⟩
  · exact y_callS_x (pc := 3) (c_X9_in hl ec) mf_X9_in tw_7_20 lf_X9_87 dX9_isClip_3 (by decide) rfl rfl (leb rfl) (xx_out0 rfl)
  refine y_callS_i (pc := 3) (c_X9_in hl ec) mf_X9_in tw_7_20 lf_X9_87 dX9_isClip_3 (by decide) rfl rfl (leb rfl) ?_
  obtain ⟨q3, e⟩ := chk_some e
  cases Option.some.inj e
  exact x_zret (pc := 6) rfl q3 dX9_isClip_6
abbrev w_X9_isClip : Cond := (Cond.code yX9_isClip cX9_isClip 1 (Option.some Jvm.ClassFile.FieldType.boolean))
theorem mf_X9_isClip : MF yX9_isClip w_X9_isClip cX9_isClip 1 (Option.some Jvm.ClassFile.FieldType.boolean) 1 := ⟨⟨rfl, tw_9_10, by decide⟩, tw_1_11, ⟨by decide, by decide⟩, by decide +kernel⟩
theorem c_X9_isClip {l : Launch} {K : Ctx} (hl : l.stackTraces = false) {h : Hp} {i0 : Int32} {t : Rs Int32} (e : f_X9_isClip h i0 = some t) : Ctr l K 9 yX9_isClip w_X9_isClip [.int i0] h (tgI t) :=
  Ctr.of hl mf_X9_isClip false (fun q => nomatch q) rfl (leb rfl) (p_X9_isClip hl e)
